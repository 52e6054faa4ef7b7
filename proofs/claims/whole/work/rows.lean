section
-- ===== PART A: goes FIRST, ahead of the names: the tables' words, and 'selects' of the private methods out of them =====
/-- a private method of a class that the tables say can be made, by its rows of tables_1 -/
def lw_okq (q : MethodName × Nat) : Prop := (q.1.cls ≠ "java/lang/invoke/MethodHandle" ∧ q.1.cls ≠ "java/lang/invoke/VarHandle") ∧ Cond.instantiable q.1.cls q.2 ∈ tables_1 ∧ Cond.privateMethod q.1 ∈ tables_1 ∧ Cond.instanceMethod q.1 ∈ tables_1
theorem lw_p0 : lw_okq (⟨"CandleTurns", "isFlame", "(I)Z"⟩, 10) := ⟨⟨by decide +kernel, by decide +kernel⟩, List.mem_of_getElem? (i := 16) (by decide +kernel), List.mem_of_getElem? (i := 289) (by decide +kernel), List.mem_of_getElem? (i := 290) (by decide +kernel)⟩
theorem lw_p1 : lw_okq (⟨"CandleTurns", "isPair", "(II)Z"⟩, 10) := ⟨⟨by decide +kernel, by decide +kernel⟩, List.mem_of_getElem? (i := 16) (by decide +kernel), List.mem_of_getElem? (i := 375) (by decide +kernel), List.mem_of_getElem? (i := 376) (by decide +kernel)⟩
theorem lw_p2 : lw_okq (⟨"CandleTurns", "arcFrom", "(III)I"⟩, 10) := ⟨⟨by decide +kernel, by decide +kernel⟩, List.mem_of_getElem? (i := 16) (by decide +kernel), List.mem_of_getElem? (i := 518) (by decide +kernel), List.mem_of_getElem? (i := 519) (by decide +kernel)⟩
theorem lw_p3 : lw_okq (⟨"CandleTurns", "hitsWith", "(ILCandleTurns$Row;I)I"⟩, 10) := ⟨⟨by decide +kernel, by decide +kernel⟩, List.mem_of_getElem? (i := 16) (by decide +kernel), List.mem_of_getElem? (i := 534) (by decide +kernel), List.mem_of_getElem? (i := 535) (by decide +kernel)⟩
theorem lw_p4 : lw_okq (⟨"CandleTurnsModel", "comes", "(IIIII)V"⟩, 35) := ⟨⟨by decide +kernel, by decide +kernel⟩, List.mem_of_getElem? (i := 750) (by decide +kernel), List.mem_of_getElem? (i := 877) (by decide +kernel), List.mem_of_getElem? (i := 878) (by decide +kernel)⟩
theorem lw_p5 : lw_okq (⟨"CandleTurnsModel", "flameAt", "(I)I"⟩, 35) := ⟨⟨by decide +kernel, by decide +kernel⟩, List.mem_of_getElem? (i := 750) (by decide +kernel), List.mem_of_getElem? (i := 881) (by decide +kernel), List.mem_of_getElem? (i := 882) (by decide +kernel)⟩
theorem lw_p6 : lw_okq (⟨"CandleTurnsModel", "isFlame", "(I)Z"⟩, 35) := ⟨⟨by decide +kernel, by decide +kernel⟩, List.mem_of_getElem? (i := 750) (by decide +kernel), List.mem_of_getElem? (i := 889) (by decide +kernel), List.mem_of_getElem? (i := 890) (by decide +kernel)⟩
theorem lw_p7 : lw_okq (⟨"CandleTurnsModel", "of", "(II)I"⟩, 35) := ⟨⟨by decide +kernel, by decide +kernel⟩, List.mem_of_getElem? (i := 750) (by decide +kernel), List.mem_of_getElem? (i := 894) (by decide +kernel), List.mem_of_getElem? (i := 895) (by decide +kernel)⟩
theorem lw_p8 : lw_okq (⟨"CandleTurnsModel", "pace", "(I)I"⟩, 35) := ⟨⟨by decide +kernel, by decide +kernel⟩, List.mem_of_getElem? (i := 750) (by decide +kernel), List.mem_of_getElem? (i := 898) (by decide +kernel), List.mem_of_getElem? (i := 899) (by decide +kernel)⟩
theorem lw_p9 : lw_okq (⟨"CandleTurnsModel", "counts", "(I)I"⟩, 35) := ⟨⟨by decide +kernel, by decide +kernel⟩, List.mem_of_getElem? (i := 750) (by decide +kernel), List.mem_of_getElem? (i := 902) (by decide +kernel), List.mem_of_getElem? (i := 903) (by decide +kernel)⟩
theorem lw_p10 : lw_okq (⟨"CandleTurnsModel", "textAt", "(I)I"⟩, 35) := ⟨⟨by decide +kernel, by decide +kernel⟩, List.mem_of_getElem? (i := 750) (by decide +kernel), List.mem_of_getElem? (i := 906) (by decide +kernel), List.mem_of_getElem? (i := 907) (by decide +kernel)⟩
theorem lw_p11 : lw_okq (⟨"CandleTurnsModel", "worked", "(I)I"⟩, 35) := ⟨⟨by decide +kernel, by decide +kernel⟩, List.mem_of_getElem? (i := 750) (by decide +kernel), List.mem_of_getElem? (i := 910) (by decide +kernel), List.mem_of_getElem? (i := 911) (by decide +kernel)⟩
theorem lw_p12 : lw_okq (⟨"CandleTurnsModel", "pushes", "(I)I"⟩, 35) := ⟨⟨by decide +kernel, by decide +kernel⟩, List.mem_of_getElem? (i := 750) (by decide +kernel), List.mem_of_getElem? (i := 920) (by decide +kernel), List.mem_of_getElem? (i := 921) (by decide +kernel)⟩
theorem lw_p13 : lw_okq (⟨"CandleTurnsModel", "pushOf", "(II)I"⟩, 35) := ⟨⟨by decide +kernel, by decide +kernel⟩, List.mem_of_getElem? (i := 750) (by decide +kernel), List.mem_of_getElem? (i := 924) (by decide +kernel), List.mem_of_getElem? (i := 925) (by decide +kernel)⟩
theorem lw_p14 : lw_okq (⟨"CandleTurnsModel", "isLit", "(I)Z"⟩, 35) := ⟨⟨by decide +kernel, by decide +kernel⟩, List.mem_of_getElem? (i := 750) (by decide +kernel), List.mem_of_getElem? (i := 928) (by decide +kernel), List.mem_of_getElem? (i := 929) (by decide +kernel)⟩
theorem lw_p15 : lw_okq (⟨"CandleTurnsModel", "worth", "(I)I"⟩, 35) := ⟨⟨by decide +kernel, by decide +kernel⟩, List.mem_of_getElem? (i := 750) (by decide +kernel), List.mem_of_getElem? (i := 938) (by decide +kernel), List.mem_of_getElem? (i := 939) (by decide +kernel)⟩
def lw_privs_1 : List (MethodName × Nat) := [(⟨"CandleTurns", "isFlame", "(I)Z"⟩, 10), (⟨"CandleTurns", "isPair", "(II)Z"⟩, 10), (⟨"CandleTurns", "arcFrom", "(III)I"⟩, 10), (⟨"CandleTurns", "hitsWith", "(ILCandleTurns$Row;I)I"⟩, 10), (⟨"CandleTurnsModel", "comes", "(IIIII)V"⟩, 35), (⟨"CandleTurnsModel", "flameAt", "(I)I"⟩, 35), (⟨"CandleTurnsModel", "isFlame", "(I)Z"⟩, 35), (⟨"CandleTurnsModel", "of", "(II)I"⟩, 35), (⟨"CandleTurnsModel", "pace", "(I)I"⟩, 35), (⟨"CandleTurnsModel", "counts", "(I)I"⟩, 35), (⟨"CandleTurnsModel", "textAt", "(I)I"⟩, 35), (⟨"CandleTurnsModel", "worked", "(I)I"⟩, 35), (⟨"CandleTurnsModel", "pushes", "(I)I"⟩, 35), (⟨"CandleTurnsModel", "pushOf", "(II)I"⟩, 35), (⟨"CandleTurnsModel", "isLit", "(I)Z"⟩, 35), (⟨"CandleTurnsModel", "worth", "(I)I"⟩, 35)]
theorem lw_r1 : ∀ q ∈ lw_privs_1, lw_okq q := List.forall_mem_cons.mpr ⟨lw_p0, List.forall_mem_cons.mpr ⟨lw_p1, List.forall_mem_cons.mpr ⟨lw_p2, List.forall_mem_cons.mpr ⟨lw_p3, List.forall_mem_cons.mpr ⟨lw_p4, List.forall_mem_cons.mpr ⟨lw_p5, List.forall_mem_cons.mpr ⟨lw_p6, List.forall_mem_cons.mpr ⟨lw_p7, List.forall_mem_cons.mpr ⟨lw_p8, List.forall_mem_cons.mpr ⟨lw_p9, List.forall_mem_cons.mpr ⟨lw_p10, List.forall_mem_cons.mpr ⟨lw_p11, List.forall_mem_cons.mpr ⟨lw_p12, List.forall_mem_cons.mpr ⟨lw_p13, List.forall_mem_cons.mpr ⟨lw_p14, List.forall_mem_cons.mpr ⟨lw_p15, fun _ h => absurd h List.not_mem_nil⟩⟩⟩⟩⟩⟩⟩⟩⟩⟩⟩⟩⟩⟩⟩⟩
theorem lw_p16 : lw_okq (⟨"CandleTurnsModel", "becomes", "(II)I"⟩, 35) := ⟨⟨by decide +kernel, by decide +kernel⟩, List.mem_of_getElem? (i := 750) (by decide +kernel), List.mem_of_getElem? (i := 954) (by decide +kernel), List.mem_of_getElem? (i := 955) (by decide +kernel)⟩
theorem lw_p17 : lw_okq (⟨"CandleTurnsModel", "drawn", "()I"⟩, 35) := ⟨⟨by decide +kernel, by decide +kernel⟩, List.mem_of_getElem? (i := 750) (by decide +kernel), List.mem_of_getElem? (i := 986) (by decide +kernel), List.mem_of_getElem? (i := 987) (by decide +kernel)⟩
theorem lw_p18 : lw_okq (⟨"CandleTurnsModel", "ticks", "()I"⟩, 35) := ⟨⟨by decide +kernel, by decide +kernel⟩, List.mem_of_getElem? (i := 750) (by decide +kernel), List.mem_of_getElem? (i := 1000) (by decide +kernel), List.mem_of_getElem? (i := 1001) (by decide +kernel)⟩
theorem lw_p19 : lw_okq (⟨"CandleTurnsModel", "turned", "(I)I"⟩, 35) := ⟨⟨by decide +kernel, by decide +kernel⟩, List.mem_of_getElem? (i := 750) (by decide +kernel), List.mem_of_getElem? (i := 1004) (by decide +kernel), List.mem_of_getElem? (i := 1005) (by decide +kernel)⟩
theorem lw_p20 : lw_okq (⟨"CandleTurnsModel", "wind", "(I)I"⟩, 35) := ⟨⟨by decide +kernel, by decide +kernel⟩, List.mem_of_getElem? (i := 750) (by decide +kernel), List.mem_of_getElem? (i := 1010) (by decide +kernel), List.mem_of_getElem? (i := 1011) (by decide +kernel)⟩
theorem lw_p21 : lw_okq (⟨"CandleTurnsModel", "spreadNow", "()I"⟩, 35) := ⟨⟨by decide +kernel, by decide +kernel⟩, List.mem_of_getElem? (i := 750) (by decide +kernel), List.mem_of_getElem? (i := 1018) (by decide +kernel), List.mem_of_getElem? (i := 1019) (by decide +kernel)⟩
theorem lw_p22 : lw_okq (⟨"CandleTurnsModel", "findSteps", "(I)Z"⟩, 35) := ⟨⟨by decide +kernel, by decide +kernel⟩, List.mem_of_getElem? (i := 750) (by decide +kernel), List.mem_of_getElem? (i := 1022) (by decide +kernel), List.mem_of_getElem? (i := 1023) (by decide +kernel)⟩
theorem lw_p23 : lw_okq (⟨"CandleTurnsModel", "laysBy", "()V"⟩, 35) := ⟨⟨by decide +kernel, by decide +kernel⟩, List.mem_of_getElem? (i := 750) (by decide +kernel), List.mem_of_getElem? (i := 1041) (by decide +kernel), List.mem_of_getElem? (i := 1042) (by decide +kernel)⟩
theorem lw_p24 : lw_okq (⟨"CandleTurnsModel", "laysBack", "()V"⟩, 35) := ⟨⟨by decide +kernel, by decide +kernel⟩, List.mem_of_getElem? (i := 750) (by decide +kernel), List.mem_of_getElem? (i := 1045) (by decide +kernel), List.mem_of_getElem? (i := 1046) (by decide +kernel)⟩
theorem lw_p25 : lw_okq (⟨"CandleTurnsModel", "isAsLaidBy", "()Z"⟩, 35) := ⟨⟨by decide +kernel, by decide +kernel⟩, List.mem_of_getElem? (i := 750) (by decide +kernel), List.mem_of_getElem? (i := 1053) (by decide +kernel), List.mem_of_getElem? (i := 1054) (by decide +kernel)⟩
theorem lw_p26 : lw_okq (⟨"CandleTurnsModel", "ticksMany", "(I)V"⟩, 35) := ⟨⟨by decide +kernel, by decide +kernel⟩, List.mem_of_getElem? (i := 750) (by decide +kernel), List.mem_of_getElem? (i := 1061) (by decide +kernel), List.mem_of_getElem? (i := 1062) (by decide +kernel)⟩
theorem lw_p27 : lw_okq (⟨"CandleTurnsModel", "litBehind", "(I)I"⟩, 35) := ⟨⟨by decide +kernel, by decide +kernel⟩, List.mem_of_getElem? (i := 750) (by decide +kernel), List.mem_of_getElem? (i := 1069) (by decide +kernel), List.mem_of_getElem? (i := 1070) (by decide +kernel)⟩
theorem lw_p28 : lw_okq (⟨"CandleTurnsModel", "parse", "()I"⟩, 35) := ⟨⟨by decide +kernel, by decide +kernel⟩, List.mem_of_getElem? (i := 750) (by decide +kernel), List.mem_of_getElem? (i := 1091) (by decide +kernel), List.mem_of_getElem? (i := 1092) (by decide +kernel)⟩
theorem lw_p29 : lw_okq (⟨"CandleTurnsModel", "nextToken", "()V"⟩, 35) := ⟨⟨by decide +kernel, by decide +kernel⟩, List.mem_of_getElem? (i := 750) (by decide +kernel), List.mem_of_getElem? (i := 1095) (by decide +kernel), List.mem_of_getElem? (i := 1096) (by decide +kernel)⟩
theorem lw_p30 : lw_okq (⟨"CandleTurnsModel", "isLetter", "(I)Z"⟩, 35) := ⟨⟨by decide +kernel, by decide +kernel⟩, List.mem_of_getElem? (i := 750) (by decide +kernel), List.mem_of_getElem? (i := 1099) (by decide +kernel), List.mem_of_getElem? (i := 1100) (by decide +kernel)⟩
theorem lw_p31 : lw_okq (⟨"CandleTurnsModel", "isDigit", "(I)Z"⟩, 35) := ⟨⟨by decide +kernel, by decide +kernel⟩, List.mem_of_getElem? (i := 750) (by decide +kernel), List.mem_of_getElem? (i := 1105) (by decide +kernel), List.mem_of_getElem? (i := 1106) (by decide +kernel)⟩
def lw_privs_2 : List (MethodName × Nat) := [(⟨"CandleTurnsModel", "becomes", "(II)I"⟩, 35), (⟨"CandleTurnsModel", "drawn", "()I"⟩, 35), (⟨"CandleTurnsModel", "ticks", "()I"⟩, 35), (⟨"CandleTurnsModel", "turned", "(I)I"⟩, 35), (⟨"CandleTurnsModel", "wind", "(I)I"⟩, 35), (⟨"CandleTurnsModel", "spreadNow", "()I"⟩, 35), (⟨"CandleTurnsModel", "findSteps", "(I)Z"⟩, 35), (⟨"CandleTurnsModel", "laysBy", "()V"⟩, 35), (⟨"CandleTurnsModel", "laysBack", "()V"⟩, 35), (⟨"CandleTurnsModel", "isAsLaidBy", "()Z"⟩, 35), (⟨"CandleTurnsModel", "ticksMany", "(I)V"⟩, 35), (⟨"CandleTurnsModel", "litBehind", "(I)I"⟩, 35), (⟨"CandleTurnsModel", "parse", "()I"⟩, 35), (⟨"CandleTurnsModel", "nextToken", "()V"⟩, 35), (⟨"CandleTurnsModel", "isLetter", "(I)Z"⟩, 35), (⟨"CandleTurnsModel", "isDigit", "(I)Z"⟩, 35)]
theorem lw_r2 : ∀ q ∈ lw_privs_2, lw_okq q := List.forall_mem_cons.mpr ⟨lw_p16, List.forall_mem_cons.mpr ⟨lw_p17, List.forall_mem_cons.mpr ⟨lw_p18, List.forall_mem_cons.mpr ⟨lw_p19, List.forall_mem_cons.mpr ⟨lw_p20, List.forall_mem_cons.mpr ⟨lw_p21, List.forall_mem_cons.mpr ⟨lw_p22, List.forall_mem_cons.mpr ⟨lw_p23, List.forall_mem_cons.mpr ⟨lw_p24, List.forall_mem_cons.mpr ⟨lw_p25, List.forall_mem_cons.mpr ⟨lw_p26, List.forall_mem_cons.mpr ⟨lw_p27, List.forall_mem_cons.mpr ⟨lw_p28, List.forall_mem_cons.mpr ⟨lw_p29, List.forall_mem_cons.mpr ⟨lw_p30, List.forall_mem_cons.mpr ⟨lw_p31, fun _ h => absurd h List.not_mem_nil⟩⟩⟩⟩⟩⟩⟩⟩⟩⟩⟩⟩⟩⟩⟩⟩
theorem lw_p32 : lw_okq (⟨"CandleTurnsModel", "key", "()I"⟩, 35) := ⟨⟨by decide +kernel, by decide +kernel⟩, List.mem_of_getElem? (i := 750) (by decide +kernel), List.mem_of_getElem? (i := 1111) (by decide +kernel), List.mem_of_getElem? (i := 1112) (by decide +kernel)⟩
theorem lw_p33 : lw_okq (⟨"CandleTurnsModel", "isWordAt", "(IIII)Z"⟩, 35) := ⟨⟨by decide +kernel, by decide +kernel⟩, List.mem_of_getElem? (i := 750) (by decide +kernel), List.mem_of_getElem? (i := 1115) (by decide +kernel), List.mem_of_getElem? (i := 1116) (by decide +kernel)⟩
theorem lw_p34 : lw_okq (⟨"CandleTurnsModel", "either", "(I)Z"⟩, 35) := ⟨⟨by decide +kernel, by decide +kernel⟩, List.mem_of_getElem? (i := 750) (by decide +kernel), List.mem_of_getElem? (i := 1119) (by decide +kernel), List.mem_of_getElem? (i := 1120) (by decide +kernel)⟩
theorem lw_p35 : lw_okq (⟨"CandleTurnsModel", "both", "(I)Z"⟩, 35) := ⟨⟨by decide +kernel, by decide +kernel⟩, List.mem_of_getElem? (i := 750) (by decide +kernel), List.mem_of_getElem? (i := 1123) (by decide +kernel), List.mem_of_getElem? (i := 1124) (by decide +kernel)⟩
theorem lw_p36 : lw_okq (⟨"CandleTurnsModel", "test", "(I)Z"⟩, 35) := ⟨⟨by decide +kernel, by decide +kernel⟩, List.mem_of_getElem? (i := 750) (by decide +kernel), List.mem_of_getElem? (i := 1127) (by decide +kernel), List.mem_of_getElem? (i := 1128) (by decide +kernel)⟩
theorem lw_p37 : lw_okq (⟨"CandleTurnsModel", "sum", "(I)Z"⟩, 35) := ⟨⟨by decide +kernel, by decide +kernel⟩, List.mem_of_getElem? (i := 750) (by decide +kernel), List.mem_of_getElem? (i := 1131) (by decide +kernel), List.mem_of_getElem? (i := 1132) (by decide +kernel)⟩
theorem lw_p38 : lw_okq (⟨"CandleTurnsModel", "term", "(I)Z"⟩, 35) := ⟨⟨by decide +kernel, by decide +kernel⟩, List.mem_of_getElem? (i := 750) (by decide +kernel), List.mem_of_getElem? (i := 1135) (by decide +kernel), List.mem_of_getElem? (i := 1136) (by decide +kernel)⟩
theorem lw_p39 : lw_okq (⟨"CandleTurnsModel", "part0", "(I)Z"⟩, 35) := ⟨⟨by decide +kernel, by decide +kernel⟩, List.mem_of_getElem? (i := 750) (by decide +kernel), List.mem_of_getElem? (i := 1139) (by decide +kernel), List.mem_of_getElem? (i := 1140) (by decide +kernel)⟩
theorem lw_p40 : lw_okq (⟨"CandleTurnsModel", "step", "(II)V"⟩, 35) := ⟨⟨by decide +kernel, by decide +kernel⟩, List.mem_of_getElem? (i := 750) (by decide +kernel), List.mem_of_getElem? (i := 1143) (by decide +kernel), List.mem_of_getElem? (i := 1144) (by decide +kernel)⟩
theorem lw_p41 : lw_okq (⟨"CandleTurnsModel", "isSign", "(I)Z"⟩, 35) := ⟨⟨by decide +kernel, by decide +kernel⟩, List.mem_of_getElem? (i := 750) (by decide +kernel), List.mem_of_getElem? (i := 1150) (by decide +kernel), List.mem_of_getElem? (i := 1151) (by decide +kernel)⟩
theorem lw_p42 : lw_okq (⟨"CandleTurnsModel", "isText", "(I)Z"⟩, 35) := ⟨⟨by decide +kernel, by decide +kernel⟩, List.mem_of_getElem? (i := 750) (by decide +kernel), List.mem_of_getElem? (i := 1158) (by decide +kernel), List.mem_of_getElem? (i := 1159) (by decide +kernel)⟩
theorem lw_p43 : lw_okq (⟨"CandleTurnsModel", "setAside", "([I[I)V"⟩, 35) := ⟨⟨by decide +kernel, by decide +kernel⟩, List.mem_of_getElem? (i := 750) (by decide +kernel), List.mem_of_getElem? (i := 1229) (by decide +kernel), List.mem_of_getElem? (i := 1230) (by decide +kernel)⟩
theorem lw_p44 : lw_okq (⟨"CandleTurnsModel", "litMany", "()I"⟩, 35) := ⟨⟨by decide +kernel, by decide +kernel⟩, List.mem_of_getElem? (i := 750) (by decide +kernel), List.mem_of_getElem? (i := 1246) (by decide +kernel), List.mem_of_getElem? (i := 1247) (by decide +kernel)⟩
def lw_privs_3 : List (MethodName × Nat) := [(⟨"CandleTurnsModel", "key", "()I"⟩, 35), (⟨"CandleTurnsModel", "isWordAt", "(IIII)Z"⟩, 35), (⟨"CandleTurnsModel", "either", "(I)Z"⟩, 35), (⟨"CandleTurnsModel", "both", "(I)Z"⟩, 35), (⟨"CandleTurnsModel", "test", "(I)Z"⟩, 35), (⟨"CandleTurnsModel", "sum", "(I)Z"⟩, 35), (⟨"CandleTurnsModel", "term", "(I)Z"⟩, 35), (⟨"CandleTurnsModel", "part0", "(I)Z"⟩, 35), (⟨"CandleTurnsModel", "step", "(II)V"⟩, 35), (⟨"CandleTurnsModel", "isSign", "(I)Z"⟩, 35), (⟨"CandleTurnsModel", "isText", "(I)Z"⟩, 35), (⟨"CandleTurnsModel", "setAside", "([I[I)V"⟩, 35), (⟨"CandleTurnsModel", "litMany", "()I"⟩, 35)]
theorem lw_r3 : ∀ q ∈ lw_privs_3, lw_okq q := List.forall_mem_cons.mpr ⟨lw_p32, List.forall_mem_cons.mpr ⟨lw_p33, List.forall_mem_cons.mpr ⟨lw_p34, List.forall_mem_cons.mpr ⟨lw_p35, List.forall_mem_cons.mpr ⟨lw_p36, List.forall_mem_cons.mpr ⟨lw_p37, List.forall_mem_cons.mpr ⟨lw_p38, List.forall_mem_cons.mpr ⟨lw_p39, List.forall_mem_cons.mpr ⟨lw_p40, List.forall_mem_cons.mpr ⟨lw_p41, List.forall_mem_cons.mpr ⟨lw_p42, List.forall_mem_cons.mpr ⟨lw_p43, List.forall_mem_cons.mpr ⟨lw_p44, fun _ h => absurd h List.not_mem_nil⟩⟩⟩⟩⟩⟩⟩⟩⟩⟩⟩⟩⟩
def lw_privs : List (MethodName × Nat) := lw_privs_1 ++ (lw_privs_2 ++ (lw_privs_3))
def lw_tbl : List Cond := k2_sels lw_privs ++ tables_1
theorem lw_privs_ok : ∀ q ∈ lw_privs, lw_okq q := by
  show ∀ q ∈ lw_privs_1 ++ (lw_privs_2 ++ (lw_privs_3)), lw_okq q
  exact List.forall_mem_append.mpr ⟨lw_r1, List.forall_mem_append.mpr ⟨lw_r2, lw_r3⟩⟩
end
section
def RX0 : String := "CandleTurns$Flame"
def TX0 : u_T := fun k => match k with
  | 0 => ("CandleTurns$Flame", "kind", "I", false)
  | 1 => ("CandleTurns$Flame", "x", "I", false)
  | 2 => ("CandleTurns$Flame", "y", "I", false)
  | 3 => ("CandleTurns$Flame", "size", "I", false)
  | 4 => ("CandleTurns$Flame", "phase", "I", false)
  | 5 => ("CandleTurns$Flame", "gas", "I", false)
  | _ => ("CandleTurns$Flame", "flashes", "I", false)
def tyX0 : Nat → FieldType := fun k => match k with
  | 0 => .int
  | 1 => .int
  | 2 => .int
  | 3 => .int
  | 4 => .int
  | 5 => .int
  | _ => .int
theorem nmX0 : ∀ a, a < 7 → ∀ b, b < 7 → a ≠ b → (TX0 a).2.1 ≠ (TX0 b).2.1 := by decide +kernel
theorem tyX0_ok : ∀ k, k < 7 → parseFieldDescriptor (TX0 k).2.2.1 = some (tyX0 k) := by decide +kernel
abbrev cX0_init : ByteArray := prog_2_method_1_code
def yX0_init : MethodName := ⟨RX0, "<init>", "()V"⟩
abbrev cX0_light : ByteArray := prog_2_method_2_code
def yX0_light : MethodName := ⟨RX0, "light", "(IIII)V"⟩
abbrev cX0_become : ByteArray := prog_2_method_3_code
def yX0_become : MethodName := ⟨RX0, "become", "(LCandleTurns$Flame;)V"⟩
abbrev cX0_isLit : ByteArray := prog_2_method_4_code
def yX0_isLit : MethodName := ⟨RX0, "isLit", "()Z"⟩
abbrev cX0_isOf : ByteArray := prog_2_method_5_code
def yX0_isOf : MethodName := ⟨RX0, "isOf", "(I)Z"⟩
abbrev cX0_wayTo : ByteArray := prog_2_method_6_code
def yX0_wayTo : MethodName := ⟨RX0, "wayTo", "(II)I"⟩
abbrev cX0_paceFrom : ByteArray := prog_2_method_7_code
def yX0_paceFrom : MethodName := ⟨RX0, "paceFrom", "(I)I"⟩
abbrev cX0_turnedFrom : ByteArray := prog_2_method_8_code
def yX0_turnedFrom : MethodName := ⟨RX0, "turnedFrom", "(II)I"⟩
abbrev cX0_worth : ByteArray := prog_2_method_9_code
def yX0_worth : MethodName := ⟨RX0, "worth", "()I"⟩
abbrev cX0_burnTo : ByteArray := prog_2_method_10_code
def yX0_burnTo : MethodName := ⟨RX0, "burnTo", "(I)Z"⟩
def RX1 : String := "CandleTurns$Law"
def TX1 : u_T := fun k => match k with
  | 0 => ("CandleTurns$Law", "key", "I", false)
  | 1 => ("CandleTurns$Law", "leaves", "I", false)
  | 2 => ("CandleTurns$Law", "steps", "I", false)
  | 3 => ("CandleTurns$Law", "acts", "[I", true)
  | 4 => ("CandleTurns$Law", "lefts", "[I", true)
  | 5 => ("CandleTurns$Law", "rights", "[I", true)
  | _ => ("CandleTurns$Law", "gave", "[I", true)
def tyX1 : Nat → FieldType := fun k => match k with
  | 0 => .int
  | 1 => .int
  | 2 => .int
  | 3 => .array .int
  | 4 => .array .int
  | 5 => .array .int
  | _ => .array .int
theorem nmX1 : ∀ a, a < 7 → ∀ b, b < 7 → a ≠ b → (TX1 a).2.1 ≠ (TX1 b).2.1 := by decide +kernel
theorem tyX1_ok : ∀ k, k < 7 → parseFieldDescriptor (TX1 k).2.2.1 = some (tyX1 k) := by decide +kernel
abbrev cX1_init : ByteArray := prog_3_method_1_code
def yX1_init : MethodName := ⟨RX1, "<init>", "()V"⟩
abbrev cX1_begin : ByteArray := prog_3_method_2_code
def yX1_begin : MethodName := ⟨RX1, "begin", "(I)V"⟩
abbrev cX1_addLeaf : ByteArray := prog_3_method_3_code
def yX1_addLeaf : MethodName := ⟨RX1, "addLeaf", "(II)I"⟩
abbrev cX1_addStep : ByteArray := prog_3_method_4_code
def yX1_addStep : MethodName := ⟨RX1, "addStep", "(III)I"⟩
abbrev cX1_put : ByteArray := prog_3_method_5_code
def yX1_put : MethodName := ⟨RX1, "put", "(III)I"⟩
abbrev cX1_gives : ByteArray := prog_3_method_6_code
def yX1_gives : MethodName := ⟨RX1, "gives", "(III)I"⟩
abbrev cX1_work : ByteArray := prog_3_method_7_code
def yX1_work : MethodName := ⟨RX1, "work", "(III)I"⟩
def RX2 : String := "CandleTurns$Room"
def TX2 : u_T := fun k => match k with
  | 0 => ("CandleTurns$Room", "laws", "[LCandleTurns$Law;", true)
  | 1 => ("CandleTurns$Room", "flames", "[LCandleTurns$Flame;", true)
  | 2 => ("CandleTurns$Room", "glasses", "[I", true)
  | 3 => ("CandleTurns$Room", "nexts", "[I", true)
  | 4 => ("CandleTurns$Room", "counting", "[I", true)
  | 5 => ("CandleTurns$Room", "number", "I", false)
  | 6 => ("CandleTurns$Room", "near", "I", false)
  | 7 => ("CandleTurns$Room", "far", "I", false)
  | 8 => ("CandleTurns$Room", "ticks", "I", false)
  | 9 => ("CandleTurns$Room", "z", "I", false)
  | _ => ("CandleTurns$Room", "texts", "I", false)
def tyX2 : Nat → FieldType := fun k => match k with
  | 0 => .array (.object "CandleTurns$Law")
  | 1 => .array (.object "CandleTurns$Flame")
  | 2 => .array .int
  | 3 => .array .int
  | 4 => .array .int
  | 5 => .int
  | 6 => .int
  | 7 => .int
  | 8 => .int
  | 9 => .int
  | _ => .int
theorem nmX2 : ∀ a, a < 11 → ∀ b, b < 11 → a ≠ b → (TX2 a).2.1 ≠ (TX2 b).2.1 := by decide +kernel
theorem tyX2_ok : ∀ k, k < 11 → parseFieldDescriptor (TX2 k).2.2.1 = some (tyX2 k) := by decide +kernel
abbrev cX2_init : ByteArray := prog_4_method_1_code
def yX2_init : MethodName := ⟨RX2, "<init>", "([LCandleTurns$Law;)V"⟩
abbrev cX2_become : ByteArray := prog_4_method_2_code
def yX2_become : MethodName := ⟨RX2, "become", "(LCandleTurns$Room;)V"⟩
abbrev cX2_lightOne : ByteArray := prog_4_method_3_code
def yX2_lightOne : MethodName := ⟨RX2, "lightOne", "(IIII)I"⟩
abbrev cX2_drawOne : ByteArray := prog_4_method_4_code
def yX2_drawOne : MethodName := ⟨RX2, "drawOne", "()V"⟩
abbrev cX2_draw : ByteArray := prog_4_method_5_code
def yX2_draw : MethodName := ⟨RX2, "draw", "()I"⟩
abbrev cX2_hasGlass : ByteArray := prog_4_method_6_code
def yX2_hasGlass : MethodName := ⟨RX2, "hasGlass", "(II)Z"⟩
abbrev cX2_putGlass : ByteArray := prog_4_method_7_code
def yX2_putGlass : MethodName := ⟨RX2, "putGlass", "(IIZ)V"⟩
abbrev cX2_lawFor : ByteArray := prog_4_method_8_code
def yX2_lawFor : MethodName := ⟨RX2, "lawFor", "(I)LCandleTurns$Law;"⟩
abbrev cX2_paceOf : ByteArray := prog_4_method_9_code
def yX2_paceOf : MethodName := ⟨RX2, "paceOf", "(I)I"⟩
abbrev cX2_pushBy : ByteArray := prog_4_method_10_code
def yX2_pushBy : MethodName := ⟨RX2, "pushBy", "(II)I"⟩
abbrev cX2_pushesOn : ByteArray := prog_4_method_11_code
def yX2_pushesOn : MethodName := ⟨RX2, "pushesOn", "(I)I"⟩
abbrev cX2_windOn : ByteArray := prog_4_method_12_code
def yX2_windOn : MethodName := ⟨RX2, "windOn", "(I)I"⟩
abbrev cX2_nextOf : ByteArray := prog_4_method_13_code
def yX2_nextOf : MethodName := ⟨RX2, "nextOf", "(I)I"⟩
abbrev cX2_goBy : ByteArray := prog_4_method_14_code
def yX2_goBy : MethodName := ⟨RX2, "goBy", "()I"⟩
abbrev cX2_litFrom : ByteArray := prog_4_method_15_code
def yX2_litFrom : MethodName := ⟨RX2, "litFrom", "(I)I"⟩
abbrev cX2_litMany : ByteArray := prog_4_method_16_code
def yX2_litMany : MethodName := ⟨RX2, "litMany", "()I"⟩
abbrev cX2_beatsAs : ByteArray := prog_4_method_17_code
def yX2_beatsAs : MethodName := ⟨RX2, "beatsAs", "(LCandleTurns$Room;)Z"⟩
abbrev cX2_stepFrom : ByteArray := prog_4_method_18_code
def yX2_stepFrom : MethodName := ⟨RX2, "stepFrom", "(I)I"⟩
abbrev cX2_arc : ByteArray := prog_4_method_19_code
def yX2_arc : MethodName := ⟨RX2, "arc", "()I"⟩
abbrev cX2_agrees : ByteArray := prog_4_method_20_code
def yX2_agrees : MethodName := ⟨RX2, "agrees", "(I)Z"⟩
abbrev cX2_gapsAbove : ByteArray := prog_4_method_21_code
def yX2_gapsAbove : MethodName := ⟨RX2, "gapsAbove", "(I)I"⟩
abbrev cX2_isFirstOfPhase : ByteArray := prog_4_method_22_code
def yX2_isFirstOfPhase : MethodName := ⟨RX2, "isFirstOfPhase", "(I)Z"⟩
def RX3 : String := "CandleTurns$Row"
def TX3 : u_T := fun k => match k with
  | 0 => ("CandleTurns$Row", "sort", "I", false)
  | 1 => ("CandleTurns$Row", "length", "I", false)
  | _ => ("CandleTurns$Row", "places", "[I", true)
def tyX3 : Nat → FieldType := fun k => match k with
  | 0 => .int
  | 1 => .int
  | _ => .array .int
theorem nmX3 : ∀ a, a < 3 → ∀ b, b < 3 → a ≠ b → (TX3 a).2.1 ≠ (TX3 b).2.1 := by decide +kernel
theorem tyX3_ok : ∀ k, k < 3 → parseFieldDescriptor (TX3 k).2.2.1 = some (tyX3 k) := by decide +kernel
abbrev cX3_init : ByteArray := prog_5_method_1_code
def yX3_init : MethodName := ⟨RX3, "<init>", "()V"⟩
abbrev cX3_begin : ByteArray := prog_5_method_2_code
def yX3_begin : MethodName := ⟨RX3, "begin", "(II)V"⟩
abbrev cX3_become : ByteArray := prog_5_method_3_code
def yX3_become : MethodName := ⟨RX3, "become", "(LCandleTurns$Row;)V"⟩
abbrev cX3_isMissing : ByteArray := prog_5_method_4_code
def yX3_isMissing : MethodName := ⟨RX3, "isMissing", "()Z"⟩
abbrev cX3_has : ByteArray := prog_5_method_5_code
def yX3_has : MethodName := ⟨RX3, "has", "(I)Z"⟩
abbrev cX3_hasRun : ByteArray := prog_5_method_6_code
def yX3_hasRun : MethodName := ⟨RX3, "hasRun", "(II)Z"⟩
def RX4 : String := "CandleTurns$Slot"
def TX4 : u_T := fun k => match k with
  | 0 => ("CandleTurns$Slot", "thing", "I", false)
  | 1 => ("CandleTurns$Slot", "flame", "LCandleTurns$Flame;", true)
  | 2 => ("CandleTurns$Slot", "row", "LCandleTurns$Row;", true)
  | _ => ("CandleTurns$Slot", "number", "I", false)
def tyX4 : Nat → FieldType := fun k => match k with
  | 0 => .int
  | 1 => .object "CandleTurns$Flame"
  | 2 => .object "CandleTurns$Row"
  | _ => .int
theorem nmX4 : ∀ a, a < 4 → ∀ b, b < 4 → a ≠ b → (TX4 a).2.1 ≠ (TX4 b).2.1 := by decide +kernel
theorem tyX4_ok : ∀ k, k < 4 → parseFieldDescriptor (TX4 k).2.2.1 = some (tyX4 k) := by decide +kernel
abbrev cX4_init : ByteArray := prog_6_method_1_code
def yX4_init : MethodName := ⟨RX4, "<init>", "()V"⟩
def RX5 : String := "CandleTurns$Tape"
def TX5 : u_T := fun k => match k with
  | 0 => ("CandleTurns$Tape", "bytes", "[B", true)
  | 1 => ("CandleTurns$Tape", "length", "I", false)
  | 2 => ("CandleTurns$Tape", "start", "I", false)
  | 3 => ("CandleTurns$Tape", "end", "I", false)
  | 4 => ("CandleTurns$Tape", "sort", "I", false)
  | 5 => ("CandleTurns$Tape", "fault", "I", false)
  | _ => ("CandleTurns$Tape", "law", "LCandleTurns$Law;", false)
def tyX5 : Nat → FieldType := fun k => match k with
  | 0 => .array .byte
  | 1 => .int
  | 2 => .int
  | 3 => .int
  | 4 => .int
  | 5 => .int
  | _ => .object "CandleTurns$Law"
theorem nmX5 : ∀ a, a < 7 → ∀ b, b < 7 → a ≠ b → (TX5 a).2.1 ≠ (TX5 b).2.1 := by decide +kernel
theorem tyX5_ok : ∀ k, k < 7 → parseFieldDescriptor (TX5 k).2.2.1 = some (tyX5 k) := by decide +kernel
abbrev cX5_init : ByteArray := prog_7_method_1_code
def yX5_init : MethodName := ⟨RX5, "<init>", "()V"⟩
abbrev cX5_addFour : ByteArray := prog_7_method_2_code
def yX5_addFour : MethodName := ⟨RX5, "addFour", "(I)V"⟩
abbrev cX5_faultOf : ByteArray := prog_7_method_3_code
def yX5_faultOf : MethodName := ⟨RX5, "faultOf", "()I"⟩
abbrev cX5_fail : ByteArray := prog_7_method_4_code
def yX5_fail : MethodName := ⟨RX5, "fail", "()I"⟩
abbrev cX5_advance : ByteArray := prog_7_method_5_code
def yX5_advance : MethodName := ⟨RX5, "advance", "()V"⟩
abbrev cX5_sortAt : ByteArray := prog_7_method_6_code
def yX5_sortAt : MethodName := ⟨RX5, "sortAt", "(I)I"⟩
abbrev cX5_keyOfWord : ByteArray := prog_7_method_7_code
def yX5_keyOfWord : MethodName := ⟨RX5, "keyOfWord", "()I"⟩
abbrev cX5_chain : ByteArray := prog_7_method_8_code
def yX5_chain : MethodName := ⟨RX5, "chain", "(III)I"⟩
abbrev cX5_levelOf : ByteArray := prog_7_method_9_code
def yX5_levelOf : MethodName := ⟨RX5, "levelOf", "(I)I"⟩
abbrev cX5_piece : ByteArray := prog_7_method_10_code
def yX5_piece : MethodName := ⟨RX5, "piece", "(II)I"⟩
abbrev cX5_bracket : ByteArray := prog_7_method_11_code
def yX5_bracket : MethodName := ⟨RX5, "bracket", "(II)I"⟩
abbrev cX5_number : ByteArray := prog_7_method_12_code
def yX5_number : MethodName := ⟨RX5, "number", "()I"⟩
abbrev cX5_name : ByteArray := prog_7_method_13_code
def yX5_name : MethodName := ⟨RX5, "name", "()I"⟩
def RX6 : String := "CandleTurns"
def TX6 : u_T := fun k => match k with
  | 0 => ("CandleTurns", "laws", "[LCandleTurns$Law;", true)
  | 1 => ("CandleTurns", "now", "LCandleTurns$Room;", true)
  | 2 => ("CandleTurns", "thought", "LCandleTurns$Room;", true)
  | 3 => ("CandleTurns", "image", "LCandleTurns$Room;", true)
  | 4 => ("CandleTurns", "kept", "Z", false)
  | 5 => ("CandleTurns", "sheets", "[LCandleTurns$Row;", true)
  | 6 => ("CandleTurns", "slots", "[LCandleTurns$Slot;", true)
  | 7 => ("CandleTurns", "waiting", "[I", true)
  | 8 => ("CandleTurns", "waits", "I", false)
  | _ => ("CandleTurns", "tape", "LCandleTurns$Tape;", true)
def tyX6 : Nat → FieldType := fun k => match k with
  | 0 => .array (.object "CandleTurns$Law")
  | 1 => .object "CandleTurns$Room"
  | 2 => .object "CandleTurns$Room"
  | 3 => .object "CandleTurns$Room"
  | 4 => .boolean
  | 5 => .array (.object "CandleTurns$Row")
  | 6 => .array (.object "CandleTurns$Slot")
  | 7 => .array .int
  | 8 => .int
  | _ => .object "CandleTurns$Tape"
theorem nmX6 : ∀ a, a < 10 → ∀ b, b < 10 → a ≠ b → (TX6 a).2.1 ≠ (TX6 b).2.1 := by decide +kernel
theorem tyX6_ok : ∀ k, k < 10 → parseFieldDescriptor (TX6 k).2.2.1 = some (tyX6 k) := by decide +kernel
abbrev cX6_init : ByteArray := prog_1_method_1_code
def yX6_init : MethodName := ⟨RX6, "<init>", "()V"⟩
abbrev cX6_flame : ByteArray := prog_1_method_2_code
def yX6_flame : MethodName := ⟨RX6, "flame", "(III)I"⟩
abbrev cX6_told : ByteArray := prog_1_method_3_code
def yX6_told : MethodName := ⟨RX6, "told", "(II)I"⟩
abbrev cX6_as : ByteArray := prog_1_method_4_code
def yX6_as : MethodName := ⟨RX6, "as", "(II)I"⟩
abbrev cX6_turns : ByteArray := prog_1_method_5_code
def yX6_turns : MethodName := ⟨RX6, "turns", "(II)I"⟩
abbrev cX6_set : ByteArray := prog_1_method_6_code
def yX6_set : MethodName := ⟨RX6, "set", "(III)I"⟩
abbrev cX6_move : ByteArray := prog_1_method_7_code
def yX6_move : MethodName := ⟨RX6, "move", "(II)I"⟩
abbrev cX6_glass : ByteArray := prog_1_method_8_code
def yX6_glass : MethodName := ⟨RX6, "glass", "(III)I"⟩
abbrev cX6_reach : ByteArray := prog_1_method_9_code
def yX6_reach : MethodName := ⟨RX6, "reach", "(II)I"⟩
abbrev cX6_push : ByteArray := prog_1_method_10_code
def yX6_push : MethodName := ⟨RX6, "push", "(II)I"⟩
abbrev cX6_deal : ByteArray := prog_1_method_11_code
def yX6_deal : MethodName := ⟨RX6, "deal", "(I)I"⟩
abbrev cX6_seed : ByteArray := prog_1_method_12_code
def yX6_seed : MethodName := ⟨RX6, "seed", "(I)I"⟩
abbrev cX6_run : ByteArray := prog_1_method_13_code
def yX6_run : MethodName := ⟨RX6, "run", "(I)I"⟩
abbrev cX6_spread : ByteArray := prog_1_method_14_code
def yX6_spread : MethodName := ⟨RX6, "spread", "()I"⟩
abbrev cX6_groups : ByteArray := prog_1_method_15_code
def yX6_groups : MethodName := ⟨RX6, "groups", "(I)I"⟩
abbrev cX6_soon : ByteArray := prog_1_method_16_code
def yX6_soon : MethodName := ⟨RX6, "soon", "(I)I"⟩
abbrev cX6_period : ByteArray := prog_1_method_17_code
def yX6_period : MethodName := ⟨RX6, "period", "()I"⟩
abbrev cX6_film : ByteArray := prog_1_method_18_code
def yX6_film : MethodName := ⟨RX6, "film", "(II)I"⟩
abbrev cX6_basin : ByteArray := prog_1_method_19_code
def yX6_basin : MethodName := ⟨RX6, "basin", "(I)I"⟩
abbrev cX6_quiet : ByteArray := prog_1_method_20_code
def yX6_quiet : MethodName := ⟨RX6, "quiet", "(II)I"⟩
abbrev cX6_arcFrom : ByteArray := prog_1_method_21_code
def yX6_arcFrom : MethodName := ⟨RX6, "arcFrom", "(III)I"⟩
abbrev cX6_learn : ByteArray := prog_1_method_22_code
def yX6_learn : MethodName := ⟨RX6, "learn", "(II)I"⟩
abbrev cX6_hitsWith : ByteArray := prog_1_method_23_code
def yX6_hitsWith : MethodName := ⟨RX6, "hitsWith", "(ILCandleTurns$Row;I)I"⟩
abbrev cX6_feed : ByteArray := prog_1_method_24_code
def yX6_feed : MethodName := ⟨RX6, "feed", "(III)I"⟩
abbrev cX6_trim : ByteArray := prog_1_method_25_code
def yX6_trim : MethodName := ⟨RX6, "trim", "(I)I"⟩
abbrev cX6_text : ByteArray := prog_1_method_26_code
def yX6_text : MethodName := ⟨RX6, "text", "()I"⟩
abbrev cX6_textTold : ByteArray := prog_1_method_27_code
def yX6_textTold : MethodName := ⟨RX6, "textTold", "(II)I"⟩
abbrev cX6_why : ByteArray := prog_1_method_28_code
def yX6_why : MethodName := ⟨RX6, "why", "(I)I"⟩
abbrev cX6_sheet : ByteArray := prog_1_method_29_code
def yX6_sheet : MethodName := ⟨RX6, "sheet", "(III)I"⟩
abbrev cX6_mark : ByteArray := prog_1_method_30_code
def yX6_mark : MethodName := ⟨RX6, "mark", "(III)I"⟩
abbrev cX6_pour : ByteArray := prog_1_method_31_code
def yX6_pour : MethodName := ⟨RX6, "pour", "(I)I"⟩
abbrev cX6_reads : ByteArray := prog_1_method_32_code
def yX6_reads : MethodName := ⟨RX6, "reads", "(I)I"⟩
abbrev cX6_copy : ByteArray := prog_1_method_33_code
def yX6_copy : MethodName := ⟨RX6, "copy", "(IIIII)I"⟩
abbrev cX6_lay : ByteArray := prog_1_method_34_code
def yX6_lay : MethodName := ⟨RX6, "lay", "(III)I"⟩
abbrev cX6_ask : ByteArray := prog_1_method_35_code
def yX6_ask : MethodName := ⟨RX6, "ask", "(II)I"⟩
abbrev cX6_item : ByteArray := prog_1_method_36_code
def yX6_item : MethodName := ⟨RX6, "item", "(II)I"⟩
abbrev cX6_rest : ByteArray := prog_1_method_37_code
def yX6_rest : MethodName := ⟨RX6, "rest", "(II)I"⟩
abbrev cX6_tell : ByteArray := prog_1_method_38_code
def yX6_tell : MethodName := ⟨RX6, "tell", "(I)I"⟩
abbrev cX6_check : ByteArray := prog_1_method_39_code
def yX6_check : MethodName := ⟨RX6, "check", "(I)I"⟩
abbrev cX6_keep : ByteArray := prog_1_method_40_code
def yX6_keep : MethodName := ⟨RX6, "keep", "()I"⟩
abbrev cX6_back : ByteArray := prog_1_method_41_code
def yX6_back : MethodName := ⟨RX6, "back", "()I"⟩
abbrev cX6_count : ByteArray := prog_1_method_42_code
def yX6_count : MethodName := ⟨RX6, "count", "(I)I"⟩
abbrev cX6_isWithin : ByteArray := prog_1_method_43_code
def yX6_isWithin : MethodName := ⟨RX6, "isWithin", "(III)Z"⟩
abbrev cX6_isPhase : ByteArray := prog_1_method_44_code
def yX6_isPhase : MethodName := ⟨RX6, "isPhase", "(I)Z"⟩
abbrev cX6_isKind : ByteArray := prog_1_method_45_code
def yX6_isKind : MethodName := ⟨RX6, "isKind", "(I)Z"⟩
abbrev cX6_isSheet : ByteArray := prog_1_method_46_code
def yX6_isSheet : MethodName := ⟨RX6, "isSheet", "(I)Z"⟩
abbrev cX6_isSlot : ByteArray := prog_1_method_47_code
def yX6_isSlot : MethodName := ⟨RX6, "isSlot", "(I)Z"⟩
abbrev cX6_isOnBoard : ByteArray := prog_1_method_48_code
def yX6_isOnBoard : MethodName := ⟨RX6, "isOnBoard", "(II)Z"⟩
abbrev cX6_isPlace : ByteArray := prog_1_method_49_code
def yX6_isPlace : MethodName := ⟨RX6, "isPlace", "(I)Z"⟩
abbrev cX6_isFlame : ByteArray := prog_1_method_50_code
def yX6_isFlame : MethodName := ⟨RX6, "isFlame", "(I)Z"⟩
abbrev cX6_isPair : ByteArray := prog_1_method_51_code
def yX6_isPair : MethodName := ⟨RX6, "isPair", "(II)Z"⟩
abbrev cX6_ahead : ByteArray := prog_1_method_52_code
def yX6_ahead : MethodName := ⟨RX6, "ahead", "(II)I"⟩
abbrev cX6_held : ByteArray := prog_1_method_53_code
def yX6_held : MethodName := ⟨RX6, "held", "(III)I"⟩
def RX7 : String := "CandleTurnsModel"
def TX7 : u_T := fun k => match k with
  | 0 => ("CandleTurnsModel", "s", "[I", true)
  | 1 => ("CandleTurnsModel", "image", "[I", true)
  | 2 => ("CandleTurnsModel", "aside", "[I", true)
  | 3 => ("CandleTurnsModel", "hasImage", "Z", false)
  | 4 => ("CandleTurnsModel", "tSort", "[I", true)
  | 5 => ("CandleTurnsModel", "tSize", "[I", true)
  | 6 => ("CandleTurnsModel", "tNumber", "[I", true)
  | 7 => ("CandleTurnsModel", "held", "[I", true)
  | 8 => ("CandleTurnsModel", "heldNumber", "[I", true)
  | 9 => ("CandleTurnsModel", "heldWorth", "[I", true)
  | 10 => ("CandleTurnsModel", "heldSize", "[I", true)
  | 11 => ("CandleTurnsModel", "heldRow", "[I", true)
  | 12 => ("CandleTurnsModel", "nextOf", "[I", true)
  | 13 => ("CandleTurnsModel", "isThere", "[Z", true)
  | 14 => ("CandleTurnsModel", "greatest", "I", false)
  | 15 => ("CandleTurnsModel", "above", "I", false)
  | 16 => ("CandleTurnsModel", "close", "[I", true)
  | 17 => ("CandleTurnsModel", "tape", "[I", true)
  | 18 => ("CandleTurnsModel", "taped", "I", false)
  | 19 => ("CandleTurnsModel", "begin", "I", false)
  | 20 => ("CandleTurnsModel", "behind", "I", false)
  | 21 => ("CandleTurnsModel", "token", "I", false)
  | 22 => ("CandleTurnsModel", "number", "I", false)
  | 23 => ("CandleTurnsModel", "letter", "I", false)
  | 24 => ("CandleTurnsModel", "deep", "I", false)
  | 25 => ("CandleTurnsModel", "turned", "I", false)
  | 26 => ("CandleTurnsModel", "laid", "I", false)
  | 27 => ("CandleTurnsModel", "laidAt", "I", false)
  | 28 => ("CandleTurnsModel", "said", "I", false)
  | 29 => ("CandleTurnsModel", "named", "[I", true)
  | 30 => ("CandleTurnsModel", "pile", "[I", true)
  | 31 => ("CandleTurnsModel", "carried", "[I", true)
  | 32 => ("CandleTurnsModel", "waits", "[I", true)
  | 33 => ("CandleTurnsModel", "waiting", "I", false)
  | _ => ("CandleTurnsModel", "row", "[I", true)
def tyX7 : Nat → FieldType := fun k => match k with
  | 0 => .array .int
  | 1 => .array .int
  | 2 => .array .int
  | 3 => .boolean
  | 4 => .array .int
  | 5 => .array .int
  | 6 => .array .int
  | 7 => .array .int
  | 8 => .array .int
  | 9 => .array .int
  | 10 => .array .int
  | 11 => .array .int
  | 12 => .array .int
  | 13 => .array .boolean
  | 14 => .int
  | 15 => .int
  | 16 => .array .int
  | 17 => .array .int
  | 18 => .int
  | 19 => .int
  | 20 => .int
  | 21 => .int
  | 22 => .int
  | 23 => .int
  | 24 => .int
  | 25 => .int
  | 26 => .int
  | 27 => .int
  | 28 => .int
  | 29 => .array .int
  | 30 => .array .int
  | 31 => .array .int
  | 32 => .array .int
  | 33 => .int
  | _ => .array .int
theorem nmX7 : ∀ a, a < 35 → ∀ b, b < 35 → a ≠ b → (TX7 a).2.1 ≠ (TX7 b).2.1 := by decide +kernel
theorem tyX7_ok : ∀ k, k < 35 → parseFieldDescriptor (TX7 k).2.2.1 = some (tyX7 k) := by decide +kernel
abbrev cX7_init : ByteArray := prog_9_method_1_code
def yX7_init : MethodName := ⟨RX7, "<init>", "()V"⟩
abbrev cX7_isIn : ByteArray := prog_9_method_2_code
def yX7_isIn : MethodName := ⟨RX7, "isIn", "(JJJ)Z"⟩
abbrev cX7_orNone : ByteArray := prog_9_method_3_code
def yX7_orNone : MethodName := ⟨RX7, "orNone", "(I)I"⟩
abbrev cX7_within : ByteArray := prog_9_method_4_code
def yX7_within : MethodName := ⟨RX7, "within", "(III)I"⟩
abbrev cX7_becomes : ByteArray := prog_9_method_5_code
def yX7_becomes : MethodName := ⟨RX7, "becomes", "(II)I"⟩
abbrev cX7_flameAt : ByteArray := prog_9_method_6_code
def yX7_flameAt : MethodName := ⟨RX7, "flameAt", "(I)I"⟩
abbrev cX7_textAt : ByteArray := prog_9_method_7_code
def yX7_textAt : MethodName := ⟨RX7, "textAt", "(I)I"⟩
abbrev cX7_of : ByteArray := prog_9_method_8_code
def yX7_of : MethodName := ⟨RX7, "of", "(II)I"⟩
abbrev cX7_isFlame : ByteArray := prog_9_method_9_code
def yX7_isFlame : MethodName := ⟨RX7, "isFlame", "(I)Z"⟩
abbrev cX7_isText : ByteArray := prog_9_method_10_code
def yX7_isText : MethodName := ⟨RX7, "isText", "(I)Z"⟩
abbrev cX7_isLit : ByteArray := prog_9_method_11_code
def yX7_isLit : MethodName := ⟨RX7, "isLit", "(I)Z"⟩
abbrev cX7_drawn : ByteArray := prog_9_method_12_code
def yX7_drawn : MethodName := ⟨RX7, "drawn", "()I"⟩
abbrev cX7_isPlace : ByteArray := prog_9_method_13_code
def yX7_isPlace : MethodName := ⟨RX7, "isPlace", "(I)Z"⟩
abbrev cX7_comes : ByteArray := prog_9_method_14_code
def yX7_comes : MethodName := ⟨RX7, "comes", "(IIIII)V"⟩
abbrev cX7_flame : ByteArray := prog_9_method_15_code
def yX7_flame : MethodName := ⟨RX7, "flame", "(III)I"⟩
abbrev cX7_pace : ByteArray := prog_9_method_16_code
def yX7_pace : MethodName := ⟨RX7, "pace", "(I)I"⟩
abbrev cX7_worth : ByteArray := prog_9_method_17_code
def yX7_worth : MethodName := ⟨RX7, "worth", "(I)I"⟩
abbrev cX7_off : ByteArray := prog_9_method_18_code
def yX7_off : MethodName := ⟨RX7, "off", "(II)I"⟩
abbrev cX7_ahead : ByteArray := prog_9_method_19_code
def yX7_ahead : MethodName := ⟨RX7, "ahead", "(II)I"⟩
abbrev cX7_pushOf : ByteArray := prog_9_method_20_code
def yX7_pushOf : MethodName := ⟨RX7, "pushOf", "(II)I"⟩
abbrev cX7_pushes : ByteArray := prog_9_method_21_code
def yX7_pushes : MethodName := ⟨RX7, "pushes", "(I)I"⟩
abbrev cX7_told : ByteArray := prog_9_method_22_code
def yX7_told : MethodName := ⟨RX7, "told", "(II)I"⟩
abbrev cX7_isOf : ByteArray := prog_9_method_23_code
def yX7_isOf : MethodName := ⟨RX7, "isOf", "(II)Z"⟩
abbrev cX7_as : ByteArray := prog_9_method_24_code
def yX7_as : MethodName := ⟨RX7, "as", "(II)I"⟩
abbrev cX7_turns : ByteArray := prog_9_method_25_code
def yX7_turns : MethodName := ⟨RX7, "turns", "(II)I"⟩
abbrev cX7_set : ByteArray := prog_9_method_26_code
def yX7_set : MethodName := ⟨RX7, "set", "(III)I"⟩
abbrev cX7_move : ByteArray := prog_9_method_27_code
def yX7_move : MethodName := ⟨RX7, "move", "(II)I"⟩
abbrev cX7_glass : ByteArray := prog_9_method_28_code
def yX7_glass : MethodName := ⟨RX7, "glass", "(III)I"⟩
abbrev cX7_reach : ByteArray := prog_9_method_29_code
def yX7_reach : MethodName := ⟨RX7, "reach", "(II)I"⟩
abbrev cX7_push : ByteArray := prog_9_method_30_code
def yX7_push : MethodName := ⟨RX7, "push", "(II)I"⟩
abbrev cX7_deal : ByteArray := prog_9_method_31_code
def yX7_deal : MethodName := ⟨RX7, "deal", "(I)I"⟩
abbrev cX7_seed : ByteArray := prog_9_method_32_code
def yX7_seed : MethodName := ⟨RX7, "seed", "(I)I"⟩
abbrev cX7_wind : ByteArray := prog_9_method_33_code
def yX7_wind : MethodName := ⟨RX7, "wind", "(I)I"⟩
abbrev cX7_turned : ByteArray := prog_9_method_34_code
def yX7_turned : MethodName := ⟨RX7, "turned", "(I)I"⟩
abbrev cX7_ticks : ByteArray := prog_9_method_35_code
def yX7_ticks : MethodName := ⟨RX7, "ticks", "()I"⟩
abbrev cX7_run : ByteArray := prog_9_method_36_code
def yX7_run : MethodName := ⟨RX7, "run", "(I)I"⟩
abbrev cX7_findSteps : ByteArray := prog_9_method_37_code
def yX7_findSteps : MethodName := ⟨RX7, "findSteps", "(I)Z"⟩
abbrev cX7_spreadNow : ByteArray := prog_9_method_38_code
def yX7_spreadNow : MethodName := ⟨RX7, "spreadNow", "()I"⟩
abbrev cX7_spread : ByteArray := prog_9_method_39_code
def yX7_spread : MethodName := ⟨RX7, "spread", "()I"⟩
abbrev cX7_groups : ByteArray := prog_9_method_40_code
def yX7_groups : MethodName := ⟨RX7, "groups", "(I)I"⟩
abbrev cX7_laysBy : ByteArray := prog_9_method_41_code
def yX7_laysBy : MethodName := ⟨RX7, "laysBy", "()V"⟩
abbrev cX7_laysBack : ByteArray := prog_9_method_42_code
def yX7_laysBack : MethodName := ⟨RX7, "laysBack", "()V"⟩
abbrev cX7_isBound : ByteArray := prog_9_method_43_code
def yX7_isBound : MethodName := ⟨RX7, "isBound", "(I)Z"⟩
abbrev cX7_soon : ByteArray := prog_9_method_44_code
def yX7_soon : MethodName := ⟨RX7, "soon", "(I)I"⟩
abbrev cX7_isAsLaidBy : ByteArray := prog_9_method_45_code
def yX7_isAsLaidBy : MethodName := ⟨RX7, "isAsLaidBy", "()Z"⟩
abbrev cX7_period : ByteArray := prog_9_method_46_code
def yX7_period : MethodName := ⟨RX7, "period", "()I"⟩
abbrev cX7_ticksMany : ByteArray := prog_9_method_47_code
def yX7_ticksMany : MethodName := ⟨RX7, "ticksMany", "(I)V"⟩
abbrev cX7_film : ByteArray := prog_9_method_48_code
def yX7_film : MethodName := ⟨RX7, "film", "(II)I"⟩
abbrev cX7_litBehind : ByteArray := prog_9_method_49_code
def yX7_litBehind : MethodName := ⟨RX7, "litBehind", "(I)I"⟩
abbrev cX7_basin : ByteArray := prog_9_method_50_code
def yX7_basin : MethodName := ⟨RX7, "basin", "(I)I"⟩
abbrev cX7_quiet : ByteArray := prog_9_method_51_code
def yX7_quiet : MethodName := ⟨RX7, "quiet", "(II)I"⟩
abbrev cX7_feed : ByteArray := prog_9_method_52_code
def yX7_feed : MethodName := ⟨RX7, "feed", "(III)I"⟩
abbrev cX7_trim : ByteArray := prog_9_method_53_code
def yX7_trim : MethodName := ⟨RX7, "trim", "(I)I"⟩
abbrev cX7_isLetter : ByteArray := prog_9_method_54_code
def yX7_isLetter : MethodName := ⟨RX7, "isLetter", "(I)Z"⟩
abbrev cX7_isDigit : ByteArray := prog_9_method_55_code
def yX7_isDigit : MethodName := ⟨RX7, "isDigit", "(I)Z"⟩
abbrev cX7_nextToken : ByteArray := prog_9_method_56_code
def yX7_nextToken : MethodName := ⟨RX7, "nextToken", "()V"⟩
abbrev cX7_isSign : ByteArray := prog_9_method_57_code
def yX7_isSign : MethodName := ⟨RX7, "isSign", "(I)Z"⟩
abbrev cX7_isWordAt : ByteArray := prog_9_method_58_code
def yX7_isWordAt : MethodName := ⟨RX7, "isWordAt", "(IIII)Z"⟩
abbrev cX7_key : ByteArray := prog_9_method_59_code
def yX7_key : MethodName := ⟨RX7, "key", "()I"⟩
abbrev cX7_isName : ByteArray := prog_9_method_60_code
def yX7_isName : MethodName := ⟨RX7, "isName", "(II)Z"⟩
abbrev cX7_step : ByteArray := prog_9_method_61_code
def yX7_step : MethodName := ⟨RX7, "step", "(II)V"⟩
abbrev cX7_either : ByteArray := prog_9_method_62_code
def yX7_either : MethodName := ⟨RX7, "either", "(I)Z"⟩
abbrev cX7_both : ByteArray := prog_9_method_63_code
def yX7_both : MethodName := ⟨RX7, "both", "(I)Z"⟩
abbrev cX7_test : ByteArray := prog_9_method_64_code
def yX7_test : MethodName := ⟨RX7, "test", "(I)Z"⟩
abbrev cX7_sum : ByteArray := prog_9_method_65_code
def yX7_sum : MethodName := ⟨RX7, "sum", "(I)Z"⟩
abbrev cX7_term : ByteArray := prog_9_method_66_code
def yX7_term : MethodName := ⟨RX7, "term", "(I)Z"⟩
abbrev cX7_part0 : ByteArray := prog_9_method_67_code
def yX7_part0 : MethodName := ⟨RX7, "part0", "(I)Z"⟩
abbrev cX7_parse : ByteArray := prog_9_method_68_code
def yX7_parse : MethodName := ⟨RX7, "parse", "()I"⟩
abbrev cX7_text : ByteArray := prog_9_method_69_code
def yX7_text : MethodName := ⟨RX7, "text", "()I"⟩
abbrev cX7_textTold : ByteArray := prog_9_method_70_code
def yX7_textTold : MethodName := ⟨RX7, "textTold", "(II)I"⟩
abbrev cX7_counts : ByteArray := prog_9_method_71_code
def yX7_counts : MethodName := ⟨RX7, "counts", "(I)I"⟩
abbrev cX7_why : ByteArray := prog_9_method_72_code
def yX7_why : MethodName := ⟨RX7, "why", "(I)I"⟩
abbrev cX7_joined : ByteArray := prog_9_method_73_code
def yX7_joined : MethodName := ⟨RX7, "joined", "(III)I"⟩
abbrev cX7_worked : ByteArray := prog_9_method_74_code
def yX7_worked : MethodName := ⟨RX7, "worked", "(I)I"⟩
abbrev cX7_isSheet : ByteArray := prog_9_method_75_code
def yX7_isSheet : MethodName := ⟨RX7, "isSheet", "(I)Z"⟩
abbrev cX7_sheet : ByteArray := prog_9_method_76_code
def yX7_sheet : MethodName := ⟨RX7, "sheet", "(III)I"⟩
abbrev cX7_mark : ByteArray := prog_9_method_77_code
def yX7_mark : MethodName := ⟨RX7, "mark", "(III)I"⟩
abbrev cX7_learn : ByteArray := prog_9_method_78_code
def yX7_learn : MethodName := ⟨RX7, "learn", "(II)I"⟩
abbrev cX7_pour : ByteArray := prog_9_method_79_code
def yX7_pour : MethodName := ⟨RX7, "pour", "(I)I"⟩
abbrev cX7_reads : ByteArray := prog_9_method_80_code
def yX7_reads : MethodName := ⟨RX7, "reads", "(I)I"⟩
abbrev cX7_copy : ByteArray := prog_9_method_81_code
def yX7_copy : MethodName := ⟨RX7, "copy", "(IIIII)I"⟩
abbrev cX7_isSlot : ByteArray := prog_9_method_82_code
def yX7_isSlot : MethodName := ⟨RX7, "isSlot", "(I)Z"⟩
abbrev cX7_lay : ByteArray := prog_9_method_83_code
def yX7_lay : MethodName := ⟨RX7, "lay", "(III)I"⟩
abbrev cX7_ask : ByteArray := prog_9_method_84_code
def yX7_ask : MethodName := ⟨RX7, "ask", "(II)I"⟩
abbrev cX7_item : ByteArray := prog_9_method_85_code
def yX7_item : MethodName := ⟨RX7, "item", "(II)I"⟩
abbrev cX7_rest : ByteArray := prog_9_method_86_code
def yX7_rest : MethodName := ⟨RX7, "rest", "(II)I"⟩
abbrev cX7_tell : ByteArray := prog_9_method_87_code
def yX7_tell : MethodName := ⟨RX7, "tell", "(I)I"⟩
abbrev cX7_setAside : ByteArray := prog_9_method_88_code
def yX7_setAside : MethodName := ⟨RX7, "setAside", "([I[I)V"⟩
abbrev cX7_check : ByteArray := prog_9_method_89_code
def yX7_check : MethodName := ⟨RX7, "check", "(I)I"⟩
abbrev cX7_keep : ByteArray := prog_9_method_90_code
def yX7_keep : MethodName := ⟨RX7, "keep", "()I"⟩
abbrev cX7_back : ByteArray := prog_9_method_91_code
def yX7_back : MethodName := ⟨RX7, "back", "()I"⟩
abbrev cX7_litMany : ByteArray := prog_9_method_92_code
def yX7_litMany : MethodName := ⟨RX7, "litMany", "()I"⟩
abbrev cX7_count : ByteArray := prog_9_method_93_code
def yX7_count : MethodName := ⟨RX7, "count", "(I)I"⟩
def RJ9 : String := "java/lang/Math"
abbrev cJ9_abs_0f7a4 : ByteArray := prog_10_method_59_code
def yJ9_abs_0f7a4 : MethodName := ⟨RJ9, "abs", "(I)I"⟩
abbrev cJ9_max_7cf53 : ByteArray := prog_10_method_65_code
def yJ9_max_7cf53 : MethodName := ⟨RJ9, "max", "(II)I"⟩
abbrev cJ9_min_7cf53 : ByteArray := prog_10_method_69_code
def yJ9_min_7cf53 : MethodName := ⟨RJ9, "min", "(II)I"⟩
def RJ0 : String := "java/lang/String"
abbrev cJ0_charAt_5068e : ByteArray := prog_11_method_56_code
def yJ0_charAt_5068e : MethodName := ⟨RJ0, "charAt", "(I)C"⟩
abbrev cJ0_isLatin1_aae02 : ByteArray := prog_11_method_154_code
def yJ0_isLatin1_aae02 : MethodName := ⟨RJ0, "isLatin1", "()Z"⟩
abbrev cJ0_checkIndex_df160 : ByteArray := prog_11_method_155_code
def yJ0_checkIndex_df160 : MethodName := ⟨RJ0, "checkIndex", "(II)V"⟩
def RJ1 : String := "java/lang/StringLatin1"
abbrev cJ1_charAt_3b067 : ByteArray := prog_12_method_2_code
def yJ1_charAt_3b067 : MethodName := ⟨RJ1, "charAt", "([BI)C"⟩
def RJ2 : String := "java/lang/StringUTF16"
abbrev cJ2_getChar_3b067 : ByteArray := prog_13_method_5_code
def yJ2_getChar_3b067 : MethodName := ⟨RJ2, "getChar", "([BI)C"⟩
abbrev cJ2_length_9d52b : ByteArray := prog_13_method_6_code
def yJ2_length_9d52b : MethodName := ⟨RJ2, "length", "([B)I"⟩
abbrev cJ2_charAt_3b067 : ByteArray := prog_13_method_83_code
def yJ2_charAt_3b067 : MethodName := ⟨RJ2, "charAt", "([BI)C"⟩
abbrev cJ2_checkIndex_2214a : ByteArray := prog_13_method_91_code
def yJ2_checkIndex_2214a : MethodName := ⟨RJ2, "checkIndex", "(I[B)V"⟩
def RJ10 : String := "java/lang/System"
def RJ3 : String := "jdk/internal/util/Preconditions"
abbrev cJ3_checkIndex_8e157 : ByteArray := prog_15_method_11_code
def yJ3_checkIndex_8e157 : MethodName := ⟨RJ3, "checkIndex", "(IILjava/util/function/BiFunction;)I"⟩
def RL : String := "CandleTurnsLaw"
abbrev cL_law : ByteArray := code
def yL_law : MethodName := ⟨RL, "law", "([I)Z"⟩
abbrev Mi : Type := MethodName × ByteArray × Nat × Option FieldType
abbrev mJ0_charAt_5068e : Mi := (yJ0_charAt_5068e, cJ0_charAt_5068e, 2, (some .char))
abbrev mJ0_checkIndex_df160 : Mi := (yJ0_checkIndex_df160, cJ0_checkIndex_df160, 2, none)
abbrev mJ0_isLatin1_aae02 : Mi := (yJ0_isLatin1_aae02, cJ0_isLatin1_aae02, 1, (some .boolean))
abbrev mJ1_charAt_3b067 : Mi := (yJ1_charAt_3b067, cJ1_charAt_3b067, 2, (some .char))
abbrev mJ2_charAt_3b067 : Mi := (yJ2_charAt_3b067, cJ2_charAt_3b067, 2, (some .char))
abbrev mJ2_checkIndex_2214a : Mi := (yJ2_checkIndex_2214a, cJ2_checkIndex_2214a, 2, none)
abbrev mJ2_getChar_3b067 : Mi := (yJ2_getChar_3b067, cJ2_getChar_3b067, 2, (some .char))
abbrev mJ2_length_9d52b : Mi := (yJ2_length_9d52b, cJ2_length_9d52b, 1, (some .int))
abbrev mJ3_checkIndex_8e157 : Mi := (yJ3_checkIndex_8e157, cJ3_checkIndex_8e157, 3, (some .int))
abbrev mJ9_abs_0f7a4 : Mi := (yJ9_abs_0f7a4, cJ9_abs_0f7a4, 1, (some .int))
abbrev mJ9_max_7cf53 : Mi := (yJ9_max_7cf53, cJ9_max_7cf53, 2, (some .int))
abbrev mJ9_min_7cf53 : Mi := (yJ9_min_7cf53, cJ9_min_7cf53, 2, (some .int))
abbrev mX0_become : Mi := (yX0_become, cX0_become, 2, none)
abbrev mX0_burnTo : Mi := (yX0_burnTo, cX0_burnTo, 4, (some .boolean))
abbrev mX0_init : Mi := (yX0_init, cX0_init, 1, none)
abbrev mX0_isLit : Mi := (yX0_isLit, cX0_isLit, 1, (some .boolean))
abbrev mX0_isOf : Mi := (yX0_isOf, cX0_isOf, 2, (some .boolean))
abbrev mX0_light : Mi := (yX0_light, cX0_light, 5, none)
abbrev mX0_paceFrom : Mi := (yX0_paceFrom, cX0_paceFrom, 2, (some .int))
abbrev mX0_turnedFrom : Mi := (yX0_turnedFrom, cX0_turnedFrom, 3, (some .int))
abbrev mX0_wayTo : Mi := (yX0_wayTo, cX0_wayTo, 3, (some .int))
abbrev mX0_worth : Mi := (yX0_worth, cX0_worth, 1, (some .int))
abbrev mX1_addLeaf : Mi := (yX1_addLeaf, cX1_addLeaf, 3, (some .int))
abbrev mX1_addStep : Mi := (yX1_addStep, cX1_addStep, 4, (some .int))
abbrev mX1_begin : Mi := (yX1_begin, cX1_begin, 2, none)
abbrev mX1_gives : Mi := (yX1_gives, cX1_gives, 7, (some .int))
abbrev mX1_init : Mi := (yX1_init, cX1_init, 1, none)
abbrev mX1_put : Mi := (yX1_put, cX1_put, 4, (some .int))
abbrev mX1_work : Mi := (yX1_work, cX1_work, 3, (some .int))
abbrev mX2_agrees : Mi := (yX2_agrees, cX2_agrees, 2, (some .boolean))
abbrev mX2_arc : Mi := (yX2_arc, cX2_arc, 3, (some .int))
abbrev mX2_beatsAs : Mi := (yX2_beatsAs, cX2_beatsAs, 3, (some .boolean))
abbrev mX2_become : Mi := (yX2_become, cX2_become, 3, none)
abbrev mX2_draw : Mi := (yX2_draw, cX2_draw, 1, (some .int))
abbrev mX2_drawOne : Mi := (yX2_drawOne, cX2_drawOne, 7, none)
abbrev mX2_gapsAbove : Mi := (yX2_gapsAbove, cX2_gapsAbove, 4, (some .int))
abbrev mX2_goBy : Mi := (yX2_goBy, cX2_goBy, 3, (some .int))
abbrev mX2_hasGlass : Mi := (yX2_hasGlass, cX2_hasGlass, 3, (some .boolean))
abbrev mX2_init : Mi := (yX2_init, cX2_init, 3, none)
abbrev mX2_isFirstOfPhase : Mi := (yX2_isFirstOfPhase, cX2_isFirstOfPhase, 3, (some .boolean))
abbrev mX2_lawFor : Mi := (yX2_lawFor, cX2_lawFor, 3, (some (.object "CandleTurns$Law")))
abbrev mX2_lightOne : Mi := (yX2_lightOne, cX2_lightOne, 5, (some .int))
abbrev mX2_litFrom : Mi := (yX2_litFrom, cX2_litFrom, 3, (some .int))
abbrev mX2_litMany : Mi := (yX2_litMany, cX2_litMany, 3, (some .int))
abbrev mX2_nextOf : Mi := (yX2_nextOf, cX2_nextOf, 4, (some .int))
abbrev mX2_paceOf : Mi := (yX2_paceOf, cX2_paceOf, 5, (some .int))
abbrev mX2_pushBy : Mi := (yX2_pushBy, cX2_pushBy, 8, (some .int))
abbrev mX2_pushesOn : Mi := (yX2_pushesOn, cX2_pushesOn, 4, (some .int))
abbrev mX2_putGlass : Mi := (yX2_putGlass, cX2_putGlass, 6, none)
abbrev mX2_stepFrom : Mi := (yX2_stepFrom, cX2_stepFrom, 5, (some .int))
abbrev mX2_windOn : Mi := (yX2_windOn, cX2_windOn, 3, (some .int))
abbrev mX3_become : Mi := (yX3_become, cX3_become, 3, none)
abbrev mX3_begin : Mi := (yX3_begin, cX3_begin, 4, none)
abbrev mX3_has : Mi := (yX3_has, cX3_has, 2, (some .boolean))
abbrev mX3_hasRun : Mi := (yX3_hasRun, cX3_hasRun, 3, (some .boolean))
abbrev mX3_init : Mi := (yX3_init, cX3_init, 1, none)
abbrev mX3_isMissing : Mi := (yX3_isMissing, cX3_isMissing, 1, (some .boolean))
abbrev mX4_init : Mi := (yX4_init, cX4_init, 1, none)
abbrev mX5_addFour : Mi := (yX5_addFour, cX5_addFour, 3, none)
abbrev mX5_advance : Mi := (yX5_advance, cX5_advance, 4, none)
abbrev mX5_bracket : Mi := (yX5_bracket, cX5_bracket, 4, (some .int))
abbrev mX5_chain : Mi := (yX5_chain, cX5_chain, 9, (some .int))
abbrev mX5_fail : Mi := (yX5_fail, cX5_fail, 1, (some .int))
abbrev mX5_faultOf : Mi := (yX5_faultOf, cX5_faultOf, 3, (some .int))
abbrev mX5_init : Mi := (yX5_init, cX5_init, 1, none)
abbrev mX5_keyOfWord : Mi := (yX5_keyOfWord, cX5_keyOfWord, 4, (some .int))
abbrev mX5_levelOf : Mi := (yX5_levelOf, cX5_levelOf, 1, (some .int))
abbrev mX5_name : Mi := (yX5_name, cX5_name, 3, (some .int))
abbrev mX5_number : Mi := (yX5_number, cX5_number, 3, (some .int))
abbrev mX5_piece : Mi := (yX5_piece, cX5_piece, 4, (some .int))
abbrev mX5_sortAt : Mi := (yX5_sortAt, cX5_sortAt, 3, (some .int))
abbrev mX6_ahead : Mi := (yX6_ahead, cX6_ahead, 3, (some .int))
abbrev mX6_arcFrom : Mi := (yX6_arcFrom, cX6_arcFrom, 5, (some .int))
abbrev mX6_as : Mi := (yX6_as, cX6_as, 4, (some .int))
abbrev mX6_ask : Mi := (yX6_ask, cX6_ask, 4, (some .int))
abbrev mX6_back : Mi := (yX6_back, cX6_back, 1, (some .int))
abbrev mX6_basin : Mi := (yX6_basin, cX6_basin, 7, (some .int))
abbrev mX6_check : Mi := (yX6_check, cX6_check, 5, (some .int))
abbrev mX6_copy : Mi := (yX6_copy, cX6_copy, 8, (some .int))
abbrev mX6_count : Mi := (yX6_count, cX6_count, 2, (some .int))
abbrev mX6_deal : Mi := (yX6_deal, cX6_deal, 4, (some .int))
abbrev mX6_feed : Mi := (yX6_feed, cX6_feed, 4, (some .int))
abbrev mX6_film : Mi := (yX6_film, cX6_film, 4, (some .int))
abbrev mX6_flame : Mi := (yX6_flame, cX6_flame, 4, (some .int))
abbrev mX6_glass : Mi := (yX6_glass, cX6_glass, 5, (some .int))
abbrev mX6_groups : Mi := (yX6_groups, cX6_groups, 2, (some .int))
abbrev mX6_held : Mi := (yX6_held, cX6_held, 3, (some .int))
abbrev mX6_hitsWith : Mi := (yX6_hitsWith, cX6_hitsWith, 6, (some .int))
abbrev mX6_init : Mi := (yX6_init, cX6_init, 3, none)
abbrev mX6_isFlame : Mi := (yX6_isFlame, cX6_isFlame, 2, (some .boolean))
abbrev mX6_isKind : Mi := (yX6_isKind, cX6_isKind, 1, (some .boolean))
abbrev mX6_isOnBoard : Mi := (yX6_isOnBoard, cX6_isOnBoard, 2, (some .boolean))
abbrev mX6_isPair : Mi := (yX6_isPair, cX6_isPair, 3, (some .boolean))
abbrev mX6_isPhase : Mi := (yX6_isPhase, cX6_isPhase, 1, (some .boolean))
abbrev mX6_isPlace : Mi := (yX6_isPlace, cX6_isPlace, 1, (some .boolean))
abbrev mX6_isSheet : Mi := (yX6_isSheet, cX6_isSheet, 1, (some .boolean))
abbrev mX6_isSlot : Mi := (yX6_isSlot, cX6_isSlot, 1, (some .boolean))
abbrev mX6_isWithin : Mi := (yX6_isWithin, cX6_isWithin, 3, (some .boolean))
abbrev mX6_item : Mi := (yX6_item, cX6_item, 4, (some .int))
abbrev mX6_keep : Mi := (yX6_keep, cX6_keep, 1, (some .int))
abbrev mX6_lay : Mi := (yX6_lay, cX6_lay, 7, (some .int))
abbrev mX6_learn : Mi := (yX6_learn, cX6_learn, 8, (some .int))
abbrev mX6_mark : Mi := (yX6_mark, cX6_mark, 5, (some .int))
abbrev mX6_move : Mi := (yX6_move, cX6_move, 7, (some .int))
abbrev mX6_period : Mi := (yX6_period, cX6_period, 2, (some .int))
abbrev mX6_pour : Mi := (yX6_pour, cX6_pour, 6, (some .int))
abbrev mX6_push : Mi := (yX6_push, cX6_push, 3, (some .int))
abbrev mX6_quiet : Mi := (yX6_quiet, cX6_quiet, 9, (some .int))
abbrev mX6_reach : Mi := (yX6_reach, cX6_reach, 4, (some .int))
abbrev mX6_reads : Mi := (yX6_reads, cX6_reads, 5, (some .int))
abbrev mX6_rest : Mi := (yX6_rest, cX6_rest, 4, (some .int))
abbrev mX6_run : Mi := (yX6_run, cX6_run, 4, (some .int))
abbrev mX6_seed : Mi := (yX6_seed, cX6_seed, 3, (some .int))
abbrev mX6_set : Mi := (yX6_set, cX6_set, 6, (some .int))
abbrev mX6_sheet : Mi := (yX6_sheet, cX6_sheet, 5, (some .int))
abbrev mX6_soon : Mi := (yX6_soon, cX6_soon, 3, (some .int))
abbrev mX6_spread : Mi := (yX6_spread, cX6_spread, 1, (some .int))
abbrev mX6_tell : Mi := (yX6_tell, cX6_tell, 2, (some .int))
abbrev mX6_text : Mi := (yX6_text, cX6_text, 4, (some .int))
abbrev mX6_textTold : Mi := (yX6_textTold, cX6_textTold, 3, (some .int))
abbrev mX6_told : Mi := (yX6_told, cX6_told, 4, (some .int))
abbrev mX6_trim : Mi := (yX6_trim, cX6_trim, 2, (some .int))
abbrev mX6_turns : Mi := (yX6_turns, cX6_turns, 5, (some .int))
abbrev mX6_why : Mi := (yX6_why, cX6_why, 2, (some .int))
abbrev mX7_ahead : Mi := (yX7_ahead, cX7_ahead, 3, (some .int))
abbrev mX7_as : Mi := (yX7_as, cX7_as, 3, (some .int))
abbrev mX7_ask : Mi := (yX7_ask, cX7_ask, 3, (some .int))
abbrev mX7_back : Mi := (yX7_back, cX7_back, 1, (some .int))
abbrev mX7_basin : Mi := (yX7_basin, cX7_basin, 7, (some .int))
abbrev mX7_becomes : Mi := (yX7_becomes, cX7_becomes, 4, (some .int))
abbrev mX7_both : Mi := (yX7_both, cX7_both, 2, (some .boolean))
abbrev mX7_check : Mi := (yX7_check, cX7_check, 4, (some .int))
abbrev mX7_comes : Mi := (yX7_comes, cX7_comes, 7, none)
abbrev mX7_copy : Mi := (yX7_copy, cX7_copy, 7, (some .int))
abbrev mX7_count : Mi := (yX7_count, cX7_count, 2, (some .int))
abbrev mX7_counts : Mi := (yX7_counts, cX7_counts, 4, (some .int))
abbrev mX7_deal : Mi := (yX7_deal, cX7_deal, 7, (some .int))
abbrev mX7_drawn : Mi := (yX7_drawn, cX7_drawn, 1, (some .int))
abbrev mX7_either : Mi := (yX7_either, cX7_either, 2, (some .boolean))
abbrev mX7_feed : Mi := (yX7_feed, cX7_feed, 6, (some .int))
abbrev mX7_film : Mi := (yX7_film, cX7_film, 4, (some .int))
abbrev mX7_findSteps : Mi := (yX7_findSteps, cX7_findSteps, 5, (some .boolean))
abbrev mX7_flame : Mi := (yX7_flame, cX7_flame, 4, (some .int))
abbrev mX7_flameAt : Mi := (yX7_flameAt, cX7_flameAt, 2, (some .int))
abbrev mX7_glass : Mi := (yX7_glass, cX7_glass, 5, (some .int))
abbrev mX7_groups : Mi := (yX7_groups, cX7_groups, 2, (some .int))
abbrev mX7_init : Mi := (yX7_init, cX7_init, 2, none)
abbrev mX7_isAsLaidBy : Mi := (yX7_isAsLaidBy, cX7_isAsLaidBy, 3, (some .boolean))
abbrev mX7_isBound : Mi := (yX7_isBound, cX7_isBound, 1, (some .boolean))
abbrev mX7_isDigit : Mi := (yX7_isDigit, cX7_isDigit, 2, (some .boolean))
abbrev mX7_isFlame : Mi := (yX7_isFlame, cX7_isFlame, 2, (some .boolean))
abbrev mX7_isIn : Mi := (yX7_isIn, cX7_isIn, 6, (some .boolean))
abbrev mX7_isLetter : Mi := (yX7_isLetter, cX7_isLetter, 2, (some .boolean))
abbrev mX7_isLit : Mi := (yX7_isLit, cX7_isLit, 2, (some .boolean))
abbrev mX7_isName : Mi := (yX7_isName, cX7_isName, 2, (some .boolean))
abbrev mX7_isOf : Mi := (yX7_isOf, cX7_isOf, 2, (some .boolean))
abbrev mX7_isPlace : Mi := (yX7_isPlace, cX7_isPlace, 1, (some .boolean))
abbrev mX7_isSheet : Mi := (yX7_isSheet, cX7_isSheet, 1, (some .boolean))
abbrev mX7_isSign : Mi := (yX7_isSign, cX7_isSign, 2, (some .boolean))
abbrev mX7_isSlot : Mi := (yX7_isSlot, cX7_isSlot, 1, (some .boolean))
abbrev mX7_isText : Mi := (yX7_isText, cX7_isText, 2, (some .boolean))
abbrev mX7_isWordAt : Mi := (yX7_isWordAt, cX7_isWordAt, 6, (some .boolean))
abbrev mX7_item : Mi := (yX7_item, cX7_item, 4, (some .int))
abbrev mX7_joined : Mi := (yX7_joined, cX7_joined, 3, (some .int))
abbrev mX7_keep : Mi := (yX7_keep, cX7_keep, 1, (some .int))
abbrev mX7_key : Mi := (yX7_key, cX7_key, 1, (some .int))
abbrev mX7_lay : Mi := (yX7_lay, cX7_lay, 7, (some .int))
abbrev mX7_laysBack : Mi := (yX7_laysBack, cX7_laysBack, 2, none)
abbrev mX7_laysBy : Mi := (yX7_laysBy, cX7_laysBy, 2, none)
abbrev mX7_learn : Mi := (yX7_learn, cX7_learn, 9, (some .int))
abbrev mX7_litBehind : Mi := (yX7_litBehind, cX7_litBehind, 3, (some .int))
abbrev mX7_litMany : Mi := (yX7_litMany, cX7_litMany, 3, (some .int))
abbrev mX7_mark : Mi := (yX7_mark, cX7_mark, 4, (some .int))
abbrev mX7_move : Mi := (yX7_move, cX7_move, 5, (some .int))
abbrev mX7_nextToken : Mi := (yX7_nextToken, cX7_nextToken, 3, none)
abbrev mX7_of : Mi := (yX7_of, cX7_of, 3, (some .int))
abbrev mX7_off : Mi := (yX7_off, cX7_off, 2, (some .int))
abbrev mX7_orNone : Mi := (yX7_orNone, cX7_orNone, 1, (some .int))
abbrev mX7_pace : Mi := (yX7_pace, cX7_pace, 5, (some .int))
abbrev mX7_parse : Mi := (yX7_parse, cX7_parse, 3, (some .int))
abbrev mX7_part0 : Mi := (yX7_part0, cX7_part0, 2, (some .boolean))
abbrev mX7_period : Mi := (yX7_period, cX7_period, 3, (some .int))
abbrev mX7_pour : Mi := (yX7_pour, cX7_pour, 6, (some .int))
abbrev mX7_push : Mi := (yX7_push, cX7_push, 3, (some .int))
abbrev mX7_pushOf : Mi := (yX7_pushOf, cX7_pushOf, 6, (some .int))
abbrev mX7_pushes : Mi := (yX7_pushes, cX7_pushes, 4, (some .int))
abbrev mX7_quiet : Mi := (yX7_quiet, cX7_quiet, 12, (some .int))
abbrev mX7_reach : Mi := (yX7_reach, cX7_reach, 3, (some .int))
abbrev mX7_reads : Mi := (yX7_reads, cX7_reads, 4, (some .int))
abbrev mX7_rest : Mi := (yX7_rest, cX7_rest, 3, (some .int))
abbrev mX7_run : Mi := (yX7_run, cX7_run, 4, (some .int))
abbrev mX7_seed : Mi := (yX7_seed, cX7_seed, 2, (some .int))
abbrev mX7_set : Mi := (yX7_set, cX7_set, 5, (some .int))
abbrev mX7_setAside : Mi := (yX7_setAside, cX7_setAside, 4, none)
abbrev mX7_sheet : Mi := (yX7_sheet, cX7_sheet, 5, (some .int))
abbrev mX7_soon : Mi := (yX7_soon, cX7_soon, 4, (some .int))
abbrev mX7_spread : Mi := (yX7_spread, cX7_spread, 1, (some .int))
abbrev mX7_spreadNow : Mi := (yX7_spreadNow, cX7_spreadNow, 1, (some .int))
abbrev mX7_step : Mi := (yX7_step, cX7_step, 3, none)
abbrev mX7_sum : Mi := (yX7_sum, cX7_sum, 3, (some .boolean))
abbrev mX7_tell : Mi := (yX7_tell, cX7_tell, 2, (some .int))
abbrev mX7_term : Mi := (yX7_term, cX7_term, 3, (some .boolean))
abbrev mX7_test : Mi := (yX7_test, cX7_test, 3, (some .boolean))
abbrev mX7_text : Mi := (yX7_text, cX7_text, 3, (some .int))
abbrev mX7_textAt : Mi := (yX7_textAt, cX7_textAt, 2, (some .int))
abbrev mX7_textTold : Mi := (yX7_textTold, cX7_textTold, 3, (some .int))
abbrev mX7_ticks : Mi := (yX7_ticks, cX7_ticks, 7, (some .int))
abbrev mX7_ticksMany : Mi := (yX7_ticksMany, cX7_ticksMany, 4, none)
abbrev mX7_told : Mi := (yX7_told, cX7_told, 3, (some .int))
abbrev mX7_trim : Mi := (yX7_trim, cX7_trim, 2, (some .int))
abbrev mX7_turned : Mi := (yX7_turned, cX7_turned, 3, (some .int))
abbrev mX7_turns : Mi := (yX7_turns, cX7_turns, 3, (some .int))
abbrev mX7_why : Mi := (yX7_why, cX7_why, 2, (some .int))
abbrev mX7_wind : Mi := (yX7_wind, cX7_wind, 3, (some .int))
abbrev mX7_within : Mi := (yX7_within, cX7_within, 3, (some .int))
abbrev mX7_worked : Mi := (yX7_worked, cX7_worked, 6, (some .int))
abbrev mX7_worth : Mi := (yX7_worth, cX7_worth, 3, (some .int))
end
section
/-! the flat memory: cells by numbers, ints and references apart -/
abbrev ctM : Type := (Nat → Nat → Int32) × (Nat → Nat → Option Nat)
abbrev ctB : Type := Launch × va_G × (Nat → ClassId) × Nat × Nat × (Nat → Nat) × (Nat → Nat) × (Nat → Nat) × (Nat → Nat) × Bool
abbrev bL (B : ctB) : Launch := B.1
abbrev bD (B : ctB) : va_G := B.2.1
abbrev bC (B : ctB) : Nat → ClassId := B.2.2.1
abbrev bLo (B : ctB) : Nat := B.2.2.2.1
abbrev bHi (B : ctB) : Nat := B.2.2.2.2.1
abbrev bKd (B : ctB) : Nat → Nat := B.2.2.2.2.2.1
abbrev bLn (B : ctB) : Nat → Nat := B.2.2.2.2.2.2.1
abbrev bK (B : ctB) : Nat → Nat := B.2.2.2.2.2.2.2.1
abbrev bV (B : ctB) : Nat → Nat := B.2.2.2.2.2.2.2.2.1
abbrev bF (B : ctB) : Bool := B.2.2.2.2.2.2.2.2.2
def bAd (B : ctB) (a : Nat) : Nat := if a < 1000 then bLo B + a else a - 1000
def ctv (B : ctB) (v : Value) : Value := match v with
  | .ref a => .ref (bAd B a)
  | v => v
theorem ctv_cat (B : ctB) (v : Value) : (ctv B v).category = v.category := by cases v <;> rfl
theorem ctv_cats (B : ctB) (l : List Value) : ((l.map (ctv B)).map fun v => v.category) = (l.map fun v => v.category) := by
  rw [List.map_map]
  exact List.map_congr_left fun v _ => ctv_cat B v
def ctR : Nat → String
  | 0 => RX0 | 1 => RX1 | 2 => RX2 | 3 => RX3 | 4 => RX4 | 5 => RX5 | 6 => RX6 | _ => RX7
def ctT : Nat → u_T
  | 0 => TX0 | 1 => TX1 | 2 => TX2 | 3 => TX3 | 4 => TX4 | 5 => TX5 | 6 => TX6 | _ => TX7
def ctN : Nat → Nat
  | 0 => 7 | 1 => 7 | 2 => 11 | 3 => 3 | 4 => 4 | 5 => 7 | 6 => 10 | _ => 35
def ctY : Nat → Nat → FieldType
  | 0 => tyX0 | 1 => tyX1 | 2 => tyX2 | 3 => tyX3 | 4 => tyX4 | 5 => tyX5 | 6 => tyX6 | _ => tyX7
def ctQ (c k : Nat) : Bool := match ctY c k with
  | .object _ => true
  | .array _ => true
  | _ => false
abbrev ctL : List vw_C := [(RX0, TX0, 7), (RX1, TX1, 7), (RX2, TX2, 11), (RX3, TX3, 3), (RX4, TX4, 4), (RX5, TX5, 7), (RX6, TX6, 10), (RX7, TX7, 35)]
theorem ct_at {c : Nat} (h : c < 8) : ctL[c]? = some (ctR c, ctT c, ctN c) := by
  rcases (show c = 0 ∨ c = 1 ∨ c = 2 ∨ c = 3 ∨ c = 4 ∨ c = 5 ∨ c = 6 ∨ c = 7 by omega) with rfl | rfl | rfl | rfl | rfl | rfl | rfl | rfl <;> rfl
theorem ct_ty {c : Nat} (h : c < 8) : ∀ k, k < ctN c → parseFieldDescriptor (ctT c k).2.2.1 = some (ctY c k) := by
  rcases (show c = 0 ∨ c = 1 ∨ c = 2 ∨ c = 3 ∨ c = 4 ∨ c = 5 ∨ c = 6 ∨ c = 7 by omega) with rfl | rfl | rfl | rfl | rfl | rfl | rfl | rfl
  · exact tyX0_ok
  · exact tyX1_ok
  · exact tyX2_ok
  · exact tyX3_ok
  · exact tyX4_ok
  · exact tyX5_ok
  · exact tyX6_ok
  · exact tyX7_ok
theorem ct_nm {c : Nat} (h : c < 8) : ∀ a, a < ctN c → ∀ b, b < ctN c → a ≠ b → (ctT c a).2.1 ≠ (ctT c b).2.1 := by
  rcases (show c = 0 ∨ c = 1 ∨ c = 2 ∨ c = 3 ∨ c = 4 ∨ c = 5 ∨ c = 6 ∨ c = 7 by omega) with rfl | rfl | rfl | rfl | rfl | rfl | rfl | rfl
  · exact nmX0
  · exact nmX1
  · exact nmX2
  · exact nmX3
  · exact nmX4
  · exact nmX5
  · exact nmX6
  · exact nmX7
def ctG : List Cond := lw_tbl.filter goodWord
theorem ctG_in {w : Cond} (i : Nat) (h : lw_tbl[i]? = some w) (hg : goodWord w = true) : w ∈ ctG := List.mem_filter.mpr ⟨List.mem_of_getElem? h, hg⟩
theorem ctG_good : ∀ w ∈ ctG, goodWord w = true := fun w h => (List.mem_filter.mp h).2
def ctNl : Cond → Bool
  | .methodLinkNest _ _ _ _ => true
  | _ => false
def ctNw : List Cond := lw_tbl.filter ctNl
theorem ctNw_in {w : Cond} (i : Nat) (h : lw_tbl[i]? = some w) (hg : ctNl w = true) : w ∈ ctNw := List.mem_filter.mpr ⟨List.mem_of_getElem? h, hg⟩
set_option maxRecDepth 100000 in
theorem ct_in0 : ∀ w ∈ u_ws RX0 TX0 7, w ∈ ctG := by decide +kernel
set_option maxRecDepth 100000 in
theorem ct_in1 : ∀ w ∈ u_ws RX1 TX1 7, w ∈ ctG := by decide +kernel
set_option maxRecDepth 100000 in
theorem ct_in2 : ∀ w ∈ u_ws RX2 TX2 11, w ∈ ctG := by decide +kernel
set_option maxRecDepth 100000 in
theorem ct_in3 : ∀ w ∈ u_ws RX3 TX3 3, w ∈ ctG := by decide +kernel
set_option maxRecDepth 100000 in
theorem ct_in4 : ∀ w ∈ u_ws RX4 TX4 4, w ∈ ctG := by decide +kernel
set_option maxRecDepth 100000 in
theorem ct_in5 : ∀ w ∈ u_ws RX5 TX5 7, w ∈ ctG := by decide +kernel
set_option maxRecDepth 100000 in
theorem ct_in6 : ∀ w ∈ u_ws RX6 TX6 10, w ∈ ctG := by decide +kernel
set_option maxRecDepth 100000 in
theorem ct_in7 : ∀ w ∈ u_ws RX7 TX7 35, w ∈ ctG := by decide +kernel
theorem ct_in {c : Nat} (h : c < 8) : ∀ w ∈ u_ws (ctR c) (ctT c) (ctN c), w ∈ ctG := by
  rcases (show c = 0 ∨ c = 1 ∨ c = 2 ∨ c = 3 ∨ c = 4 ∨ c = 5 ∨ c = 6 ∨ c = 7 by omega) with rfl | rfl | rfl | rfl | rfl | rfl | rfl | rfl
  · exact ct_in0
  · exact ct_in1
  · exact ct_in2
  · exact ct_in3
  · exact ct_in4
  · exact ct_in5
  · exact ct_in6
  · exact ct_in7
def ctF (B : ctB) (M : ctM) (a c : Nat) : List Value := (List.range (ctN c)).map (fun k => if ctQ c k = true then va_rf ((M.2 a k).map (bAd B)) else .int (M.1 a k))
def ctE (B : ctB) (M : ctM) (a : Nat) : va_E := if bKd B a < 8 then .inr (bKd B a, ctF B M a (bKd B a)) else if bKd B a < 11 then .inl (bC B (bKd B a), bLn B a, .inl (M.1 a)) else .inl (bC B (bKd B a), bLn B a, .inr (.inr (.inr (.inr (fun j => (M.2 a j).map (bAd B))))))
def ctW (B : ctB) (n : Nat) (M : ctM) : va_W := (List.range n).map (fun a => (bLo B + a, ctE B M a))
theorem ctW_at {B : ctB} {n a : Nat} {M : ctM} (h : a < n) : (ctW B n M)[a]? = some (bLo B + a, ctE B M a) := by
  simp [ctW, h]
def ctA (B : ctB) : Nat → Prop := fun q => bLo B ≤ q ∧ q < bHi B
def ctH (B : ctB) (n : Nat) (M : ctM) (H : Heap) : Prop := va_P (bD B) ctL (ctW B n M) H ∧ bLo B + n ≤ bHi B ∧ n ≤ 1000 ∧ (bF B = true → H.size = bLo B + n)
theorem ctD {B : ctB} {n : Nat} {M : ctM} (h : bLo B + n ≤ bHi B) : va_D (ctA B) (ctW B n M) := by
  have key : ∀ (i : Nat) (p : Nat × va_E), (ctW B n M)[i]? = some p → i < n ∧ p.1 = bLo B + i := by
    intro i p hp
    have hl : i < n := by
      have := (List.getElem?_eq_some_iff.mp hp).1
      simpa [ctW] using this
    rw [ctW_at hl] at hp
    cases hp
    exact ⟨hl, rfl⟩
  refine ⟨fun i j p q hi hj e => ?_, fun k q hk => ?_⟩
  · have h1 := (key i p hi).2
    have h2 := (key j q hj).2
    omega
  · have h1 := key k q hk
    exact ⟨by omega, by omega⟩
/-- writing an int, a reference -/
def ctI (M : ctM) (a k : Nat) (v : Int32) : ctM := (va_up M.1 a (va_up (M.1 a) k v), M.2)
def ctP (M : ctM) (a k : Nat) (r : Option Nat) : ctM := (M.1, va_up M.2 a (va_up (M.2 a) k r))
theorem ctE_neI {B : ctB} {M : ctM} {a k b : Nat} {v : Int32} (h : b ≠ a) : ctE B (ctI M a k v) b = ctE B M b := by
  have e : (ctI M a k v).1 b = M.1 b := by simp [ctI, va_up, h]
  simp only [ctE, ctF, e]
  rfl
theorem ctE_neP {B : ctB} {M : ctM} {a k b : Nat} {r : Option Nat} (h : b ≠ a) : ctE B (ctP M a k r) b = ctE B M b := by
  have e : (ctP M a k r).2 b = M.2 b := by simp [ctP, va_up, h]
  simp only [ctE, ctF, e]
  rfl
theorem ctW_set {B : ctB} {n a : Nat} {M M' : ctM} {x : va_E} (h : a < n) (hx : ctE B M' a = x) (ho : ∀ b, b ≠ a → ctE B M' b = ctE B M b) : (ctW B n M).set a (bLo B + a, x) = ctW B n M' := by
  apply List.ext_getElem?
  intro i
  by_cases hi : i < n
  · by_cases hia : i = a
    · subst hia
      rw [List.getElem?_set_self (by simp [ctW]; exact h), ctW_at h, hx]
    · rw [List.getElem?_set_ne (Ne.symm hia), ctW_at hi, ctW_at hi, ho i hia]
  · rw [List.getElem?_eq_none (by simp [ctW]; omega), List.getElem?_eq_none (by simp [ctW]; omega)]
theorem ctF_len {B : ctB} {M : ctM} {a c : Nat} : (ctF B M a c).length = ctN c := by simp [ctF]
theorem ctF_at {B : ctB} {M : ctM} {a c k : Nat} (h : k < ctN c) : (ctF B M a c)[k]? = some (if ctQ c k = true then va_rf ((M.2 a k).map (bAd B)) else .int (M.1 a k)) := by
  simp [ctF, h]
theorem ctF_setI {B : ctB} {M : ctM} {a c k : Nat} {v : Int32} (h : k < ctN c) (hq : ctQ c k = false) : (ctF B M a c).set k (.int v) = ctF B (ctI M a k v) a c := by
  apply List.ext_getElem?
  intro i
  by_cases hi : i < ctN c
  · rw [ctF_at hi]
    by_cases hik : i = k
    · subst hik
      rw [List.getElem?_set_self (by rw [ctF_len]; exact h)]
      simp [ctI, va_up, hq]
    · rw [List.getElem?_set_ne (Ne.symm hik), ctF_at hi]
      simp [ctI, va_up, hik]
  · rw [List.getElem?_eq_none (by rw [List.length_set, ctF_len]; omega), List.getElem?_eq_none (by rw [ctF_len]; omega)]
theorem ctF_setP {B : ctB} {M : ctM} {a c k : Nat} {r : Option Nat} (h : k < ctN c) (hq : ctQ c k = true) : (ctF B M a c).set k (va_rf (r.map (bAd B))) = ctF B (ctP M a k r) a c := by
  apply List.ext_getElem?
  intro i
  by_cases hi : i < ctN c
  · rw [ctF_at hi]
    by_cases hik : i = k
    · subst hik
      rw [List.getElem?_set_self (by rw [ctF_len]; exact h)]
      simp [ctP, va_up, hq]
    · rw [List.getElem?_set_ne (Ne.symm hik), ctF_at hi]
      simp [ctP, va_up, hik]
  · rw [List.getElem?_eq_none (by rw [List.length_set, ctF_len]; omega), List.getElem?_eq_none (by rw [ctF_len]; omega)]
def ctTy (B : ctB) : List (ClassId × FieldType) := [(bC B 8, .byte), (bC B 9, .int), (bC B 10, .boolean), (bC B 11, .object RX0), (bC B 12, .object RX1), (bC B 13, .object RX3), (bC B 14, .object RX4)]
def ctSL : List Nat := [12, 9]
def ctSB : List (List Int32) := [[112, 97, 99, 101, 106, 111, 105, 110, 119, 105, 110, 100], [115, 110, 46, 100, 112, 115, 116, 110, 46]]
def ctS (B : ctB) (U : State) (H : Heap) : Prop := vk_S 2 ctSL ctSB (bK B) (bV B) (ctA B) U H ∧ vk_R RX5 64 "pacejoinwind" (bK B 0) U ∧ vk_R RX5 94 "sn.dpstn." (bK B 1) U ∧ va_Z RJ0 "COMPACT_STRINGS" "Z" (.int 1) (ctA B) U H ∧ va_Zq RJ3 "SIOOBE_FORMATTER" "Ljava/util/function/BiFunction;" (ctA B) U H
def ctK (B : ctB) (U : State) : Prop := va_K (bD B) ctL (ctTy B) U ∧ (∀ w ∈ ctNw, va_Nw w U) ∧ ctS B U U.heap ∧ (va_AO RX0 U ∧ va_AO RX1 U ∧ va_AO RX3 U ∧ va_AO RX4 U)
theorem ctK_same {B : ctB} {u U : State} (hv : u.vm = U.vm) (hh : u.heap = U.heap) (h : ctK B u) : ctK B U := by
  have hal : u.vm.Alike U.vm := by rw [hv]; exact Vm.Alike.refl _
  obtain ⟨h1, h2, ⟨h3, h4, h5, h6, h7⟩, o1, o2, o3, o4⟩ := h
  refine ⟨va_K.moved hal h1, fun w hw => ?_, ⟨?_, vk_R.same hv.symm h4, vk_R.same hv.symm h5, ?_, ?_⟩, o1.moved hal, o2.moved hal, o3.moved hal, o4.moved hal⟩
  · have hn := (List.mem_filter.mp hw).2
    cases w <;> first | exact va_Nw.same rfl hv (h2 _ hw) | cases hn
  · rw [← hh]; exact h3.moved hal
  · rw [← hh]; exact h6.moved hal
  · rw [← hh]; exact h7.moved hal
theorem ctK_moved {B : ctB} {s U : State} {H : Heap} {locs : List Loc} (h : ctK B s) (hS : va_S (ctA B) s.heap H locs) (hU : U.heap = H) (hW : s.WarmedH U.vm) : ctK B U := by
  have hal := hW.alike
  obtain ⟨h1, h2, ⟨h3, h4, h5, h6, h7⟩, o1, o2, o3, o4⟩ := h
  refine ⟨va_K.moved hal h1, fun w hw => ?_, ⟨?_, h4.warm hW, h5.warm hW, ?_, ?_⟩, o1.moved hal, o2.moved hal, o3.moved hal, o4.moved hal⟩
  · have hn := (List.mem_filter.mp hw).2
    cases w <;> first | exact va_Nw.warmM hW (h2 _ hw) | cases hn
  · rw [hU]; exact (h3.moved hal).kept hS.2.1
  · rw [hU]; exact (h6.moved hal).kept hS.2.1
  · rw [hU]; exact (h7.moved hal).kept hS.2.1
def ctRm (R : Nat × Nat × Nat) : Room := { frames := R.1, cells := R.2.1, slots := R.2.2, locals := 40 * R.1 }
def ctLs (B : ctB) (nL : Nat) (ls : Array Slot) (L : List (Option Value)) : Prop := ls.size = nL ∧ lv_wf ls ∧ ∀ (i : Nat) (v : Value), L[i]? = some (some v) → ls[i]? = some (.val (ctv B v))
def ctCx (B : ctB) (μ : Mi) (p : Program) (s : State) (m : MethodId) (args : Array Value) (meth : Method) (c : Code) : Prop :=
  p.tables.exec = Jvm.exec ∧ c.code = μ.2.1 ∧ c.maxLocals = μ.2.2.1 ∧ s.vm.findClass μ.1.cls = some m.cls ∧ (∀ w ∈ ctG, w.before args s = true) ∧ ctK B s ∧ meth.sig.returnType = μ.2.2.2 ∧ meth.locks = false ∧ meth.name = μ.1.name
abbrev ctPost : Type := Option Value → Nat → ctM → Prop
def ctQp (B : ctB) (post : ctPost) : Array Value → State → Outcome → State → Prop := fun _ st oc t => (∃ (v : Option Value) (n : Nat) (M : ctM), oc = .returned (v.map (ctv B)) ∧ post v n M ∧ ctH B n M t.heap) ∧ va_F (ctA B) st t
def ctV (B : ctB) (μ : Mi) (R : Nat × Nat × Nat) (post : ctPost) (pc : Nat) (L : List (Option Value)) (st : List Value) (cs : Nat × Nat) (n : Nat) (M : ctM) : Prop :=
  ∀ (p : Program) (e : Env) (s : State) (m : MethodId) (args : Array Value) (below : List Frame) (meth : Method) (c : Code) (H : Heap) (locs : List Loc) (ls : Array Slot),
    ctCx B μ p s m args meth c → ctH B n M H → va_S (ctA B) s.heap H locs → ctLs B μ.2.2.1 ls L →
    W p (bL B) e (ctRm R) s m args below meth c H locs cs.1 cs.2 (MQ below (ctQp B post) args s R.2.1 R.2.2 (ctA B)) (F0 m pc ls (st.map (ctv B)))
/-- a method's contract -/
def ctC (B : ctB) (μ : Mi) (R : Nat × Nat × Nat) (args : List Value) (n : Nat) (M : ctM) (post : ctPost) : Prop :=
  Met (bL B) μ.1 (Cond.code μ.1 μ.2.1 μ.2.2.1 μ.2.2.2 :: ctG) (ctRm R) (va_Pc (args.map (ctv B)) (fun U => ctH B n M U.heap ∧ ctK B U)) (ctQp B post) R.2.1 R.2.2 (ctA B)
/-- the locals at the entry -/
def ctEn : Nat → List Value → List (Option Value)
  | n, [] => List.replicate n none
  | n, v :: vs => if v.category = 2 then some v :: none :: ctEn (n - 2) vs else some v :: ctEn (n - 1) vs
theorem ctEn_in (B : ctB) : ∀ (vs : List Value) (n k i : Nat) (v : Value), (ctEn n vs)[i]? = some (some v) → (k + i, ctv B v) ∈ lv_args k (vs.map (ctv B)) := by
  intro vs
  induction vs with
  | nil =>
    intro n k i v h
    have h2 := List.mem_of_getElem? (show (List.replicate n (none : Option Value))[i]? = some (some v) from h)
    exact absurd (List.eq_of_mem_replicate h2) (by simp)
  | cons w vs ih =>
    intro n k i v h
    simp only [ctEn] at h
    simp only [List.map_cons, lv_args, ctv_cat]
    by_cases hw : w.category = 2
    · rw [if_pos hw] at h
      rw [if_pos hw]
      match i, h with
      | 0, h =>
        simp at h
        subst h
        exact List.mem_cons_self
      | 1, h => simp at h
      | i + 2, h =>
        simp only [List.getElem?_cons_succ] at h
        have := ih _ (k + 2) i v h
        rw [show k + 2 + i = k + (i + 2) by omega] at this
        exact List.mem_cons_of_mem _ this
    · rw [if_neg hw] at h
      rw [if_neg hw]
      match i, h with
      | 0, h =>
        simp at h
        subst h
        exact List.mem_cons_self
      | i + 1, h =>
        simp only [List.getElem?_cons_succ] at h
        have := ih _ (k + 1) i v h
        rw [show k + 1 + i = k + (i + 1) by omega] at this
        exact List.mem_cons_of_mem _ this
theorem ct_sl (B : ctB) (vs : List Value) : (lg_sl (vs.map (ctv B))).length = (lg_sl vs).length := by
  induction vs with
  | nil => rfl
  | cons w l ih =>
    have e1 : lg_sl ((w :: l).map (ctv B)) = (if (ctv B w).category = 2 then [.val (ctv B w), .second] else [.val (ctv B w)]) ++ lg_sl (l.map (ctv B)) := rfl
    have e2 : lg_sl (w :: l) = (if w.category = 2 then [.val w, .second] else [.val w]) ++ lg_sl l := rfl
    rw [e1, e2, List.length_append, List.length_append, ih, ctv_cat]
    by_cases hw : w.category = 2 <;> simp [hw]
theorem ctC_of {B : ctB} {μ : Mi} {R : Nat × Nat × Nat} {args : List Value} {n : Nat} {M : ctM} {post : ctPost} (hy : plainName μ.1.cls = true) (hl : (lg_sl args).length ≤ μ.2.2.1)
    (h : ctV B μ R post 0 (ctEn μ.2.2.1 args) [] (0, 0) n M) : ctC B μ R args n M post := by
  refine Met.ofW (cc := μ.2.1) (maxL := μ.2.2.1) (ret := μ.2.2.2) hy rfl ?_
  intro p e s m args' below meth c s₁ Bd hml hv
  obtain ⟨rfl, hH, hK⟩ := hv
  have hts := atoms_spec (ws := Cond.code μ.1 μ.2.1 μ.2.2.1 μ.2.2.2 :: ctG) Bd.pre
  have hl2 := ct_sl B args
  have hls := lv_entry (args.map (ctv B)) (n := μ.2.2.1) (by rw [hl2]; exact hl)
  rw [lg_entry_eq]
  exact h p e s m _ below meth c s.heap [] _ ⟨Bd.exec, Bd.bytes, hml, findClass_of_methodNamed Bd.named, fun w hw => hts w (List.mem_cons_of_mem _ hw), hK, Bd.returns, Bd.notSynchronized, (name_of_methodNamed Bd.named Bd.method).1⟩ hH va_S.rf
    ⟨hls.1, hls.2.1, fun i v hi => by
      have := ctEn_in B args μ.2.2.1 0 i v hi
      rw [Nat.zero_add] at this
      exact hls.2.2 _ this⟩
end
section
section
variable {B : ctB} {μ : Mi} {R : Nat × Nat × Nat} {post : ctPost} {pc q : Nat} {L : List (Option Value)} {st : List Value} {cs : Nat × Nat} {n : Nat} {M : ctM}
theorem it_t {α : Type} {c : Prop} [Decidable c] {a b r : α} (h : (if c then a else b) = r) (hc : c) : a = r := by rw [if_pos hc] at h; exact h
theorem it_f {α : Type} {c : Prop} [Decidable c] {a b r : α} (h : (if c then a else b) = r) (hc : ¬ c) : b = r := by rw [if_neg hc] at h; exact h
theorem ob {α β : Type} {x : Option α} {f : α → Option β} {r : β} (h : x.bind f = some r) : ∃ y, x = some y ∧ f y = some r := Option.bind_eq_some_iff.mp h
def ctOk (B : ctB) (kd ln : Nat → Nat) (n : Nat) : Prop := ∀ a, kd a < 15 → bKd B a = kd a ∧ bLn B a = ln a ∧ a < n
/-! what is read and written -/
def gI (kd : Nat → Nat) (c k a : Nat) (M : ctM) : Option Int32 := if kd a = c then some (M.1 a k) else none
def gP (kd : Nat → Nat) (c k a : Nat) (M : ctM) : Option Nat := if kd a = c then M.2 a k else none
def pI (kd : Nat → Nat) (c k a : Nat) (v : Int32) (M : ctM) : Option ctM := if kd a = c then some (ctI M a k v) else none
def pP (kd : Nat → Nat) (c k a b : Nat) (M : ctM) : Option ctM := if kd a = c then some (ctP M a k (some b)) else none
def aI (kd ln : Nat → Nat) (t a : Nat) (i : Int32) (M : ctM) : Option Int32 := if kd a = t ∧ ¬ i < 0 ∧ i.toNatClampNeg < ln a then some (M.1 a i.toNatClampNeg) else none
def aP (kd ln : Nat → Nat) (t a : Nat) (i : Int32) (M : ctM) : Option Nat := if kd a = t ∧ ¬ i < 0 ∧ i.toNatClampNeg < ln a then M.2 a i.toNatClampNeg else none
def sI (kd ln : Nat → Nat) (t a : Nat) (i v : Int32) (M : ctM) : Option ctM := if kd a = t ∧ ¬ i < 0 ∧ i.toNatClampNeg < ln a then some (ctI M a i.toNatClampNeg v) else none
def sP (kd ln : Nat → Nat) (t c a : Nat) (i : Int32) (b : Nat) (M : ctM) : Option ctM := if kd a = t ∧ kd b = c ∧ ¬ i < 0 ∧ i.toNatClampNeg < ln a then some (ctP M a i.toNatClampNeg (some b)) else none

theorem ct_iconst {z : Int} {v : Int32} (hd : decode μ.2.1 pc = .ok (.iconst z, 1)) (hv : Int32.ofInt z = v) (hp : pc + 1 = q) (K : ctV B μ R post q (L) (.int v :: st) cs n M) : ctV B μ R post pc (L) (st) cs n M := by
  subst hp
  exact fun p e s m args below meth c H locs ls C w S h => lv_iconst C.1 C.2.1 hd hv (K p e s m args below meth c H locs ls C w S h)
theorem ct_bipush {z : Int} {v : Int32} (hd : decode μ.2.1 pc = .ok (.bipush z, 2)) (hv : (Int8.ofInt z).toInt32 = v) (hp : pc + 2 = q) (K : ctV B μ R post q (L) (.int v :: st) cs n M) : ctV B μ R post pc (L) (st) cs n M := by
  subst hp
  exact fun p e s m args below meth c H locs ls C w S h => lv_bipush C.1 C.2.1 hd hv (K p e s m args below meth c H locs ls C w S h)
theorem ct_sipush {z : Int} {v : Int32} (hd : decode μ.2.1 pc = .ok (.sipush z, 3)) (hv : (Int16.ofInt z).toInt32 = v) (hp : pc + 3 = q) (K : ctV B μ R post q (L) (.int v :: st) cs n M) : ctV B μ R post pc (L) (st) cs n M := by
  subst hp
  exact fun p e s m args below meth c H locs ls C w S h => lv_sipush C.1 C.2.1 hd hv (K p e s m args below meth c H locs ls C w S h)
theorem ct_lconst {z : Fin 2} {v : Int64} (hd : decode μ.2.1 pc = .ok (.lconst z, 1)) (hv : Int64.ofNat (z : Nat) = v) (hp : pc + 1 = q) (K : ctV B μ R post q (L) (.long v :: st) cs n M) : ctV B μ R post pc (L) (st) cs n M := by
  subst hp
  exact fun p e s m args below meth c H locs ls C w S h => lv_lconst C.1 C.2.1 hd hv (K p e s m args below meth c H locs ls C w S h)
theorem ct_ldc {i : Nat} {v : Int32} (hd : decode μ.2.1 pc = .ok (.ldc i, 2)) (hw : Cond.constant μ.1.cls i v ∈ ctG) (hp : pc + 2 = q) (K : ctV B μ R post q (L) (.int v :: st) cs n M) : ctV B μ R post pc (L) (st) cs n M := by
  subst hp
  exact fun p e s m args below meth c H locs ls C w S h => lv_ldc C.1 C.2.1 C.2.2.2.1 (C.2.2.2.2.1 _ hw) hd (K p e s m args below meth c H locs ls C w S h)
theorem ct_ldcw {i : Nat} {v : Int32} (hd : decode μ.2.1 pc = .ok (.ldc_w i, 3)) (hw : Cond.constant μ.1.cls i v ∈ ctG) (hp : pc + 3 = q) (K : ctV B μ R post q (L) (.int v :: st) cs n M) : ctV B μ R post pc (L) (st) cs n M := by
  subst hp
  exact fun p e s m args below meth c H locs ls C w S h => lv_ldcw C.1 C.2.1 C.2.2.2.1 (C.2.2.2.2.1 _ hw) hd (K p e s m args below meth c H locs ls C w S h)
theorem ct_ldc2 {i : Nat} {v : Int64} (hd : decode μ.2.1 pc = .ok (.ldc2_w i, 3)) (hw : Cond.constantLong μ.1.cls i v ∈ ctG) (hp : pc + 3 = q) (K : ctV B μ R post q (L) (.long v :: st) cs n M) : ctV B μ R post pc (L) (st) cs n M := by
  subst hp
  exact fun p e s m args below meth c H locs ls C w S h => lv_ldc2 C.1 C.2.1 C.2.2.2.1 (C.2.2.2.2.1 _ hw) hd (K p e s m args below meth c H locs ls C w S h)
theorem ct_null  (hd : decode μ.2.1 pc = .ok (.aconst_null, 1)) (hp : pc + 1 = q) (K : ctV B μ R post q (L) (.null :: st) cs n M) : ctV B μ R post pc (L) (st) cs n M := by
  subst hp
  exact fun p e s m args below meth c H locs ls C w S h => lv_null C.1 C.2.1 hd (K p e s m args below meth c H locs ls C w S h)
theorem ct_iload_0 {x : Int32}  {l : List (Option Value)} (hd : decode μ.2.1 pc = .ok (.iload_n 0, 1)) (hp : pc + 1 = q) (K : ctV B μ R post q (some (.int x) :: l) (.int x :: st) cs n M) : ctV B μ R post pc (some (.int x) :: l) (st) cs n M := by
  subst hp
  exact fun p e s m args below meth c H locs ls C w S h => lv_iload_n C.1 C.2.1 hd rfl (h.2.2 0 _ rfl) (K p e s m args below meth c H locs ls C w S h)
theorem ct_aload_0 {x : Nat}  {l : List (Option Value)} (hd : decode μ.2.1 pc = .ok (.aload_n 0, 1)) (hp : pc + 1 = q) (K : ctV B μ R post q (some (.ref x) :: l) (.ref x :: st) cs n M) : ctV B μ R post pc (some (.ref x) :: l) (st) cs n M := by
  subst hp
  exact fun p e s m args below meth c H locs ls C w S h => lv_aload_n C.1 C.2.1 hd rfl (h.2.2 0 _ rfl) (K p e s m args below meth c H locs ls C w S h)
theorem ct_lload_0 {x : Int64}  {l : List (Option Value)} (hd : decode μ.2.1 pc = .ok (.lload_n 0, 1)) (hp : pc + 1 = q) (K : ctV B μ R post q (some (.long x) :: l) (.long x :: st) cs n M) : ctV B μ R post pc (some (.long x) :: l) (st) cs n M := by
  subst hp
  exact fun p e s m args below meth c H locs ls C w S h => lv_lload_n C.1 C.2.1 hd rfl (h.2.2 0 _ rfl) (K p e s m args below meth c H locs ls C w S h)
theorem ct_iload_1 {x : Int32} {x0 : Option Value} {l : List (Option Value)} (hd : decode μ.2.1 pc = .ok (.iload_n 1, 1)) (hp : pc + 1 = q) (K : ctV B μ R post q (x0 :: some (.int x) :: l) (.int x :: st) cs n M) : ctV B μ R post pc (x0 :: some (.int x) :: l) (st) cs n M := by
  subst hp
  exact fun p e s m args below meth c H locs ls C w S h => lv_iload_n C.1 C.2.1 hd rfl (h.2.2 1 _ rfl) (K p e s m args below meth c H locs ls C w S h)
theorem ct_aload_1 {x : Nat} {x0 : Option Value} {l : List (Option Value)} (hd : decode μ.2.1 pc = .ok (.aload_n 1, 1)) (hp : pc + 1 = q) (K : ctV B μ R post q (x0 :: some (.ref x) :: l) (.ref x :: st) cs n M) : ctV B μ R post pc (x0 :: some (.ref x) :: l) (st) cs n M := by
  subst hp
  exact fun p e s m args below meth c H locs ls C w S h => lv_aload_n C.1 C.2.1 hd rfl (h.2.2 1 _ rfl) (K p e s m args below meth c H locs ls C w S h)
theorem ct_iload_2 {x : Int32} {x0 : Option Value} {x1 : Option Value} {l : List (Option Value)} (hd : decode μ.2.1 pc = .ok (.iload_n 2, 1)) (hp : pc + 1 = q) (K : ctV B μ R post q (x0 :: x1 :: some (.int x) :: l) (.int x :: st) cs n M) : ctV B μ R post pc (x0 :: x1 :: some (.int x) :: l) (st) cs n M := by
  subst hp
  exact fun p e s m args below meth c H locs ls C w S h => lv_iload_n C.1 C.2.1 hd rfl (h.2.2 2 _ rfl) (K p e s m args below meth c H locs ls C w S h)
theorem ct_aload_2 {x : Nat} {x0 : Option Value} {x1 : Option Value} {l : List (Option Value)} (hd : decode μ.2.1 pc = .ok (.aload_n 2, 1)) (hp : pc + 1 = q) (K : ctV B μ R post q (x0 :: x1 :: some (.ref x) :: l) (.ref x :: st) cs n M) : ctV B μ R post pc (x0 :: x1 :: some (.ref x) :: l) (st) cs n M := by
  subst hp
  exact fun p e s m args below meth c H locs ls C w S h => lv_aload_n C.1 C.2.1 hd rfl (h.2.2 2 _ rfl) (K p e s m args below meth c H locs ls C w S h)
theorem ct_lload_2 {x : Int64} {x0 : Option Value} {x1 : Option Value} {l : List (Option Value)} (hd : decode μ.2.1 pc = .ok (.lload_n 2, 1)) (hp : pc + 1 = q) (K : ctV B μ R post q (x0 :: x1 :: some (.long x) :: l) (.long x :: st) cs n M) : ctV B μ R post pc (x0 :: x1 :: some (.long x) :: l) (st) cs n M := by
  subst hp
  exact fun p e s m args below meth c H locs ls C w S h => lv_lload_n C.1 C.2.1 hd rfl (h.2.2 2 _ rfl) (K p e s m args below meth c H locs ls C w S h)
theorem ct_iload_3 {x : Int32} {x0 : Option Value} {x1 : Option Value} {x2 : Option Value} {l : List (Option Value)} (hd : decode μ.2.1 pc = .ok (.iload_n 3, 1)) (hp : pc + 1 = q) (K : ctV B μ R post q (x0 :: x1 :: x2 :: some (.int x) :: l) (.int x :: st) cs n M) : ctV B μ R post pc (x0 :: x1 :: x2 :: some (.int x) :: l) (st) cs n M := by
  subst hp
  exact fun p e s m args below meth c H locs ls C w S h => lv_iload_n C.1 C.2.1 hd rfl (h.2.2 3 _ rfl) (K p e s m args below meth c H locs ls C w S h)
theorem ct_aload_3 {x : Nat} {x0 : Option Value} {x1 : Option Value} {x2 : Option Value} {l : List (Option Value)} (hd : decode μ.2.1 pc = .ok (.aload_n 3, 1)) (hp : pc + 1 = q) (K : ctV B μ R post q (x0 :: x1 :: x2 :: some (.ref x) :: l) (.ref x :: st) cs n M) : ctV B μ R post pc (x0 :: x1 :: x2 :: some (.ref x) :: l) (st) cs n M := by
  subst hp
  exact fun p e s m args below meth c H locs ls C w S h => lv_aload_n C.1 C.2.1 hd rfl (h.2.2 3 _ rfl) (K p e s m args below meth c H locs ls C w S h)
theorem ct_iload_4 {x : Int32} {x0 : Option Value} {x1 : Option Value} {x2 : Option Value} {x3 : Option Value} {l : List (Option Value)} (hd : decode μ.2.1 pc = .ok (.iload 4, 2)) (hp : pc + 2 = q) (K : ctV B μ R post q (x0 :: x1 :: x2 :: x3 :: some (.int x) :: l) (.int x :: st) cs n M) : ctV B μ R post pc (x0 :: x1 :: x2 :: x3 :: some (.int x) :: l) (st) cs n M := by
  subst hp
  exact fun p e s m args below meth c H locs ls C w S h => lv_iload C.1 C.2.1 hd (h.2.2 4 _ rfl) (K p e s m args below meth c H locs ls C w S h)
theorem ct_aload_4 {x : Nat} {x0 : Option Value} {x1 : Option Value} {x2 : Option Value} {x3 : Option Value} {l : List (Option Value)} (hd : decode μ.2.1 pc = .ok (.aload 4, 2)) (hp : pc + 2 = q) (K : ctV B μ R post q (x0 :: x1 :: x2 :: x3 :: some (.ref x) :: l) (.ref x :: st) cs n M) : ctV B μ R post pc (x0 :: x1 :: x2 :: x3 :: some (.ref x) :: l) (st) cs n M := by
  subst hp
  exact fun p e s m args below meth c H locs ls C w S h => lv_aload C.1 C.2.1 hd (h.2.2 4 _ rfl) (K p e s m args below meth c H locs ls C w S h)
theorem ct_lload_4 {x : Int64} {x0 : Option Value} {x1 : Option Value} {x2 : Option Value} {x3 : Option Value} {l : List (Option Value)} (hd : decode μ.2.1 pc = .ok (.lload 4, 2)) (hp : pc + 2 = q) (K : ctV B μ R post q (x0 :: x1 :: x2 :: x3 :: some (.long x) :: l) (.long x :: st) cs n M) : ctV B μ R post pc (x0 :: x1 :: x2 :: x3 :: some (.long x) :: l) (st) cs n M := by
  subst hp
  exact fun p e s m args below meth c H locs ls C w S h => lv_lload C.1 C.2.1 hd (h.2.2 4 _ rfl) (K p e s m args below meth c H locs ls C w S h)
theorem ct_iload_5 {x : Int32} {x0 : Option Value} {x1 : Option Value} {x2 : Option Value} {x3 : Option Value} {x4 : Option Value} {l : List (Option Value)} (hd : decode μ.2.1 pc = .ok (.iload 5, 2)) (hp : pc + 2 = q) (K : ctV B μ R post q (x0 :: x1 :: x2 :: x3 :: x4 :: some (.int x) :: l) (.int x :: st) cs n M) : ctV B μ R post pc (x0 :: x1 :: x2 :: x3 :: x4 :: some (.int x) :: l) (st) cs n M := by
  subst hp
  exact fun p e s m args below meth c H locs ls C w S h => lv_iload C.1 C.2.1 hd (h.2.2 5 _ rfl) (K p e s m args below meth c H locs ls C w S h)
theorem ct_aload_5 {x : Nat} {x0 : Option Value} {x1 : Option Value} {x2 : Option Value} {x3 : Option Value} {x4 : Option Value} {l : List (Option Value)} (hd : decode μ.2.1 pc = .ok (.aload 5, 2)) (hp : pc + 2 = q) (K : ctV B μ R post q (x0 :: x1 :: x2 :: x3 :: x4 :: some (.ref x) :: l) (.ref x :: st) cs n M) : ctV B μ R post pc (x0 :: x1 :: x2 :: x3 :: x4 :: some (.ref x) :: l) (st) cs n M := by
  subst hp
  exact fun p e s m args below meth c H locs ls C w S h => lv_aload C.1 C.2.1 hd (h.2.2 5 _ rfl) (K p e s m args below meth c H locs ls C w S h)
theorem ct_iload_6 {x : Int32} {x0 : Option Value} {x1 : Option Value} {x2 : Option Value} {x3 : Option Value} {x4 : Option Value} {x5 : Option Value} {l : List (Option Value)} (hd : decode μ.2.1 pc = .ok (.iload 6, 2)) (hp : pc + 2 = q) (K : ctV B μ R post q (x0 :: x1 :: x2 :: x3 :: x4 :: x5 :: some (.int x) :: l) (.int x :: st) cs n M) : ctV B μ R post pc (x0 :: x1 :: x2 :: x3 :: x4 :: x5 :: some (.int x) :: l) (st) cs n M := by
  subst hp
  exact fun p e s m args below meth c H locs ls C w S h => lv_iload C.1 C.2.1 hd (h.2.2 6 _ rfl) (K p e s m args below meth c H locs ls C w S h)
theorem ct_aload_6 {x : Nat} {x0 : Option Value} {x1 : Option Value} {x2 : Option Value} {x3 : Option Value} {x4 : Option Value} {x5 : Option Value} {l : List (Option Value)} (hd : decode μ.2.1 pc = .ok (.aload 6, 2)) (hp : pc + 2 = q) (K : ctV B μ R post q (x0 :: x1 :: x2 :: x3 :: x4 :: x5 :: some (.ref x) :: l) (.ref x :: st) cs n M) : ctV B μ R post pc (x0 :: x1 :: x2 :: x3 :: x4 :: x5 :: some (.ref x) :: l) (st) cs n M := by
  subst hp
  exact fun p e s m args below meth c H locs ls C w S h => lv_aload C.1 C.2.1 hd (h.2.2 6 _ rfl) (K p e s m args below meth c H locs ls C w S h)
theorem ct_iload_7 {x : Int32} {x0 : Option Value} {x1 : Option Value} {x2 : Option Value} {x3 : Option Value} {x4 : Option Value} {x5 : Option Value} {x6 : Option Value} {l : List (Option Value)} (hd : decode μ.2.1 pc = .ok (.iload 7, 2)) (hp : pc + 2 = q) (K : ctV B μ R post q (x0 :: x1 :: x2 :: x3 :: x4 :: x5 :: x6 :: some (.int x) :: l) (.int x :: st) cs n M) : ctV B μ R post pc (x0 :: x1 :: x2 :: x3 :: x4 :: x5 :: x6 :: some (.int x) :: l) (st) cs n M := by
  subst hp
  exact fun p e s m args below meth c H locs ls C w S h => lv_iload C.1 C.2.1 hd (h.2.2 7 _ rfl) (K p e s m args below meth c H locs ls C w S h)
theorem ct_aload_7 {x : Nat} {x0 : Option Value} {x1 : Option Value} {x2 : Option Value} {x3 : Option Value} {x4 : Option Value} {x5 : Option Value} {x6 : Option Value} {l : List (Option Value)} (hd : decode μ.2.1 pc = .ok (.aload 7, 2)) (hp : pc + 2 = q) (K : ctV B μ R post q (x0 :: x1 :: x2 :: x3 :: x4 :: x5 :: x6 :: some (.ref x) :: l) (.ref x :: st) cs n M) : ctV B μ R post pc (x0 :: x1 :: x2 :: x3 :: x4 :: x5 :: x6 :: some (.ref x) :: l) (st) cs n M := by
  subst hp
  exact fun p e s m args below meth c H locs ls C w S h => lv_aload C.1 C.2.1 hd (h.2.2 7 _ rfl) (K p e s m args below meth c H locs ls C w S h)
theorem ct_iload_8 {x : Int32} {x0 : Option Value} {x1 : Option Value} {x2 : Option Value} {x3 : Option Value} {x4 : Option Value} {x5 : Option Value} {x6 : Option Value} {x7 : Option Value} {l : List (Option Value)} (hd : decode μ.2.1 pc = .ok (.iload 8, 2)) (hp : pc + 2 = q) (K : ctV B μ R post q (x0 :: x1 :: x2 :: x3 :: x4 :: x5 :: x6 :: x7 :: some (.int x) :: l) (.int x :: st) cs n M) : ctV B μ R post pc (x0 :: x1 :: x2 :: x3 :: x4 :: x5 :: x6 :: x7 :: some (.int x) :: l) (st) cs n M := by
  subst hp
  exact fun p e s m args below meth c H locs ls C w S h => lv_iload C.1 C.2.1 hd (h.2.2 8 _ rfl) (K p e s m args below meth c H locs ls C w S h)
theorem ct_aload_8 {x : Nat} {x0 : Option Value} {x1 : Option Value} {x2 : Option Value} {x3 : Option Value} {x4 : Option Value} {x5 : Option Value} {x6 : Option Value} {x7 : Option Value} {l : List (Option Value)} (hd : decode μ.2.1 pc = .ok (.aload 8, 2)) (hp : pc + 2 = q) (K : ctV B μ R post q (x0 :: x1 :: x2 :: x3 :: x4 :: x5 :: x6 :: x7 :: some (.ref x) :: l) (.ref x :: st) cs n M) : ctV B μ R post pc (x0 :: x1 :: x2 :: x3 :: x4 :: x5 :: x6 :: x7 :: some (.ref x) :: l) (st) cs n M := by
  subst hp
  exact fun p e s m args below meth c H locs ls C w S h => lv_aload C.1 C.2.1 hd (h.2.2 8 _ rfl) (K p e s m args below meth c H locs ls C w S h)
theorem ct_iload_9 {x : Int32} {x0 : Option Value} {x1 : Option Value} {x2 : Option Value} {x3 : Option Value} {x4 : Option Value} {x5 : Option Value} {x6 : Option Value} {x7 : Option Value} {x8 : Option Value} {l : List (Option Value)} (hd : decode μ.2.1 pc = .ok (.iload 9, 2)) (hp : pc + 2 = q) (K : ctV B μ R post q (x0 :: x1 :: x2 :: x3 :: x4 :: x5 :: x6 :: x7 :: x8 :: some (.int x) :: l) (.int x :: st) cs n M) : ctV B μ R post pc (x0 :: x1 :: x2 :: x3 :: x4 :: x5 :: x6 :: x7 :: x8 :: some (.int x) :: l) (st) cs n M := by
  subst hp
  exact fun p e s m args below meth c H locs ls C w S h => lv_iload C.1 C.2.1 hd (h.2.2 9 _ rfl) (K p e s m args below meth c H locs ls C w S h)
theorem ct_aload_9 {x : Nat} {x0 : Option Value} {x1 : Option Value} {x2 : Option Value} {x3 : Option Value} {x4 : Option Value} {x5 : Option Value} {x6 : Option Value} {x7 : Option Value} {x8 : Option Value} {l : List (Option Value)} (hd : decode μ.2.1 pc = .ok (.aload 9, 2)) (hp : pc + 2 = q) (K : ctV B μ R post q (x0 :: x1 :: x2 :: x3 :: x4 :: x5 :: x6 :: x7 :: x8 :: some (.ref x) :: l) (.ref x :: st) cs n M) : ctV B μ R post pc (x0 :: x1 :: x2 :: x3 :: x4 :: x5 :: x6 :: x7 :: x8 :: some (.ref x) :: l) (st) cs n M := by
  subst hp
  exact fun p e s m args below meth c H locs ls C w S h => lv_aload C.1 C.2.1 hd (h.2.2 9 _ rfl) (K p e s m args below meth c H locs ls C w S h)
theorem ct_iload_10 {x : Int32} {x0 : Option Value} {x1 : Option Value} {x2 : Option Value} {x3 : Option Value} {x4 : Option Value} {x5 : Option Value} {x6 : Option Value} {x7 : Option Value} {x8 : Option Value} {x9 : Option Value} {l : List (Option Value)} (hd : decode μ.2.1 pc = .ok (.iload 10, 2)) (hp : pc + 2 = q) (K : ctV B μ R post q (x0 :: x1 :: x2 :: x3 :: x4 :: x5 :: x6 :: x7 :: x8 :: x9 :: some (.int x) :: l) (.int x :: st) cs n M) : ctV B μ R post pc (x0 :: x1 :: x2 :: x3 :: x4 :: x5 :: x6 :: x7 :: x8 :: x9 :: some (.int x) :: l) (st) cs n M := by
  subst hp
  exact fun p e s m args below meth c H locs ls C w S h => lv_iload C.1 C.2.1 hd (h.2.2 10 _ rfl) (K p e s m args below meth c H locs ls C w S h)
theorem ct_aload_10 {x : Nat} {x0 : Option Value} {x1 : Option Value} {x2 : Option Value} {x3 : Option Value} {x4 : Option Value} {x5 : Option Value} {x6 : Option Value} {x7 : Option Value} {x8 : Option Value} {x9 : Option Value} {l : List (Option Value)} (hd : decode μ.2.1 pc = .ok (.aload 10, 2)) (hp : pc + 2 = q) (K : ctV B μ R post q (x0 :: x1 :: x2 :: x3 :: x4 :: x5 :: x6 :: x7 :: x8 :: x9 :: some (.ref x) :: l) (.ref x :: st) cs n M) : ctV B μ R post pc (x0 :: x1 :: x2 :: x3 :: x4 :: x5 :: x6 :: x7 :: x8 :: x9 :: some (.ref x) :: l) (st) cs n M := by
  subst hp
  exact fun p e s m args below meth c H locs ls C w S h => lv_aload C.1 C.2.1 hd (h.2.2 10 _ rfl) (K p e s m args below meth c H locs ls C w S h)
theorem ct_iload_11 {x : Int32} {x0 : Option Value} {x1 : Option Value} {x2 : Option Value} {x3 : Option Value} {x4 : Option Value} {x5 : Option Value} {x6 : Option Value} {x7 : Option Value} {x8 : Option Value} {x9 : Option Value} {x10 : Option Value} {l : List (Option Value)} (hd : decode μ.2.1 pc = .ok (.iload 11, 2)) (hp : pc + 2 = q) (K : ctV B μ R post q (x0 :: x1 :: x2 :: x3 :: x4 :: x5 :: x6 :: x7 :: x8 :: x9 :: x10 :: some (.int x) :: l) (.int x :: st) cs n M) : ctV B μ R post pc (x0 :: x1 :: x2 :: x3 :: x4 :: x5 :: x6 :: x7 :: x8 :: x9 :: x10 :: some (.int x) :: l) (st) cs n M := by
  subst hp
  exact fun p e s m args below meth c H locs ls C w S h => lv_iload C.1 C.2.1 hd (h.2.2 11 _ rfl) (K p e s m args below meth c H locs ls C w S h)
theorem ct_aload_11 {x : Nat} {x0 : Option Value} {x1 : Option Value} {x2 : Option Value} {x3 : Option Value} {x4 : Option Value} {x5 : Option Value} {x6 : Option Value} {x7 : Option Value} {x8 : Option Value} {x9 : Option Value} {x10 : Option Value} {l : List (Option Value)} (hd : decode μ.2.1 pc = .ok (.aload 11, 2)) (hp : pc + 2 = q) (K : ctV B μ R post q (x0 :: x1 :: x2 :: x3 :: x4 :: x5 :: x6 :: x7 :: x8 :: x9 :: x10 :: some (.ref x) :: l) (.ref x :: st) cs n M) : ctV B μ R post pc (x0 :: x1 :: x2 :: x3 :: x4 :: x5 :: x6 :: x7 :: x8 :: x9 :: x10 :: some (.ref x) :: l) (st) cs n M := by
  subst hp
  exact fun p e s m args below meth c H locs ls C w S h => lv_aload C.1 C.2.1 hd (h.2.2 11 _ rfl) (K p e s m args below meth c H locs ls C w S h)
theorem ct_iload_12 {x : Int32} {x0 : Option Value} {x1 : Option Value} {x2 : Option Value} {x3 : Option Value} {x4 : Option Value} {x5 : Option Value} {x6 : Option Value} {x7 : Option Value} {x8 : Option Value} {x9 : Option Value} {x10 : Option Value} {x11 : Option Value} {l : List (Option Value)} (hd : decode μ.2.1 pc = .ok (.iload 12, 2)) (hp : pc + 2 = q) (K : ctV B μ R post q (x0 :: x1 :: x2 :: x3 :: x4 :: x5 :: x6 :: x7 :: x8 :: x9 :: x10 :: x11 :: some (.int x) :: l) (.int x :: st) cs n M) : ctV B μ R post pc (x0 :: x1 :: x2 :: x3 :: x4 :: x5 :: x6 :: x7 :: x8 :: x9 :: x10 :: x11 :: some (.int x) :: l) (st) cs n M := by
  subst hp
  exact fun p e s m args below meth c H locs ls C w S h => lv_iload C.1 C.2.1 hd (h.2.2 12 _ rfl) (K p e s m args below meth c H locs ls C w S h)
theorem ct_aload_12 {x : Nat} {x0 : Option Value} {x1 : Option Value} {x2 : Option Value} {x3 : Option Value} {x4 : Option Value} {x5 : Option Value} {x6 : Option Value} {x7 : Option Value} {x8 : Option Value} {x9 : Option Value} {x10 : Option Value} {x11 : Option Value} {l : List (Option Value)} (hd : decode μ.2.1 pc = .ok (.aload 12, 2)) (hp : pc + 2 = q) (K : ctV B μ R post q (x0 :: x1 :: x2 :: x3 :: x4 :: x5 :: x6 :: x7 :: x8 :: x9 :: x10 :: x11 :: some (.ref x) :: l) (.ref x :: st) cs n M) : ctV B μ R post pc (x0 :: x1 :: x2 :: x3 :: x4 :: x5 :: x6 :: x7 :: x8 :: x9 :: x10 :: x11 :: some (.ref x) :: l) (st) cs n M := by
  subst hp
  exact fun p e s m args below meth c H locs ls C w S h => lv_aload C.1 C.2.1 hd (h.2.2 12 _ rfl) (K p e s m args below meth c H locs ls C w S h)
theorem ct_iload_13 {x : Int32} {x0 : Option Value} {x1 : Option Value} {x2 : Option Value} {x3 : Option Value} {x4 : Option Value} {x5 : Option Value} {x6 : Option Value} {x7 : Option Value} {x8 : Option Value} {x9 : Option Value} {x10 : Option Value} {x11 : Option Value} {x12 : Option Value} {l : List (Option Value)} (hd : decode μ.2.1 pc = .ok (.iload 13, 2)) (hp : pc + 2 = q) (K : ctV B μ R post q (x0 :: x1 :: x2 :: x3 :: x4 :: x5 :: x6 :: x7 :: x8 :: x9 :: x10 :: x11 :: x12 :: some (.int x) :: l) (.int x :: st) cs n M) : ctV B μ R post pc (x0 :: x1 :: x2 :: x3 :: x4 :: x5 :: x6 :: x7 :: x8 :: x9 :: x10 :: x11 :: x12 :: some (.int x) :: l) (st) cs n M := by
  subst hp
  exact fun p e s m args below meth c H locs ls C w S h => lv_iload C.1 C.2.1 hd (h.2.2 13 _ rfl) (K p e s m args below meth c H locs ls C w S h)
theorem ct_aload_13 {x : Nat} {x0 : Option Value} {x1 : Option Value} {x2 : Option Value} {x3 : Option Value} {x4 : Option Value} {x5 : Option Value} {x6 : Option Value} {x7 : Option Value} {x8 : Option Value} {x9 : Option Value} {x10 : Option Value} {x11 : Option Value} {x12 : Option Value} {l : List (Option Value)} (hd : decode μ.2.1 pc = .ok (.aload 13, 2)) (hp : pc + 2 = q) (K : ctV B μ R post q (x0 :: x1 :: x2 :: x3 :: x4 :: x5 :: x6 :: x7 :: x8 :: x9 :: x10 :: x11 :: x12 :: some (.ref x) :: l) (.ref x :: st) cs n M) : ctV B μ R post pc (x0 :: x1 :: x2 :: x3 :: x4 :: x5 :: x6 :: x7 :: x8 :: x9 :: x10 :: x11 :: x12 :: some (.ref x) :: l) (st) cs n M := by
  subst hp
  exact fun p e s m args below meth c H locs ls C w S h => lv_aload C.1 C.2.1 hd (h.2.2 13 _ rfl) (K p e s m args below meth c H locs ls C w S h)
theorem ct_aloadN_3 {x0 x1 x2 : Option Value} {l : List (Option Value)} (hd : decode μ.2.1 pc = .ok (.aload_n 3, 1)) (hp : pc + 1 = q) (K : ctV B μ R post q (x0 :: x1 :: x2 :: some .null :: l) (.null :: st) cs n M) : ctV B μ R post pc (x0 :: x1 :: x2 :: some .null :: l) st cs n M := by
  subst hp
  exact fun p e s m args below meth c H locs ls C w S h => lv_aload_nN C.1 C.2.1 hd rfl (h.2.2 3 _ rfl) (K p e s m args below meth c H locs ls C w S h)
theorem ct_aloadN_2 {x0 x1 : Option Value} {l : List (Option Value)} (hd : decode μ.2.1 pc = .ok (.aload_n 2, 1)) (hp : pc + 1 = q) (K : ctV B μ R post q (x0 :: x1 :: some .null :: l) (.null :: st) cs n M) : ctV B μ R post pc (x0 :: x1 :: some .null :: l) st cs n M := by
  subst hp
  exact fun p e s m args below meth c H locs ls C w S h => lv_aload_nN C.1 C.2.1 hd rfl (h.2.2 2 _ rfl) (K p e s m args below meth c H locs ls C w S h)

def ctL1 : List (Option Value) → Bool
  | [] => true
  | none :: l => ctL1 l
  | some (.long _) :: _ => false
  | some (.double _) :: _ => false
  | some _ :: l => ctL1 l
theorem ctL1_spec : ∀ (L : List (Option Value)), ctL1 L = true → ∀ (i : Nat) (v : Value), L[i]? = some (some v) → v.category = 1 := by
  intro L
  induction L with
  | nil => intro _ i v h; simp at h
  | cons x l ih =>
    intro h i v hi
    cases i with
    | zero =>
      simp at hi
      subst hi
      cases v <;> first | rfl | (simp [ctL1] at h)
    | succ i =>
      simp only [List.getElem?_cons_succ] at hi
      refine ih ?_ i v hi
      cases x with
      | none => exact h
      | some x => cases x <;> first | exact h | (simp [ctL1] at h)
def ctAs (B : ctB) (L : List (Option Value)) : List (Nat × Value) := (List.range L.length).filterMap (fun i => match L[i]? with
  | some (some v) => some (i, ctv B v)
  | _ => none)
theorem ctAs_mem {B : ctB} {L : List (Option Value)} {j : Nat} {y : Value} : (j, y) ∈ ctAs B L ↔ ∃ v, L[j]? = some (some v) ∧ y = ctv B v := by
  unfold ctAs
  rw [List.mem_filterMap]
  constructor
  · rintro ⟨i, -, hi⟩
    cases hL : L[i]? with
    | none => rw [hL] at hi; cases hi
    | some o =>
      cases o with
      | none => rw [hL] at hi; cases hi
      | some v =>
        rw [hL] at hi
        cases hi
        exact ⟨v, hL, rfl⟩
  · rintro ⟨v, hv, rfl⟩
    refine ⟨j, List.mem_range.mpr (List.getElem?_eq_some_iff.mp hv).1, ?_⟩
    rw [hv]
theorem ctLs_as {B : ctB} {nL : Nat} {ls : Array Slot} {L : List (Option Value)} (h : ctLs B nL ls L) : lv_has ls nL (ctAs B L) := by
  refine ⟨h.1, h.2.1, fun q hq => ?_⟩
  obtain ⟨j, y⟩ := q
  obtain ⟨v, h1, h2⟩ := ctAs_mem.mp hq
  subst h2
  exact h.2.2 j v h1
theorem ctLs_set {B : ctB} {nL : Nat} {ls' : Array Slot} {L : List (Option Value)} {i : Nat} {v : Value} (h1 : ctL1 L = true) (h : lv_has ls' nL ((i, ctv B v) :: (ctAs B L).filter (fun q => !(q.1 == i) && !(q.1 + 1 == i && q.2.category == 2)))) : ctLs B nL ls' (L.set i (some v)) := by
  refine ⟨h.1, h.2.1, fun j y hj => ?_⟩
  by_cases hij : j = i
  · subst hij
    have hlt : j < (L.set j (some v)).length := (List.getElem?_eq_some_iff.mp hj).1
    rw [List.length_set] at hlt
    rw [List.getElem?_set_self hlt] at hj
    cases hj
    exact h.2.2 _ List.mem_cons_self
  · rw [List.getElem?_set_ne (Ne.symm hij)] at hj
    refine h.2.2 (j, ctv B y) (List.mem_cons_of_mem _ (List.mem_filter.mpr ⟨ctAs_mem.mpr ⟨y, hj, rfl⟩, ?_⟩))
    have hc := ctL1_spec L h1 j y hj
    simp [hij, ctv_cat, hc]
theorem ct_istoreN (i : Nat) {k : Fin 4} {x : Int32} (hd : decode μ.2.1 pc = .ok (.istore_n k, 1)) (hk : (k : Nat) = i) (hi : i < μ.2.2.1) (h1 : ctL1 L = true) (K : ctV B μ R post (pc + 1) (L.set i (some (.int x))) st cs n M) : ctV B μ R post pc L (.int x :: st) cs n M :=
  fun p e s m args below meth c H locs ls C w S h => lv_istore_n C.1 C.2.1 hd hk (ctLs_as h) hi rfl (fun ls' h' => K p e s m args below meth c H locs ls' C w S (ctLs_set h1 h'))
theorem ct_istoreW (i : Nat) {x : Int32} (hd : decode μ.2.1 pc = .ok (.istore i, 2)) (hi : i < μ.2.2.1) (h1 : ctL1 L = true) (K : ctV B μ R post (pc + 2) (L.set i (some (.int x))) st cs n M) : ctV B μ R post pc L (.int x :: st) cs n M :=
  fun p e s m args below meth c H locs ls C w S h => lv_istore C.1 C.2.1 hd (ctLs_as h) hi rfl (fun ls' h' => K p e s m args below meth c H locs ls' C w S (ctLs_set h1 h'))
theorem ct_astoreN (i : Nat) {k : Fin 4} {x : Nat} (hd : decode μ.2.1 pc = .ok (.astore_n k, 1)) (hk : (k : Nat) = i) (hi : i < μ.2.2.1) (h1 : ctL1 L = true) (K : ctV B μ R post (pc + 1) (L.set i (some (.ref x))) st cs n M) : ctV B μ R post pc L (.ref x :: st) cs n M :=
  fun p e s m args below meth c H locs ls C w S h => lv_astore_n C.1 C.2.1 hd hk (ctLs_as h) hi rfl (fun ls' h' => K p e s m args below meth c H locs ls' C w S (ctLs_set h1 h'))
theorem ct_astoreW (i : Nat) {x : Nat} (hd : decode μ.2.1 pc = .ok (.astore i, 2)) (hi : i < μ.2.2.1) (h1 : ctL1 L = true) (K : ctV B μ R post (pc + 2) (L.set i (some (.ref x))) st cs n M) : ctV B μ R post pc L (.ref x :: st) cs n M :=
  fun p e s m args below meth c H locs ls C w S h => lv_astore C.1 C.2.1 hd (ctLs_as h) hi rfl (fun ls' h' => K p e s m args below meth c H locs ls' C w S (ctLs_set h1 h'))
theorem ct_astoreNull (i : Nat) {k : Fin 4} (hd : decode μ.2.1 pc = .ok (.astore_n k, 1)) (hk : (k : Nat) = i) (hi : i < μ.2.2.1) (h1 : ctL1 L = true) (K : ctV B μ R post (pc + 1) (L.set i (some .null)) st cs n M) : ctV B μ R post pc L (.null :: st) cs n M :=
  fun p e s m args below meth c H locs ls C w S h => lv_astore_nN C.1 C.2.1 hd hk (ctLs_as h) hi rfl (fun ls' h' => K p e s m args below meth c H locs ls' C w S (ctLs_set (v := .null) h1 h'))
theorem ct_astoreNullW (i : Nat) (hd : decode μ.2.1 pc = .ok (.astore i, 2)) (hi : i < μ.2.2.1) (h1 : ctL1 L = true) (K : ctV B μ R post (pc + 2) (L.set i (some .null)) st cs n M) : ctV B μ R post pc L (.null :: st) cs n M :=
  fun p e s m args below meth c H locs ls C w S h => lv_astoreN C.1 C.2.1 hd (ctLs_as h) hi rfl (fun ls' h' => K p e s m args below meth c H locs ls' C w S (ctLs_set (v := .null) h1 h'))
theorem ct_iincW (i : Nat) {z : Int} {x v : Int32} (hd : decode μ.2.1 pc = .ok (.iinc i z, 3)) (hx : L[i]? = some (some (.int x))) (hv : x + Int32.ofInt z = v) (hi : i < μ.2.2.1) (h1 : ctL1 L = true) (K : ctV B μ R post (pc + 3) (L.set i (some (.int v))) st cs n M) : ctV B μ R post pc L st cs n M := by
  intro p e s m args below meth c H locs ls C w S h
  obtain ⟨k, hk⟩ := List.getElem?_of_mem (ctAs_mem.mpr ⟨_, hx, rfl⟩ : (i, ctv B (.int x)) ∈ ctAs B L)
  exact lv_iinc C.1 C.2.1 hd (ctLs_as h) hk hv hi rfl (fun ls' h' => K p e s m args below meth c H locs ls' C w S (ctLs_set (v := .int v) h1 h'))
/-- fewer locals -/
def ctSub : List (Option Value) → List (Option Value) → Prop
  | [], _ => True
  | none :: a, _ :: b => ctSub a b
  | some v :: a, some w :: b => v = w ∧ ctSub a b
  | _, _ => False
theorem ctSub_spec : ∀ (a b : List (Option Value)), ctSub a b → ∀ (i : Nat) (v : Value), a[i]? = some (some v) → b[i]? = some (some v) := by
  intro a
  induction a with
  | nil => intro b _ i v h; simp at h
  | cons x a ih =>
    intro b hb i v h
    cases b with
    | nil => cases x <;> exact hb.elim
    | cons y b =>
      cases x with
      | none =>
        cases i with
        | zero => simp at h
        | succ i =>
          simp only [List.getElem?_cons_succ] at h ⊢
          exact ih b hb i v h
      | some w =>
        cases y with
        | none => exact hb.elim
        | some z =>
          cases i with
          | zero =>
            simp at h ⊢
            rw [← h, hb.1]
          | succ i =>
            simp only [List.getElem?_cons_succ] at h ⊢
            exact ih b hb.2 i v h
theorem ct_less {L' : List (Option Value)} (hs : ctSub L' L) (K : ctV B μ R post pc L' st cs n M) : ctV B μ R post pc L st cs n M :=
  fun p e s m args below meth c H locs ls C w S h => K p e s m args below meth c H locs ls C w S ⟨h.1, h.2.1, fun i v hi => h.2.2 i v (ctSub_spec _ _ hs i v hi)⟩

theorem ct_istore_0 {x : Int32} {x0 : Option Value} {l : List (Option Value)} (hd : decode μ.2.1 pc = .ok (.istore_n 0, 1)) (hi : 0 < μ.2.2.1) (h1 : ctL1 (x0 :: l) = true) (hp : pc + 1 = q) (K : ctV B μ R post q (some (.int x) :: l) st cs n M) : ctV B μ R post pc (x0 :: l) (.int x :: st) cs n M := by subst hp; exact ct_istoreN 0 hd rfl hi h1 K
theorem ct_astore_0 {x : Nat} {x0 : Option Value} {l : List (Option Value)} (hd : decode μ.2.1 pc = .ok (.astore_n 0, 1)) (hi : 0 < μ.2.2.1) (h1 : ctL1 (x0 :: l) = true) (hp : pc + 1 = q) (K : ctV B μ R post q (some (.ref x) :: l) st cs n M) : ctV B μ R post pc (x0 :: l) (.ref x :: st) cs n M := by subst hp; exact ct_astoreN 0 hd rfl hi h1 K
theorem ct_nstore_0 {x0 : Option Value} {l : List (Option Value)} (hd : decode μ.2.1 pc = .ok (.astore_n 0, 1)) (hi : 0 < μ.2.2.1) (h1 : ctL1 (x0 :: l) = true) (hp : pc + 1 = q) (K : ctV B μ R post q (some .null :: l) st cs n M) : ctV B μ R post pc (x0 :: l) (.null :: st) cs n M := by subst hp; exact ct_astoreNull 0 hd rfl hi h1 K
theorem ct_iinc_0 {z : Int} {x v : Int32}  {l : List (Option Value)} (hd : decode μ.2.1 pc = .ok (.iinc 0 z, 3)) (hv : x + Int32.ofInt z = v) (hi : 0 < μ.2.2.1) (h1 : ctL1 (some (.int x) :: l) = true) (hp : pc + 3 = q) (K : ctV B μ R post q (some (.int v) :: l) st cs n M) : ctV B μ R post pc (some (.int x) :: l) st cs n M := by subst hp; exact ct_iincW 0 hd rfl hv hi h1 K
theorem ct_istore_1 {x : Int32} {x0 : Option Value} {x1 : Option Value} {l : List (Option Value)} (hd : decode μ.2.1 pc = .ok (.istore_n 1, 1)) (hi : 1 < μ.2.2.1) (h1 : ctL1 (x0 :: x1 :: l) = true) (hp : pc + 1 = q) (K : ctV B μ R post q (x0 :: some (.int x) :: l) st cs n M) : ctV B μ R post pc (x0 :: x1 :: l) (.int x :: st) cs n M := by subst hp; exact ct_istoreN 1 hd rfl hi h1 K
theorem ct_astore_1 {x : Nat} {x0 : Option Value} {x1 : Option Value} {l : List (Option Value)} (hd : decode μ.2.1 pc = .ok (.astore_n 1, 1)) (hi : 1 < μ.2.2.1) (h1 : ctL1 (x0 :: x1 :: l) = true) (hp : pc + 1 = q) (K : ctV B μ R post q (x0 :: some (.ref x) :: l) st cs n M) : ctV B μ R post pc (x0 :: x1 :: l) (.ref x :: st) cs n M := by subst hp; exact ct_astoreN 1 hd rfl hi h1 K
theorem ct_nstore_1 {x0 : Option Value} {x1 : Option Value} {l : List (Option Value)} (hd : decode μ.2.1 pc = .ok (.astore_n 1, 1)) (hi : 1 < μ.2.2.1) (h1 : ctL1 (x0 :: x1 :: l) = true) (hp : pc + 1 = q) (K : ctV B μ R post q (x0 :: some .null :: l) st cs n M) : ctV B μ R post pc (x0 :: x1 :: l) (.null :: st) cs n M := by subst hp; exact ct_astoreNull 1 hd rfl hi h1 K
theorem ct_iinc_1 {z : Int} {x v : Int32} {x0 : Option Value} {l : List (Option Value)} (hd : decode μ.2.1 pc = .ok (.iinc 1 z, 3)) (hv : x + Int32.ofInt z = v) (hi : 1 < μ.2.2.1) (h1 : ctL1 (x0 :: some (.int x) :: l) = true) (hp : pc + 3 = q) (K : ctV B μ R post q (x0 :: some (.int v) :: l) st cs n M) : ctV B μ R post pc (x0 :: some (.int x) :: l) st cs n M := by subst hp; exact ct_iincW 1 hd rfl hv hi h1 K
theorem ct_istore_2 {x : Int32} {x0 : Option Value} {x1 : Option Value} {x2 : Option Value} {l : List (Option Value)} (hd : decode μ.2.1 pc = .ok (.istore_n 2, 1)) (hi : 2 < μ.2.2.1) (h1 : ctL1 (x0 :: x1 :: x2 :: l) = true) (hp : pc + 1 = q) (K : ctV B μ R post q (x0 :: x1 :: some (.int x) :: l) st cs n M) : ctV B μ R post pc (x0 :: x1 :: x2 :: l) (.int x :: st) cs n M := by subst hp; exact ct_istoreN 2 hd rfl hi h1 K
theorem ct_astore_2 {x : Nat} {x0 : Option Value} {x1 : Option Value} {x2 : Option Value} {l : List (Option Value)} (hd : decode μ.2.1 pc = .ok (.astore_n 2, 1)) (hi : 2 < μ.2.2.1) (h1 : ctL1 (x0 :: x1 :: x2 :: l) = true) (hp : pc + 1 = q) (K : ctV B μ R post q (x0 :: x1 :: some (.ref x) :: l) st cs n M) : ctV B μ R post pc (x0 :: x1 :: x2 :: l) (.ref x :: st) cs n M := by subst hp; exact ct_astoreN 2 hd rfl hi h1 K
theorem ct_nstore_2 {x0 : Option Value} {x1 : Option Value} {x2 : Option Value} {l : List (Option Value)} (hd : decode μ.2.1 pc = .ok (.astore_n 2, 1)) (hi : 2 < μ.2.2.1) (h1 : ctL1 (x0 :: x1 :: x2 :: l) = true) (hp : pc + 1 = q) (K : ctV B μ R post q (x0 :: x1 :: some .null :: l) st cs n M) : ctV B μ R post pc (x0 :: x1 :: x2 :: l) (.null :: st) cs n M := by subst hp; exact ct_astoreNull 2 hd rfl hi h1 K
theorem ct_iinc_2 {z : Int} {x v : Int32} {x0 : Option Value} {x1 : Option Value} {l : List (Option Value)} (hd : decode μ.2.1 pc = .ok (.iinc 2 z, 3)) (hv : x + Int32.ofInt z = v) (hi : 2 < μ.2.2.1) (h1 : ctL1 (x0 :: x1 :: some (.int x) :: l) = true) (hp : pc + 3 = q) (K : ctV B μ R post q (x0 :: x1 :: some (.int v) :: l) st cs n M) : ctV B μ R post pc (x0 :: x1 :: some (.int x) :: l) st cs n M := by subst hp; exact ct_iincW 2 hd rfl hv hi h1 K
theorem ct_istore_3 {x : Int32} {x0 : Option Value} {x1 : Option Value} {x2 : Option Value} {x3 : Option Value} {l : List (Option Value)} (hd : decode μ.2.1 pc = .ok (.istore_n 3, 1)) (hi : 3 < μ.2.2.1) (h1 : ctL1 (x0 :: x1 :: x2 :: x3 :: l) = true) (hp : pc + 1 = q) (K : ctV B μ R post q (x0 :: x1 :: x2 :: some (.int x) :: l) st cs n M) : ctV B μ R post pc (x0 :: x1 :: x2 :: x3 :: l) (.int x :: st) cs n M := by subst hp; exact ct_istoreN 3 hd rfl hi h1 K
theorem ct_astore_3 {x : Nat} {x0 : Option Value} {x1 : Option Value} {x2 : Option Value} {x3 : Option Value} {l : List (Option Value)} (hd : decode μ.2.1 pc = .ok (.astore_n 3, 1)) (hi : 3 < μ.2.2.1) (h1 : ctL1 (x0 :: x1 :: x2 :: x3 :: l) = true) (hp : pc + 1 = q) (K : ctV B μ R post q (x0 :: x1 :: x2 :: some (.ref x) :: l) st cs n M) : ctV B μ R post pc (x0 :: x1 :: x2 :: x3 :: l) (.ref x :: st) cs n M := by subst hp; exact ct_astoreN 3 hd rfl hi h1 K
theorem ct_nstore_3 {x0 : Option Value} {x1 : Option Value} {x2 : Option Value} {x3 : Option Value} {l : List (Option Value)} (hd : decode μ.2.1 pc = .ok (.astore_n 3, 1)) (hi : 3 < μ.2.2.1) (h1 : ctL1 (x0 :: x1 :: x2 :: x3 :: l) = true) (hp : pc + 1 = q) (K : ctV B μ R post q (x0 :: x1 :: x2 :: some .null :: l) st cs n M) : ctV B μ R post pc (x0 :: x1 :: x2 :: x3 :: l) (.null :: st) cs n M := by subst hp; exact ct_astoreNull 3 hd rfl hi h1 K
theorem ct_iinc_3 {z : Int} {x v : Int32} {x0 : Option Value} {x1 : Option Value} {x2 : Option Value} {l : List (Option Value)} (hd : decode μ.2.1 pc = .ok (.iinc 3 z, 3)) (hv : x + Int32.ofInt z = v) (hi : 3 < μ.2.2.1) (h1 : ctL1 (x0 :: x1 :: x2 :: some (.int x) :: l) = true) (hp : pc + 3 = q) (K : ctV B μ R post q (x0 :: x1 :: x2 :: some (.int v) :: l) st cs n M) : ctV B μ R post pc (x0 :: x1 :: x2 :: some (.int x) :: l) st cs n M := by subst hp; exact ct_iincW 3 hd rfl hv hi h1 K
theorem ct_istore_4 {x : Int32} {x0 : Option Value} {x1 : Option Value} {x2 : Option Value} {x3 : Option Value} {x4 : Option Value} {l : List (Option Value)} (hd : decode μ.2.1 pc = .ok (.istore 4, 2)) (hi : 4 < μ.2.2.1) (h1 : ctL1 (x0 :: x1 :: x2 :: x3 :: x4 :: l) = true) (hp : pc + 2 = q) (K : ctV B μ R post q (x0 :: x1 :: x2 :: x3 :: some (.int x) :: l) st cs n M) : ctV B μ R post pc (x0 :: x1 :: x2 :: x3 :: x4 :: l) (.int x :: st) cs n M := by subst hp; exact ct_istoreW 4 hd hi h1 K
theorem ct_astore_4 {x : Nat} {x0 : Option Value} {x1 : Option Value} {x2 : Option Value} {x3 : Option Value} {x4 : Option Value} {l : List (Option Value)} (hd : decode μ.2.1 pc = .ok (.astore 4, 2)) (hi : 4 < μ.2.2.1) (h1 : ctL1 (x0 :: x1 :: x2 :: x3 :: x4 :: l) = true) (hp : pc + 2 = q) (K : ctV B μ R post q (x0 :: x1 :: x2 :: x3 :: some (.ref x) :: l) st cs n M) : ctV B μ R post pc (x0 :: x1 :: x2 :: x3 :: x4 :: l) (.ref x :: st) cs n M := by subst hp; exact ct_astoreW 4 hd hi h1 K
theorem ct_nstore_4 {x0 : Option Value} {x1 : Option Value} {x2 : Option Value} {x3 : Option Value} {x4 : Option Value} {l : List (Option Value)} (hd : decode μ.2.1 pc = .ok (.astore 4, 2)) (hi : 4 < μ.2.2.1) (h1 : ctL1 (x0 :: x1 :: x2 :: x3 :: x4 :: l) = true) (hp : pc + 2 = q) (K : ctV B μ R post q (x0 :: x1 :: x2 :: x3 :: some .null :: l) st cs n M) : ctV B μ R post pc (x0 :: x1 :: x2 :: x3 :: x4 :: l) (.null :: st) cs n M := by subst hp; exact ct_astoreNullW 4 hd hi h1 K
theorem ct_iinc_4 {z : Int} {x v : Int32} {x0 : Option Value} {x1 : Option Value} {x2 : Option Value} {x3 : Option Value} {l : List (Option Value)} (hd : decode μ.2.1 pc = .ok (.iinc 4 z, 3)) (hv : x + Int32.ofInt z = v) (hi : 4 < μ.2.2.1) (h1 : ctL1 (x0 :: x1 :: x2 :: x3 :: some (.int x) :: l) = true) (hp : pc + 3 = q) (K : ctV B μ R post q (x0 :: x1 :: x2 :: x3 :: some (.int v) :: l) st cs n M) : ctV B μ R post pc (x0 :: x1 :: x2 :: x3 :: some (.int x) :: l) st cs n M := by subst hp; exact ct_iincW 4 hd rfl hv hi h1 K
theorem ct_istore_5 {x : Int32} {x0 : Option Value} {x1 : Option Value} {x2 : Option Value} {x3 : Option Value} {x4 : Option Value} {x5 : Option Value} {l : List (Option Value)} (hd : decode μ.2.1 pc = .ok (.istore 5, 2)) (hi : 5 < μ.2.2.1) (h1 : ctL1 (x0 :: x1 :: x2 :: x3 :: x4 :: x5 :: l) = true) (hp : pc + 2 = q) (K : ctV B μ R post q (x0 :: x1 :: x2 :: x3 :: x4 :: some (.int x) :: l) st cs n M) : ctV B μ R post pc (x0 :: x1 :: x2 :: x3 :: x4 :: x5 :: l) (.int x :: st) cs n M := by subst hp; exact ct_istoreW 5 hd hi h1 K
theorem ct_astore_5 {x : Nat} {x0 : Option Value} {x1 : Option Value} {x2 : Option Value} {x3 : Option Value} {x4 : Option Value} {x5 : Option Value} {l : List (Option Value)} (hd : decode μ.2.1 pc = .ok (.astore 5, 2)) (hi : 5 < μ.2.2.1) (h1 : ctL1 (x0 :: x1 :: x2 :: x3 :: x4 :: x5 :: l) = true) (hp : pc + 2 = q) (K : ctV B μ R post q (x0 :: x1 :: x2 :: x3 :: x4 :: some (.ref x) :: l) st cs n M) : ctV B μ R post pc (x0 :: x1 :: x2 :: x3 :: x4 :: x5 :: l) (.ref x :: st) cs n M := by subst hp; exact ct_astoreW 5 hd hi h1 K
theorem ct_nstore_5 {x0 : Option Value} {x1 : Option Value} {x2 : Option Value} {x3 : Option Value} {x4 : Option Value} {x5 : Option Value} {l : List (Option Value)} (hd : decode μ.2.1 pc = .ok (.astore 5, 2)) (hi : 5 < μ.2.2.1) (h1 : ctL1 (x0 :: x1 :: x2 :: x3 :: x4 :: x5 :: l) = true) (hp : pc + 2 = q) (K : ctV B μ R post q (x0 :: x1 :: x2 :: x3 :: x4 :: some .null :: l) st cs n M) : ctV B μ R post pc (x0 :: x1 :: x2 :: x3 :: x4 :: x5 :: l) (.null :: st) cs n M := by subst hp; exact ct_astoreNullW 5 hd hi h1 K
theorem ct_iinc_5 {z : Int} {x v : Int32} {x0 : Option Value} {x1 : Option Value} {x2 : Option Value} {x3 : Option Value} {x4 : Option Value} {l : List (Option Value)} (hd : decode μ.2.1 pc = .ok (.iinc 5 z, 3)) (hv : x + Int32.ofInt z = v) (hi : 5 < μ.2.2.1) (h1 : ctL1 (x0 :: x1 :: x2 :: x3 :: x4 :: some (.int x) :: l) = true) (hp : pc + 3 = q) (K : ctV B μ R post q (x0 :: x1 :: x2 :: x3 :: x4 :: some (.int v) :: l) st cs n M) : ctV B μ R post pc (x0 :: x1 :: x2 :: x3 :: x4 :: some (.int x) :: l) st cs n M := by subst hp; exact ct_iincW 5 hd rfl hv hi h1 K
theorem ct_istore_6 {x : Int32} {x0 : Option Value} {x1 : Option Value} {x2 : Option Value} {x3 : Option Value} {x4 : Option Value} {x5 : Option Value} {x6 : Option Value} {l : List (Option Value)} (hd : decode μ.2.1 pc = .ok (.istore 6, 2)) (hi : 6 < μ.2.2.1) (h1 : ctL1 (x0 :: x1 :: x2 :: x3 :: x4 :: x5 :: x6 :: l) = true) (hp : pc + 2 = q) (K : ctV B μ R post q (x0 :: x1 :: x2 :: x3 :: x4 :: x5 :: some (.int x) :: l) st cs n M) : ctV B μ R post pc (x0 :: x1 :: x2 :: x3 :: x4 :: x5 :: x6 :: l) (.int x :: st) cs n M := by subst hp; exact ct_istoreW 6 hd hi h1 K
theorem ct_astore_6 {x : Nat} {x0 : Option Value} {x1 : Option Value} {x2 : Option Value} {x3 : Option Value} {x4 : Option Value} {x5 : Option Value} {x6 : Option Value} {l : List (Option Value)} (hd : decode μ.2.1 pc = .ok (.astore 6, 2)) (hi : 6 < μ.2.2.1) (h1 : ctL1 (x0 :: x1 :: x2 :: x3 :: x4 :: x5 :: x6 :: l) = true) (hp : pc + 2 = q) (K : ctV B μ R post q (x0 :: x1 :: x2 :: x3 :: x4 :: x5 :: some (.ref x) :: l) st cs n M) : ctV B μ R post pc (x0 :: x1 :: x2 :: x3 :: x4 :: x5 :: x6 :: l) (.ref x :: st) cs n M := by subst hp; exact ct_astoreW 6 hd hi h1 K
theorem ct_nstore_6 {x0 : Option Value} {x1 : Option Value} {x2 : Option Value} {x3 : Option Value} {x4 : Option Value} {x5 : Option Value} {x6 : Option Value} {l : List (Option Value)} (hd : decode μ.2.1 pc = .ok (.astore 6, 2)) (hi : 6 < μ.2.2.1) (h1 : ctL1 (x0 :: x1 :: x2 :: x3 :: x4 :: x5 :: x6 :: l) = true) (hp : pc + 2 = q) (K : ctV B μ R post q (x0 :: x1 :: x2 :: x3 :: x4 :: x5 :: some .null :: l) st cs n M) : ctV B μ R post pc (x0 :: x1 :: x2 :: x3 :: x4 :: x5 :: x6 :: l) (.null :: st) cs n M := by subst hp; exact ct_astoreNullW 6 hd hi h1 K
theorem ct_iinc_6 {z : Int} {x v : Int32} {x0 : Option Value} {x1 : Option Value} {x2 : Option Value} {x3 : Option Value} {x4 : Option Value} {x5 : Option Value} {l : List (Option Value)} (hd : decode μ.2.1 pc = .ok (.iinc 6 z, 3)) (hv : x + Int32.ofInt z = v) (hi : 6 < μ.2.2.1) (h1 : ctL1 (x0 :: x1 :: x2 :: x3 :: x4 :: x5 :: some (.int x) :: l) = true) (hp : pc + 3 = q) (K : ctV B μ R post q (x0 :: x1 :: x2 :: x3 :: x4 :: x5 :: some (.int v) :: l) st cs n M) : ctV B μ R post pc (x0 :: x1 :: x2 :: x3 :: x4 :: x5 :: some (.int x) :: l) st cs n M := by subst hp; exact ct_iincW 6 hd rfl hv hi h1 K
theorem ct_istore_7 {x : Int32} {x0 : Option Value} {x1 : Option Value} {x2 : Option Value} {x3 : Option Value} {x4 : Option Value} {x5 : Option Value} {x6 : Option Value} {x7 : Option Value} {l : List (Option Value)} (hd : decode μ.2.1 pc = .ok (.istore 7, 2)) (hi : 7 < μ.2.2.1) (h1 : ctL1 (x0 :: x1 :: x2 :: x3 :: x4 :: x5 :: x6 :: x7 :: l) = true) (hp : pc + 2 = q) (K : ctV B μ R post q (x0 :: x1 :: x2 :: x3 :: x4 :: x5 :: x6 :: some (.int x) :: l) st cs n M) : ctV B μ R post pc (x0 :: x1 :: x2 :: x3 :: x4 :: x5 :: x6 :: x7 :: l) (.int x :: st) cs n M := by subst hp; exact ct_istoreW 7 hd hi h1 K
theorem ct_astore_7 {x : Nat} {x0 : Option Value} {x1 : Option Value} {x2 : Option Value} {x3 : Option Value} {x4 : Option Value} {x5 : Option Value} {x6 : Option Value} {x7 : Option Value} {l : List (Option Value)} (hd : decode μ.2.1 pc = .ok (.astore 7, 2)) (hi : 7 < μ.2.2.1) (h1 : ctL1 (x0 :: x1 :: x2 :: x3 :: x4 :: x5 :: x6 :: x7 :: l) = true) (hp : pc + 2 = q) (K : ctV B μ R post q (x0 :: x1 :: x2 :: x3 :: x4 :: x5 :: x6 :: some (.ref x) :: l) st cs n M) : ctV B μ R post pc (x0 :: x1 :: x2 :: x3 :: x4 :: x5 :: x6 :: x7 :: l) (.ref x :: st) cs n M := by subst hp; exact ct_astoreW 7 hd hi h1 K
theorem ct_nstore_7 {x0 : Option Value} {x1 : Option Value} {x2 : Option Value} {x3 : Option Value} {x4 : Option Value} {x5 : Option Value} {x6 : Option Value} {x7 : Option Value} {l : List (Option Value)} (hd : decode μ.2.1 pc = .ok (.astore 7, 2)) (hi : 7 < μ.2.2.1) (h1 : ctL1 (x0 :: x1 :: x2 :: x3 :: x4 :: x5 :: x6 :: x7 :: l) = true) (hp : pc + 2 = q) (K : ctV B μ R post q (x0 :: x1 :: x2 :: x3 :: x4 :: x5 :: x6 :: some .null :: l) st cs n M) : ctV B μ R post pc (x0 :: x1 :: x2 :: x3 :: x4 :: x5 :: x6 :: x7 :: l) (.null :: st) cs n M := by subst hp; exact ct_astoreNullW 7 hd hi h1 K
theorem ct_iinc_7 {z : Int} {x v : Int32} {x0 : Option Value} {x1 : Option Value} {x2 : Option Value} {x3 : Option Value} {x4 : Option Value} {x5 : Option Value} {x6 : Option Value} {l : List (Option Value)} (hd : decode μ.2.1 pc = .ok (.iinc 7 z, 3)) (hv : x + Int32.ofInt z = v) (hi : 7 < μ.2.2.1) (h1 : ctL1 (x0 :: x1 :: x2 :: x3 :: x4 :: x5 :: x6 :: some (.int x) :: l) = true) (hp : pc + 3 = q) (K : ctV B μ R post q (x0 :: x1 :: x2 :: x3 :: x4 :: x5 :: x6 :: some (.int v) :: l) st cs n M) : ctV B μ R post pc (x0 :: x1 :: x2 :: x3 :: x4 :: x5 :: x6 :: some (.int x) :: l) st cs n M := by subst hp; exact ct_iincW 7 hd rfl hv hi h1 K
theorem ct_istore_8 {x : Int32} {x0 : Option Value} {x1 : Option Value} {x2 : Option Value} {x3 : Option Value} {x4 : Option Value} {x5 : Option Value} {x6 : Option Value} {x7 : Option Value} {x8 : Option Value} {l : List (Option Value)} (hd : decode μ.2.1 pc = .ok (.istore 8, 2)) (hi : 8 < μ.2.2.1) (h1 : ctL1 (x0 :: x1 :: x2 :: x3 :: x4 :: x5 :: x6 :: x7 :: x8 :: l) = true) (hp : pc + 2 = q) (K : ctV B μ R post q (x0 :: x1 :: x2 :: x3 :: x4 :: x5 :: x6 :: x7 :: some (.int x) :: l) st cs n M) : ctV B μ R post pc (x0 :: x1 :: x2 :: x3 :: x4 :: x5 :: x6 :: x7 :: x8 :: l) (.int x :: st) cs n M := by subst hp; exact ct_istoreW 8 hd hi h1 K
theorem ct_astore_8 {x : Nat} {x0 : Option Value} {x1 : Option Value} {x2 : Option Value} {x3 : Option Value} {x4 : Option Value} {x5 : Option Value} {x6 : Option Value} {x7 : Option Value} {x8 : Option Value} {l : List (Option Value)} (hd : decode μ.2.1 pc = .ok (.astore 8, 2)) (hi : 8 < μ.2.2.1) (h1 : ctL1 (x0 :: x1 :: x2 :: x3 :: x4 :: x5 :: x6 :: x7 :: x8 :: l) = true) (hp : pc + 2 = q) (K : ctV B μ R post q (x0 :: x1 :: x2 :: x3 :: x4 :: x5 :: x6 :: x7 :: some (.ref x) :: l) st cs n M) : ctV B μ R post pc (x0 :: x1 :: x2 :: x3 :: x4 :: x5 :: x6 :: x7 :: x8 :: l) (.ref x :: st) cs n M := by subst hp; exact ct_astoreW 8 hd hi h1 K
theorem ct_nstore_8 {x0 : Option Value} {x1 : Option Value} {x2 : Option Value} {x3 : Option Value} {x4 : Option Value} {x5 : Option Value} {x6 : Option Value} {x7 : Option Value} {x8 : Option Value} {l : List (Option Value)} (hd : decode μ.2.1 pc = .ok (.astore 8, 2)) (hi : 8 < μ.2.2.1) (h1 : ctL1 (x0 :: x1 :: x2 :: x3 :: x4 :: x5 :: x6 :: x7 :: x8 :: l) = true) (hp : pc + 2 = q) (K : ctV B μ R post q (x0 :: x1 :: x2 :: x3 :: x4 :: x5 :: x6 :: x7 :: some .null :: l) st cs n M) : ctV B μ R post pc (x0 :: x1 :: x2 :: x3 :: x4 :: x5 :: x6 :: x7 :: x8 :: l) (.null :: st) cs n M := by subst hp; exact ct_astoreNullW 8 hd hi h1 K
theorem ct_iinc_8 {z : Int} {x v : Int32} {x0 : Option Value} {x1 : Option Value} {x2 : Option Value} {x3 : Option Value} {x4 : Option Value} {x5 : Option Value} {x6 : Option Value} {x7 : Option Value} {l : List (Option Value)} (hd : decode μ.2.1 pc = .ok (.iinc 8 z, 3)) (hv : x + Int32.ofInt z = v) (hi : 8 < μ.2.2.1) (h1 : ctL1 (x0 :: x1 :: x2 :: x3 :: x4 :: x5 :: x6 :: x7 :: some (.int x) :: l) = true) (hp : pc + 3 = q) (K : ctV B μ R post q (x0 :: x1 :: x2 :: x3 :: x4 :: x5 :: x6 :: x7 :: some (.int v) :: l) st cs n M) : ctV B μ R post pc (x0 :: x1 :: x2 :: x3 :: x4 :: x5 :: x6 :: x7 :: some (.int x) :: l) st cs n M := by subst hp; exact ct_iincW 8 hd rfl hv hi h1 K
theorem ct_istore_9 {x : Int32} {x0 : Option Value} {x1 : Option Value} {x2 : Option Value} {x3 : Option Value} {x4 : Option Value} {x5 : Option Value} {x6 : Option Value} {x7 : Option Value} {x8 : Option Value} {x9 : Option Value} {l : List (Option Value)} (hd : decode μ.2.1 pc = .ok (.istore 9, 2)) (hi : 9 < μ.2.2.1) (h1 : ctL1 (x0 :: x1 :: x2 :: x3 :: x4 :: x5 :: x6 :: x7 :: x8 :: x9 :: l) = true) (hp : pc + 2 = q) (K : ctV B μ R post q (x0 :: x1 :: x2 :: x3 :: x4 :: x5 :: x6 :: x7 :: x8 :: some (.int x) :: l) st cs n M) : ctV B μ R post pc (x0 :: x1 :: x2 :: x3 :: x4 :: x5 :: x6 :: x7 :: x8 :: x9 :: l) (.int x :: st) cs n M := by subst hp; exact ct_istoreW 9 hd hi h1 K
theorem ct_astore_9 {x : Nat} {x0 : Option Value} {x1 : Option Value} {x2 : Option Value} {x3 : Option Value} {x4 : Option Value} {x5 : Option Value} {x6 : Option Value} {x7 : Option Value} {x8 : Option Value} {x9 : Option Value} {l : List (Option Value)} (hd : decode μ.2.1 pc = .ok (.astore 9, 2)) (hi : 9 < μ.2.2.1) (h1 : ctL1 (x0 :: x1 :: x2 :: x3 :: x4 :: x5 :: x6 :: x7 :: x8 :: x9 :: l) = true) (hp : pc + 2 = q) (K : ctV B μ R post q (x0 :: x1 :: x2 :: x3 :: x4 :: x5 :: x6 :: x7 :: x8 :: some (.ref x) :: l) st cs n M) : ctV B μ R post pc (x0 :: x1 :: x2 :: x3 :: x4 :: x5 :: x6 :: x7 :: x8 :: x9 :: l) (.ref x :: st) cs n M := by subst hp; exact ct_astoreW 9 hd hi h1 K
theorem ct_nstore_9 {x0 : Option Value} {x1 : Option Value} {x2 : Option Value} {x3 : Option Value} {x4 : Option Value} {x5 : Option Value} {x6 : Option Value} {x7 : Option Value} {x8 : Option Value} {x9 : Option Value} {l : List (Option Value)} (hd : decode μ.2.1 pc = .ok (.astore 9, 2)) (hi : 9 < μ.2.2.1) (h1 : ctL1 (x0 :: x1 :: x2 :: x3 :: x4 :: x5 :: x6 :: x7 :: x8 :: x9 :: l) = true) (hp : pc + 2 = q) (K : ctV B μ R post q (x0 :: x1 :: x2 :: x3 :: x4 :: x5 :: x6 :: x7 :: x8 :: some .null :: l) st cs n M) : ctV B μ R post pc (x0 :: x1 :: x2 :: x3 :: x4 :: x5 :: x6 :: x7 :: x8 :: x9 :: l) (.null :: st) cs n M := by subst hp; exact ct_astoreNullW 9 hd hi h1 K
theorem ct_iinc_9 {z : Int} {x v : Int32} {x0 : Option Value} {x1 : Option Value} {x2 : Option Value} {x3 : Option Value} {x4 : Option Value} {x5 : Option Value} {x6 : Option Value} {x7 : Option Value} {x8 : Option Value} {l : List (Option Value)} (hd : decode μ.2.1 pc = .ok (.iinc 9 z, 3)) (hv : x + Int32.ofInt z = v) (hi : 9 < μ.2.2.1) (h1 : ctL1 (x0 :: x1 :: x2 :: x3 :: x4 :: x5 :: x6 :: x7 :: x8 :: some (.int x) :: l) = true) (hp : pc + 3 = q) (K : ctV B μ R post q (x0 :: x1 :: x2 :: x3 :: x4 :: x5 :: x6 :: x7 :: x8 :: some (.int v) :: l) st cs n M) : ctV B μ R post pc (x0 :: x1 :: x2 :: x3 :: x4 :: x5 :: x6 :: x7 :: x8 :: some (.int x) :: l) st cs n M := by subst hp; exact ct_iincW 9 hd rfl hv hi h1 K
theorem ct_istore_10 {x : Int32} {x0 : Option Value} {x1 : Option Value} {x2 : Option Value} {x3 : Option Value} {x4 : Option Value} {x5 : Option Value} {x6 : Option Value} {x7 : Option Value} {x8 : Option Value} {x9 : Option Value} {x10 : Option Value} {l : List (Option Value)} (hd : decode μ.2.1 pc = .ok (.istore 10, 2)) (hi : 10 < μ.2.2.1) (h1 : ctL1 (x0 :: x1 :: x2 :: x3 :: x4 :: x5 :: x6 :: x7 :: x8 :: x9 :: x10 :: l) = true) (hp : pc + 2 = q) (K : ctV B μ R post q (x0 :: x1 :: x2 :: x3 :: x4 :: x5 :: x6 :: x7 :: x8 :: x9 :: some (.int x) :: l) st cs n M) : ctV B μ R post pc (x0 :: x1 :: x2 :: x3 :: x4 :: x5 :: x6 :: x7 :: x8 :: x9 :: x10 :: l) (.int x :: st) cs n M := by subst hp; exact ct_istoreW 10 hd hi h1 K
theorem ct_astore_10 {x : Nat} {x0 : Option Value} {x1 : Option Value} {x2 : Option Value} {x3 : Option Value} {x4 : Option Value} {x5 : Option Value} {x6 : Option Value} {x7 : Option Value} {x8 : Option Value} {x9 : Option Value} {x10 : Option Value} {l : List (Option Value)} (hd : decode μ.2.1 pc = .ok (.astore 10, 2)) (hi : 10 < μ.2.2.1) (h1 : ctL1 (x0 :: x1 :: x2 :: x3 :: x4 :: x5 :: x6 :: x7 :: x8 :: x9 :: x10 :: l) = true) (hp : pc + 2 = q) (K : ctV B μ R post q (x0 :: x1 :: x2 :: x3 :: x4 :: x5 :: x6 :: x7 :: x8 :: x9 :: some (.ref x) :: l) st cs n M) : ctV B μ R post pc (x0 :: x1 :: x2 :: x3 :: x4 :: x5 :: x6 :: x7 :: x8 :: x9 :: x10 :: l) (.ref x :: st) cs n M := by subst hp; exact ct_astoreW 10 hd hi h1 K
theorem ct_nstore_10 {x0 : Option Value} {x1 : Option Value} {x2 : Option Value} {x3 : Option Value} {x4 : Option Value} {x5 : Option Value} {x6 : Option Value} {x7 : Option Value} {x8 : Option Value} {x9 : Option Value} {x10 : Option Value} {l : List (Option Value)} (hd : decode μ.2.1 pc = .ok (.astore 10, 2)) (hi : 10 < μ.2.2.1) (h1 : ctL1 (x0 :: x1 :: x2 :: x3 :: x4 :: x5 :: x6 :: x7 :: x8 :: x9 :: x10 :: l) = true) (hp : pc + 2 = q) (K : ctV B μ R post q (x0 :: x1 :: x2 :: x3 :: x4 :: x5 :: x6 :: x7 :: x8 :: x9 :: some .null :: l) st cs n M) : ctV B μ R post pc (x0 :: x1 :: x2 :: x3 :: x4 :: x5 :: x6 :: x7 :: x8 :: x9 :: x10 :: l) (.null :: st) cs n M := by subst hp; exact ct_astoreNullW 10 hd hi h1 K
theorem ct_iinc_10 {z : Int} {x v : Int32} {x0 : Option Value} {x1 : Option Value} {x2 : Option Value} {x3 : Option Value} {x4 : Option Value} {x5 : Option Value} {x6 : Option Value} {x7 : Option Value} {x8 : Option Value} {x9 : Option Value} {l : List (Option Value)} (hd : decode μ.2.1 pc = .ok (.iinc 10 z, 3)) (hv : x + Int32.ofInt z = v) (hi : 10 < μ.2.2.1) (h1 : ctL1 (x0 :: x1 :: x2 :: x3 :: x4 :: x5 :: x6 :: x7 :: x8 :: x9 :: some (.int x) :: l) = true) (hp : pc + 3 = q) (K : ctV B μ R post q (x0 :: x1 :: x2 :: x3 :: x4 :: x5 :: x6 :: x7 :: x8 :: x9 :: some (.int v) :: l) st cs n M) : ctV B μ R post pc (x0 :: x1 :: x2 :: x3 :: x4 :: x5 :: x6 :: x7 :: x8 :: x9 :: some (.int x) :: l) st cs n M := by subst hp; exact ct_iincW 10 hd rfl hv hi h1 K
theorem ct_istore_11 {x : Int32} {x0 : Option Value} {x1 : Option Value} {x2 : Option Value} {x3 : Option Value} {x4 : Option Value} {x5 : Option Value} {x6 : Option Value} {x7 : Option Value} {x8 : Option Value} {x9 : Option Value} {x10 : Option Value} {x11 : Option Value} {l : List (Option Value)} (hd : decode μ.2.1 pc = .ok (.istore 11, 2)) (hi : 11 < μ.2.2.1) (h1 : ctL1 (x0 :: x1 :: x2 :: x3 :: x4 :: x5 :: x6 :: x7 :: x8 :: x9 :: x10 :: x11 :: l) = true) (hp : pc + 2 = q) (K : ctV B μ R post q (x0 :: x1 :: x2 :: x3 :: x4 :: x5 :: x6 :: x7 :: x8 :: x9 :: x10 :: some (.int x) :: l) st cs n M) : ctV B μ R post pc (x0 :: x1 :: x2 :: x3 :: x4 :: x5 :: x6 :: x7 :: x8 :: x9 :: x10 :: x11 :: l) (.int x :: st) cs n M := by subst hp; exact ct_istoreW 11 hd hi h1 K
theorem ct_astore_11 {x : Nat} {x0 : Option Value} {x1 : Option Value} {x2 : Option Value} {x3 : Option Value} {x4 : Option Value} {x5 : Option Value} {x6 : Option Value} {x7 : Option Value} {x8 : Option Value} {x9 : Option Value} {x10 : Option Value} {x11 : Option Value} {l : List (Option Value)} (hd : decode μ.2.1 pc = .ok (.astore 11, 2)) (hi : 11 < μ.2.2.1) (h1 : ctL1 (x0 :: x1 :: x2 :: x3 :: x4 :: x5 :: x6 :: x7 :: x8 :: x9 :: x10 :: x11 :: l) = true) (hp : pc + 2 = q) (K : ctV B μ R post q (x0 :: x1 :: x2 :: x3 :: x4 :: x5 :: x6 :: x7 :: x8 :: x9 :: x10 :: some (.ref x) :: l) st cs n M) : ctV B μ R post pc (x0 :: x1 :: x2 :: x3 :: x4 :: x5 :: x6 :: x7 :: x8 :: x9 :: x10 :: x11 :: l) (.ref x :: st) cs n M := by subst hp; exact ct_astoreW 11 hd hi h1 K
theorem ct_nstore_11 {x0 : Option Value} {x1 : Option Value} {x2 : Option Value} {x3 : Option Value} {x4 : Option Value} {x5 : Option Value} {x6 : Option Value} {x7 : Option Value} {x8 : Option Value} {x9 : Option Value} {x10 : Option Value} {x11 : Option Value} {l : List (Option Value)} (hd : decode μ.2.1 pc = .ok (.astore 11, 2)) (hi : 11 < μ.2.2.1) (h1 : ctL1 (x0 :: x1 :: x2 :: x3 :: x4 :: x5 :: x6 :: x7 :: x8 :: x9 :: x10 :: x11 :: l) = true) (hp : pc + 2 = q) (K : ctV B μ R post q (x0 :: x1 :: x2 :: x3 :: x4 :: x5 :: x6 :: x7 :: x8 :: x9 :: x10 :: some .null :: l) st cs n M) : ctV B μ R post pc (x0 :: x1 :: x2 :: x3 :: x4 :: x5 :: x6 :: x7 :: x8 :: x9 :: x10 :: x11 :: l) (.null :: st) cs n M := by subst hp; exact ct_astoreNullW 11 hd hi h1 K
theorem ct_iinc_11 {z : Int} {x v : Int32} {x0 : Option Value} {x1 : Option Value} {x2 : Option Value} {x3 : Option Value} {x4 : Option Value} {x5 : Option Value} {x6 : Option Value} {x7 : Option Value} {x8 : Option Value} {x9 : Option Value} {x10 : Option Value} {l : List (Option Value)} (hd : decode μ.2.1 pc = .ok (.iinc 11 z, 3)) (hv : x + Int32.ofInt z = v) (hi : 11 < μ.2.2.1) (h1 : ctL1 (x0 :: x1 :: x2 :: x3 :: x4 :: x5 :: x6 :: x7 :: x8 :: x9 :: x10 :: some (.int x) :: l) = true) (hp : pc + 3 = q) (K : ctV B μ R post q (x0 :: x1 :: x2 :: x3 :: x4 :: x5 :: x6 :: x7 :: x8 :: x9 :: x10 :: some (.int v) :: l) st cs n M) : ctV B μ R post pc (x0 :: x1 :: x2 :: x3 :: x4 :: x5 :: x6 :: x7 :: x8 :: x9 :: x10 :: some (.int x) :: l) st cs n M := by subst hp; exact ct_iincW 11 hd rfl hv hi h1 K
theorem ct_istore_12 {x : Int32} {x0 : Option Value} {x1 : Option Value} {x2 : Option Value} {x3 : Option Value} {x4 : Option Value} {x5 : Option Value} {x6 : Option Value} {x7 : Option Value} {x8 : Option Value} {x9 : Option Value} {x10 : Option Value} {x11 : Option Value} {x12 : Option Value} {l : List (Option Value)} (hd : decode μ.2.1 pc = .ok (.istore 12, 2)) (hi : 12 < μ.2.2.1) (h1 : ctL1 (x0 :: x1 :: x2 :: x3 :: x4 :: x5 :: x6 :: x7 :: x8 :: x9 :: x10 :: x11 :: x12 :: l) = true) (hp : pc + 2 = q) (K : ctV B μ R post q (x0 :: x1 :: x2 :: x3 :: x4 :: x5 :: x6 :: x7 :: x8 :: x9 :: x10 :: x11 :: some (.int x) :: l) st cs n M) : ctV B μ R post pc (x0 :: x1 :: x2 :: x3 :: x4 :: x5 :: x6 :: x7 :: x8 :: x9 :: x10 :: x11 :: x12 :: l) (.int x :: st) cs n M := by subst hp; exact ct_istoreW 12 hd hi h1 K
theorem ct_astore_12 {x : Nat} {x0 : Option Value} {x1 : Option Value} {x2 : Option Value} {x3 : Option Value} {x4 : Option Value} {x5 : Option Value} {x6 : Option Value} {x7 : Option Value} {x8 : Option Value} {x9 : Option Value} {x10 : Option Value} {x11 : Option Value} {x12 : Option Value} {l : List (Option Value)} (hd : decode μ.2.1 pc = .ok (.astore 12, 2)) (hi : 12 < μ.2.2.1) (h1 : ctL1 (x0 :: x1 :: x2 :: x3 :: x4 :: x5 :: x6 :: x7 :: x8 :: x9 :: x10 :: x11 :: x12 :: l) = true) (hp : pc + 2 = q) (K : ctV B μ R post q (x0 :: x1 :: x2 :: x3 :: x4 :: x5 :: x6 :: x7 :: x8 :: x9 :: x10 :: x11 :: some (.ref x) :: l) st cs n M) : ctV B μ R post pc (x0 :: x1 :: x2 :: x3 :: x4 :: x5 :: x6 :: x7 :: x8 :: x9 :: x10 :: x11 :: x12 :: l) (.ref x :: st) cs n M := by subst hp; exact ct_astoreW 12 hd hi h1 K
theorem ct_nstore_12 {x0 : Option Value} {x1 : Option Value} {x2 : Option Value} {x3 : Option Value} {x4 : Option Value} {x5 : Option Value} {x6 : Option Value} {x7 : Option Value} {x8 : Option Value} {x9 : Option Value} {x10 : Option Value} {x11 : Option Value} {x12 : Option Value} {l : List (Option Value)} (hd : decode μ.2.1 pc = .ok (.astore 12, 2)) (hi : 12 < μ.2.2.1) (h1 : ctL1 (x0 :: x1 :: x2 :: x3 :: x4 :: x5 :: x6 :: x7 :: x8 :: x9 :: x10 :: x11 :: x12 :: l) = true) (hp : pc + 2 = q) (K : ctV B μ R post q (x0 :: x1 :: x2 :: x3 :: x4 :: x5 :: x6 :: x7 :: x8 :: x9 :: x10 :: x11 :: some .null :: l) st cs n M) : ctV B μ R post pc (x0 :: x1 :: x2 :: x3 :: x4 :: x5 :: x6 :: x7 :: x8 :: x9 :: x10 :: x11 :: x12 :: l) (.null :: st) cs n M := by subst hp; exact ct_astoreNullW 12 hd hi h1 K
theorem ct_iinc_12 {z : Int} {x v : Int32} {x0 : Option Value} {x1 : Option Value} {x2 : Option Value} {x3 : Option Value} {x4 : Option Value} {x5 : Option Value} {x6 : Option Value} {x7 : Option Value} {x8 : Option Value} {x9 : Option Value} {x10 : Option Value} {x11 : Option Value} {l : List (Option Value)} (hd : decode μ.2.1 pc = .ok (.iinc 12 z, 3)) (hv : x + Int32.ofInt z = v) (hi : 12 < μ.2.2.1) (h1 : ctL1 (x0 :: x1 :: x2 :: x3 :: x4 :: x5 :: x6 :: x7 :: x8 :: x9 :: x10 :: x11 :: some (.int x) :: l) = true) (hp : pc + 3 = q) (K : ctV B μ R post q (x0 :: x1 :: x2 :: x3 :: x4 :: x5 :: x6 :: x7 :: x8 :: x9 :: x10 :: x11 :: some (.int v) :: l) st cs n M) : ctV B μ R post pc (x0 :: x1 :: x2 :: x3 :: x4 :: x5 :: x6 :: x7 :: x8 :: x9 :: x10 :: x11 :: some (.int x) :: l) st cs n M := by subst hp; exact ct_iincW 12 hd rfl hv hi h1 K
theorem ct_istore_13 {x : Int32} {x0 : Option Value} {x1 : Option Value} {x2 : Option Value} {x3 : Option Value} {x4 : Option Value} {x5 : Option Value} {x6 : Option Value} {x7 : Option Value} {x8 : Option Value} {x9 : Option Value} {x10 : Option Value} {x11 : Option Value} {x12 : Option Value} {x13 : Option Value} {l : List (Option Value)} (hd : decode μ.2.1 pc = .ok (.istore 13, 2)) (hi : 13 < μ.2.2.1) (h1 : ctL1 (x0 :: x1 :: x2 :: x3 :: x4 :: x5 :: x6 :: x7 :: x8 :: x9 :: x10 :: x11 :: x12 :: x13 :: l) = true) (hp : pc + 2 = q) (K : ctV B μ R post q (x0 :: x1 :: x2 :: x3 :: x4 :: x5 :: x6 :: x7 :: x8 :: x9 :: x10 :: x11 :: x12 :: some (.int x) :: l) st cs n M) : ctV B μ R post pc (x0 :: x1 :: x2 :: x3 :: x4 :: x5 :: x6 :: x7 :: x8 :: x9 :: x10 :: x11 :: x12 :: x13 :: l) (.int x :: st) cs n M := by subst hp; exact ct_istoreW 13 hd hi h1 K
theorem ct_astore_13 {x : Nat} {x0 : Option Value} {x1 : Option Value} {x2 : Option Value} {x3 : Option Value} {x4 : Option Value} {x5 : Option Value} {x6 : Option Value} {x7 : Option Value} {x8 : Option Value} {x9 : Option Value} {x10 : Option Value} {x11 : Option Value} {x12 : Option Value} {x13 : Option Value} {l : List (Option Value)} (hd : decode μ.2.1 pc = .ok (.astore 13, 2)) (hi : 13 < μ.2.2.1) (h1 : ctL1 (x0 :: x1 :: x2 :: x3 :: x4 :: x5 :: x6 :: x7 :: x8 :: x9 :: x10 :: x11 :: x12 :: x13 :: l) = true) (hp : pc + 2 = q) (K : ctV B μ R post q (x0 :: x1 :: x2 :: x3 :: x4 :: x5 :: x6 :: x7 :: x8 :: x9 :: x10 :: x11 :: x12 :: some (.ref x) :: l) st cs n M) : ctV B μ R post pc (x0 :: x1 :: x2 :: x3 :: x4 :: x5 :: x6 :: x7 :: x8 :: x9 :: x10 :: x11 :: x12 :: x13 :: l) (.ref x :: st) cs n M := by subst hp; exact ct_astoreW 13 hd hi h1 K
theorem ct_nstore_13 {x0 : Option Value} {x1 : Option Value} {x2 : Option Value} {x3 : Option Value} {x4 : Option Value} {x5 : Option Value} {x6 : Option Value} {x7 : Option Value} {x8 : Option Value} {x9 : Option Value} {x10 : Option Value} {x11 : Option Value} {x12 : Option Value} {x13 : Option Value} {l : List (Option Value)} (hd : decode μ.2.1 pc = .ok (.astore 13, 2)) (hi : 13 < μ.2.2.1) (h1 : ctL1 (x0 :: x1 :: x2 :: x3 :: x4 :: x5 :: x6 :: x7 :: x8 :: x9 :: x10 :: x11 :: x12 :: x13 :: l) = true) (hp : pc + 2 = q) (K : ctV B μ R post q (x0 :: x1 :: x2 :: x3 :: x4 :: x5 :: x6 :: x7 :: x8 :: x9 :: x10 :: x11 :: x12 :: some .null :: l) st cs n M) : ctV B μ R post pc (x0 :: x1 :: x2 :: x3 :: x4 :: x5 :: x6 :: x7 :: x8 :: x9 :: x10 :: x11 :: x12 :: x13 :: l) (.null :: st) cs n M := by subst hp; exact ct_astoreNullW 13 hd hi h1 K
theorem ct_iinc_13 {z : Int} {x v : Int32} {x0 : Option Value} {x1 : Option Value} {x2 : Option Value} {x3 : Option Value} {x4 : Option Value} {x5 : Option Value} {x6 : Option Value} {x7 : Option Value} {x8 : Option Value} {x9 : Option Value} {x10 : Option Value} {x11 : Option Value} {x12 : Option Value} {l : List (Option Value)} (hd : decode μ.2.1 pc = .ok (.iinc 13 z, 3)) (hv : x + Int32.ofInt z = v) (hi : 13 < μ.2.2.1) (h1 : ctL1 (x0 :: x1 :: x2 :: x3 :: x4 :: x5 :: x6 :: x7 :: x8 :: x9 :: x10 :: x11 :: x12 :: some (.int x) :: l) = true) (hp : pc + 3 = q) (K : ctV B μ R post q (x0 :: x1 :: x2 :: x3 :: x4 :: x5 :: x6 :: x7 :: x8 :: x9 :: x10 :: x11 :: x12 :: some (.int v) :: l) st cs n M) : ctV B μ R post pc (x0 :: x1 :: x2 :: x3 :: x4 :: x5 :: x6 :: x7 :: x8 :: x9 :: x10 :: x11 :: x12 :: some (.int x) :: l) st cs n M := by subst hp; exact ct_iincW 13 hd rfl hv hi h1 K
theorem ct_iadd {x y : Int32} (hd : decode μ.2.1 pc = .ok (.iadd, 1)) (hp : pc + 1 = q) (K : ctV B μ R post q (L) (.int (x + y) :: st) cs n M) : ctV B μ R post pc (L) (.int y :: .int x :: st) cs n M := by
  subst hp
  exact fun p e s m args below meth c H locs ls C w S h => lv_iadd C.1 C.2.1 hd (K p e s m args below meth c H locs ls C w S h)
theorem ct_isub {x y : Int32} (hd : decode μ.2.1 pc = .ok (.isub, 1)) (hp : pc + 1 = q) (K : ctV B μ R post q (L) (.int (x - y) :: st) cs n M) : ctV B μ R post pc (L) (.int y :: .int x :: st) cs n M := by
  subst hp
  exact fun p e s m args below meth c H locs ls C w S h => lv_isub C.1 C.2.1 hd (K p e s m args below meth c H locs ls C w S h)
theorem ct_imul {x y : Int32} (hd : decode μ.2.1 pc = .ok (.imul, 1)) (hp : pc + 1 = q) (K : ctV B μ R post q (L) (.int (x * y) :: st) cs n M) : ctV B μ R post pc (L) (.int y :: .int x :: st) cs n M := by
  subst hp
  exact fun p e s m args below meth c H locs ls C w S h => lv_imul C.1 C.2.1 hd (K p e s m args below meth c H locs ls C w S h)
theorem ct_iand {x y : Int32} (hd : decode μ.2.1 pc = .ok (.iand, 1)) (hp : pc + 1 = q) (K : ctV B μ R post q (L) (.int (x &&& y) :: st) cs n M) : ctV B μ R post pc (L) (.int y :: .int x :: st) cs n M := by
  subst hp
  exact fun p e s m args below meth c H locs ls C w S h => lv_iand C.1 C.2.1 hd (K p e s m args below meth c H locs ls C w S h)
theorem ct_ior {x y : Int32} (hd : decode μ.2.1 pc = .ok (.ior, 1)) (hp : pc + 1 = q) (K : ctV B μ R post q (L) (.int (x ||| y) :: st) cs n M) : ctV B μ R post pc (L) (.int y :: .int x :: st) cs n M := by
  subst hp
  exact fun p e s m args below meth c H locs ls C w S h => lv_ior C.1 C.2.1 hd (K p e s m args below meth c H locs ls C w S h)
theorem ct_ixor {x y : Int32} (hd : decode μ.2.1 pc = .ok (.ixor, 1)) (hp : pc + 1 = q) (K : ctV B μ R post q (L) (.int (x ^^^ y) :: st) cs n M) : ctV B μ R post pc (L) (.int y :: .int x :: st) cs n M := by
  subst hp
  exact fun p e s m args below meth c H locs ls C w S h => lv_ixor C.1 C.2.1 hd (K p e s m args below meth c H locs ls C w S h)
theorem ct_ishl {x y : Int32} (hd : decode μ.2.1 pc = .ok (.ishl, 1)) (hp : pc + 1 = q) (K : ctV B μ R post q (L) (.int (x <<< (y &&& 31)) :: st) cs n M) : ctV B μ R post pc (L) (.int y :: .int x :: st) cs n M := by
  subst hp
  exact fun p e s m args below meth c H locs ls C w S h => lv_ishl C.1 C.2.1 hd (K p e s m args below meth c H locs ls C w S h)
theorem ct_ishr {x y : Int32} (hd : decode μ.2.1 pc = .ok (.ishr, 1)) (hp : pc + 1 = q) (K : ctV B μ R post q (L) (.int (x >>> (y &&& 31)) :: st) cs n M) : ctV B μ R post pc (L) (.int y :: .int x :: st) cs n M := by
  subst hp
  exact fun p e s m args below meth c H locs ls C w S h => lv_ishr C.1 C.2.1 hd (K p e s m args below meth c H locs ls C w S h)
theorem ct_iushr {x y : Int32} (hd : decode μ.2.1 pc = .ok (.iushr, 1)) (hp : pc + 1 = q) (K : ctV B μ R post q (L) (.int ((x.toUInt32 >>> (y.toUInt32 &&& Int32.toUInt32 31)).toInt32) :: st) cs n M) : ctV B μ R post pc (L) (.int y :: .int x :: st) cs n M := by
  subst hp
  exact fun p e s m args below meth c H locs ls C w S h => lv_iushr C.1 C.2.1 hd rfl (K p e s m args below meth c H locs ls C w S h)
theorem ct_idiv {x y : Int32} (hd : decode μ.2.1 pc = .ok (.idiv, 1)) (hy : ¬ y = 0) (hp : pc + 1 = q) (K : ctV B μ R post q (L) (.int (x / y) :: st) cs n M) : ctV B μ R post pc (L) (.int y :: .int x :: st) cs n M := by
  subst hp
  exact fun p e s m args below meth c H locs ls C w S h => lv_idiv C.1 C.2.1 hd hy (K p e s m args below meth c H locs ls C w S h)
theorem ct_irem {x y : Int32} (hd : decode μ.2.1 pc = .ok (.irem, 1)) (hy : ¬ y = 0) (hp : pc + 1 = q) (K : ctV B μ R post q (L) (.int (x % y) :: st) cs n M) : ctV B μ R post pc (L) (.int y :: .int x :: st) cs n M := by
  subst hp
  exact fun p e s m args below meth c H locs ls C w S h => lv_irem C.1 C.2.1 hd hy (by rw [irem_eq_mod]; exact (K p e s m args below meth c H locs ls C w S h))
theorem ct_ineg {x : Int32} (hd : decode μ.2.1 pc = .ok (.ineg, 1)) (hp : pc + 1 = q) (K : ctV B μ R post q (L) (.int (-x) :: st) cs n M) : ctV B μ R post pc (L) (.int x :: st) cs n M := by
  subst hp
  exact fun p e s m args below meth c H locs ls C w S h => lv_ineg C.1 C.2.1 hd (K p e s m args below meth c H locs ls C w S h)
theorem ct_ladd {x y : Int64} (hd : decode μ.2.1 pc = .ok (.ladd, 1)) (hp : pc + 1 = q) (K : ctV B μ R post q (L) (.long (x + y) :: st) cs n M) : ctV B μ R post pc (L) (.long y :: .long x :: st) cs n M := by
  subst hp
  exact fun p e s m args below meth c H locs ls C w S h => lv_ladd C.1 C.2.1 hd (K p e s m args below meth c H locs ls C w S h)
theorem ct_lcmp {x y : Int64} (hd : decode μ.2.1 pc = .ok (.lcmp, 1)) (hp : pc + 1 = q) (K : ctV B μ R post q (L) (.int (lg_cmp x y) :: st) cs n M) : ctV B μ R post pc (L) (.long y :: .long x :: st) cs n M := by
  subst hp
  exact fun p e s m args below meth c H locs ls C w S h => W.lcmp C.1 C.2.1 hd (K p e s m args below meth c H locs ls C w S h)
theorem ct_i2l {x : Int32} (hd : decode μ.2.1 pc = .ok (.i2l, 1)) (hp : pc + 1 = q) (K : ctV B μ R post q (L) (.long x.toInt64 :: st) cs n M) : ctV B μ R post pc (L) (.int x :: st) cs n M := by
  subst hp
  exact fun p e s m args below meth c H locs ls C w S h => lv_i2l C.1 C.2.1 hd rfl (K p e s m args below meth c H locs ls C w S h)
theorem ct_i2b {x : Int32} (hd : decode μ.2.1 pc = .ok (.i2b, 1)) (hp : pc + 1 = q) (K : ctV B μ R post q (L) (.int x.toInt8.toInt32 :: st) cs n M) : ctV B μ R post pc (L) (.int x :: st) cs n M := by
  subst hp
  exact fun p e s m args below meth c H locs ls C w S h => lv_i2b C.1 C.2.1 hd rfl (K p e s m args below meth c H locs ls C w S h)
theorem ct_i2s {x : Int32} (hd : decode μ.2.1 pc = .ok (.i2s, 1)) (hp : pc + 1 = q) (K : ctV B μ R post q (L) (.int x.toInt16.toInt32 :: st) cs n M) : ctV B μ R post pc (L) (.int x :: st) cs n M := by
  subst hp
  exact fun p e s m args below meth c H locs ls C w S h => lv_i2s C.1 C.2.1 hd rfl (K p e s m args below meth c H locs ls C w S h)
theorem ct_dup {v : Value} (hd : decode μ.2.1 pc = .ok (.dup, 1)) (hc : v.category = 1) (hp : pc + 1 = q) (K : ctV B μ R post q (L) (v :: v :: st) cs n M) : ctV B μ R post pc (L) (v :: st) cs n M := by
  subst hp
  exact fun p e s m args below meth c H locs ls C w S h => lv_dup C.1 C.2.1 hd ((ctv_cat B v).trans hc) (K p e s m args below meth c H locs ls C w S h)
theorem ct_pop {v : Value} (hd : decode μ.2.1 pc = .ok (.pop, 1)) (hc : v.category = 1) (hp : pc + 1 = q) (K : ctV B μ R post q (L) (st) cs n M) : ctV B μ R post pc (L) (v :: st) cs n M := by
  subst hp
  exact fun p e s m args below meth c H locs ls C w S h => lv_pop C.1 C.2.1 hd ((ctv_cat B v).trans hc) (K p e s m args below meth c H locs ls C w S h)
theorem ct_dup2 {v u : Value} (hd : decode μ.2.1 pc = .ok (.dup2, 1)) (hc : v.category = 1) (hu : u.category = 1) (hp : pc + 1 = q) (K : ctV B μ R post q (L) (v :: u :: v :: u :: st) cs n M) : ctV B μ R post pc (L) (v :: u :: st) cs n M := by
  subst hp
  exact fun p e s m args below meth c H locs ls C w S h => lv_dup2_11 C.1 C.2.1 hd ((ctv_cat B v).trans hc) ((ctv_cat B u).trans hu) (K p e s m args below meth c H locs ls C w S h)
theorem ct_if_eq {x : Int32} {off : Int} {tgt : Nat} (hd : decode μ.2.1 pc = .ok (.ifCond .eq off, 3)) (ht : (pc : Int) + off = (tgt : Int)) (hp : pc + 3 = q) (kt : x = 0 → ctV B μ R post tgt L st cs n M) (kf : ¬ (x = 0) → ctV B μ R post q L st cs n M) : ctV B μ R post pc L (.int x :: st) cs n M := by
  subst hp
  exact fun p e s m args below meth c H locs ls C w S h => lv_if_eq C.1 C.2.1 hd ht (fun z => kt z p e s m args below meth c H locs ls C w S h) (fun z => kf z p e s m args below meth c H locs ls C w S h)
theorem ct_if_ne {x : Int32} {off : Int} {tgt : Nat} (hd : decode μ.2.1 pc = .ok (.ifCond .ne off, 3)) (ht : (pc : Int) + off = (tgt : Int)) (hp : pc + 3 = q) (kt : ¬ x = 0 → ctV B μ R post tgt L st cs n M) (kf : x = 0 → ctV B μ R post q L st cs n M) : ctV B μ R post pc L (.int x :: st) cs n M := by
  subst hp
  exact fun p e s m args below meth c H locs ls C w S h => lv_if_ne C.1 C.2.1 hd ht (fun z => kt z p e s m args below meth c H locs ls C w S h) (fun z => kf z p e s m args below meth c H locs ls C w S h)
theorem ct_if_lt {x : Int32} {off : Int} {tgt : Nat} (hd : decode μ.2.1 pc = .ok (.ifCond .lt off, 3)) (ht : (pc : Int) + off = (tgt : Int)) (hp : pc + 3 = q) (kt : x < 0 → ctV B μ R post tgt L st cs n M) (kf : ¬ (x < 0) → ctV B μ R post q L st cs n M) : ctV B μ R post pc L (.int x :: st) cs n M := by
  subst hp
  exact fun p e s m args below meth c H locs ls C w S h => lv_if_lt C.1 C.2.1 hd ht (fun z => kt z p e s m args below meth c H locs ls C w S h) (fun z => kf z p e s m args below meth c H locs ls C w S h)
theorem ct_if_ge {x : Int32} {off : Int} {tgt : Nat} (hd : decode μ.2.1 pc = .ok (.ifCond .ge off, 3)) (ht : (pc : Int) + off = (tgt : Int)) (hp : pc + 3 = q) (kt : 0 ≤ x → ctV B μ R post tgt L st cs n M) (kf : ¬ (0 ≤ x) → ctV B μ R post q L st cs n M) : ctV B μ R post pc L (.int x :: st) cs n M := by
  subst hp
  exact fun p e s m args below meth c H locs ls C w S h => lv_if_ge C.1 C.2.1 hd ht (fun z => kt z p e s m args below meth c H locs ls C w S h) (fun z => kf z p e s m args below meth c H locs ls C w S h)
theorem ct_if_gt {x : Int32} {off : Int} {tgt : Nat} (hd : decode μ.2.1 pc = .ok (.ifCond .gt off, 3)) (ht : (pc : Int) + off = (tgt : Int)) (hp : pc + 3 = q) (kt : 0 < x → ctV B μ R post tgt L st cs n M) (kf : ¬ (0 < x) → ctV B μ R post q L st cs n M) : ctV B μ R post pc L (.int x :: st) cs n M := by
  subst hp
  exact fun p e s m args below meth c H locs ls C w S h => lv_if_gt C.1 C.2.1 hd ht (fun z => kt z p e s m args below meth c H locs ls C w S h) (fun z => kf z p e s m args below meth c H locs ls C w S h)
theorem ct_if_le {x : Int32} {off : Int} {tgt : Nat} (hd : decode μ.2.1 pc = .ok (.ifCond .le off, 3)) (ht : (pc : Int) + off = (tgt : Int)) (hp : pc + 3 = q) (kt : x ≤ 0 → ctV B μ R post tgt L st cs n M) (kf : ¬ (x ≤ 0) → ctV B μ R post q L st cs n M) : ctV B μ R post pc L (.int x :: st) cs n M := by
  subst hp
  exact fun p e s m args below meth c H locs ls C w S h => lv_if_le C.1 C.2.1 hd ht (fun z => kt z p e s m args below meth c H locs ls C w S h) (fun z => kf z p e s m args below meth c H locs ls C w S h)
theorem ct_icmp_eq {x y : Int32} {off : Int} {tgt : Nat} (hd : decode μ.2.1 pc = .ok (.if_icmp .eq off, 3)) (ht : (pc : Int) + off = (tgt : Int)) (hp : pc + 3 = q) (kt : x = y → ctV B μ R post tgt L st cs n M) (kf : ¬ (x = y) → ctV B μ R post q L st cs n M) : ctV B μ R post pc L (.int y :: .int x :: st) cs n M := by
  subst hp
  exact fun p e s m args below meth c H locs ls C w S h => lv_icmp_eq C.1 C.2.1 hd ht (fun z => kt z p e s m args below meth c H locs ls C w S h) (fun z => kf z p e s m args below meth c H locs ls C w S h)
theorem ct_icmp_ne {x y : Int32} {off : Int} {tgt : Nat} (hd : decode μ.2.1 pc = .ok (.if_icmp .ne off, 3)) (ht : (pc : Int) + off = (tgt : Int)) (hp : pc + 3 = q) (kt : ¬ x = y → ctV B μ R post tgt L st cs n M) (kf : x = y → ctV B μ R post q L st cs n M) : ctV B μ R post pc L (.int y :: .int x :: st) cs n M := by
  subst hp
  exact fun p e s m args below meth c H locs ls C w S h => lv_icmp_ne C.1 C.2.1 hd ht (fun z => kt z p e s m args below meth c H locs ls C w S h) (fun z => kf z p e s m args below meth c H locs ls C w S h)
theorem ct_icmp_lt {x y : Int32} {off : Int} {tgt : Nat} (hd : decode μ.2.1 pc = .ok (.if_icmp .lt off, 3)) (ht : (pc : Int) + off = (tgt : Int)) (hp : pc + 3 = q) (kt : x < y → ctV B μ R post tgt L st cs n M) (kf : ¬ (x < y) → ctV B μ R post q L st cs n M) : ctV B μ R post pc L (.int y :: .int x :: st) cs n M := by
  subst hp
  exact fun p e s m args below meth c H locs ls C w S h => lv_icmp_lt C.1 C.2.1 hd ht (fun z => kt z p e s m args below meth c H locs ls C w S h) (fun z => kf z p e s m args below meth c H locs ls C w S h)
theorem ct_icmp_ge {x y : Int32} {off : Int} {tgt : Nat} (hd : decode μ.2.1 pc = .ok (.if_icmp .ge off, 3)) (ht : (pc : Int) + off = (tgt : Int)) (hp : pc + 3 = q) (kt : y ≤ x → ctV B μ R post tgt L st cs n M) (kf : ¬ (y ≤ x) → ctV B μ R post q L st cs n M) : ctV B μ R post pc L (.int y :: .int x :: st) cs n M := by
  subst hp
  exact fun p e s m args below meth c H locs ls C w S h => lv_icmp_ge C.1 C.2.1 hd ht (fun z => kt z p e s m args below meth c H locs ls C w S h) (fun z => kf z p e s m args below meth c H locs ls C w S h)
theorem ct_icmp_gt {x y : Int32} {off : Int} {tgt : Nat} (hd : decode μ.2.1 pc = .ok (.if_icmp .gt off, 3)) (ht : (pc : Int) + off = (tgt : Int)) (hp : pc + 3 = q) (kt : y < x → ctV B μ R post tgt L st cs n M) (kf : ¬ (y < x) → ctV B μ R post q L st cs n M) : ctV B μ R post pc L (.int y :: .int x :: st) cs n M := by
  subst hp
  exact fun p e s m args below meth c H locs ls C w S h => lv_icmp_gt C.1 C.2.1 hd ht (fun z => kt z p e s m args below meth c H locs ls C w S h) (fun z => kf z p e s m args below meth c H locs ls C w S h)
theorem ct_icmp_le {x y : Int32} {off : Int} {tgt : Nat} (hd : decode μ.2.1 pc = .ok (.if_icmp .le off, 3)) (ht : (pc : Int) + off = (tgt : Int)) (hp : pc + 3 = q) (kt : x ≤ y → ctV B μ R post tgt L st cs n M) (kf : ¬ (x ≤ y) → ctV B μ R post q L st cs n M) : ctV B μ R post pc L (.int y :: .int x :: st) cs n M := by
  subst hp
  exact fun p e s m args below meth c H locs ls C w S h => lv_icmp_le C.1 C.2.1 hd ht (fun z => kt z p e s m args below meth c H locs ls C w S h) (fun z => kf z p e s m args below meth c H locs ls C w S h)
theorem ct_goto {off : Int} (hd : decode μ.2.1 pc = .ok (.goto off, 3)) (ht : (pc : Int) + off = (q : Int)) (K : ctV B μ R post q L st cs n M) : ctV B μ R post pc L st cs n M :=
  fun p e s m args below meth c H locs ls C w S h => lv_goto C.1 C.2.1 hd ht (K p e s m args below meth c H locs ls C w S h)
theorem ct_ifnonnull {a : Nat} {off : Int} (hd : decode μ.2.1 pc = .ok (.ifnonnull off, 3)) (ht : (pc : Int) + off = (q : Int)) (K : ctV B μ R post q L st cs n M) : ctV B μ R post pc L (.ref a :: st) cs n M :=
  fun p e s m args below meth c H locs ls C w S h => lv_ifnonnull C.1 C.2.1 hd ht (K p e s m args below meth c H locs ls C w S h)
theorem ct_ifnonnullN {off : Int} (hd : decode μ.2.1 pc = .ok (.ifnonnull off, 3)) (hp : pc + 3 = q) (K : ctV B μ R post q L st cs n M) : ctV B μ R post pc L (.null :: st) cs n M := by
  subst hp
  exact fun p e s m args below meth c H locs ls C w S h => lv_ifnonnullN C.1 C.2.1 hd (K p e s m args below meth c H locs ls C w S h)
theorem ct_ifnull {a : Nat} {off : Int} (hd : decode μ.2.1 pc = .ok (.ifnull off, 3)) (hp : pc + 3 = q) (K : ctV B μ R post q L st cs n M) : ctV B μ R post pc L (.ref a :: st) cs n M := by
  subst hp
  exact fun p e s m args below meth c H locs ls C w S h => lv_ifnull C.1 C.2.1 hd (K p e s m args below meth c H locs ls C w S h)
theorem ct_ifnullN {off : Int} (hd : decode μ.2.1 pc = .ok (.ifnull off, 3)) (ht : (pc : Int) + off = (q : Int)) (K : ctV B μ R post q L st cs n M) : ctV B μ R post pc L (.null :: st) cs n M :=
  fun p e s m args below meth c H locs ls C w S h => lv_ifnullN C.1 C.2.1 hd ht (K p e s m args below meth c H locs ls C w S h)
/-- switches: at a known number, and elsewhere -/
theorem ct_tsw {dflt lo hi : Int} {offs : Array Int} {len : Nat} {x : Int32} {off : Int} (v : Int32) (hx : x = v) (hd : decode μ.2.1 pc = .ok (.tableswitch dflt lo hi offs, len)) (h1 : ¬ v.toInt < lo) (h2 : ¬ hi < v.toInt) (ho : offs[(v.toInt - lo).toNat]? = some off) (ht : (pc : Int) + off = (q : Int)) (K : ctV B μ R post q L st cs n M) : ctV B μ R post pc L (.int x :: st) cs n M := by
  subst hx
  exact fun p e s m args below meth c H locs ls C w S h => lv_tableIn C.1 C.2.1 hd h1 h2 ho ht (K p e s m args below meth c H locs ls C w S h)
theorem ct_tswD {dflt lo hi : Int} {offs : Array Int} {len : Nat} {x : Int32} (hd : decode μ.2.1 pc = .ok (.tableswitch dflt lo hi offs, len)) (hx : x.toInt < lo ∨ hi < x.toInt) (ht : (pc : Int) + dflt = (q : Int)) (K : ctV B μ R post q L st cs n M) : ctV B μ R post pc L (.int x :: st) cs n M :=
  fun p e s m args below meth c H locs ls C w S h => lv_tableOut C.1 C.2.1 hd hx ht (K p e s m args below meth c H locs ls C w S h)
theorem ct_lsw {dflt : Int} {ps : Array (Int × Int)} {len : Nat} {x : Int32} {off : Int} (hd : decode μ.2.1 pc = .ok (.lookupswitch dflt ps, len)) (hp : (ps.toList.zip (ps.toList.drop 1)).all (fun (a, next) => a.1 < next.1) = true) (ho : Op.lookupswitch.offset ps.toList dflt x.toInt = off) (ht : (pc : Int) + off = (q : Int)) (K : ctV B μ R post q L st cs n M) : ctV B μ R post pc L (.int x :: st) cs n M :=
  fun p e s m args below meth c H locs ls C w S h => lv_lookup C.1 C.2.1 hd hp ho ht (K p e s m args below meth c H locs ls C w S h)
/-- ends -/
theorem ct_iret {x : Int32} (hd : decode μ.2.1 pc = .ok (.ireturn, 1)) (hr : μ.2.2.2 = some .int) (hc : cs.1 ≤ R.2.1 ∧ cs.2 ≤ R.2.2) (hp : post (some (.int x)) n M) : ctV B μ R post pc L [.int x] cs n M :=
  fun p e s m args below meth c H locs ls C w S h => W.widen hc.1 hc.2 (W.iret C.1 C.2.1 (C.2.2.2.2.2.2.1.trans hr) (fun t ht hW => ⟨⟨some (.int x), n, M, rfl, hp, by rw [ht]; exact w⟩, S.F ht⟩) S.2.2 hd C.2.2.2.2.2.2.2.1)
theorem ct_zret {x : Int32} (hd : decode μ.2.1 pc = .ok (.ireturn, 1)) (hr : μ.2.2.2 = some .boolean) (hx : x = 0 ∨ x = 1) (hc : cs.1 ≤ R.2.1 ∧ cs.2 ≤ R.2.2) (hp : post (some (.int x)) n M) : ctV B μ R post pc L [.int x] cs n M :=
  fun p e s m args below meth c H locs ls C w S h => W.widen hc.1 hc.2 (W.zret C.1 C.2.1 (C.2.2.2.2.2.2.1.trans hr) (by rcases hx with rfl | rfl <;> rfl) (fun t ht hW => ⟨⟨some (.int x), n, M, rfl, hp, by rw [ht]; exact w⟩, S.F ht⟩) S.2.2 hd C.2.2.2.2.2.2.2.1)
theorem ct_vret (hd : decode μ.2.1 pc = .ok (.return_, 1)) (hr : μ.2.2.2 = none) (hc : cs.1 ≤ R.2.1 ∧ cs.2 ≤ R.2.2) (hp : post none n M) : ctV B μ R post pc L [] cs n M :=
  fun p e s m args below meth c H locs ls C w S h => W.widen hc.1 hc.2 (W.vret C.1 C.2.1 (C.2.2.2.2.2.2.1.trans hr) (fun t ht hW => ⟨⟨none, n, M, rfl, hp, by rw [ht]; exact w⟩, S.F ht⟩) S.2.2 hd C.2.2.2.2.2.2.2.1)
theorem ct_aret {a : Nat} {nm : String} (hd : decode μ.2.1 pc = .ok (.areturn, 1)) (hr : μ.2.2.2 = some (.object nm)) (hc : cs.1 ≤ R.2.1 ∧ cs.2 ≤ R.2.2) (hp : post (some (.ref a)) n M) : ctV B μ R post pc L [.ref a] cs n M :=
  fun p e s m args below meth c H locs ls C w S h => W.widen hc.1 hc.2 (W.aret (v := .ref (bAd B a)) C.1 C.2.1 (C.2.2.2.2.2.2.1.trans hr) (Or.inl ⟨_, rfl⟩) (Or.inr ⟨_, rfl⟩) (fun t ht hW => ⟨⟨some (.ref a), n, M, rfl, hp, by rw [ht]; exact w⟩, S.F ht⟩) S.2.2 hd C.2.2.2.2.2.2.2.1)
theorem ct_aretN {nm : String} (hd : decode μ.2.1 pc = .ok (.areturn, 1)) (hr : μ.2.2.2 = some (.object nm)) (hc : cs.1 ≤ R.2.1 ∧ cs.2 ≤ R.2.2) (hp : post (some .null) n M) : ctV B μ R post pc L [.null] cs n M :=
  fun p e s m args below meth c H locs ls C w S h => W.widen hc.1 hc.2 (W.aret (v := .null) C.1 C.2.1 (C.2.2.2.2.2.2.1.trans hr) (Or.inl ⟨_, rfl⟩) (Or.inl rfl) (fun t ht hW => ⟨⟨some .null, n, M, rfl, hp, by rw [ht]; exact w⟩, S.F ht⟩) S.2.2 hd C.2.2.2.2.2.2.2.1)

end
end
section
section
variable {B : ctB} {μ : Mi} {R : Nat × Nat × Nat} {post : ctPost} {pc q : Nat} {L : List (Option Value)} {st : List Value} {cs : Nat × Nat} {n : Nat} {M : ctM}
/-- a field's link; a field of ints, of references -/
def ctFl (own : String) (idx c k : Nat) : Prop := Cond.fieldLink own idx (ctT c k).1 (ctT c k).2.1 (ctT c k).2.2.1 ∈ ctG
def ctFi (c k : Nat) : Bool := decide (c < 8) && decide (k < ctN c) && !ctQ c k
def ctFr (c k : Nat) : Bool := decide (c < 8) && decide (k < ctN c) && ctQ c k
theorem ctFi_spec {c k : Nat} (h : ctFi c k = true) : c < 8 ∧ k < ctN c ∧ ctQ c k = false := by
  simp only [ctFi, Bool.and_eq_true, decide_eq_true_eq, Bool.not_eq_true'] at h
  exact ⟨h.1.1, h.1.2, h.2⟩
theorem ctFr_spec {c k : Nat} (h : ctFr c k = true) : c < 8 ∧ k < ctN c ∧ ctQ c k = true := by
  simp only [ctFr, Bool.and_eq_true, decide_eq_true_eq] at h
  exact ⟨h.1.1, h.1.2, h.2⟩
theorem ctE_obj {B : ctB} {M : ctM} {a c : Nat} (h : bKd B a = c) (hc : c < 8) : ctE B M a = .inr (c, ctF B M a c) := by
  subst h
  simp [ctE, hc]
theorem ctE_ints {B : ctB} {M : ctM} {a t : Nat} (h : bKd B a = t) (h1 : 8 ≤ t) (h2 : t < 11) : ctE B M a = .inl (bC B t, bLn B a, .inl (M.1 a)) := by
  subst h
  simp [ctE, h2, Nat.not_lt.mpr h1]
theorem ctE_refs {B : ctB} {M : ctM} {a t : Nat} (h : bKd B a = t) (h1 : 11 ≤ t) : ctE B M a = .inl (bC B t, bLn B a, .inr (.inr (.inr (.inr (fun j => (M.2 a j).map (bAd B)))))) := by
  subst h
  have : ¬ bKd B a < 8 := by omega
  simp [ctE, this, Nat.not_lt.mpr h1]
theorem ctAd {B : ctB} {a n : Nat} (h : a < n) (hn : n ≤ 1000) : bAd B a = bLo B + a := by
  have : a < 1000 := by omega
  simp [bAd, this]
theorem ctH_set {B : ctB} {n : Nat} {M M' : ctM} {H H1 : Heap} (w : ctH B n M H) (hz : H1.size = H.size) (h : va_P (bD B) ctL (ctW B n M') H1) : ctH B n M' H1 := ⟨h, w.2.1, w.2.2.1, fun hf => by rw [hz]; exact w.2.2.2 hf⟩
theorem gI_spec {kd : Nat → Nat} {c k a : Nat} {M : ctM} {x : Int32} (h : gI kd c k a M = some x) : kd a = c ∧ x = M.1 a k := by
  unfold gI at h
  split at h
  · exact ⟨by assumption, (Option.some.inj h).symm⟩
  · cases h
theorem gP_spec {kd : Nat → Nat} {c k a x : Nat} {M : ctM} (h : gP kd c k a M = some x) : kd a = c ∧ M.2 a k = some x := by
  unfold gP at h
  split at h
  · exact ⟨by assumption, h⟩
  · cases h
theorem pI_spec {kd : Nat → Nat} {c k a : Nat} {M M' : ctM} {v : Int32} (h : pI kd c k a v M = some M') : kd a = c ∧ M' = ctI M a k v := by
  unfold pI at h
  split at h
  · exact ⟨by assumption, (Option.some.inj h).symm⟩
  · cases h
theorem pP_spec {kd : Nat → Nat} {c k a b : Nat} {M M' : ctM} (h : pP kd c k a b M = some M') : kd a = c ∧ M' = ctP M a k (some b) := by
  unfold pP at h
  split at h
  · exact ⟨by assumption, (Option.some.inj h).symm⟩
  · cases h
theorem aI_spec {kd ln : Nat → Nat} {t a : Nat} {i x : Int32} {M : ctM} (h : aI kd ln t a i M = some x) : kd a = t ∧ vp_in i (ln a) ∧ x = M.1 a i.toNatClampNeg := by
  unfold aI at h
  split at h
  · rename_i g
    exact ⟨g.1, fun z => z.elim g.2.1 (fun y => by omega), (Option.some.inj h).symm⟩
  · cases h
theorem aP_spec {kd ln : Nat → Nat} {t a x : Nat} {i : Int32} {M : ctM} (h : aP kd ln t a i M = some x) : kd a = t ∧ vp_in i (ln a) ∧ M.2 a i.toNatClampNeg = some x := by
  unfold aP at h
  split at h
  · rename_i g
    exact ⟨g.1, fun z => z.elim g.2.1 (fun y => by omega), h⟩
  · cases h
theorem sI_spec {kd ln : Nat → Nat} {t a : Nat} {i v : Int32} {M M' : ctM} (h : sI kd ln t a i v M = some M') : kd a = t ∧ vp_in i (ln a) ∧ M' = ctI M a i.toNatClampNeg v := by
  unfold sI at h
  split at h
  · rename_i g
    exact ⟨g.1, fun z => z.elim g.2.1 (fun y => by omega), (Option.some.inj h).symm⟩
  · cases h
theorem sP_spec {kd ln : Nat → Nat} {t c a b : Nat} {i : Int32} {M M' : ctM} (h : sP kd ln t c a i b M = some M') : kd a = t ∧ kd b = c ∧ vp_in i (ln a) ∧ M' = ctP M a i.toNatClampNeg (some b) := by
  unfold sP at h
  split at h
  · rename_i g
    exact ⟨g.1, g.2.1, fun z => z.elim g.2.2.1 (fun y => by omega), (Option.some.inj h).symm⟩
  · cases h
variable {kd ln : Nat → Nat}
theorem ct_getI {c k a idx : Nat} {x : Int32} (hB : ctOk B kd ln n) (hd : decode μ.2.1 pc = .ok (.getfield idx, 3)) (hl : ctFl μ.1.cls idx c k) (hs : ctFi c k = true) (hx : gI kd c k a M = some x) (hp : pc + 3 = q) (K : ctV B μ R post q L (.int x :: st) cs n M) : ctV B μ R post pc L (.ref a :: st) cs n M := by
  subst hp
  intro p e s m args below meth c' H locs ls C w S h
  obtain ⟨h1, h2, h3⟩ := ctFi_spec hs
  obtain ⟨g1, rfl⟩ := gI_spec hx
  obtain ⟨g2, g3, g4⟩ := hB a (by omega)
  have he := ctW_at (B := B) (M := M) g4
  rw [ctE_obj (g2.trans g1) h1] at he
  have e1 : (Value.ref a :: st).map (ctv B) = .ref (bLo B + a) :: st.map (ctv B) := by simp [ctv, ctAd g4 w.2.2.1]
  rw [e1]
  refine va_get (D := bD B) (cl := ctL) C.1 C.2.1 C.2.2.2.2.1 (ct_in h1) C.2.2.2.1 C.2.2.2.2.2.1.1 w.1 a he (ct_at h1) k h2 (C.2.2.2.2.1 _ hl) (fun _ z => z) (v := .int (M.1 a k)) (by rw [ctF_at h2, h3]; rfl) hd (K p e s m args below meth c' H locs ls C w S h)
theorem ct_getP {c k a x idx : Nat} (hB : ctOk B kd ln n) (hd : decode μ.2.1 pc = .ok (.getfield idx, 3)) (hl : ctFl μ.1.cls idx c k) (hs : ctFr c k = true) (hx : gP kd c k a M = some x) (hp : pc + 3 = q) (K : ctV B μ R post q L (.ref x :: st) cs n M) : ctV B μ R post pc L (.ref a :: st) cs n M := by
  subst hp
  intro p e s m args below meth c' H locs ls C w S h
  obtain ⟨h1, h2, h3⟩ := ctFr_spec hs
  obtain ⟨g1, hx2⟩ := gP_spec hx
  obtain ⟨g2, g3, g4⟩ := hB a (by omega)
  have he := ctW_at (B := B) (M := M) g4
  rw [ctE_obj (g2.trans g1) h1] at he
  have e1 : (Value.ref a :: st).map (ctv B) = .ref (bLo B + a) :: st.map (ctv B) := by simp [ctv, ctAd g4 w.2.2.1]
  rw [e1]
  refine va_get (D := bD B) (cl := ctL) C.1 C.2.1 C.2.2.2.2.1 (ct_in h1) C.2.2.2.1 C.2.2.2.2.2.1.1 w.1 a he (ct_at h1) k h2 (C.2.2.2.2.1 _ hl) (fun _ z => z) (v := .ref (bAd B x)) (by rw [ctF_at h2, if_pos h3, hx2]; rfl) hd (K p e s m args below meth c' H locs ls C w S h)
/-- a field is written -/
theorem ct_put {c k a idx : Nat} {v : Value} {M' : ctM} (hB : ctOk B kd ln n) (hd : decode μ.2.1 pc = .ok (.putfield idx, 3)) (hl : ctFl μ.1.cls idx c k) (h1 : c < 8) (h2 : k < ctN c) (hf : (ctT c k).2.2.2 = false ∨ ((ctT c k).2.2.2 = true ∧ μ.1.name = "<init>" ∧ (ctT c k).1 = μ.1.cls)) (hn : narrow (ctY c k) (ctv B v) = ctv B v) (hfit : fits (ctY c k) (ctv B v) = true) (g1 : kd a = c) (hset : (ctF B M a c).set k (ctv B v) = ctF B M' a c) (ho : ∀ b, b ≠ a → ctE B M' b = ctE B M b) (hp : pc + 3 = q) (K : ctV B μ R post q L st cs n M') : ctV B μ R post pc L (v :: .ref a :: st) cs n M := by
  subst hp
  intro p e s m args below meth c' H locs ls C w S h
  obtain ⟨g2, g3, g4⟩ := hB a (by omega)
  have he := ctW_at (B := B) (M := M) g4
  rw [ctE_obj (g2.trans g1) h1] at he
  have e1 : (v :: Value.ref a :: st).map (ctv B) = ctv B v :: .ref (bLo B + a) :: st.map (ctv B) := by
    show ctv B v :: .ref (bAd B a) :: _ = _
    rw [ctAd g4 w.2.2.1]
  rw [e1]
  obtain ⟨hx, hb, -, hown, hts, ⟨hK, -⟩, -, -, hname⟩ := id C
  have hap := va_apart (own := μ.1.cls) hts (ct_in h1) (ctY c) (ct_ty h1) (ct_nm h1) hK (ct_at h1)
  obtain ⟨r, hr, cell, q1, q2, q3, q4⟩ := w.1 a _ he
  have hr2 : r = (ctR c, ctT c, ctN c) := Option.some.inj (hr.symm.trans (ct_at h1))
  subst hr2
  obtain ⟨hSl, hfc, kC, hkC, hkind⟩ := hK.1 c _ (ct_at h1)
  obtain ⟨cf, kf, fi, f, hi, hsl⟩ := hSl k h2
  have hlay := hts _ (ct_in h1 _ (u_in_lay h2))
  have hst := (u_facts hfc hkC (u_lays hts (ct_in h1) h2) hi).1
  have hlt : f.slot < cell.slots.size := by rw [hsl]; exact k2_hasslot (q4 k h2)
  have fin : ∀ H' : Heap, H'[bLo B + a]? = some (cell.setSlot f.slot (ctv B v)) → H'.size = H.size → (∀ z : Nat, z ≠ bLo B + a → H'[z]? = H[z]?) → W p (bL B) e (ctRm R) s m args below meth c' H' (locs ++ [⟨bLo B + a, f.slot⟩]) cs.1 cs.2 (MQ below (ctQp B post) args s R.2.1 R.2.2 (ctA B)) (F0 m (pc + 3) ls (st.map (ctv B))) := by
    intro H' a1 a2 a3
    rw [hsl] at a1 ⊢
    have hP := w.1.set (ctD w.2.1) he (e := .inr (c, (ctF B M a c).set k (ctv B v))) ⟨_, ct_at h1, t_OB.to (V := updV (vp_V (ctF B M a c)) k (ctv B v)) ⟨_, a1, q2, q3, t_set q4 hap h2 (ctv B v)⟩ (fun j _ => vp_updV_set (by rw [ctF_len]; exact h2) (ctv B v) j)⟩ a3
    rw [hset, ctW_set g4 (ctE_obj (g2.trans g1) h1) ho] at hP
    exact K p e s m args below meth c' H' _ ls C (ctH_set w a2 hP) (S.put a2 a3 ((ctD w.2.1).2 a _ he)) h
  rcases hf with hf | ⟨hf, hi2, hdecl⟩
  · unfold u_lay at hlay
    rw [if_neg (by rw [hf]; decide)] at hlay
    have h6 := u_store hfc hkC hkind hlay hi (ct_ty h1 k h2) hn hfit
    exact W.putK hx hb (f := f) ⟨hown, hts _ hl, ⟨_, _, _, hi⟩, hst⟩ (by rw [q2]; exact h6) q1 q3 hlt rfl rfl hd fin
  · unfold u_lay at hlay
    rw [if_pos hf] at hlay
    have hcf : m.cls = cf := by
      obtain ⟨_, _, c2, _, _, _, -, -, hf', -, -, -, hown2, -⟩ := Cond.laysFinal_spec hlay
      have e1 : c2 = cf := by have := hi.symm.trans hf'; simp at this; exact this.1.symm
      rw [hdecl] at hown2
      rw [← e1]; exact Option.some.inj (hown.symm.trans hown2)
    have h6 := u_fits hfc hkC hkind (Or.inr hlay) hi (ct_ty h1 k h2) hn hfit
    exact W.putFinK hx hb hown (hts _ hl) hi hst hcf (hname.trans hi2) (by rw [q2]; exact h6) q1 q3 hlt rfl rfl hd fin
def ctMay (μ : Mi) (c k : Nat) : Bool := !(ctT c k).2.2.2 || (μ.1.name == "<init>" && (ctT c k).1 == μ.1.cls)
theorem ctMay_spec {μ : Mi} {c k : Nat} (h : ctMay μ c k = true) : (ctT c k).2.2.2 = false ∨ ((ctT c k).2.2.2 = true ∧ μ.1.name = "<init>" ∧ (ctT c k).1 = μ.1.cls) := by
  simp only [ctMay, Bool.or_eq_true, Bool.not_eq_true', Bool.and_eq_true, beq_iff_eq] at h
  cases hb : (ctT c k).2.2.2 with
  | false => exact Or.inl rfl
  | true =>
    rw [hb] at h
    exact Or.inr ⟨rfl, (h.resolve_left (by decide)).1, (h.resolve_left (by decide)).2⟩
theorem ct_putI {c k a idx : Nat} {v : Int32} {M' : ctM} (hB : ctOk B kd ln n) (hd : decode μ.2.1 pc = .ok (.putfield idx, 3)) (hl : ctFl μ.1.cls idx c k) (hs : ctFi c k = true) (hf : ctMay μ c k = true) (ht : ctY c k = .int ∨ (ctY c k = .boolean ∧ (v = 0 ∨ v = 1))) (hx : pI kd c k a v M = some M') (hp : pc + 3 = q) (K : ctV B μ R post q L st cs n M') : ctV B μ R post pc L (.int v :: .ref a :: st) cs n M := by
  obtain ⟨h1, h2, h3⟩ := ctFi_spec hs
  obtain ⟨g1, rfl⟩ := pI_spec hx
  have hn : narrow (ctY c k) (.int v) = .int v ∧ fits (ctY c k) (.int v) = true := by
    rcases ht with ht | ⟨ht, rfl | rfl⟩ <;> rw [ht] <;> exact ⟨rfl, rfl⟩
  exact ct_put (v := .int v) hB hd hl h1 h2 (ctMay_spec hf) hn.1 hn.2 g1 (ctF_setI h2 h3) (fun b hb => ctE_neI hb) hp K
theorem ct_putP {c k a b idx : Nat} {M' : ctM} (hB : ctOk B kd ln n) (hd : decode μ.2.1 pc = .ok (.putfield idx, 3)) (hl : ctFl μ.1.cls idx c k) (hs : ctFr c k = true) (hf : ctMay μ c k = true) (hx : pP kd c k a b M = some M') (hp : pc + 3 = q) (K : ctV B μ R post q L st cs n M') : ctV B μ R post pc L (.ref b :: .ref a :: st) cs n M := by
  obtain ⟨h1, h2, h3⟩ := ctFr_spec hs
  obtain ⟨g1, rfl⟩ := pP_spec hx
  have hn : narrow (ctY c k) (.ref (bAd B b)) = .ref (bAd B b) ∧ fits (ctY c k) (.ref (bAd B b)) = true := by
    unfold ctQ at h3
    cases hy : ctY c k <;> rw [hy] at h3 <;> first | exact ⟨rfl, rfl⟩ | cases h3
  exact ct_put (v := .ref b) hB hd hl h1 h2 (ctMay_spec hf) hn.1 hn.2 g1 (ctF_setP (r := some b) h2 h3) (fun b hb => ctE_neP hb) hp K
/-! arrays -/
theorem ct_iald {a : Nat} {i x : Int32} (hB : ctOk B kd ln n) (hd : decode μ.2.1 pc = .ok (.iaload, 1)) (hx : aI kd ln 9 a i M = some x) (hp : pc + 1 = q) (K : ctV B μ R post q L (.int x :: st) cs n M) : ctV B μ R post pc L (.int i :: .ref a :: st) cs n M := by
  subst hp
  intro p e s m args below meth c' H locs ls C w S h
  obtain ⟨g1, hin, rfl⟩ := aI_spec hx
  obtain ⟨g2, g3, g4⟩ := hB a (by omega)
  have he := ctW_at (B := B) (M := M) g4
  rw [ctE_ints (g2.trans g1) (by decide) (by decide), g3] at he
  have e1 : (Value.int i :: Value.ref a :: st).map (ctv B) = .int i :: .ref (bLo B + a) :: st.map (ctv B) := by simp [ctv, ctAd g4 w.2.2.1]
  rw [e1]
  exact va_iald C.1 C.2.1 C.2.2.2.2.2.1.1 w.1 a 1 he rfl hin hd (K p e s m args below meth c' H locs ls C w S h)
theorem ct_bald {a : Nat} {i x : Int32} (hB : ctOk B kd ln n) (hd : decode μ.2.1 pc = .ok (.baload, 1)) (hx : aI kd ln 8 a i M = some x) (hp : pc + 1 = q) (K : ctV B μ R post q L (.int x :: st) cs n M) : ctV B μ R post pc L (.int i :: .ref a :: st) cs n M := by
  subst hp
  intro p e s m args below meth c' H locs ls C w S h
  obtain ⟨g1, hin, rfl⟩ := aI_spec hx
  obtain ⟨g2, g3, g4⟩ := hB a (by omega)
  have he := ctW_at (B := B) (M := M) g4
  rw [ctE_ints (g2.trans g1) (by decide) (by decide), g3] at he
  have e1 : (Value.int i :: Value.ref a :: st).map (ctv B) = .int i :: .ref (bLo B + a) :: st.map (ctv B) := by simp [ctv, ctAd g4 w.2.2.1]
  rw [e1]
  exact va_bald C.1 C.2.1 C.2.2.2.2.2.1.1 w.1 a 0 he rfl hin hd (K p e s m args below meth c' H locs ls C w S h)
theorem ct_zald {a : Nat} {i x : Int32} (hB : ctOk B kd ln n) (hd : decode μ.2.1 pc = .ok (.baload, 1)) (hx : aI kd ln 10 a i M = some x) (hp : pc + 1 = q) (K : ctV B μ R post q L (.int x :: st) cs n M) : ctV B μ R post pc L (.int i :: .ref a :: st) cs n M := by
  subst hp
  intro p e s m args below meth c' H locs ls C w S h
  obtain ⟨g1, hin, rfl⟩ := aI_spec hx
  obtain ⟨g2, g3, g4⟩ := hB a (by omega)
  have he := ctW_at (B := B) (M := M) g4
  rw [ctE_ints (g2.trans g1) (by decide) (by decide), g3] at he
  have e1 : (Value.int i :: Value.ref a :: st).map (ctv B) = .int i :: .ref (bLo B + a) :: st.map (ctv B) := by simp [ctv, ctAd g4 w.2.2.1]
  rw [e1]
  exact va_zald C.1 C.2.1 C.2.2.2.2.2.1.1 w.1 a 2 he rfl hin hd (K p e s m args below meth c' H locs ls C w S h)
def ctEl : Nat → String
  | 11 => RX0 | 12 => RX1 | 13 => RX3 | _ => RX4
theorem ctTy_at {B : ctB} {t : Nat} (h : 11 ≤ t) (h2 : t < 15) : (ctTy B)[t - 8]? = some (bC B t, .object (ctEl t)) := by
  rcases (show t = 11 ∨ t = 12 ∨ t = 13 ∨ t = 14 by omega) with rfl | rfl | rfl | rfl <;> rfl
theorem ct_aald {a x : Nat} {i : Int32} {t : Nat} (ht : decide (11 ≤ t) && decide (t < 15) = true) (hB : ctOk B kd ln n) (hd : decode μ.2.1 pc = .ok (.aaload, 1)) (hx : aP kd ln t a i M = some x) (hp : pc + 1 = q) (K : ctV B μ R post q L (.ref x :: st) cs n M) : ctV B μ R post pc L (.int i :: .ref a :: st) cs n M := by
  subst hp
  intro p e s m args below meth c' H locs ls C w S h
  simp only [Bool.and_eq_true, decide_eq_true_eq] at ht
  obtain ⟨g1, hin, hx2⟩ := aP_spec hx
  obtain ⟨g2, g3, g4⟩ := hB a (by omega)
  have he := ctW_at (B := B) (M := M) g4
  rw [ctE_refs (g2.trans g1) ht.1, g3] at he
  have e1 : (Value.int i :: Value.ref a :: st).map (ctv B) = .int i :: .ref (bLo B + a) :: st.map (ctv B) := by simp [ctv, ctAd g4 w.2.2.1]
  rw [e1]
  refine va_aldq C.1 C.2.1 C.2.2.2.2.2.1.1 w.1 a (t - 8) he (ctTy_at ht.1 ht.2) hin hd ?_
  rw [hx2]
  exact K p e s m args below meth c' H locs ls C w S h
theorem ctW_ints {B : ctB} {n a t : Nat} {M : ctM} {j : Nat} {v : Int32} (g4 : a < n) (g : bKd B a = t) (h1 : 8 ≤ t) (h2 : t < 11) : (ctW B n M).set a (bLo B + a, .inl (bC B t, bLn B a, .inl (upd (M.1 a) j v))) = ctW B n (ctI M a j v) := by
  refine ctW_set g4 ?_ (fun b hb => ctE_neI hb)
  rw [ctE_ints g h1 h2]
  simp only [ctI, va_up, if_true]
  rfl
theorem ct_iast {a : Nat} {i v : Int32} {M' : ctM} (hB : ctOk B kd ln n) (hd : decode μ.2.1 pc = .ok (.iastore, 1)) (hx : sI kd ln 9 a i v M = some M') (hp : pc + 1 = q) (K : ctV B μ R post q L st cs n M') : ctV B μ R post pc L (.int v :: .int i :: .ref a :: st) cs n M := by
  subst hp
  intro p e s m args below meth c' H locs ls C w S h
  obtain ⟨g1, hin, rfl⟩ := sI_spec hx
  obtain ⟨g2, g3, g4⟩ := hB a (by omega)
  have he := ctW_at (B := B) (M := M) g4
  rw [ctE_ints (g2.trans g1) (by decide) (by decide)] at he
  rw [← g3] at hin
  have e1 : (Value.int v :: Value.int i :: Value.ref a :: st).map (ctv B) = .int v :: .int i :: .ref (bLo B + a) :: st.map (ctv B) := by simp [ctv, ctAd g4 w.2.2.1]
  rw [e1]
  refine W.iast C.1 C.2.1 (w.1 a _ he) ((C.2.2.2.2.2.1.1.2 1 _ rfl).1 _ (fun j => .int (M.1 a j))) (fun z => by cases z) (by show ¬ (i < 0 ∨ (arrV _ _ _).slots.size ≤ _); rw [arrV_size]; exact hin) rfl rfl hd fun H1 y1 y2 y3 => ?_
  have hP := w.1.set (ctD w.2.1) he (e := .inl (bC B 9, bLn B a, .inl (upd (M.1 a) i.toNatClampNeg v))) (by
    show H1[_]? = some (vp_cell _ _)
    rw [y1, vp_cell_i, vp_cell_i, arrV_store]
    congr 2
    funext z
    by_cases hz : z = i.toNatClampNeg <;> simp [updV, upd, hz]) y3
  rw [ctW_ints g4 (g2.trans g1) (by decide) (by decide)] at hP
  exact K p e s m args below meth c' H1 _ ls C (ctH_set w y2 hP) (S.put y2 y3 ((ctD w.2.1).2 a _ he)) h
theorem ct_bast {a : Nat} {i v : Int32} {M' : ctM} (hB : ctOk B kd ln n) (hd : decode μ.2.1 pc = .ok (.bastore, 1)) (hv : narrow .byte (.int v) = .int v) (hx : sI kd ln 8 a i v M = some M') (hp : pc + 1 = q) (K : ctV B μ R post q L st cs n M') : ctV B μ R post pc L (.int v :: .int i :: .ref a :: st) cs n M := by
  subst hp
  intro p e s m args below meth c' H locs ls C w S h
  obtain ⟨g1, hin, rfl⟩ := sI_spec hx
  obtain ⟨g2, g3, g4⟩ := hB a (by omega)
  have he := ctW_at (B := B) (M := M) g4
  rw [ctE_ints (g2.trans g1) (by decide) (by decide)] at he
  rw [← g3] at hin
  have e1 : (Value.int v :: Value.int i :: Value.ref a :: st).map (ctv B) = .int v :: .int i :: .ref (bLo B + a) :: st.map (ctv B) := by simp [ctv, ctAd g4 w.2.2.1]
  rw [e1]
  refine W.bast C.1 C.2.1 (w.1 a _ he) ((C.2.2.2.2.2.1.1.2 0 _ rfl).1 _ (fun j => .int (M.1 a j))) (fun z => by cases z) (by show ¬ (i < 0 ∨ (arrV _ _ _).slots.size ≤ _); rw [arrV_size]; exact hin) rfl rfl hd fun H1 y1 y2 y3 => ?_
  rw [hv] at y1
  have hP := w.1.set (ctD w.2.1) he (e := .inl (bC B 8, bLn B a, .inl (upd (M.1 a) i.toNatClampNeg v))) (by
    show H1[_]? = some (vp_cell _ _)
    rw [y1, vp_cell_i, vp_cell_i, arrV_store]
    congr 2
    funext z
    by_cases hz : z = i.toNatClampNeg <;> simp [updV, upd, hz]) y3
  rw [ctW_ints g4 (g2.trans g1) (by decide) (by decide)] at hP
  exact K p e s m args below meth c' H1 _ ls C (ctH_set w y2 hP) (S.put y2 y3 ((ctD w.2.1).2 a _ he)) h
theorem ct_zast {a : Nat} {i v : Int32} {M' : ctM} (hB : ctOk B kd ln n) (hd : decode μ.2.1 pc = .ok (.bastore, 1)) (hv : narrow .boolean (.int v) = .int v) (hx : sI kd ln 10 a i v M = some M') (hp : pc + 1 = q) (K : ctV B μ R post q L st cs n M') : ctV B μ R post pc L (.int v :: .int i :: .ref a :: st) cs n M := by
  subst hp
  intro p e s m args below meth c' H locs ls C w S h
  obtain ⟨g1, hin, rfl⟩ := sI_spec hx
  obtain ⟨g2, g3, g4⟩ := hB a (by omega)
  have he := ctW_at (B := B) (M := M) g4
  rw [ctE_ints (g2.trans g1) (by decide) (by decide)] at he
  rw [← g3] at hin
  have e1 : (Value.int v :: Value.int i :: Value.ref a :: st).map (ctv B) = .int v :: .int i :: .ref (bLo B + a) :: st.map (ctv B) := by simp [ctv, ctAd g4 w.2.2.1]
  rw [e1]
  refine W.zast C.1 C.2.1 (w.1 a _ he) ((C.2.2.2.2.2.1.1.2 2 _ rfl).1 _ (fun j => .int (M.1 a j))) (fun z => by cases z) (by show ¬ (i < 0 ∨ (arrV _ _ _).slots.size ≤ _); rw [arrV_size]; exact hin) rfl rfl hd fun H1 y1 y2 y3 => ?_
  rw [hv] at y1
  have hP := w.1.set (ctD w.2.1) he (e := .inl (bC B 10, bLn B a, .inl (upd (M.1 a) i.toNatClampNeg v))) (by
    show H1[_]? = some (vp_cell _ _)
    rw [y1, vp_cell_i, vp_cell_i, arrV_store]
    congr 2
    funext z
    by_cases hz : z = i.toNatClampNeg <;> simp [updV, upd, hz]) y3
  rw [ctW_ints g4 (g2.trans g1) (by decide) (by decide)] at hP
  exact K p e s m args below meth c' H1 _ ls C (ctH_set w y2 hP) (S.put y2 y3 ((ctD w.2.1).2 a _ he)) h
def ctTc (t c : Nat) : Bool := (t == 11 && c == 0) || (t == 12 && c == 1) || (t == 13 && c == 3) || (t == 14 && c == 4)
theorem ctTc_spec {t c : Nat} (h : ctTc t c = true) : 11 ≤ t ∧ t < 15 ∧ c < 8 ∧ ctEl t = ctR c := by
  simp only [ctTc, Bool.or_eq_true, Bool.and_eq_true, beq_iff_eq] at h
  rcases h with ((⟨rfl, rfl⟩ | ⟨rfl, rfl⟩) | ⟨rfl, rfl⟩) | ⟨rfl, rfl⟩ <;> exact ⟨by decide, by decide, by decide, rfl⟩
theorem ct_aast {t c a b : Nat} {i : Int32} {M' : ctM} (htc : ctTc t c = true) (hB : ctOk B kd ln n) (hd : decode μ.2.1 pc = .ok (.aastore, 1)) (hx : sP kd ln t c a i b M = some M') (hp : pc + 1 = q) (K : ctV B μ R post q L st cs n M') : ctV B μ R post pc L (.ref b :: .int i :: .ref a :: st) cs n M := by
  subst hp
  intro p e s m args below meth c' H locs ls C w S h
  obtain ⟨t1, t2, t3, t4⟩ := ctTc_spec htc
  obtain ⟨g1, k1, hin, rfl⟩ := sP_spec hx
  obtain ⟨g2, g3, g4⟩ := hB a (by omega)
  obtain ⟨k2, k3, k4⟩ := hB b (by omega)
  have he := ctW_at (B := B) (M := M) g4
  rw [ctE_refs (g2.trans g1) t1] at he
  have hv := ctW_at (B := B) (M := M) k4
  rw [ctE_obj (k2.trans k1) t3] at hv
  rw [← g3] at hin
  have e1 : (Value.ref b :: Value.int i :: Value.ref a :: st).map (ctv B) = .ref (bLo B + b) :: .int i :: .ref (bLo B + a) :: st.map (ctv B) := by simp [ctv, ctAd g4 w.2.2.1, ctAd k4 w.2.2.1]
  rw [e1]
  have hlt : i.toNatClampNeg < bLn B a := Nat.not_le.mp fun z => hin (Or.inr z)
  have h0 : ¬ i < 0 := fun z => hin (Or.inl z)
  have hK := C.2.2.2.2.2.1.1
  obtain ⟨r', hr', cellV, v1, v2, v3, -⟩ := w.1 b _ hv
  have hcls := (hK.1 c _ (ct_at t3)).2
  obtain ⟨kA, comp, z1, z2, z3, -⟩ := (hK.2 (t - 8) _ (ctTy_at t1 t2)).2
  rw [t4] at z3
  have hcomp : comp = (bD B).1 c := Option.some.inj (z3.symm.trans hcls.1)
  subst hcomp
  obtain ⟨kC, hkC, -⟩ := hcls.2
  refine W.aast C.1 C.2.1 (w.1 a _ he) (fun z h => by cases h) (fun h => by cases h) z1 z2 rfl hkC ⟨h0, by show _ < (arrV _ _ _).slots.size; rw [arrV_size]; exact hlt⟩ v1 (fun z h => by rw [v3] at h; cases h) (by rw [v2]; exact hkC) (by rw [v2]; exact va_assign hcls) rfl rfl hd fun H1 y1 y2 y3 => ?_
  have hP := w.1.set (ctD w.2.1) he (e := .inl (bC B t, bLn B a, .inr (.inr (.inr (.inr (va_up (fun j => (M.2 a j).map (bAd B)) i.toNatClampNeg (some (bLo B + b)))))))) (by
    show H1[_]? = some (vp_cell _ _)
    rw [y1, vp_cell_q, vp_cell_q, arrV_store]
    congr 2
    funext z
    by_cases hz : z = i.toNatClampNeg <;> simp [updV, va_up, va_rf, hz]) y3
  rw [ctW_set (M' := ctP M a i.toNatClampNeg (some b)) g4 (by
    rw [ctE_refs (g2.trans g1) t1]
    congr 7
    funext j
    by_cases hj : j = i.toNatClampNeg <;> simp [ctP, va_up, hj, ctAd k4 w.2.2.1]) (fun b hb => ctE_neP hb)] at hP
  exact K p e s m args below meth c' H1 _ ls C (ctH_set w y2 hP) (S.put y2 y3 ((ctD w.2.1).2 a _ he)) h
end
end
section
section
variable {B : ctB} {μ μ' : Mi} {R R' : Nat × Nat × Nat} {post post' : ctPost} {pc q : Nat} {L : List (Option Value)} {st : List Value} {cs : Nat × Nat} {n : Nat} {M : ctM}
/-- the words of a call -/
def ctLk (μ' : Mi) (k : Nat) : Prop := Cond.initialized μ'.1.cls ∈ ctG ∧ Cond.code μ'.1 μ'.2.1 μ'.2.2.1 μ'.2.2.2 ∈ ctG ∧ (μ'.1.cls ≠ "java/lang/invoke/MethodHandle" ∧ μ'.1.cls ≠ "java/lang/invoke/VarHandle" ∧ (parseMethodDescriptor μ'.1.desc).map (fun d => d.parameters.length) = some k) ∧ μ'.2.2.1 ≤ 21
def ctLkV (own : String) (idx : Nat) (μ' : Mi) (k : Nat) : Prop := ctLk μ' k ∧ Cond.methodLink own idx μ'.1 ∈ ctG ∧ Cond.instanceMethod μ'.1 ∈ ctG ∧ Cond.selects μ'.1.cls μ'.1 μ'.1 ∈ ctG
def ctLkS (own : String) (idx : Nat) (μ' : Mi) (k : Nat) : Prop := ctLk μ' k ∧ Cond.methodLink own idx μ'.1 ∈ ctG ∧ Cond.static μ'.1 ∈ ctG
def ctLkSN (own : String) (idx : Nat) (μ' : Mi) (k : Nat) (host : String) : Prop := ctLk μ' k ∧ Cond.methodLinkNest own idx μ'.1 host ∈ ctNw ∧ Cond.static μ'.1 ∈ ctG
def ctLkI (own : String) (idx : Nat) (μ' : Mi) (k : Nat) : Prop := ctLk μ' k ∧ Cond.methodLink own idx μ'.1 ∈ ctG ∧ Cond.instanceMethod μ'.1 ∈ ctG ∧ μ'.1.name = "<init>" ∧ μ'.2.2.2 = none
def ctLkIN (own : String) (idx : Nat) (μ' : Mi) (k : Nat) (host : String) : Prop := ctLk μ' k ∧ Cond.methodLinkNest own idx μ'.1 host ∈ ctNw ∧ Cond.instanceMethod μ'.1 ∈ ctG ∧ μ'.1.name = "<init>" ∧ μ'.2.2.2 = none
theorem ct_goodIn (hc : Cond.code μ'.1 μ'.2.1 μ'.2.2.1 μ'.2.2.2 ∈ ctG) : GoodIn ctG (Cond.code μ'.1 μ'.2.1 μ'.2.2.1 μ'.2.2.2 :: ctG) := by
  intro w hw
  have h1 : w ∈ ctG := (List.mem_cons.mp hw).elim (fun e => e ▸ hc) id
  exact ⟨h1, good_of_word (ctG_good w h1)⟩
theorem ct_room (hR : R'.1 + 1 ≤ R.1) (hm : μ'.2.2.1 ≤ 21) : (ctRm R').frames + 1 ≤ (ctRm R).frames ∧ 8 + (μ'.2.2.1 + 11) + (ctRm R').locals ≤ (ctRm R).locals := by
  refine ⟨hR, ?_⟩
  show 8 + (μ'.2.2.1 + 11) + 40 * R'.1 ≤ 40 * R.1
  omega
theorem ct_blind {args : List Value} : FrameBlind (va_Pc (args.map (ctv B)) (fun U => ctH B n M U.heap ∧ ctK B U)) := by
  intro a U g mk h
  obtain ⟨h1, h2, h3⟩ := h
  exact ⟨h1, h2, ctK_same (u := U) (U := U.calling g mk a) rfl rfl h3⟩
/-- behind a call -/
theorem ct_back {p : Program} {l : Launch} {e : Env} {Rm : Room} {s : State} {m : MethodId} {args : Array Value} {below : List Frame} {meth : Method} {c : Code} {H : Heap} {locs : List Loc} {cells slots mc ms : Nat} {Q : State → Prop} {ls : Array Slot} {rest st0 : List Value} {a : Array Value} {H0 : Heap}
    (hr : va_Run p l e Rm s m args below meth c H locs cells slots mc ms (F0 m pc ls st0) rest (ctQp B post' a) (ctA B)) (hS : va_S (ctA B) H0 H locs)
    (kk : ∀ (v : Option Value) (n' : Nat) (M' : ctM) (H1 : Heap) (locs1 : List Loc), post' v n' M' → ctH B n' M' H1 → va_S (ctA B) H0 H1 locs1 → W p l e Rm s m args below meth c H1 locs1 (cells + mc) (slots + ms) Q (F0 m (pc + 3) ls ((v.map (ctv B)).toList ++ rest))) : W p l e Rm s m args below meth c H locs cells slots Q (F0 m pc ls st0) := by
  intro T hT X
  obtain ⟨v, st₀, t, T', Lc, h0, X', hL, e1, e2, ⟨⟨v0, n', M', hv, hp, hb⟩, hz, hk⟩, sts⟩ := hr T hT X
  cases hv
  rw [h0] at hz hk
  obtain ⟨t2, a1, b1⟩ := kk v0 n' M' T'.heap (locs ++ Lc) hp (by rw [e1]; exact hb)
    ⟨Nat.le_trans hS.1 (by rw [e1]; exact hz), fun z h1 h2 => by rw [e1, hk z (Nat.lt_of_lt_of_le h1 hS.1) h2]; exact hS.2.1 z h1 h2, fun z hq => by
      rcases List.mem_append.mp hq with h | h
      · exact hS.2.2 z h
      · exact hL z h⟩ T' rfl X'
  exact ⟨t2, sts t2 a1, b1⟩
theorem ct_tl (v : Option Value) (rest : List Value) : (v.toList ++ rest).map (ctv B) = (v.map (ctv B)).toList ++ rest.map (ctv B) := by cases v <;> rfl
theorem ct_rs {rest : List Value} {m : MethodId} {ls : Array Slot} {st0 : List Value} (h : (rest.map fun v => v.category).sum ≤ 8) : 2 * (F0 m pc ls st0).monitorRoom + ((rest.map (ctv B)).map fun v => v.category).sum ≤ 8 := lv_room (by rw [ctv_cats]; exact h)
theorem ct_callV {idx k ci a : Nat} {As rest : List Value} {kd ln : Nat → Nat} (hB : ctOk B kd ln n) (hd : decode μ.2.1 pc = .ok (.invokevirtual idx, 3)) (hl : ctLkV μ.1.cls idx μ' k) (hk : As.length = k) (hR : R'.1 + 1 ≤ R.1) (hC : ctC B μ' R' (.ref a :: As) n M post') (ha : kd a = ci) (hci : ci < 8) (hcn : ctR ci = μ'.1.cls) (hrest : (rest.map fun v => v.category).sum ≤ 8) (hcs : cs.1 + R'.2.1 ≤ R.2.1 ∧ cs.2 + R'.2.2 ≤ R.2.2) (hst : st = As.reverse ++ .ref a :: rest)
    (kk : ∀ (v : Option Value) (n' : Nat) (M' : ctM), post' v n' M' → ctV B μ R post (pc + 3) L (v.toList ++ rest) (cs.1 + R'.2.1, cs.2 + R'.2.2) n' M') : ctV B μ R post pc L st cs n M := by
  subst hst
  intro p e s m args below meth c H locs ls C w S h
  obtain ⟨⟨w1, w2, w3, w4⟩, w5, w6, w7⟩ := hl
  obtain ⟨g2, -, g4⟩ := hB a (by omega)
  have he := ctW_at (B := B) (M := M) g4
  rw [ctE_obj (g2.trans ha) hci] at he
  obtain ⟨hx, hb, hml, hown, hts, hK, -⟩ := id C
  have hrecv := va_recv hK.1 w.1 (ct_at hci) he
  simp only [hcn] at hrecv
  refine ct_back (rest := rest.map (ctv B)) (va_runV (b := bLo B + a) (C := μ'.1.cls) (As := As.map (ctv B)) (rest := rest.map (ctv B)) (Ts := ctG) (ws := Cond.code μ'.1 μ'.2.1 μ'.2.2.1 μ'.2.2.2 :: ctG) (nL := μ.2.2.1) ⟨hx, hb, hml, hown, hts⟩ hC (cwV (ws' := ctG) k hts (fun x hx2 => ?_) rfl rfl rfl ⟨rfl, w3⟩ (ct_room hR w4)) ⟨ct_blind, hrecv, fun U hU hW => ⟨?_, by rw [hU]; exact w, ctK_moved hK S hU hW⟩⟩ rfl (by rw [List.length_map, hk]) h.1 ?_ (ct_rs hrest) hd hcs) S (fun v n' M' H1 locs1 hp hH hS => ?_)
  · unfold wsV at hx2
    rcases List.mem_append.mp hx2 with hx3 | hx3
    · have hg : x ∈ ctG := by
        simp only [List.mem_cons, List.mem_nil_iff, or_false] at hx3
        rcases hx3 with rfl | rfl | rfl | rfl
        · exact w5
        · exact w6
        · exact w7
        · exact w1
      exact ⟨hg, good_of_word (ctG_good x hg)⟩
    · exact ct_goodIn w2 x hx3
  · show (Value.ref (bLo B + a) :: As.map (ctv B)).toArray = ((Value.ref a :: As).map (ctv B)).toArray
    simp [ctv, ctAd g4 w.2.2.1]
  · show (As.reverse ++ Value.ref a :: rest).map (ctv B) = _
    simp [ctv, ctAd g4 w.2.2.1]
  · have := kk v n' M' hp p e s m args below meth c H1 locs1 ls C hH hS h
    rw [ct_tl] at this
    exact this
theorem ct_callS {idx k : Nat} {As rest : List Value} (hd : decode μ.2.1 pc = .ok (.invokestatic idx, 3)) (hl : ctLkS μ.1.cls idx μ' k ∨ ∃ host, ctLkSN μ.1.cls idx μ' k host) (hk : As.length = k) (hR : R'.1 + 1 ≤ R.1) (hC : ctC B μ' R' As n M post') (hrest : (rest.map fun v => v.category).sum ≤ 8) (hcs : cs.1 + R'.2.1 ≤ R.2.1 ∧ cs.2 + R'.2.2 ≤ R.2.2) (hst : st = As.reverse ++ rest)
    (kk : ∀ (v : Option Value) (n' : Nat) (M' : ctM), post' v n' M' → ctV B μ R post (pc + 3) L (v.toList ++ rest) (cs.1 + R'.2.1, cs.2 + R'.2.2) n' M') : ctV B μ R post pc L st cs n M := by
  subst hst
  intro p e s m args below meth c H locs ls C w S h
  obtain ⟨hx, hb, hml, hown, hts, hK, -⟩ := id C
  have hpre : PreS s H (va_Pc (As.map (ctv B)) (fun U => ctH B n M U.heap ∧ ctK B U)) (As.map (ctv B)) := ⟨ct_blind, fun U hU hW => ⟨rfl, by rw [hU]; exact w, ctK_moved hK S hU hW⟩⟩
  have hst2 : (F0 m pc ls ((As.reverse ++ rest).map (ctv B))).stack = (As.map (ctv B)).reverse ++ rest.map (ctv B) := by simp
  have fin : ∀ (v : Option Value) (n' : Nat) (M' : ctM) (H1 : Heap) (locs1 : List Loc), post' v n' M' → ctH B n' M' H1 → va_S (ctA B) s.heap H1 locs1 → W p (bL B) e (ctRm R) s m args below meth c H1 locs1 (cs.1 + R'.2.1) (cs.2 + R'.2.2) (MQ below (ctQp B post) args s R.2.1 R.2.2 (ctA B)) (F0 m (pc + 3) ls ((v.map (ctv B)).toList ++ rest.map (ctv B))) := by
    intro v n' M' H1 locs1 hp hH hS
    have := kk v n' M' hp p e s m args below meth c H1 locs1 ls C hH hS h
    rw [ct_tl] at this
    exact this
  rcases hl with ⟨⟨w1, w2, w3, w4⟩, w5, w6⟩ | ⟨host, ⟨w1, w2, w3, w4⟩, w5, w6⟩
  · exact ct_back (rest := rest.map (ctv B)) (va_runS (As := As.map (ctv B)) (rest := rest.map (ctv B)) (Ts := ctG) (ws := Cond.code μ'.1 μ'.2.1 μ'.2.2.1 μ'.2.2.2 :: ctG) (nL := μ.2.2.1) ⟨hx, hb, hml, hown, hts⟩ hC ⟨callB_of (ws' := ctG) k hts (ct_goodIn w2) rfl rfl rfl (hts _ w1) (hts _ w5) w3 (ct_room hR w4), hts _ w6⟩ hpre rfl (by rw [List.length_map, hk]) h.1 hst2 (ct_rs hrest) hd hcs) S fin
  · exact ct_back (rest := rest.map (ctv B)) (va_runSN (host := host) (As := As.map (ctv B)) (rest := rest.map (ctv B)) (Ts := ctG) (ws := Cond.code μ'.1 μ'.2.1 μ'.2.2.1 μ'.2.2.2 :: ctG) (nL := μ.2.2.1) ⟨hx, hb, hml, hown, hts⟩ hC ⟨va_cnB (ws' := ctG) k hts (ct_goodIn w2) rfl rfl rfl (hK.2.1 _ w5) (hts _ w1) w3 (ct_room hR w4), hts _ w6, trivial⟩ hpre rfl (by rw [List.length_map, hk]) h.1 hst2 (ct_rs hrest) hd hcs) S fin
theorem ct_callI {idx k a : Nat} {As rest : List Value} (hd : decode μ.2.1 pc = .ok (.invokespecial idx, 3)) (hl : ctLkI μ.1.cls idx μ' k ∨ ∃ host, ctLkIN μ.1.cls idx μ' k host) (hk : As.length = k) (hR : R'.1 + 1 ≤ R.1) (hC : ctC B μ' R' (.ref a :: As) n M post') (hrest : (rest.map fun v => v.category).sum ≤ 8) (hcs : cs.1 + R'.2.1 ≤ R.2.1 ∧ cs.2 + R'.2.2 ≤ R.2.2) (hst : st = As.reverse ++ .ref a :: rest)
    (kk : ∀ (v : Option Value) (n' : Nat) (M' : ctM), post' v n' M' → ctV B μ R post (pc + 3) L (v.toList ++ rest) (cs.1 + R'.2.1, cs.2 + R'.2.2) n' M') : ctV B μ R post pc L st cs n M := by
  subst hst
  intro p e s m args below meth c H locs ls C w S h
  obtain ⟨hx, hb, hml, hown, hts, hK, -⟩ := id C
  have hpre : PreS s H (va_Pc ((Value.ref a :: As).map (ctv B)) (fun U => ctH B n M U.heap ∧ ctK B U)) (.ref (bAd B a) :: As.map (ctv B)) := ⟨ct_blind, fun U hU hW => ⟨rfl, by rw [hU]; exact w, ctK_moved hK S hU hW⟩⟩
  have hst2 : (F0 m pc ls ((As.reverse ++ Value.ref a :: rest).map (ctv B))).stack = (As.map (ctv B)).reverse ++ .ref (bAd B a) :: rest.map (ctv B) := by simp [ctv]
  have fin : ∀ (v : Option Value) (n' : Nat) (M' : ctM) (H1 : Heap) (locs1 : List Loc), post' v n' M' → ctH B n' M' H1 → va_S (ctA B) s.heap H1 locs1 → W p (bL B) e (ctRm R) s m args below meth c H1 locs1 (cs.1 + R'.2.1) (cs.2 + R'.2.2) (MQ below (ctQp B post) args s R.2.1 R.2.2 (ctA B)) (F0 m (pc + 3) ls ((v.map (ctv B)).toList ++ rest.map (ctv B))) := by
    intro v n' M' H1 locs1 hp hH hS
    have := kk v n' M' hp p e s m args below meth c H1 locs1 ls C hH hS h
    rw [ct_tl] at this
    exact this
  rcases hl with ⟨⟨w1, w2, w3, w4⟩, w5, w6, w7, w8⟩ | ⟨host, ⟨w1, w2, w3, w4⟩, w5, w6, w7, w8⟩
  · have hG := ct_goodIn w2
    unfold ctC at hC
    rw [w8] at hC hG
    exact ct_back (rest := rest.map (ctv B)) (va_runI (b := bAd B a) (As := As.map (ctv B)) (rest := rest.map (ctv B)) (Ts := ctG) (ws := Cond.code μ'.1 μ'.2.1 μ'.2.2.1 none :: ctG) (nL := μ.2.2.1) ⟨hx, hb, hml, hown, hts⟩ hC ⟨callB_of (ws' := ctG) k hts hG rfl rfl rfl (hts _ w1) (hts _ w5) w3 (ct_room hR w4), w7, hts _ w6⟩ hpre rfl (by rw [List.length_map, hk]) h.1 hst2 (ct_rs hrest) hd hcs) S fin
  · have hG := ct_goodIn w2
    unfold ctC at hC
    rw [w8] at hC hG
    exact ct_back (rest := rest.map (ctv B)) (va_runIN (b := bAd B a) (host := host) (As := As.map (ctv B)) (rest := rest.map (ctv B)) (Ts := ctG) (ws := Cond.code μ'.1 μ'.2.1 μ'.2.2.1 none :: ctG) (nL := μ.2.2.1) ⟨hx, hb, hml, hown, hts⟩ hC ⟨va_cnB (ws' := ctG) k hts hG rfl rfl rfl (hK.2.1 _ w5) (hts _ w1) w3 (ct_room hR w4), w7, hts _ w6⟩ hpre rfl (by rw [List.length_map, hk]) h.1 hst2 (ct_rs hrest) hd hcs) S fin
end
end
section
section
variable {B : ctB} {μ : Mi} {R : Nat × Nat × Nat} {post : ctPost} {pc q : Nat} {L : List (Option Value)} {st : List Value} {cs : Nat × Nat} {n : Nat} {M : ctM}
/-! new cells -/
def ctZ (M : ctM) (a : Nat) : ctM := (va_up M.1 a (fun _ => 0), va_up M.2 a (fun _ => none))
theorem ctE_neZ {B : ctB} {M : ctM} {a b : Nat} (h : b ≠ a) : ctE B (ctZ M a) b = ctE B M b := by
  have e1 : (ctZ M a).1 b = M.1 b := by simp [ctZ, va_up, h]
  have e2 : (ctZ M a).2 b = M.2 b := by simp [ctZ, va_up, h]
  simp only [ctE, ctF, e1, e2]
theorem ctW_push {B : ctB} {n : Nat} {M : ctM} : ctW B (n + 1) (ctZ M n) = ctW B n M ++ [(bLo B + n, ctE B (ctZ M n) n)] := by
  unfold ctW
  rw [List.range_succ, List.map_append, List.map_singleton]
  congr 1
  refine List.map_congr_left fun a ha => ?_
  rw [ctE_neZ (Nat.ne_of_lt (List.mem_range.mp ha))]
theorem ctH_push {B : ctB} {n : Nat} {M : ctM} {H H1 : Heap} (w : ctH B n M H) (hb : bLo B + (n + 1) ≤ bHi B) (hn : n < 1000) (hz : H1.size = bLo B + n + 1) (ho : ∀ z, z < bLo B + n → H1[z]? = H[z]?) (hc : va_at (bD B) ctL (bLo B + n, ctE B (ctZ M n) n) H1) : ctH B (n + 1) (ctZ M n) H1 := by
  refine ⟨?_, hb, hn, fun _ => by omega⟩
  rw [ctW_push]
  refine (w.1.kept (fun k x hx => ho x.1 ?_)).app (fun k x hx => ?_)
  · have hl : k < n := by
      have := (List.getElem?_eq_some_iff.mp hx).1
      simpa [ctW] using this
    rw [ctW_at hl] at hx
    cases hx
    show bLo B + k < bLo B + n
    omega
  · have hz : k < 1 := (List.getElem?_eq_some_iff.mp hx).1
    rw [show k = 0 by omega] at hx
    cases hx
    exact hc
theorem ctS_push {B : ctB} {n : Nat} {H0 H H1 : Heap} {locs : List Loc} (hs : H.size = bLo B + n) (S : va_S (ctA B) H0 H locs) (hz : H1.size = bLo B + n + 1) (ho : ∀ z, z < bLo B + n → H1[z]? = H[z]?) : va_S (ctA B) H0 H1 locs := by
  have h1 := S.1
  refine ⟨by omega, fun x g1 g2 => (ho x (by omega)).trans (S.2.1 x g1 g2), S.2.2⟩
theorem ct_ints : ∀ c, c < 8 → ∀ k, k < ctN c → ctQ c k = false → ctY c k = .int ∨ ctY c k = .boolean := by decide +kernel
theorem ct_dv {c k : Nat} (h1 : c < 8) (h2 : k < ctN c) : defaultValue (ctY c k) = if ctQ c k = true then .null else .int 0 := by
  cases hq : ctQ c k with
  | true =>
    unfold ctQ at hq
    cases hy : ctY c k <;> rw [hy] at hq <;> first | rfl | cases hq
  | false =>
    rcases ct_ints c h1 k h2 hq with h | h <;> rw [h] <;> rfl
def ctNwL (own : String) (idx c : Nat) : Prop := Cond.classLink own idx (ctR c) ∈ ctG ∧ Cond.instantiable (ctR c) (ctN c) ∈ ctG ∧ Cond.initialized (ctR c) ∈ ctG
theorem ct_new {idx c : Nat} (hfr : bF B = true) (hd : decode μ.2.1 pc = .ok (.new idx, 3)) (hl : ctNwL μ.1.cls idx c) (h1 : c < 8) (hk : bKd B n = c) (hb : bLo B + (n + 1) ≤ bHi B) (hn : n < 1000) (hcs : cs.1 + 1 ≤ R.2.1 ∧ cs.2 + ctN c ≤ R.2.2) (hp : pc + 3 = q) (K : ctV B μ R post q L (.ref n :: st) (cs.1 + 1, cs.2 + ctN c) (n + 1) (ctZ M n)) : ctV B μ R post pc L st cs n M := by
  subst hp
  intro p e s m args below meth c' H locs ls C w S h
  obtain ⟨w1, w2, w3⟩ := hl
  obtain ⟨hx, hb2, hml, hown, hts, hK, -⟩ := id C
  have hs := w.2.2.2 hfr
  have hKn := hK.1.1 c _ (ct_at h1)
  refine W.newcK hx hb2 hown (hts _ w1) (hts _ w2) (hts _ w3) rfl hd hcs.1 hcs.2 hKn.2.1 hs fun H1 kC hkC e1 z1 o1 => ?_
  have hat : va_at (bD B) ctL (bLo B + n, ctE B (ctZ M n) n) H1 := by
    rw [ctE_obj hk h1]
    refine ⟨_, ct_at h1, (u_born (ctY c) hts (ct_in h1) hKn hkC e1 (ct_ty h1)).to (fun j hj => ?_)⟩
    rw [ct_dv h1 hj]
    simp only [vp_V, List.getD_eq_getElem?_getD, ctF_at hj]
    simp [ctZ, va_up, va_rf]
  have := K p e s m args below meth c' H1 locs ls C (ctH_push w hb hn z1 o1 hat) (ctS_push hs S z1 o1) h
  rw [show (Value.ref n :: st).map (ctv B) = .ref (bLo B + n) :: st.map (ctv B) by simp [ctv, bAd, hn]] at this
  exact this
theorem ct_newarr {t : Nat} {at' : ArrayType} {i : Int32} (hat : (t = 8 ∧ at' = .byte) ∨ (t = 9 ∧ at' = .int) ∨ (t = 10 ∧ at' = .boolean)) (hfr : bF B = true) (hd : decode μ.2.1 pc = .ok (.newarray at', 2)) (hl : Cond.arrayClass (newarray.typeOf at') ∈ ctG) (hk : bKd B n = t) (hln : bLn B n = i.toNatClampNeg) (hi : ¬ i < 0) (hi2 : i.toNatClampNeg ≤ 4000) (hb : bLo B + (n + 1) ≤ bHi B) (hn : n < 1000) (hcs : cs.1 + 1 ≤ R.2.1 ∧ cs.2 + i.toNatClampNeg ≤ R.2.2) (hp : pc + 2 = q) (K : ctV B μ R post q L (.ref n :: st) (cs.1 + 1, cs.2 + i.toNatClampNeg) (n + 1) (ctZ M n)) : ctV B μ R post pc L (.int i :: st) cs n M := by
  subst hp
  intro p e s m args below meth c' H locs ls C w S h
  obtain ⟨hx, hb2, hml, hown, hts, hK, -⟩ := id C
  have hs := w.2.2.2 hfr
  have hty : ∃ ty : FieldType, newarray.typeOf at' = ty ∧ (ctTy B)[t - 8]? = some (bC B t, ty) ∧ defaultValue ty = .int 0 ∧ componentBytes ty ≤ 4 ∧ (va_RA s (bC B t) ty → s.vm.findClass ("[" ++ ty.toString) = some (bC B t)) ∧ 8 ≤ t ∧ t < 11 := by
    rcases hat with ⟨rfl, rfl⟩ | ⟨rfl, rfl⟩ | ⟨rfl, rfl⟩
    · exact ⟨.byte, rfl, rfl, rfl, by decide, fun h => h, by decide, by decide⟩
    · exact ⟨.int, rfl, rfl, rfl, by decide, fun h => h, by decide, by decide⟩
    · exact ⟨.boolean, rfl, rfl, rfl, by decide, fun h => h, by decide, by decide⟩
  obtain ⟨ty, t1, t2, t3, t4, t5, t6, t7⟩ := hty
  subst t1
  refine va_newaK hx hb2 (hts _ hl) rfl hd rfl hi rfl (by have := Nat.mul_le_mul hi2 t4; omega) hcs.1 hcs.2 hs fun H1 cA e1 z1 o1 hAr hNm => ?_
  have hcA : cA = bC B t := Option.some.inj (hNm.symm.trans (t5 (hK.1.2 (t - 8) _ t2).2))
  subst hcA
  have hat : va_at (bD B) ctL (bLo B + n, ctE B (ctZ M n) n) H1 := by
    rw [ctE_ints hk t6 t7]
    show H1[bLo B + n]? = some (vp_cell _ _)
    rw [e1, vp_cell_i, hln, t3]
    congr 3
    funext j
    simp [ctZ, va_up]
  have := K p e s m args below meth c' H1 locs ls C (ctH_push w hb hn z1 o1 hat) (ctS_push hs S z1 o1) h
  rw [show (Value.ref n :: st).map (ctv B) = .ref (bLo B + n) :: st.map (ctv B) by simp [ctv, bAd, hn]] at this
  exact this
theorem ct_AO {s : State} {t : Nat} (h : ctK B s) (h1 : 11 ≤ t) (h2 : t < 15) : va_AO (ctEl t) s := by
  obtain ⟨-, -, -, o1, o2, o3, o4⟩ := h
  rcases (show t = 11 ∨ t = 12 ∨ t = 13 ∨ t = 14 by omega) with rfl | rfl | rfl | rfl
  · exact o1
  · exact o2
  · exact o3
  · exact o4
theorem ct_anew {t idx : Nat} {i : Int32} (ht : decide (11 ≤ t) && decide (t < 15) = true) (hfr : bF B = true) (hd : decode μ.2.1 pc = .ok (.anewarray idx, 3)) (hl : Cond.classLink μ.1.cls idx (ctEl t) ∈ ctG) (hk : bKd B n = t) (hln : bLn B n = i.toNatClampNeg) (hi : ¬ i < 0) (hi2 : i.toNatClampNeg ≤ 4000) (hb : bLo B + (n + 1) ≤ bHi B) (hn : n < 1000) (hcs : cs.1 + 1 ≤ R.2.1 ∧ cs.2 + i.toNatClampNeg ≤ R.2.2) (hp : pc + 3 = q) (K : ctV B μ R post q L (.ref n :: st) (cs.1 + 1, cs.2 + i.toNatClampNeg) (n + 1) (ctZ M n)) : ctV B μ R post pc L (.int i :: st) cs n M := by
  subst hp
  intro p e s m args below meth c' H locs ls C w S h
  simp only [Bool.and_eq_true, decide_eq_true_eq] at ht
  obtain ⟨hx, hb2, hml, hown, hts, hK, -⟩ := id C
  have hs := w.2.2.2 hfr
  refine W.anew hx hb2 hown (hts _ hl) (va_AO.use (ct_AO hK ht.1 ht.2)) rfl hd rfl hi (by omega) hcs.1 hcs.2 fun cA kA comp f1 f2 f3 f4 => ?_
  generalize hH1 : H.push ({ cls := cA, slots := Array.replicate i.toNatClampNeg .null, vm := .none } : Cell) = H1
  have z1 : H1.size = bLo B + n + 1 := by rw [← hH1, Array.size_push, hs]
  have e1 : H1[bLo B + n]? = some (arrV cA i.toNatClampNeg (fun _ => .null)) := by rw [← hs, ← hH1, Array.getElem?_push_size, ← arrV_new]
  have o1 : ∀ z : Nat, z < bLo B + n → H1[z]? = H[z]? := fun z hz => by rw [← hH1, Array.getElem?_push, if_neg (by omega)]
  obtain ⟨kA', comp', y1, y2, y3, y4⟩ := (hK.1.2 (t - 8) _ (ctTy_at ht.1 ht.2)).2
  have hcA : cA = bC B t := Option.some.inj (f1.symm.trans y4)
  subst hcA
  have hat : va_at (bD B) ctL (bLo B + n, ctE B (ctZ M n) n) H1 := by
    rw [ctE_refs hk ht.1]
    show H1[bLo B + n]? = some (vp_cell _ _)
    rw [e1, vp_cell_q, hln]
    congr 3
    funext j
    simp [ctZ, va_up, va_rf]
  have := K p e s m args below meth c' H1 locs ls C (ctH_push w hb hn z1 o1 hat) (ctS_push hs S z1 o1) h
  rw [show (Value.ref n :: st).map (ctv B) = .ref (bLo B + n) :: st.map (ctv B) by simp [ctv, bAd, hn]] at this
  rw [hs]
  exact this
/-! Object's constructor, Math, arraycopy -/
def ctOb (own : String) (idx : Nat) : Prop := Cond.methodLink own idx objectInit ∈ ctG ∧ Cond.instanceMethod objectInit ∈ ctG ∧ Cond.code objectInit ⟨#[0xb1]⟩ 1 none ∈ ctG
theorem ct_obj {idx a : Nat} (hd : decode μ.2.1 pc = .ok (.invokespecial idx, 3)) (hl : ctOb μ.1.cls idx) (hR : 1 ≤ R.1) (hrest : (st.map fun v => v.category).sum ≤ 8) (hp : pc + 3 = q) (K : ctV B μ R post q L st cs n M) : ctV B μ R post pc L (.ref a :: st) cs n M := by
  subst hp
  intro p e s m args below meth c H locs ls C w S h
  obtain ⟨w1, w2, w3⟩ := hl
  obtain ⟨hx, hb2, hml, hown, hts, hK, -⟩ := id C
  exact W.objInit hx hb2 hown (hts _ w1) (hts _ w2) (hts _ w3) rfl (by rw [hml]; exact h.1) rfl hd hR (by
    show 2 * 0 + ((st.map (ctv B)).map fun v => v.category).sum + 12 ≤ 40 * R.1
    rw [ctv_cats]
    omega) (K p e s m args below meth c H locs ls C w S h)
def ctMx (own : String) (idx : Nat) : Prop := Cond.methodLink own idx Lib.Math.max.name ∈ ctG ∧ Cond.static Lib.Math.max.name ∈ ctG ∧ Cond.initialized "java/lang/Math" ∈ ctG ∧ Cond.code Lib.Math.max.name Lib.Math.max.code 2 (some .int) ∈ ctG
def ctMn (own : String) (idx : Nat) : Prop := Cond.methodLink own idx Lib.Math.min.name ∈ ctG ∧ Cond.static Lib.Math.min.name ∈ ctG ∧ Cond.initialized "java/lang/Math" ∈ ctG ∧ Cond.code Lib.Math.min.name Lib.Math.min.code 2 (some .int) ∈ ctG
def ctMa (own : String) (idx : Nat) : Prop := Cond.methodLink own idx Lib.Math.abs.name ∈ ctG ∧ Cond.static Lib.Math.abs.name ∈ ctG ∧ Cond.initialized "java/lang/Math" ∈ ctG ∧ Cond.code Lib.Math.abs.name Lib.Math.abs.code 1 (some .int) ∈ ctG
theorem ct_loc {rest : List Value} (hR : 1 ≤ R.1) (hrest : (rest.map fun v => v.category).sum ≤ 8) : ((rest.map (ctv B)).map fun v => v.category).sum + 13 ≤ (ctRm R).locals := by
  rw [ctv_cats]
  show _ + 13 ≤ 40 * R.1
  omega
theorem ct_max {idx : Nat} {x y : Int32} (hd : decode μ.2.1 pc = .ok (.invokestatic idx, 3)) (hl : ctMx μ.1.cls idx) (hR : 1 ≤ R.1) (hrest : (st.map fun v => v.category).sum ≤ 8) (hc : cs.1 ≤ R.2.1 ∧ cs.2 ≤ R.2.2) (hp : pc + 3 = q) (K : ctV B μ R post q L (.int (if x < y then y else x) :: st) cs n M) : ctV B μ R post pc L (.int y :: .int x :: st) cs n M := by
  subst hp
  intro p e s m args below meth c H locs ls C w S h
  obtain ⟨w1, w2, w3, w4⟩ := hl
  obtain ⟨hx, hb2, hml, hown, hts, hK, -⟩ := id C
  exact va_mmax hx hb2 (hml.trans h.1.symm) hown (hts _ w1) (hts _ w2) (hts _ w3) (hts _ w4) hR (ct_loc hR hrest) hc.1 hc.2 hd (K p e s m args below meth c H locs ls C w S h)
theorem ct_min {idx : Nat} {x y : Int32} (hd : decode μ.2.1 pc = .ok (.invokestatic idx, 3)) (hl : ctMn μ.1.cls idx) (hR : 1 ≤ R.1) (hrest : (st.map fun v => v.category).sum ≤ 8) (hc : cs.1 ≤ R.2.1 ∧ cs.2 ≤ R.2.2) (hp : pc + 3 = q) (K : ctV B μ R post q L (.int (if y < x then y else x) :: st) cs n M) : ctV B μ R post pc L (.int y :: .int x :: st) cs n M := by
  subst hp
  intro p e s m args below meth c H locs ls C w S h
  obtain ⟨w1, w2, w3, w4⟩ := hl
  obtain ⟨hx, hb2, hml, hown, hts, hK, -⟩ := id C
  exact va_mmin hx hb2 (hml.trans h.1.symm) hown (hts _ w1) (hts _ w2) (hts _ w3) (hts _ w4) hR (ct_loc hR hrest) hc.1 hc.2 hd (K p e s m args below meth c H locs ls C w S h)
theorem ct_abs {idx : Nat} {x : Int32} (hd : decode μ.2.1 pc = .ok (.invokestatic idx, 3)) (hl : ctMa μ.1.cls idx) (hR : 1 ≤ R.1) (hrest : (st.map fun v => v.category).sum ≤ 8) (hc : cs.1 ≤ R.2.1 ∧ cs.2 ≤ R.2.2) (hp : pc + 3 = q) (K : ctV B μ R post q L (.int (if 0 ≤ x then x else 0 - x) :: st) cs n M) : ctV B μ R post pc L (.int x :: st) cs n M := by
  subst hp
  intro p e s m args below meth c H locs ls C w S h
  obtain ⟨w1, w2, w3, w4⟩ := hl
  obtain ⟨hx, hb2, hml, hown, hts, hK, -⟩ := id C
  exact va_mabs hx hb2 (hml.trans h.1.symm) hown (hts _ w1) (hts _ w2) (hts _ w3) (hts _ w4) hR (ct_loc hR hrest) hc.1 hc.2 hd (K p e s m args below meth c H locs ls C w S h)
def ctCy (own : String) (idx : Nat) : Prop := Cond.methodLink own idx arraycopyName ∈ ctG ∧ Cond.native arraycopyName ∈ ctG ∧ Cond.static arraycopyName ∈ ctG ∧ Cond.initialized "java/lang/System" ∈ ctG
/-- arraycopy of ints -/
def cI (kd ln : Nat → Nat) (a : Nat) (sp : Int32) (b : Nat) (dp k : Int32) (M : ctM) : Option ctM := if (kd a = 9 ∧ kd b = 9) ∧ (¬ sp < 0 ∧ ¬ dp < 0 ∧ ¬ k < 0) ∧ sp.toNatClampNeg + k.toNatClampNeg ≤ ln a ∧ dp.toNatClampNeg + k.toNatClampNeg ≤ ln b then some (va_up M.1 b (va_cpy (M.1 a) (M.1 b) sp.toNatClampNeg dp.toNatClampNeg k.toNatClampNeg), M.2) else none
theorem ct_copy {idx a b : Nat} {sp dp k : Int32} {M' : ctM} {kd ln : Nat → Nat} (hB : ctOk B kd ln n) (hfr : bF B = false) (hd : decode μ.2.1 pc = .ok (.invokestatic idx, 3)) (hl : ctCy μ.1.cls idx) (hR : 1 ≤ R.1) (hrest : (st.map fun v => v.category).sum ≤ 8) (hx : cI kd ln a sp b dp k M = some M') (hp : pc + 3 = q) (K : ctV B μ R post q L st cs n M') : ctV B μ R post pc L (.int k :: .int dp :: .ref b :: .int sp :: .ref a :: st) cs n M := by
  subst hp
  intro p e s m args below meth c H locs ls C w S h
  obtain ⟨w1, w2, w3, w4⟩ := hl
  obtain ⟨hx2, hb2, hml, hown, hts, hK, -⟩ := id C
  unfold cI at hx
  split at hx
  · rename_i g
    obtain ⟨⟨ga, gb⟩, ⟨g1, g2, g3⟩, g4, g5⟩ := g
    cases hx
    obtain ⟨a2, a3, a4⟩ := hB a (by omega)
    obtain ⟨b2, b3, b4⟩ := hB b (by omega)
    have ha := ctW_at (B := B) (M := M) a4
    have hb := ctW_at (B := B) (M := M) b4
    rw [ctE_ints (a2.trans ga) (by decide) (by decide)] at ha
    rw [ctE_ints (b2.trans gb) (by decide) (by decide)] at hb
    have e1 : (Value.int k :: Value.int dp :: Value.ref b :: Value.int sp :: Value.ref a :: st).map (ctv B) = .int k :: .int dp :: .ref (bLo B + b) :: .int sp :: .ref (bLo B + a) :: st.map (ctv B) := by simp [ctv, ctAd a4 w.2.2.1, ctAd b4 w.2.2.1]
    rw [e1]
    refine va_copyi hx2 hb2 (hml.trans h.1.symm) hown (hts _ w1) (hts _ w2) (hts _ w3) (hts _ w4) hK.1 w.1 (ctD w.2.1) S a b 1 1 ha hb rfl rfl rfl g1 g2 g3 (by rw [a3]; exact g4) (by rw [b3]; exact g5) (fun i hi => rfl) hR ?_ hd (fun H1 locs1 hP hD hS => ?_)
    · rw [ctv_cats]
      show _ + (nativeFrameWords "java/lang/System" "arraycopy" 5 + 11) ≤ 40 * R.1
      have : nativeFrameWords "java/lang/System" "arraycopy" 5 ≤ 20 := by decide +kernel
      omega
    · rw [ctW_set (M' := (va_up M.1 b (va_cpy (M.1 a) (M.1 b) sp.toNatClampNeg dp.toNatClampNeg k.toNatClampNeg), M.2)) b4 (by
        rw [ctE_ints (b2.trans gb) (by decide) (by decide)]
        simp [va_up]) (fun z hz => by
        simp only [ctE, ctF, va_up, if_neg hz])] at hP
      exact K p e s m args below meth c H1 locs1 ls C ⟨hP, w.2.1, w.2.2.1, fun hf => by rw [hfr] at hf; cases hf⟩ hS h
  · cases hx
end
end
section
section
variable {B : ctB} {μ μ' : Mi} {R R' : Nat × Nat × Nat} {post post' : ctPost} {pc q : Nat} {L : List (Option Value)} {st : List Value} {cs : Nat × Nat} {n : Nat} {M : ctM}
/-! the two texts: their cells lie outside -/
abbrev ctsK (B : ctB) (i : Nat) : Value := .ref (1000 + bK B i)
abbrev ctsV (B : ctB) (i : Nat) : Value := .ref (1000 + bV B i)
theorem ct_out (x : Nat) : ctv B (.ref (1000 + x)) = .ref x := by
  have : ¬ 1000 + x < 1000 := by omega
  simp [ctv, bAd, this]
theorem ct_ldcS {idx i : Nat} (hi : (i = 0 ∧ idx = 64) ∨ (i = 1 ∧ idx = 94)) (hown : μ.1.cls = RX5) (hd : decode μ.2.1 pc = .ok (.ldc idx, 2)) (hp : pc + 2 = q) (K : ctV B μ R post q L (ctsK B i :: st) cs n M) : ctV B μ R post pc L st cs n M := by
  subst hp
  intro p e s m args below meth c H locs ls C w S h
  have k := K p e s m args below meth c H locs ls C w S h
  rw [List.map_cons, ct_out] at k
  obtain ⟨hx, hb2, hml, hown2, hts, ⟨-, -, ⟨-, r0, r1, -⟩, -⟩, -⟩ := id C
  rw [hown] at hown2
  rcases hi with ⟨rfl, rfl⟩ | ⟨rfl, rfl⟩
  · exact va_ldcS hx hb2 hown2 r0 hd k
  · exact va_ldcS hx hb2 hown2 r1 hd k
theorem ct_gsC {idx : Nat} (hd : decode μ.2.1 pc = .ok (.getstatic idx, 3)) (hl : Cond.fieldLink μ.1.cls idx RJ0 "COMPACT_STRINGS" "Z" ∈ ctG) (hp : pc + 3 = q) (K : ctV B μ R post q L (.int 1 :: st) cs n M) : ctV B μ R post pc L st cs n M := by
  subst hp
  intro p e s m args below meth c H locs ls C w S h
  obtain ⟨hx, hb2, hml, hown, hts, ⟨-, -, ⟨-, -, -, z, -⟩, -⟩, -⟩ := id C
  exact va_gets hx hb2 z S hown (hts _ hl) (fun _ y => y) hd (K p e s m args below meth c H locs ls C w S h)
theorem ct_gsF {idx : Nat} (hd : decode μ.2.1 pc = .ok (.getstatic idx, 3)) (hl : Cond.fieldLink μ.1.cls idx RJ3 "SIOOBE_FORMATTER" "Ljava/util/function/BiFunction;" ∈ ctG) (hp : pc + 3 = q) (K1 : ctV B μ R post q L (.null :: st) cs n M) (K2 : ∀ t : Nat, ctV B μ R post q L (.ref (1000 + t) :: st) cs n M) : ctV B μ R post pc L st cs n M := by
  subst hp
  intro p e s m args below meth c H locs ls C w S h
  obtain ⟨hx, hb2, hml, hown, hts, ⟨-, -, ⟨-, -, -, -, z⟩, -⟩, -⟩ := id C
  rcases z with z | ⟨t, z⟩
  · exact va_gets hx hb2 z S hown (hts _ hl) (fun _ y => y) hd (K1 p e s m args below meth c H locs ls C w S h)
  · have k := K2 t p e s m args below meth c H locs ls C w S h
    rw [List.map_cons, ct_out] at k
    exact va_gets hx hb2 z S hown (hts _ hl) (fun _ y => y) hd k
theorem ct_gcod {idx i : Nat} (hi : i < 2) (hd : decode μ.2.1 pc = .ok (.getfield idx, 3)) (hl : Cond.fieldLink μ.1.cls idx RJ0 "coder" "B" ∈ ctG) (hp : pc + 3 = q) (K : ctV B μ R post q L (.int 0 :: st) cs n M) : ctV B μ R post pc L (ctsK B i :: st) cs n M := by
  subst hp
  intro p e s m args below meth c H locs ls C w S h
  obtain ⟨hx, hb2, hml, hown, hts, ⟨-, -, ⟨z, -⟩, -⟩, -⟩ := id C
  rw [List.map_cons, ct_out]
  exact vk_getf hx hb2 (z.1 i hi).2.1 S hown (hts _ hl) (fun _ y => y) hd (K p e s m args below meth c H locs ls C w S h)
theorem ct_gval {idx i : Nat} (hi : i < 2) (hd : decode μ.2.1 pc = .ok (.getfield idx, 3)) (hl : Cond.fieldLink μ.1.cls idx RJ0 "value" "[B" ∈ ctG) (hp : pc + 3 = q) (K : ctV B μ R post q L (ctsV B i :: st) cs n M) : ctV B μ R post pc L (ctsK B i :: st) cs n M := by
  subst hp
  intro p e s m args below meth c H locs ls C w S h
  obtain ⟨hx, hb2, hml, hown, hts, ⟨-, -, ⟨z, -⟩, -⟩, -⟩ := id C
  have k := K p e s m args below meth c H locs ls C w S h
  rw [List.map_cons, ct_out] at k ⊢
  exact vk_getf hx hb2 (z.1 i hi).2.2.1 S hown (hts _ hl) (fun _ y => y) hd k
theorem ct_slen {i : Nat} (hi : i < 2) (hd : decode μ.2.1 pc = .ok (.arraylength, 1)) (hp : pc + 1 = q) (K : ctV B μ R post q L (.int (Int32.ofNat (ctSL.getD i 0)) :: st) cs n M) : ctV B μ R post pc L (ctsV B i :: st) cs n M := by
  subst hp
  intro p e s m args below meth c H locs ls C w S h
  obtain ⟨hx, hb2, hml, hown, hts, ⟨-, -, ⟨z, -⟩, -⟩, -⟩ := id C
  rw [List.map_cons, ct_out]
  exact va_tlen hx hb2 (z.1 i hi).2.2.2 S rfl hd (K p e s m args below meth c H locs ls C w S h)
theorem ct_sbald {i : Nat} {k : Int32} (hi : i < 2) (hin : vp_in k (ctSL.getD i 0)) (hd : decode μ.2.1 pc = .ok (.baload, 1)) (hp : pc + 1 = q) (K : ctV B μ R post q L (.int ((ctSB.getD i []).getD k.toNatClampNeg 0) :: st) cs n M) : ctV B μ R post pc L (.int k :: ctsV B i :: st) cs n M := by
  subst hp
  intro p e s m args below meth c H locs ls C w S h
  obtain ⟨hx, hb2, hml, hown, hts, ⟨-, -, ⟨z, -⟩, -⟩, -⟩ := id C
  rw [List.map_cons, List.map_cons, ct_out]
  exact va_tb hx hb2 (z.1 i hi).2.2.2 S hin rfl hd (K p e s m args below meth c H locs ls C w S h)
theorem ct_i2c {x : Int32} (hd : decode μ.2.1 pc = .ok (.i2c, 1)) (hp : pc + 1 = q) (K : ctV B μ R post q L (.int (x.toUInt32 % 65536).toInt32 :: st) cs n M) : ctV B μ R post pc L (.int x :: st) cs n M := by
  subst hp
  exact fun p e s m args below meth c H locs ls C w S h => lv_i2c C.1 C.2.1 hd rfl (K p e s m args below meth c H locs ls C w S h)
theorem ct_cret {x : Int32} (hd : decode μ.2.1 pc = .ok (.ireturn, 1)) (hr : μ.2.2.2 = some .char) (hx : narrow .char (.int x) = .int x) (hc : cs.1 ≤ R.2.1 ∧ cs.2 ≤ R.2.2) (hp : post (some (.int x)) n M) : ctV B μ R post pc L [.int x] cs n M :=
  fun p e s m args below meth c H locs ls C w S h => W.widen hc.1 hc.2 (W.zret C.1 C.2.1 (C.2.2.2.2.2.2.1.trans hr) hx (fun t ht hW => ⟨⟨some (.int x), n, M, rfl, hp, by rw [ht]; exact w⟩, S.F ht⟩) S.2.2 hd C.2.2.2.2.2.2.2.1)
theorem ct_callVs {idx k i : Nat} {As rest : List Value} (hi : i < 2) (hd : decode μ.2.1 pc = .ok (.invokevirtual idx, 3)) (hl : ctLkV μ.1.cls idx μ' k) (hk : As.length = k) (hR : R'.1 + 1 ≤ R.1) (hC : ctC B μ' R' (ctsK B i :: As) n M post') (hcn : μ'.1.cls = RJ0) (hrest : (rest.map fun v => v.category).sum ≤ 8) (hcs : cs.1 + R'.2.1 ≤ R.2.1 ∧ cs.2 + R'.2.2 ≤ R.2.2) (hst : st = As.reverse ++ ctsK B i :: rest)
    (kk : ∀ (v : Option Value) (n' : Nat) (M' : ctM), post' v n' M' → ctV B μ R post (pc + 3) L (v.toList ++ rest) (cs.1 + R'.2.1, cs.2 + R'.2.2) n' M') : ctV B μ R post pc L st cs n M := by
  subst hst
  intro p e s m args below meth c H locs ls C w S h
  obtain ⟨⟨w1, w2, w3, w4⟩, w5, w6, w7⟩ := hl
  obtain ⟨hx, hb, hml, hown, hts, hK, -⟩ := id C
  have hrecv := vk_recv hK.2.2.1.1 hi S
  rw [show ("java/lang/String" : String) = μ'.1.cls from hcn.symm] at hrecv
  refine ct_back (rest := rest.map (ctv B)) (va_runV (b := bK B i) (C := μ'.1.cls) (As := As.map (ctv B)) (rest := rest.map (ctv B)) (Ts := ctG) (ws := Cond.code μ'.1 μ'.2.1 μ'.2.2.1 μ'.2.2.2 :: ctG) (nL := μ.2.2.1) ⟨hx, hb, hml, hown, hts⟩ hC (cwV (ws' := ctG) k hts (fun x hx2 => ?_) rfl rfl rfl ⟨rfl, w3⟩ (ct_room hR w4)) ⟨ct_blind, hrecv, fun U hU hW => ⟨?_, by rw [hU]; exact w, ctK_moved hK S hU hW⟩⟩ rfl (by rw [List.length_map, hk]) h.1 ?_ (ct_rs hrest) hd hcs) S (fun v n' M' H1 locs1 hp hH hS => ?_)
  · unfold wsV at hx2
    rcases List.mem_append.mp hx2 with hx3 | hx3
    · have hg : x ∈ ctG := by
        simp only [List.mem_cons, List.mem_nil_iff, or_false] at hx3
        rcases hx3 with rfl | rfl | rfl | rfl
        · exact w5
        · exact w6
        · exact w7
        · exact w1
      exact ⟨hg, good_of_word (ctG_good x hg)⟩
    · exact ct_goodIn w2 x hx3
  · show (Value.ref (bK B i) :: As.map (ctv B)).toArray = ((ctsK B i :: As).map (ctv B)).toArray
    rw [List.map_cons, ct_out]
  · show (As.reverse ++ ctsK B i :: rest).map (ctv B) = _
    rw [List.map_append, List.map_cons, ct_out, List.map_reverse]
  · have := kk v n' M' hp p e s m args below meth c H1 locs1 ls C hH hS h
    rw [ct_tl] at this
    exact this
end
end
section
/-! the layouts -/
def kdCl : List Nat := [6, 13, 14, 9, 5, 8, 1, 9, 9, 9, 9, 12, 1, 9, 9, 9, 9, 1, 9, 9, 9, 9, 1, 9, 9, 9, 9, 1, 9, 9, 9, 9, 1, 9, 9, 9, 9, 1, 9, 9, 9, 9, 1, 9, 9, 9, 9, 1, 9, 9, 9, 9, 1, 9, 9, 9, 9, 1, 9, 9, 9, 9, 1, 9, 9, 9, 9, 1, 9, 9, 9, 9, 1, 9, 9, 9, 9, 1, 9, 9, 9, 9, 2, 11, 9, 9, 9, 0, 0, 0, 0, 0, 0, 0, 0, 2, 11, 9, 9, 9, 0, 0, 0, 0, 0, 0, 0, 0, 2, 11, 9, 9, 9, 0, 0, 0, 0, 0, 0, 0, 0, 3, 9, 3, 9, 3, 9, 3, 9, 4, 0, 3, 9, 4, 0, 3, 9, 4, 0, 3, 9, 4, 0, 3, 9, 4, 0, 3, 9]
def lnCl : List Nat := [0, 4, 5, 60, 0, 96, 0, 96, 96, 96, 96, 14, 0, 96, 96, 96, 96, 0, 96, 96, 96, 96, 0, 96, 96, 96, 96, 0, 96, 96, 96, 96, 0, 96, 96, 96, 96, 0, 96, 96, 96, 96, 0, 96, 96, 96, 96, 0, 96, 96, 96, 96, 0, 96, 96, 96, 96, 0, 96, 96, 96, 96, 0, 96, 96, 96, 96, 0, 96, 96, 96, 96, 0, 96, 96, 96, 96, 0, 96, 96, 96, 96, 0, 8, 8, 8, 3, 0, 0, 0, 0, 0, 0, 0, 0, 0, 8, 8, 8, 3, 0, 0, 0, 0, 0, 0, 0, 0, 0, 8, 8, 8, 3, 0, 0, 0, 0, 0, 0, 0, 0, 0, 24, 0, 24, 0, 24, 0, 24, 0, 0, 0, 24, 0, 0, 0, 24, 0, 0, 0, 24, 0, 0, 0, 24, 0, 0, 0, 24]
def kdMl : List Nat := [7, 9, 9, 9, 9, 9, 9, 9, 9, 9, 9, 9, 9, 10, 9, 9, 9, 9, 9, 9, 9]
def lnMl : List Nat := [0, 3070, 3070, 3070, 4, 4, 96, 5, 5, 5, 5, 120, 8, 120, 70, 96, 128, 100, 24, 60, 60]
def kdC (a : Nat) : Nat := kdCl.getD a 15
def lnC (a : Nat) : Nat := lnCl.getD a 0
def kdM (a : Nat) : Nat := kdMl.getD a 15
def lnM (a : Nat) : Nat := lnMl.getD a 0
/-! ends -/
def poI (r : Int32 × ctM) (n : Nat) : ctPost := fun v n' M' => v = some (.int r.1) ∧ n' = n ∧ M' = r.2
def poV (r : ctM) (n : Nat) : ctPost := fun v n' M' => v = none ∧ n' = n ∧ M' = r
def poP (r : Option Nat × ctM) (n : Nat) : ctPost := fun v n' M' => v = some (va_rf r.1) ∧ n' = n ∧ M' = r.2
theorem poI_of {x : Int32} {M : ctM} {r : Int32 × ctM} {n : Nat} (h : some (x, M) = some r) : poI r n (some (.int x)) n M := by cases h; exact ⟨rfl, rfl, rfl⟩
theorem poV_of {M : ctM} {r : ctM} {n : Nat} (h : some M = some r) : poV r n none n M := by cases h; exact ⟨rfl, rfl, rfl⟩
theorem poP_of {o : Option Nat} {M : ctM} {r : Option Nat × ctM} {n : Nat} (h : some (o, M) = some r) : poP r n (some (va_rf o)) n M := by cases h; exact ⟨rfl, rfl, rfl⟩
theorem oe_n {α : Type} {o : Option Nat} {A r : α} {f : Nat → α} (h : o.elim A f = r) (e : o = none) : A = r := by subst e; exact h
theorem oe_s {α : Type} {o : Option Nat} {A r : α} {f : Nat → α} {a : Nat} (h : o.elim A f = r) (e : o = some a) : f a = r := by subst e; exact h
def cV {α : Type} (kd : Nat → Nat) (c a : Nat) (o : Option α) : Option α := if kd a = c then o else none
theorem cV_spec {α : Type} {kd : Nat → Nat} {c a : Nat} {o : Option α} {r : α} (h : cV kd c a o = some r) : kd a = c ∧ o = some r := by
  unfold cV at h
  split at h
  · exact ⟨by assumption, h⟩
  · cases h
def chA (i : Nat) (k : Int32) : Option Int32 := if ¬ k < 0 ∧ k.toNatClampNeg < ctSL.getD i 0 then some ((ctSB.getD i []).getD k.toNatClampNeg 0) else none
section
variable {B : ctB} {μ μ' : Mi} {lv lv' : Nat} {post : ctPost} {pc q : Nat} {L : List (Option Value)} {rest : List Value} {n : Nat} {M : ctM} {kd ln : Nat → Nat}

theorem ct_cVi0 {idx ci a : Nat} {r : Int32 × ctM} (hB : ctOk B kd ln n) (hd : decode μ.2.1 pc = .ok (.invokevirtual idx, 3)) (hl : ctLkV μ.1.cls idx μ' 0) (hR : lv' + 1 ≤ lv) (hC : ctC B μ' (lv', 0, 0) [.ref a] n M (poI r n)) (ha : kd a = ci) (hci : ci < 8) (hcn : ctR ci = μ'.1.cls) (hrest : (rest.map fun v => v.category).sum ≤ 8) (hp : pc + 3 = q) (K : ctV B μ (lv, 0, 0) post q L (.int r.1 :: rest) (0, 0) n r.2) : ctV B μ (lv, 0, 0) post pc L (.ref a :: rest) (0, 0) n M := by
  subst hp
  refine ct_callV (As := []) (rest := rest) hB hd hl rfl hR hC ha hci hcn hrest ⟨Nat.le_refl 0, Nat.le_refl 0⟩ rfl (fun v n' M' hq => ?_)
  obtain ⟨rfl, rfl, rfl⟩ := hq
  exact K
theorem ct_cSi0 {idx : Nat} {r : Int32 × ctM} (hd : decode μ.2.1 pc = .ok (.invokestatic idx, 3)) (hl : ctLkS μ.1.cls idx μ' 0 ∨ ∃ host, ctLkSN μ.1.cls idx μ' 0 host) (hR : lv' + 1 ≤ lv) (hC : ctC B μ' (lv', 0, 0) [] n M (poI r n)) (hrest : (rest.map fun v => v.category).sum ≤ 8) (hp : pc + 3 = q) (K : ctV B μ (lv, 0, 0) post q L (.int r.1 :: rest) (0, 0) n r.2) : ctV B μ (lv, 0, 0) post pc L (rest) (0, 0) n M := by
  subst hp
  refine ct_callS (As := []) (rest := rest) hd hl rfl hR hC hrest ⟨Nat.le_refl 0, Nat.le_refl 0⟩ rfl (fun v n' M' hq => ?_)
  obtain ⟨rfl, rfl, rfl⟩ := hq
  exact K
theorem ct_cVv0 {idx ci a : Nat} {r : ctM} (hB : ctOk B kd ln n) (hd : decode μ.2.1 pc = .ok (.invokevirtual idx, 3)) (hl : ctLkV μ.1.cls idx μ' 0) (hR : lv' + 1 ≤ lv) (hC : ctC B μ' (lv', 0, 0) [.ref a] n M (poV r n)) (ha : kd a = ci) (hci : ci < 8) (hcn : ctR ci = μ'.1.cls) (hrest : (rest.map fun v => v.category).sum ≤ 8) (hp : pc + 3 = q) (K : ctV B μ (lv, 0, 0) post q L (rest) (0, 0) n r) : ctV B μ (lv, 0, 0) post pc L (.ref a :: rest) (0, 0) n M := by
  subst hp
  refine ct_callV (As := []) (rest := rest) hB hd hl rfl hR hC ha hci hcn hrest ⟨Nat.le_refl 0, Nat.le_refl 0⟩ rfl (fun v n' M' hq => ?_)
  obtain ⟨rfl, rfl, rfl⟩ := hq
  exact K
theorem ct_cSv0 {idx : Nat} {r : ctM} (hd : decode μ.2.1 pc = .ok (.invokestatic idx, 3)) (hl : ctLkS μ.1.cls idx μ' 0 ∨ ∃ host, ctLkSN μ.1.cls idx μ' 0 host) (hR : lv' + 1 ≤ lv) (hC : ctC B μ' (lv', 0, 0) [] n M (poV r n)) (hrest : (rest.map fun v => v.category).sum ≤ 8) (hp : pc + 3 = q) (K : ctV B μ (lv, 0, 0) post q L (rest) (0, 0) n r) : ctV B μ (lv, 0, 0) post pc L (rest) (0, 0) n M := by
  subst hp
  refine ct_callS (As := []) (rest := rest) hd hl rfl hR hC hrest ⟨Nat.le_refl 0, Nat.le_refl 0⟩ rfl (fun v n' M' hq => ?_)
  obtain ⟨rfl, rfl, rfl⟩ := hq
  exact K
theorem ct_cVi1 {idx ci a : Nat} {b1 : Value} {r : Int32 × ctM} (hB : ctOk B kd ln n) (hd : decode μ.2.1 pc = .ok (.invokevirtual idx, 3)) (hl : ctLkV μ.1.cls idx μ' 1) (hR : lv' + 1 ≤ lv) (hC : ctC B μ' (lv', 0, 0) [.ref a, b1] n M (poI r n)) (ha : kd a = ci) (hci : ci < 8) (hcn : ctR ci = μ'.1.cls) (hrest : (rest.map fun v => v.category).sum ≤ 8) (hp : pc + 3 = q) (K : ctV B μ (lv, 0, 0) post q L (.int r.1 :: rest) (0, 0) n r.2) : ctV B μ (lv, 0, 0) post pc L (b1 :: .ref a :: rest) (0, 0) n M := by
  subst hp
  refine ct_callV (As := [b1]) (rest := rest) hB hd hl rfl hR hC ha hci hcn hrest ⟨Nat.le_refl 0, Nat.le_refl 0⟩ rfl (fun v n' M' hq => ?_)
  obtain ⟨rfl, rfl, rfl⟩ := hq
  exact K
theorem ct_cSi1 {idx : Nat} {b1 : Value} {r : Int32 × ctM} (hd : decode μ.2.1 pc = .ok (.invokestatic idx, 3)) (hl : ctLkS μ.1.cls idx μ' 1 ∨ ∃ host, ctLkSN μ.1.cls idx μ' 1 host) (hR : lv' + 1 ≤ lv) (hC : ctC B μ' (lv', 0, 0) [b1] n M (poI r n)) (hrest : (rest.map fun v => v.category).sum ≤ 8) (hp : pc + 3 = q) (K : ctV B μ (lv, 0, 0) post q L (.int r.1 :: rest) (0, 0) n r.2) : ctV B μ (lv, 0, 0) post pc L (b1 :: rest) (0, 0) n M := by
  subst hp
  refine ct_callS (As := [b1]) (rest := rest) hd hl rfl hR hC hrest ⟨Nat.le_refl 0, Nat.le_refl 0⟩ rfl (fun v n' M' hq => ?_)
  obtain ⟨rfl, rfl, rfl⟩ := hq
  exact K
theorem ct_cVv1 {idx ci a : Nat} {b1 : Value} {r : ctM} (hB : ctOk B kd ln n) (hd : decode μ.2.1 pc = .ok (.invokevirtual idx, 3)) (hl : ctLkV μ.1.cls idx μ' 1) (hR : lv' + 1 ≤ lv) (hC : ctC B μ' (lv', 0, 0) [.ref a, b1] n M (poV r n)) (ha : kd a = ci) (hci : ci < 8) (hcn : ctR ci = μ'.1.cls) (hrest : (rest.map fun v => v.category).sum ≤ 8) (hp : pc + 3 = q) (K : ctV B μ (lv, 0, 0) post q L (rest) (0, 0) n r) : ctV B μ (lv, 0, 0) post pc L (b1 :: .ref a :: rest) (0, 0) n M := by
  subst hp
  refine ct_callV (As := [b1]) (rest := rest) hB hd hl rfl hR hC ha hci hcn hrest ⟨Nat.le_refl 0, Nat.le_refl 0⟩ rfl (fun v n' M' hq => ?_)
  obtain ⟨rfl, rfl, rfl⟩ := hq
  exact K
theorem ct_cSv1 {idx : Nat} {b1 : Value} {r : ctM} (hd : decode μ.2.1 pc = .ok (.invokestatic idx, 3)) (hl : ctLkS μ.1.cls idx μ' 1 ∨ ∃ host, ctLkSN μ.1.cls idx μ' 1 host) (hR : lv' + 1 ≤ lv) (hC : ctC B μ' (lv', 0, 0) [b1] n M (poV r n)) (hrest : (rest.map fun v => v.category).sum ≤ 8) (hp : pc + 3 = q) (K : ctV B μ (lv, 0, 0) post q L (rest) (0, 0) n r) : ctV B μ (lv, 0, 0) post pc L (b1 :: rest) (0, 0) n M := by
  subst hp
  refine ct_callS (As := [b1]) (rest := rest) hd hl rfl hR hC hrest ⟨Nat.le_refl 0, Nat.le_refl 0⟩ rfl (fun v n' M' hq => ?_)
  obtain ⟨rfl, rfl, rfl⟩ := hq
  exact K
theorem ct_cVp1 {idx ci a : Nat} {b1 : Value} {r : Option Nat × ctM} (hB : ctOk B kd ln n) (hd : decode μ.2.1 pc = .ok (.invokevirtual idx, 3)) (hl : ctLkV μ.1.cls idx μ' 1) (hR : lv' + 1 ≤ lv) (hC : ctC B μ' (lv', 0, 0) [.ref a, b1] n M (poP r n)) (ha : kd a = ci) (hci : ci < 8) (hcn : ctR ci = μ'.1.cls) (hrest : (rest.map fun v => v.category).sum ≤ 8) (hp : pc + 3 = q) (K1 : r.1 = none → ctV B μ (lv, 0, 0) post q L (.null :: rest) (0, 0) n r.2) (K2 : ∀ b, r.1 = some b → ctV B μ (lv, 0, 0) post q L (.ref b :: rest) (0, 0) n r.2) : ctV B μ (lv, 0, 0) post pc L (b1 :: .ref a :: rest) (0, 0) n M := by
  subst hp
  refine ct_callV (As := [b1]) (rest := rest) hB hd hl rfl hR hC ha hci hcn hrest ⟨Nat.le_refl 0, Nat.le_refl 0⟩ rfl (fun v n' M' hq => ?_)
  obtain ⟨rfl, rfl, rfl⟩ := hq
  cases hr : r.1 with
  | none => exact K1 hr
  | some b => exact K2 b hr
theorem ct_cVi2 {idx ci a : Nat} {b1 b2 : Value} {r : Int32 × ctM} (hB : ctOk B kd ln n) (hd : decode μ.2.1 pc = .ok (.invokevirtual idx, 3)) (hl : ctLkV μ.1.cls idx μ' 2) (hR : lv' + 1 ≤ lv) (hC : ctC B μ' (lv', 0, 0) [.ref a, b1, b2] n M (poI r n)) (ha : kd a = ci) (hci : ci < 8) (hcn : ctR ci = μ'.1.cls) (hrest : (rest.map fun v => v.category).sum ≤ 8) (hp : pc + 3 = q) (K : ctV B μ (lv, 0, 0) post q L (.int r.1 :: rest) (0, 0) n r.2) : ctV B μ (lv, 0, 0) post pc L (b2 :: b1 :: .ref a :: rest) (0, 0) n M := by
  subst hp
  refine ct_callV (As := [b1, b2]) (rest := rest) hB hd hl rfl hR hC ha hci hcn hrest ⟨Nat.le_refl 0, Nat.le_refl 0⟩ rfl (fun v n' M' hq => ?_)
  obtain ⟨rfl, rfl, rfl⟩ := hq
  exact K
theorem ct_cSi2 {idx : Nat} {b1 b2 : Value} {r : Int32 × ctM} (hd : decode μ.2.1 pc = .ok (.invokestatic idx, 3)) (hl : ctLkS μ.1.cls idx μ' 2 ∨ ∃ host, ctLkSN μ.1.cls idx μ' 2 host) (hR : lv' + 1 ≤ lv) (hC : ctC B μ' (lv', 0, 0) [b1, b2] n M (poI r n)) (hrest : (rest.map fun v => v.category).sum ≤ 8) (hp : pc + 3 = q) (K : ctV B μ (lv, 0, 0) post q L (.int r.1 :: rest) (0, 0) n r.2) : ctV B μ (lv, 0, 0) post pc L (b2 :: b1 :: rest) (0, 0) n M := by
  subst hp
  refine ct_callS (As := [b1, b2]) (rest := rest) hd hl rfl hR hC hrest ⟨Nat.le_refl 0, Nat.le_refl 0⟩ rfl (fun v n' M' hq => ?_)
  obtain ⟨rfl, rfl, rfl⟩ := hq
  exact K
theorem ct_cVv2 {idx ci a : Nat} {b1 b2 : Value} {r : ctM} (hB : ctOk B kd ln n) (hd : decode μ.2.1 pc = .ok (.invokevirtual idx, 3)) (hl : ctLkV μ.1.cls idx μ' 2) (hR : lv' + 1 ≤ lv) (hC : ctC B μ' (lv', 0, 0) [.ref a, b1, b2] n M (poV r n)) (ha : kd a = ci) (hci : ci < 8) (hcn : ctR ci = μ'.1.cls) (hrest : (rest.map fun v => v.category).sum ≤ 8) (hp : pc + 3 = q) (K : ctV B μ (lv, 0, 0) post q L (rest) (0, 0) n r) : ctV B μ (lv, 0, 0) post pc L (b2 :: b1 :: .ref a :: rest) (0, 0) n M := by
  subst hp
  refine ct_callV (As := [b1, b2]) (rest := rest) hB hd hl rfl hR hC ha hci hcn hrest ⟨Nat.le_refl 0, Nat.le_refl 0⟩ rfl (fun v n' M' hq => ?_)
  obtain ⟨rfl, rfl, rfl⟩ := hq
  exact K
theorem ct_cSv2 {idx : Nat} {b1 b2 : Value} {r : ctM} (hd : decode μ.2.1 pc = .ok (.invokestatic idx, 3)) (hl : ctLkS μ.1.cls idx μ' 2 ∨ ∃ host, ctLkSN μ.1.cls idx μ' 2 host) (hR : lv' + 1 ≤ lv) (hC : ctC B μ' (lv', 0, 0) [b1, b2] n M (poV r n)) (hrest : (rest.map fun v => v.category).sum ≤ 8) (hp : pc + 3 = q) (K : ctV B μ (lv, 0, 0) post q L (rest) (0, 0) n r) : ctV B μ (lv, 0, 0) post pc L (b2 :: b1 :: rest) (0, 0) n M := by
  subst hp
  refine ct_callS (As := [b1, b2]) (rest := rest) hd hl rfl hR hC hrest ⟨Nat.le_refl 0, Nat.le_refl 0⟩ rfl (fun v n' M' hq => ?_)
  obtain ⟨rfl, rfl, rfl⟩ := hq
  exact K
theorem ct_cVi3 {idx ci a : Nat} {b1 b2 b3 : Value} {r : Int32 × ctM} (hB : ctOk B kd ln n) (hd : decode μ.2.1 pc = .ok (.invokevirtual idx, 3)) (hl : ctLkV μ.1.cls idx μ' 3) (hR : lv' + 1 ≤ lv) (hC : ctC B μ' (lv', 0, 0) [.ref a, b1, b2, b3] n M (poI r n)) (ha : kd a = ci) (hci : ci < 8) (hcn : ctR ci = μ'.1.cls) (hrest : (rest.map fun v => v.category).sum ≤ 8) (hp : pc + 3 = q) (K : ctV B μ (lv, 0, 0) post q L (.int r.1 :: rest) (0, 0) n r.2) : ctV B μ (lv, 0, 0) post pc L (b3 :: b2 :: b1 :: .ref a :: rest) (0, 0) n M := by
  subst hp
  refine ct_callV (As := [b1, b2, b3]) (rest := rest) hB hd hl rfl hR hC ha hci hcn hrest ⟨Nat.le_refl 0, Nat.le_refl 0⟩ rfl (fun v n' M' hq => ?_)
  obtain ⟨rfl, rfl, rfl⟩ := hq
  exact K
theorem ct_cSi3 {idx : Nat} {b1 b2 b3 : Value} {r : Int32 × ctM} (hd : decode μ.2.1 pc = .ok (.invokestatic idx, 3)) (hl : ctLkS μ.1.cls idx μ' 3 ∨ ∃ host, ctLkSN μ.1.cls idx μ' 3 host) (hR : lv' + 1 ≤ lv) (hC : ctC B μ' (lv', 0, 0) [b1, b2, b3] n M (poI r n)) (hrest : (rest.map fun v => v.category).sum ≤ 8) (hp : pc + 3 = q) (K : ctV B μ (lv, 0, 0) post q L (.int r.1 :: rest) (0, 0) n r.2) : ctV B μ (lv, 0, 0) post pc L (b3 :: b2 :: b1 :: rest) (0, 0) n M := by
  subst hp
  refine ct_callS (As := [b1, b2, b3]) (rest := rest) hd hl rfl hR hC hrest ⟨Nat.le_refl 0, Nat.le_refl 0⟩ rfl (fun v n' M' hq => ?_)
  obtain ⟨rfl, rfl, rfl⟩ := hq
  exact K
theorem ct_cVv3 {idx ci a : Nat} {b1 b2 b3 : Value} {r : ctM} (hB : ctOk B kd ln n) (hd : decode μ.2.1 pc = .ok (.invokevirtual idx, 3)) (hl : ctLkV μ.1.cls idx μ' 3) (hR : lv' + 1 ≤ lv) (hC : ctC B μ' (lv', 0, 0) [.ref a, b1, b2, b3] n M (poV r n)) (ha : kd a = ci) (hci : ci < 8) (hcn : ctR ci = μ'.1.cls) (hrest : (rest.map fun v => v.category).sum ≤ 8) (hp : pc + 3 = q) (K : ctV B μ (lv, 0, 0) post q L (rest) (0, 0) n r) : ctV B μ (lv, 0, 0) post pc L (b3 :: b2 :: b1 :: .ref a :: rest) (0, 0) n M := by
  subst hp
  refine ct_callV (As := [b1, b2, b3]) (rest := rest) hB hd hl rfl hR hC ha hci hcn hrest ⟨Nat.le_refl 0, Nat.le_refl 0⟩ rfl (fun v n' M' hq => ?_)
  obtain ⟨rfl, rfl, rfl⟩ := hq
  exact K
theorem ct_cSv3 {idx : Nat} {b1 b2 b3 : Value} {r : ctM} (hd : decode μ.2.1 pc = .ok (.invokestatic idx, 3)) (hl : ctLkS μ.1.cls idx μ' 3 ∨ ∃ host, ctLkSN μ.1.cls idx μ' 3 host) (hR : lv' + 1 ≤ lv) (hC : ctC B μ' (lv', 0, 0) [b1, b2, b3] n M (poV r n)) (hrest : (rest.map fun v => v.category).sum ≤ 8) (hp : pc + 3 = q) (K : ctV B μ (lv, 0, 0) post q L (rest) (0, 0) n r) : ctV B μ (lv, 0, 0) post pc L (b3 :: b2 :: b1 :: rest) (0, 0) n M := by
  subst hp
  refine ct_callS (As := [b1, b2, b3]) (rest := rest) hd hl rfl hR hC hrest ⟨Nat.le_refl 0, Nat.le_refl 0⟩ rfl (fun v n' M' hq => ?_)
  obtain ⟨rfl, rfl, rfl⟩ := hq
  exact K
theorem ct_cVi4 {idx ci a : Nat} {b1 b2 b3 b4 : Value} {r : Int32 × ctM} (hB : ctOk B kd ln n) (hd : decode μ.2.1 pc = .ok (.invokevirtual idx, 3)) (hl : ctLkV μ.1.cls idx μ' 4) (hR : lv' + 1 ≤ lv) (hC : ctC B μ' (lv', 0, 0) [.ref a, b1, b2, b3, b4] n M (poI r n)) (ha : kd a = ci) (hci : ci < 8) (hcn : ctR ci = μ'.1.cls) (hrest : (rest.map fun v => v.category).sum ≤ 8) (hp : pc + 3 = q) (K : ctV B μ (lv, 0, 0) post q L (.int r.1 :: rest) (0, 0) n r.2) : ctV B μ (lv, 0, 0) post pc L (b4 :: b3 :: b2 :: b1 :: .ref a :: rest) (0, 0) n M := by
  subst hp
  refine ct_callV (As := [b1, b2, b3, b4]) (rest := rest) hB hd hl rfl hR hC ha hci hcn hrest ⟨Nat.le_refl 0, Nat.le_refl 0⟩ rfl (fun v n' M' hq => ?_)
  obtain ⟨rfl, rfl, rfl⟩ := hq
  exact K
theorem ct_cSi4 {idx : Nat} {b1 b2 b3 b4 : Value} {r : Int32 × ctM} (hd : decode μ.2.1 pc = .ok (.invokestatic idx, 3)) (hl : ctLkS μ.1.cls idx μ' 4 ∨ ∃ host, ctLkSN μ.1.cls idx μ' 4 host) (hR : lv' + 1 ≤ lv) (hC : ctC B μ' (lv', 0, 0) [b1, b2, b3, b4] n M (poI r n)) (hrest : (rest.map fun v => v.category).sum ≤ 8) (hp : pc + 3 = q) (K : ctV B μ (lv, 0, 0) post q L (.int r.1 :: rest) (0, 0) n r.2) : ctV B μ (lv, 0, 0) post pc L (b4 :: b3 :: b2 :: b1 :: rest) (0, 0) n M := by
  subst hp
  refine ct_callS (As := [b1, b2, b3, b4]) (rest := rest) hd hl rfl hR hC hrest ⟨Nat.le_refl 0, Nat.le_refl 0⟩ rfl (fun v n' M' hq => ?_)
  obtain ⟨rfl, rfl, rfl⟩ := hq
  exact K
theorem ct_cVv4 {idx ci a : Nat} {b1 b2 b3 b4 : Value} {r : ctM} (hB : ctOk B kd ln n) (hd : decode μ.2.1 pc = .ok (.invokevirtual idx, 3)) (hl : ctLkV μ.1.cls idx μ' 4) (hR : lv' + 1 ≤ lv) (hC : ctC B μ' (lv', 0, 0) [.ref a, b1, b2, b3, b4] n M (poV r n)) (ha : kd a = ci) (hci : ci < 8) (hcn : ctR ci = μ'.1.cls) (hrest : (rest.map fun v => v.category).sum ≤ 8) (hp : pc + 3 = q) (K : ctV B μ (lv, 0, 0) post q L (rest) (0, 0) n r) : ctV B μ (lv, 0, 0) post pc L (b4 :: b3 :: b2 :: b1 :: .ref a :: rest) (0, 0) n M := by
  subst hp
  refine ct_callV (As := [b1, b2, b3, b4]) (rest := rest) hB hd hl rfl hR hC ha hci hcn hrest ⟨Nat.le_refl 0, Nat.le_refl 0⟩ rfl (fun v n' M' hq => ?_)
  obtain ⟨rfl, rfl, rfl⟩ := hq
  exact K
theorem ct_cSv4 {idx : Nat} {b1 b2 b3 b4 : Value} {r : ctM} (hd : decode μ.2.1 pc = .ok (.invokestatic idx, 3)) (hl : ctLkS μ.1.cls idx μ' 4 ∨ ∃ host, ctLkSN μ.1.cls idx μ' 4 host) (hR : lv' + 1 ≤ lv) (hC : ctC B μ' (lv', 0, 0) [b1, b2, b3, b4] n M (poV r n)) (hrest : (rest.map fun v => v.category).sum ≤ 8) (hp : pc + 3 = q) (K : ctV B μ (lv, 0, 0) post q L (rest) (0, 0) n r) : ctV B μ (lv, 0, 0) post pc L (b4 :: b3 :: b2 :: b1 :: rest) (0, 0) n M := by
  subst hp
  refine ct_callS (As := [b1, b2, b3, b4]) (rest := rest) hd hl rfl hR hC hrest ⟨Nat.le_refl 0, Nat.le_refl 0⟩ rfl (fun v n' M' hq => ?_)
  obtain ⟨rfl, rfl, rfl⟩ := hq
  exact K
theorem ct_cVi5 {idx ci a : Nat} {b1 b2 b3 b4 b5 : Value} {r : Int32 × ctM} (hB : ctOk B kd ln n) (hd : decode μ.2.1 pc = .ok (.invokevirtual idx, 3)) (hl : ctLkV μ.1.cls idx μ' 5) (hR : lv' + 1 ≤ lv) (hC : ctC B μ' (lv', 0, 0) [.ref a, b1, b2, b3, b4, b5] n M (poI r n)) (ha : kd a = ci) (hci : ci < 8) (hcn : ctR ci = μ'.1.cls) (hrest : (rest.map fun v => v.category).sum ≤ 8) (hp : pc + 3 = q) (K : ctV B μ (lv, 0, 0) post q L (.int r.1 :: rest) (0, 0) n r.2) : ctV B μ (lv, 0, 0) post pc L (b5 :: b4 :: b3 :: b2 :: b1 :: .ref a :: rest) (0, 0) n M := by
  subst hp
  refine ct_callV (As := [b1, b2, b3, b4, b5]) (rest := rest) hB hd hl rfl hR hC ha hci hcn hrest ⟨Nat.le_refl 0, Nat.le_refl 0⟩ rfl (fun v n' M' hq => ?_)
  obtain ⟨rfl, rfl, rfl⟩ := hq
  exact K
theorem ct_cSi5 {idx : Nat} {b1 b2 b3 b4 b5 : Value} {r : Int32 × ctM} (hd : decode μ.2.1 pc = .ok (.invokestatic idx, 3)) (hl : ctLkS μ.1.cls idx μ' 5 ∨ ∃ host, ctLkSN μ.1.cls idx μ' 5 host) (hR : lv' + 1 ≤ lv) (hC : ctC B μ' (lv', 0, 0) [b1, b2, b3, b4, b5] n M (poI r n)) (hrest : (rest.map fun v => v.category).sum ≤ 8) (hp : pc + 3 = q) (K : ctV B μ (lv, 0, 0) post q L (.int r.1 :: rest) (0, 0) n r.2) : ctV B μ (lv, 0, 0) post pc L (b5 :: b4 :: b3 :: b2 :: b1 :: rest) (0, 0) n M := by
  subst hp
  refine ct_callS (As := [b1, b2, b3, b4, b5]) (rest := rest) hd hl rfl hR hC hrest ⟨Nat.le_refl 0, Nat.le_refl 0⟩ rfl (fun v n' M' hq => ?_)
  obtain ⟨rfl, rfl, rfl⟩ := hq
  exact K
theorem ct_cVv5 {idx ci a : Nat} {b1 b2 b3 b4 b5 : Value} {r : ctM} (hB : ctOk B kd ln n) (hd : decode μ.2.1 pc = .ok (.invokevirtual idx, 3)) (hl : ctLkV μ.1.cls idx μ' 5) (hR : lv' + 1 ≤ lv) (hC : ctC B μ' (lv', 0, 0) [.ref a, b1, b2, b3, b4, b5] n M (poV r n)) (ha : kd a = ci) (hci : ci < 8) (hcn : ctR ci = μ'.1.cls) (hrest : (rest.map fun v => v.category).sum ≤ 8) (hp : pc + 3 = q) (K : ctV B μ (lv, 0, 0) post q L (rest) (0, 0) n r) : ctV B μ (lv, 0, 0) post pc L (b5 :: b4 :: b3 :: b2 :: b1 :: .ref a :: rest) (0, 0) n M := by
  subst hp
  refine ct_callV (As := [b1, b2, b3, b4, b5]) (rest := rest) hB hd hl rfl hR hC ha hci hcn hrest ⟨Nat.le_refl 0, Nat.le_refl 0⟩ rfl (fun v n' M' hq => ?_)
  obtain ⟨rfl, rfl, rfl⟩ := hq
  exact K
theorem ct_cSv5 {idx : Nat} {b1 b2 b3 b4 b5 : Value} {r : ctM} (hd : decode μ.2.1 pc = .ok (.invokestatic idx, 3)) (hl : ctLkS μ.1.cls idx μ' 5 ∨ ∃ host, ctLkSN μ.1.cls idx μ' 5 host) (hR : lv' + 1 ≤ lv) (hC : ctC B μ' (lv', 0, 0) [b1, b2, b3, b4, b5] n M (poV r n)) (hrest : (rest.map fun v => v.category).sum ≤ 8) (hp : pc + 3 = q) (K : ctV B μ (lv, 0, 0) post q L (rest) (0, 0) n r) : ctV B μ (lv, 0, 0) post pc L (b5 :: b4 :: b3 :: b2 :: b1 :: rest) (0, 0) n M := by
  subst hp
  refine ct_callS (As := [b1, b2, b3, b4, b5]) (rest := rest) hd hl rfl hR hC hrest ⟨Nat.le_refl 0, Nat.le_refl 0⟩ rfl (fun v n' M' hq => ?_)
  obtain ⟨rfl, rfl, rfl⟩ := hq
  exact K
end
end
section
theorem fl_RX1_9 : ctFl RX1 9 1 0 := ctG_in 84 (by decide +kernel) (by decide +kernel)
theorem fl_RX5_96 : ctFl RX5 96 1 0 := ctG_in 85 (by decide +kernel) (by decide +kernel)
theorem fl_RX6_238 : ctFl RX6 238 1 0 := ctG_in 86 (by decide +kernel) (by decide +kernel)
theorem fl_RX1_15 : ctFl RX1 15 1 1 := ctG_in 87 (by decide +kernel) (by decide +kernel)
theorem fl_RX6_241 : ctFl RX6 241 1 1 := ctG_in 88 (by decide +kernel) (by decide +kernel)
theorem fl_RX1_18 : ctFl RX1 18 1 2 := ctG_in 89 (by decide +kernel) (by decide +kernel)
theorem fl_RX1_21 : ctFl RX1 21 1 3 := ctG_in 90 (by decide +kernel) (by decide +kernel)
theorem fl_RX1_25 : ctFl RX1 25 1 4 := ctG_in 91 (by decide +kernel) (by decide +kernel)
theorem fl_RX1_28 : ctFl RX1 28 1 5 := ctG_in 92 (by decide +kernel) (by decide +kernel)
theorem fl_RX1_31 : ctFl RX1 31 1 6 := ctG_in 93 (by decide +kernel) (by decide +kernel)
theorem fl_RX5_9 : ctFl RX5 9 5 0 := ctG_in 111 (by decide +kernel) (by decide +kernel)
theorem fl_RX5_15 : ctFl RX5 15 5 1 := ctG_in 112 (by decide +kernel) (by decide +kernel)
theorem fl_RX6_220 : ctFl RX6 220 5 1 := ctG_in 113 (by decide +kernel) (by decide +kernel)
theorem fl_RX5_19 : ctFl RX5 19 5 2 := ctG_in 114 (by decide +kernel) (by decide +kernel)
theorem fl_RX5_22 : ctFl RX5 22 5 3 := ctG_in 115 (by decide +kernel) (by decide +kernel)
theorem fl_RX5_25 : ctFl RX5 25 5 4 := ctG_in 116 (by decide +kernel) (by decide +kernel)
theorem fl_RX5_28 : ctFl RX5 28 5 5 := ctG_in 117 (by decide +kernel) (by decide +kernel)
theorem fl_RX5_34 : ctFl RX5 34 5 6 := ctG_in 118 (by decide +kernel) (by decide +kernel)
theorem fl_RX6_231 : ctFl RX6 231 5 6 := ctG_in 119 (by decide +kernel) (by decide +kernel)
theorem fl_RX0_9 : ctFl RX0 9 0 0 := ctG_in 151 (by decide +kernel) (by decide +kernel)
theorem fl_RX6_91 : ctFl RX6 91 0 0 := ctG_in 152 (by decide +kernel) (by decide +kernel)
theorem fl_RX2_120 : ctFl RX2 120 0 0 := ctG_in 153 (by decide +kernel) (by decide +kernel)
theorem fl_RX0_15 : ctFl RX0 15 0 1 := ctG_in 154 (by decide +kernel) (by decide +kernel)
theorem fl_RX6_96 : ctFl RX6 96 0 1 := ctG_in 155 (by decide +kernel) (by decide +kernel)
theorem fl_RX2_104 : ctFl RX2 104 0 1 := ctG_in 156 (by decide +kernel) (by decide +kernel)
theorem fl_RX0_18 : ctFl RX0 18 0 2 := ctG_in 157 (by decide +kernel) (by decide +kernel)
theorem fl_RX6_99 : ctFl RX6 99 0 2 := ctG_in 158 (by decide +kernel) (by decide +kernel)
theorem fl_RX2_107 : ctFl RX2 107 0 2 := ctG_in 159 (by decide +kernel) (by decide +kernel)
theorem fl_RX0_21 : ctFl RX0 21 0 3 := ctG_in 160 (by decide +kernel) (by decide +kernel)
theorem fl_RX6_102 : ctFl RX6 102 0 3 := ctG_in 161 (by decide +kernel) (by decide +kernel)
theorem fl_RX2_80 : ctFl RX2 80 0 3 := ctG_in 162 (by decide +kernel) (by decide +kernel)
theorem fl_RX0_24 : ctFl RX0 24 0 4 := ctG_in 163 (by decide +kernel) (by decide +kernel)
theorem fl_RX6_105 : ctFl RX6 105 0 4 := ctG_in 164 (by decide +kernel) (by decide +kernel)
theorem fl_RX2_68 : ctFl RX2 68 0 4 := ctG_in 165 (by decide +kernel) (by decide +kernel)
theorem fl_RX0_27 : ctFl RX0 27 0 5 := ctG_in 166 (by decide +kernel) (by decide +kernel)
theorem fl_RX6_108 : ctFl RX6 108 0 5 := ctG_in 167 (by decide +kernel) (by decide +kernel)
theorem fl_RX0_30 : ctFl RX0 30 0 6 := ctG_in 168 (by decide +kernel) (by decide +kernel)
theorem fl_RX6_111 : ctFl RX6 111 0 6 := ctG_in 169 (by decide +kernel) (by decide +kernel)
theorem fl_RX2_46 : ctFl RX2 46 2 0 := ctG_in 185 (by decide +kernel) (by decide +kernel)
theorem fl_RX2_11 : ctFl RX2 11 2 1 := ctG_in 186 (by decide +kernel) (by decide +kernel)
theorem fl_RX6_87 : ctFl RX6 87 2 1 := ctG_in 187 (by decide +kernel) (by decide +kernel)
theorem fl_RX2_17 : ctFl RX2 17 2 2 := ctG_in 188 (by decide +kernel) (by decide +kernel)
theorem fl_RX2_21 : ctFl RX2 21 2 3 := ctG_in 189 (by decide +kernel) (by decide +kernel)
theorem fl_RX2_24 : ctFl RX2 24 2 4 := ctG_in 190 (by decide +kernel) (by decide +kernel)
theorem fl_RX6_235 : ctFl RX6 235 2 4 := ctG_in 191 (by decide +kernel) (by decide +kernel)
theorem fl_RX2_27 : ctFl RX2 27 2 5 := ctG_in 192 (by decide +kernel) (by decide +kernel)
theorem fl_RX6_76 : ctFl RX6 76 2 5 := ctG_in 193 (by decide +kernel) (by decide +kernel)
theorem fl_RX2_31 : ctFl RX2 31 2 6 := ctG_in 194 (by decide +kernel) (by decide +kernel)
theorem fl_RX6_147 : ctFl RX6 147 2 6 := ctG_in 195 (by decide +kernel) (by decide +kernel)
theorem fl_RX2_34 : ctFl RX2 34 2 7 := ctG_in 196 (by decide +kernel) (by decide +kernel)
theorem fl_RX6_150 : ctFl RX6 150 2 7 := ctG_in 197 (by decide +kernel) (by decide +kernel)
theorem fl_RX2_37 : ctFl RX2 37 2 8 := ctG_in 198 (by decide +kernel) (by decide +kernel)
theorem fl_RX6_291 : ctFl RX6 291 2 8 := ctG_in 199 (by decide +kernel) (by decide +kernel)
theorem fl_RX2_40 : ctFl RX2 40 2 9 := ctG_in 200 (by decide +kernel) (by decide +kernel)
theorem fl_RX6_164 : ctFl RX6 164 2 9 := ctG_in 201 (by decide +kernel) (by decide +kernel)
theorem fl_RX2_43 : ctFl RX2 43 2 10 := ctG_in 202 (by decide +kernel) (by decide +kernel)
theorem fl_RX6_228 : ctFl RX6 228 2 10 := ctG_in 203 (by decide +kernel) (by decide +kernel)
theorem fl_RX3_9 : ctFl RX3 9 3 0 := ctG_in 232 (by decide +kernel) (by decide +kernel)
theorem fl_RX6_253 : ctFl RX6 253 3 0 := ctG_in 233 (by decide +kernel) (by decide +kernel)
theorem fl_RX3_15 : ctFl RX3 15 3 1 := ctG_in 234 (by decide +kernel) (by decide +kernel)
theorem fl_RX6_214 : ctFl RX6 214 3 1 := ctG_in 235 (by decide +kernel) (by decide +kernel)
theorem fl_RX3_18 : ctFl RX3 18 3 2 := ctG_in 236 (by decide +kernel) (by decide +kernel)
theorem fl_RX6_217 : ctFl RX6 217 3 2 := ctG_in 237 (by decide +kernel) (by decide +kernel)
theorem fl_RX4_9 : ctFl RX4 9 4 0 := ctG_in 254 (by decide +kernel) (by decide +kernel)
theorem fl_RX6_270 : ctFl RX6 270 4 0 := ctG_in 255 (by decide +kernel) (by decide +kernel)
theorem fl_RX4_18 : ctFl RX4 18 4 1 := ctG_in 256 (by decide +kernel) (by decide +kernel)
theorem fl_RX6_273 : ctFl RX6 273 4 1 := ctG_in 257 (by decide +kernel) (by decide +kernel)
theorem fl_RX4_25 : ctFl RX4 25 4 2 := ctG_in 258 (by decide +kernel) (by decide +kernel)
theorem fl_RX6_280 : ctFl RX6 280 4 2 := ctG_in 259 (by decide +kernel) (by decide +kernel)
theorem fl_RX4_29 : ctFl RX4 29 4 3 := ctG_in 260 (by decide +kernel) (by decide +kernel)
theorem fl_RX6_287 : ctFl RX6 287 4 3 := ctG_in 261 (by decide +kernel) (by decide +kernel)
theorem fl_RX6_43 : ctFl RX6 43 6 0 := ctG_in 271 (by decide +kernel) (by decide +kernel)
theorem fl_RX6_52 : ctFl RX6 52 6 1 := ctG_in 272 (by decide +kernel) (by decide +kernel)
theorem fl_RX6_56 : ctFl RX6 56 6 2 := ctG_in 273 (by decide +kernel) (by decide +kernel)
theorem fl_RX6_59 : ctFl RX6 59 6 3 := ctG_in 274 (by decide +kernel) (by decide +kernel)
theorem fl_RX6_7 : ctFl RX6 7 6 4 := ctG_in 275 (by decide +kernel) (by decide +kernel)
theorem fl_RX6_15 : ctFl RX6 15 6 5 := ctG_in 276 (by decide +kernel) (by decide +kernel)
theorem fl_RX6_21 : ctFl RX6 21 6 6 := ctG_in 277 (by decide +kernel) (by decide +kernel)
theorem fl_RX6_25 : ctFl RX6 25 6 7 := ctG_in 278 (by decide +kernel) (by decide +kernel)
theorem fl_RX6_29 : ctFl RX6 29 6 8 := ctG_in 279 (by decide +kernel) (by decide +kernel)
theorem fl_RX6_36 : ctFl RX6 36 6 9 := ctG_in 280 (by decide +kernel) (by decide +kernel)
theorem wd_318 : Cond.constant RX6 75 (-1000000001) ∈ ctG := ctG_in 318 (by decide +kernel) (by decide +kernel)
theorem wd_319 : Cond.constant RX6 79 (-1000000003) ∈ ctG := ctG_in 319 (by decide +kernel) (by decide +kernel)
theorem wd_324 : Cond.constant RX2 55 (-1000000003) ∈ ctG := ctG_in 324 (by decide +kernel) (by decide +kernel)
theorem wd_398 : Cond.constant RX6 128 (-1000000012) ∈ ctG := ctG_in 398 (by decide +kernel) (by decide +kernel)
theorem wd_452 : Cond.constant RX2 71 (1103515245) ∈ ctG := ctG_in 452 (by decide +kernel) (by decide +kernel)
theorem wd_501 : Cond.constant RX2 150 (-1000000005) ∈ ctG := ctG_in 501 (by decide +kernel) (by decide +kernel)
theorem wd_535 : Cond.constant RX6 183 (-1000000005) ∈ ctG := ctG_in 535 (by decide +kernel) (by decide +kernel)
theorem wd_557 : Cond.constant RX6 194 (-1000000002) ∈ ctG := ctG_in 557 (by decide +kernel) (by decide +kernel)
theorem wd_577 : Cond.constant RX6 209 (-1000000011) ∈ ctG := ctG_in 577 (by decide +kernel) (by decide +kernel)
theorem wd_713 : Cond.constant RX6 244 (-1000000014) ∈ ctG := ctG_in 713 (by decide +kernel) (by decide +kernel)
theorem wd_727 : Cond.constant RX6 252 (-1000000013) ∈ ctG := ctG_in 727 (by decide +kernel) (by decide +kernel)
theorem wd_728 : Cond.constant RX6 256 (-99999) ∈ ctG := ctG_in 728 (by decide +kernel) (by decide +kernel)
theorem wd_729 : Cond.constant RX6 257 (99999) ∈ ctG := ctG_in 729 (by decide +kernel) (by decide +kernel)
theorem fl_RX7_7 : ctFl RX7 7 7 0 := ctG_in 800 (by decide +kernel) (by decide +kernel)
theorem fl_RX7_13 : ctFl RX7 13 7 1 := ctG_in 801 (by decide +kernel) (by decide +kernel)
theorem fl_RX7_16 : ctFl RX7 16 7 2 := ctG_in 802 (by decide +kernel) (by decide +kernel)
theorem fl_RX7_329 : ctFl RX7 329 7 3 := ctG_in 803 (by decide +kernel) (by decide +kernel)
theorem fl_RX7_19 : ctFl RX7 19 7 4 := ctG_in 804 (by decide +kernel) (by decide +kernel)
theorem fl_RX7_22 : ctFl RX7 22 7 5 := ctG_in 805 (by decide +kernel) (by decide +kernel)
theorem fl_RX7_25 : ctFl RX7 25 7 6 := ctG_in 806 (by decide +kernel) (by decide +kernel)
theorem fl_RX7_28 : ctFl RX7 28 7 7 := ctG_in 807 (by decide +kernel) (by decide +kernel)
theorem fl_RX7_31 : ctFl RX7 31 7 8 := ctG_in 808 (by decide +kernel) (by decide +kernel)
theorem fl_RX7_34 : ctFl RX7 34 7 9 := ctG_in 809 (by decide +kernel) (by decide +kernel)
theorem fl_RX7_37 : ctFl RX7 37 7 10 := ctG_in 810 (by decide +kernel) (by decide +kernel)
theorem fl_RX7_40 : ctFl RX7 40 7 11 := ctG_in 811 (by decide +kernel) (by decide +kernel)
theorem fl_RX7_43 : ctFl RX7 43 7 12 := ctG_in 812 (by decide +kernel) (by decide +kernel)
theorem fl_RX7_46 : ctFl RX7 46 7 13 := ctG_in 813 (by decide +kernel) (by decide +kernel)
theorem fl_RX7_170 : ctFl RX7 170 7 14 := ctG_in 814 (by decide +kernel) (by decide +kernel)
theorem fl_RX7_174 : ctFl RX7 174 7 15 := ctG_in 815 (by decide +kernel) (by decide +kernel)
theorem fl_RX7_50 : ctFl RX7 50 7 16 := ctG_in 816 (by decide +kernel) (by decide +kernel)
theorem fl_RX7_53 : ctFl RX7 53 7 17 := ctG_in 817 (by decide +kernel) (by decide +kernel)
theorem fl_RX7_209 : ctFl RX7 209 7 18 := ctG_in 818 (by decide +kernel) (by decide +kernel)
theorem fl_RX7_226 : ctFl RX7 226 7 19 := ctG_in 819 (by decide +kernel) (by decide +kernel)
theorem fl_RX7_220 : ctFl RX7 220 7 20 := ctG_in 820 (by decide +kernel) (by decide +kernel)
theorem fl_RX7_223 : ctFl RX7 223 7 21 := ctG_in 821 (by decide +kernel) (by decide +kernel)
theorem fl_RX7_238 : ctFl RX7 238 7 22 := ctG_in 822 (by decide +kernel) (by decide +kernel)
theorem fl_RX7_232 : ctFl RX7 232 7 23 := ctG_in 823 (by decide +kernel) (by decide +kernel)
theorem fl_RX7_284 : ctFl RX7 284 7 24 := ctG_in 824 (by decide +kernel) (by decide +kernel)
theorem fl_RX7_282 : ctFl RX7 282 7 25 := ctG_in 825 (by decide +kernel) (by decide +kernel)
theorem fl_RX7_248 : ctFl RX7 248 7 26 := ctG_in 826 (by decide +kernel) (by decide +kernel)
theorem fl_RX7_245 : ctFl RX7 245 7 27 := ctG_in 827 (by decide +kernel) (by decide +kernel)
theorem fl_RX7_276 : ctFl RX7 276 7 28 := ctG_in 828 (by decide +kernel) (by decide +kernel)
theorem fl_RX7_56 : ctFl RX7 56 7 29 := ctG_in 829 (by decide +kernel) (by decide +kernel)
theorem fl_RX7_59 : ctFl RX7 59 7 30 := ctG_in 830 (by decide +kernel) (by decide +kernel)
theorem fl_RX7_62 : ctFl RX7 62 7 31 := ctG_in 831 (by decide +kernel) (by decide +kernel)
theorem fl_RX7_65 : ctFl RX7 65 7 32 := ctG_in 832 (by decide +kernel) (by decide +kernel)
theorem fl_RX7_324 : ctFl RX7 324 7 33 := ctG_in 833 (by decide +kernel) (by decide +kernel)
theorem fl_RX7_68 : ctFl RX7 68 7 34 := ctG_in 834 (by decide +kernel) (by decide +kernel)
theorem wd_911 : Cond.constantLong RX7 85 (5) ∈ ctG := ctG_in 911 (by decide +kernel) (by decide +kernel)
theorem wd_918 : Cond.constantLong RX7 91 (9) ∈ ctG := ctG_in 918 (by decide +kernel) (by decide +kernel)
theorem wd_919 : Cond.constant RX7 93 (-1000000001) ∈ ctG := ctG_in 919 (by decide +kernel) (by decide +kernel)
theorem wd_920 : Cond.constant RX7 94 (-1000000003) ∈ ctG := ctG_in 920 (by decide +kernel) (by decide +kernel)
theorem wd_937 : Cond.constantLong RX7 124 (6) ∈ ctG := ctG_in 937 (by decide +kernel) (by decide +kernel)
theorem wd_993 : Cond.constant RX7 139 (-1000000012) ∈ ctG := ctG_in 993 (by decide +kernel) (by decide +kernel)
theorem wd_1006 : Cond.constantLong RX7 143 (119) ∈ ctG := ctG_in 1006 (by decide +kernel) (by decide +kernel)
theorem wd_1007 : Cond.constantLong RX7 145 (999) ∈ ctG := ctG_in 1007 (by decide +kernel) (by decide +kernel)
theorem wd_1020 : Cond.constantLong RX7 147 (59) ∈ ctG := ctG_in 1020 (by decide +kernel) (by decide +kernel)
theorem wd_1029 : Cond.constantLong RX7 149 (8) ∈ ctG := ctG_in 1029 (by decide +kernel) (by decide +kernel)
theorem wd_1034 : Cond.constant RX7 84 (1103515245) ∈ ctG := ctG_in 1034 (by decide +kernel) (by decide +kernel)
theorem wd_1043 : Cond.constantLong RX7 165 (60) ∈ ctG := ctG_in 1043 (by decide +kernel) (by decide +kernel)
theorem wd_1052 : Cond.constantLong RX7 155 (-4) ∈ ctG := ctG_in 1052 (by decide +kernel) (by decide +kernel)
theorem wd_1053 : Cond.constantLong RX7 157 (4) ∈ ctG := ctG_in 1053 (by decide +kernel) (by decide +kernel)
theorem wd_1073 : Cond.constant RX7 71 (-1000000005) ∈ ctG := ctG_in 1073 (by decide +kernel) (by decide +kernel)
theorem wd_1117 : Cond.constant RX7 206 (-1000000002) ∈ ctG := ctG_in 1117 (by decide +kernel) (by decide +kernel)
theorem wd_1122 : Cond.constantLong RX7 207 (29) ∈ ctG := ctG_in 1122 (by decide +kernel) (by decide +kernel)
theorem wd_1147 : Cond.constantLong RX7 212 (97) ∈ ctG := ctG_in 1147 (by decide +kernel) (by decide +kernel)
theorem wd_1148 : Cond.constantLong RX7 214 (122) ∈ ctG := ctG_in 1148 (by decide +kernel) (by decide +kernel)
theorem wd_1153 : Cond.constantLong RX7 216 (48) ∈ ctG := ctG_in 1153 (by decide +kernel) (by decide +kernel)
theorem wd_1154 : Cond.constantLong RX7 218 (57) ∈ ctG := ctG_in 1154 (by decide +kernel) (by decide +kernel)
theorem wd_1210 : Cond.constantLong RX7 302 (2) ∈ ctG := ctG_in 1210 (by decide +kernel) (by decide +kernel)
theorem wd_1218 : Cond.constantLong RX7 307 (3) ∈ ctG := ctG_in 1218 (by decide +kernel) (by decide +kernel)
theorem wd_1219 : Cond.constantLong RX7 312 (-1) ∈ ctG := ctG_in 1219 (by decide +kernel) (by decide +kernel)
theorem wd_1220 : Cond.constant RX7 314 (-1000000014) ∈ ctG := ctG_in 1220 (by decide +kernel) (by decide +kernel)
theorem wd_1225 : Cond.constant RX7 315 (-1000000011) ∈ ctG := ctG_in 1225 (by decide +kernel) (by decide +kernel)
theorem wd_1226 : Cond.constant RX7 316 (-1000000013) ∈ ctG := ctG_in 1226 (by decide +kernel) (by decide +kernel)
theorem wd_1227 : Cond.constantLong RX7 317 (-99999) ∈ ctG := ctG_in 1227 (by decide +kernel) (by decide +kernel)
theorem wd_1228 : Cond.constantLong RX7 319 (99999) ∈ ctG := ctG_in 1228 (by decide +kernel) (by decide +kernel)
theorem wd_1272 : Cond.constantLong RX7 327 (30) ∈ ctG := ctG_in 1272 (by decide +kernel) (by decide +kernel)
theorem ck_J0_charAt_5068e : ctLk mJ0_charAt_5068e 1 := ⟨ctG_in 55 (by decide +kernel) (by decide +kernel), ctG_in 619 (by decide +kernel) (by decide +kernel), by decide +kernel, by decide⟩
theorem ck_J0_checkIndex_df160 : ctLk mJ0_checkIndex_df160 2 := ⟨ctG_in 55 (by decide +kernel) (by decide +kernel), ctG_in 631 (by decide +kernel) (by decide +kernel), by decide +kernel, by decide⟩
theorem ck_J0_isLatin1_aae02 : ctLk mJ0_isLatin1_aae02 0 := ⟨ctG_in 55 (by decide +kernel) (by decide +kernel), ctG_in 623 (by decide +kernel) (by decide +kernel), by decide +kernel, by decide⟩
theorem ck_J1_charAt_3b067 : ctLk mJ1_charAt_3b067 2 := ⟨ctG_in 56 (by decide +kernel) (by decide +kernel), ctG_in 628 (by decide +kernel) (by decide +kernel), by decide +kernel, by decide⟩
theorem ck_J2_charAt_3b067 : ctLk mJ2_charAt_3b067 2 := ⟨ctG_in 58 (by decide +kernel) (by decide +kernel), ctG_in 639 (by decide +kernel) (by decide +kernel), by decide +kernel, by decide⟩
theorem ck_J2_checkIndex_2214a : ctLk mJ2_checkIndex_2214a 2 := ⟨ctG_in 58 (by decide +kernel) (by decide +kernel), ctG_in 642 (by decide +kernel) (by decide +kernel), by decide +kernel, by decide⟩
theorem ck_J2_getChar_3b067 : ctLk mJ2_getChar_3b067 2 := ⟨ctG_in 58 (by decide +kernel) (by decide +kernel), ctG_in 649 (by decide +kernel) (by decide +kernel), by decide +kernel, by decide⟩
theorem ck_J2_length_9d52b : ctLk mJ2_length_9d52b 1 := ⟨ctG_in 58 (by decide +kernel) (by decide +kernel), ctG_in 645 (by decide +kernel) (by decide +kernel), by decide +kernel, by decide⟩
theorem ck_J3_checkIndex_8e157 : ctLk mJ3_checkIndex_8e157 3 := ⟨ctG_in 57 (by decide +kernel) (by decide +kernel), ctG_in 636 (by decide +kernel) (by decide +kernel), by decide +kernel, by decide⟩
theorem ck_J9_abs_0f7a4 : ctLk mJ9_abs_0f7a4 1 := ⟨ctG_in 54 (by decide +kernel) (by decide +kernel), ctG_in 382 (by decide +kernel) (by decide +kernel), by decide +kernel, by decide⟩
theorem ck_J9_max_7cf53 : ctLk mJ9_max_7cf53 2 := ⟨ctG_in 54 (by decide +kernel) (by decide +kernel), ctG_in 487 (by decide +kernel) (by decide +kernel), by decide +kernel, by decide⟩
theorem ck_J9_min_7cf53 : ctLk mJ9_min_7cf53 2 := ⟨ctG_in 54 (by decide +kernel) (by decide +kernel), ctG_in 443 (by decide +kernel) (by decide +kernel), by decide +kernel, by decide⟩
theorem ck_X0_become : ctLk mX0_become 1 := ⟨ctG_in 50 (by decide +kernel) (by decide +kernel), ctG_in 529 (by decide +kernel) (by decide +kernel), by decide +kernel, by decide⟩
theorem ck_X0_burnTo : ctLk mX0_burnTo 1 := ⟨ctG_in 50 (by decide +kernel) (by decide +kernel), ctG_in 484 (by decide +kernel) (by decide +kernel), by decide +kernel, by decide⟩
theorem ck_X0_init : ctLk mX0_init 0 := ⟨ctG_in 50 (by decide +kernel) (by decide +kernel), ctG_in 149 (by decide +kernel) (by decide +kernel), by decide +kernel, by decide⟩
theorem ck_X0_isLit : ctLk mX0_isLit 0 := ⟨ctG_in 50 (by decide +kernel) (by decide +kernel), ctG_in 371 (by decide +kernel) (by decide +kernel), by decide +kernel, by decide⟩
theorem ck_X0_isOf : ctLk mX0_isOf 1 := ⟨ctG_in 50 (by decide +kernel) (by decide +kernel), ctG_in 397 (by decide +kernel) (by decide +kernel), by decide +kernel, by decide⟩
theorem ck_X0_light : ctLk mX0_light 4 := ⟨ctG_in 50 (by decide +kernel) (by decide +kernel), ctG_in 328 (by decide +kernel) (by decide +kernel), by decide +kernel, by decide⟩
theorem ck_X0_paceFrom : ctLk mX0_paceFrom 1 := ⟨ctG_in 50 (by decide +kernel) (by decide +kernel), ctG_in 359 (by decide +kernel) (by decide +kernel), by decide +kernel, by decide⟩
theorem ck_X0_turnedFrom : ctLk mX0_turnedFrom 2 := ⟨ctG_in 50 (by decide +kernel) (by decide +kernel), ctG_in 479 (by decide +kernel) (by decide +kernel), by decide +kernel, by decide⟩
theorem ck_X0_wayTo : ctLk mX0_wayTo 2 := ⟨ctG_in 50 (by decide +kernel) (by decide +kernel), ctG_in 379 (by decide +kernel) (by decide +kernel), by decide +kernel, by decide⟩
theorem ck_X0_worth : ctLk mX0_worth 0 := ⟨ctG_in 50 (by decide +kernel) (by decide +kernel), ctG_in 389 (by decide +kernel) (by decide +kernel), by decide +kernel, by decide⟩
theorem ck_X1_addLeaf : ctLk mX1_addLeaf 2 := ⟨ctG_in 48 (by decide +kernel) (by decide +kernel), ctG_in 679 (by decide +kernel) (by decide +kernel), by decide +kernel, by decide⟩
theorem ck_X1_addStep : ctLk mX1_addStep 3 := ⟨ctG_in 48 (by decide +kernel) (by decide +kernel), ctG_in 692 (by decide +kernel) (by decide +kernel), by decide +kernel, by decide⟩
theorem ck_X1_begin : ctLk mX1_begin 1 := ⟨ctG_in 48 (by decide +kernel) (by decide +kernel), ctG_in 659 (by decide +kernel) (by decide +kernel), by decide +kernel, by decide⟩
theorem ck_X1_gives : ctLk mX1_gives 3 := ⟨ctG_in 48 (by decide +kernel) (by decide +kernel), ctG_in 349 (by decide +kernel) (by decide +kernel), by decide +kernel, by decide⟩
theorem ck_X1_init : ctLk mX1_init 0 := ⟨ctG_in 48 (by decide +kernel) (by decide +kernel), ctG_in 82 (by decide +kernel) (by decide +kernel), by decide +kernel, by decide⟩
theorem ck_X1_put : ctLk mX1_put 3 := ⟨ctG_in 48 (by decide +kernel) (by decide +kernel), ctG_in 683 (by decide +kernel) (by decide +kernel), by decide +kernel, by decide⟩
theorem ck_X1_work : ctLk mX1_work 3 := ⟨ctG_in 48 (by decide +kernel) (by decide +kernel), ctG_in 352 (by decide +kernel) (by decide +kernel), by decide +kernel, by decide⟩
theorem ck_X2_agrees : ctLk mX2_agrees 1 := ⟨ctG_in 49 (by decide +kernel) (by decide +kernel), ctG_in 533 (by decide +kernel) (by decide +kernel), by decide +kernel, by decide⟩
theorem ck_X2_arc : ctLk mX2_arc 0 := ⟨ctG_in 49 (by decide +kernel) (by decide +kernel), ctG_in 495 (by decide +kernel) (by decide +kernel), by decide +kernel, by decide⟩
theorem ck_X2_beatsAs : ctLk mX2_beatsAs 1 := ⟨ctG_in 49 (by decide +kernel) (by decide +kernel), ctG_in 543 (by decide +kernel) (by decide +kernel), by decide +kernel, by decide⟩
theorem ck_X2_become : ctLk mX2_become 1 := ⟨ctG_in 49 (by decide +kernel) (by decide +kernel), ctG_in 525 (by decide +kernel) (by decide +kernel), by decide +kernel, by decide⟩
theorem ck_X2_draw : ctLk mX2_draw 0 := ⟨ctG_in 49 (by decide +kernel) (by decide +kernel), ctG_in 451 (by decide +kernel) (by decide +kernel), by decide +kernel, by decide⟩
theorem ck_X2_drawOne : ctLk mX2_drawOne 0 := ⟨ctG_in 49 (by decide +kernel) (by decide +kernel), ctG_in 447 (by decide +kernel) (by decide +kernel), by decide +kernel, by decide⟩
theorem ck_X2_gapsAbove : ctLk mX2_gapsAbove 1 := ⟨ctG_in 49 (by decide +kernel) (by decide +kernel), ctG_in 509 (by decide +kernel) (by decide +kernel), by decide +kernel, by decide⟩
theorem ck_X2_goBy : ctLk mX2_goBy 0 := ⟨ctG_in 49 (by decide +kernel) (by decide +kernel), ctG_in 465 (by decide +kernel) (by decide +kernel), by decide +kernel, by decide⟩
theorem ck_X2_hasGlass : ctLk mX2_hasGlass 2 := ⟨ctG_in 49 (by decide +kernel) (by decide +kernel), ctG_in 375 (by decide +kernel) (by decide +kernel), by decide +kernel, by decide⟩
theorem ck_X2_init : ctLk mX2_init 1 := ⟨ctG_in 49 (by decide +kernel) (by decide +kernel), ctG_in 142 (by decide +kernel) (by decide +kernel), by decide +kernel, by decide⟩
theorem ck_X2_isFirstOfPhase : ctLk mX2_isFirstOfPhase 1 := ⟨ctG_in 49 (by decide +kernel) (by decide +kernel), ctG_in 513 (by decide +kernel) (by decide +kernel), by decide +kernel, by decide⟩
theorem ck_X2_lawFor : ctLk mX2_lawFor 1 := ⟨ctG_in 49 (by decide +kernel) (by decide +kernel), ctG_in 344 (by decide +kernel) (by decide +kernel), by decide +kernel, by decide⟩
theorem ck_X2_lightOne : ctLk mX2_lightOne 4 := ⟨ctG_in 49 (by decide +kernel) (by decide +kernel), ctG_in 323 (by decide +kernel) (by decide +kernel), by decide +kernel, by decide⟩
theorem ck_X2_litFrom : ctLk mX2_litFrom 1 := ⟨ctG_in 49 (by decide +kernel) (by decide +kernel), ctG_in 556 (by decide +kernel) (by decide +kernel), by decide +kernel, by decide⟩
theorem ck_X2_litMany : ctLk mX2_litMany 0 := ⟨ctG_in 49 (by decide +kernel) (by decide +kernel), ctG_in 517 (by decide +kernel) (by decide +kernel), by decide +kernel, by decide⟩
theorem ck_X2_nextOf : ctLk mX2_nextOf 1 := ⟨ctG_in 49 (by decide +kernel) (by decide +kernel), ctG_in 469 (by decide +kernel) (by decide +kernel), by decide +kernel, by decide⟩
theorem ck_X2_paceOf : ctLk mX2_paceOf 1 := ⟨ctG_in 49 (by decide +kernel) (by decide +kernel), ctG_in 340 (by decide +kernel) (by decide +kernel), by decide +kernel, by decide⟩
theorem ck_X2_pushBy : ctLk mX2_pushBy 2 := ⟨ctG_in 49 (by decide +kernel) (by decide +kernel), ctG_in 367 (by decide +kernel) (by decide +kernel), by decide +kernel, by decide⟩
theorem ck_X2_pushesOn : ctLk mX2_pushesOn 1 := ⟨ctG_in 49 (by decide +kernel) (by decide +kernel), ctG_in 363 (by decide +kernel) (by decide +kernel), by decide +kernel, by decide⟩
theorem ck_X2_putGlass : ctLk mX2_putGlass 3 := ⟨ctG_in 49 (by decide +kernel) (by decide +kernel), ctG_in 427 (by decide +kernel) (by decide +kernel), by decide +kernel, by decide⟩
theorem ck_X2_stepFrom : ctLk mX2_stepFrom 1 := ⟨ctG_in 49 (by decide +kernel) (by decide +kernel), ctG_in 499 (by decide +kernel) (by decide +kernel), by decide +kernel, by decide⟩
theorem ck_X2_windOn : ctLk mX2_windOn 1 := ⟨ctG_in 49 (by decide +kernel) (by decide +kernel), ctG_in 473 (by decide +kernel) (by decide +kernel), by decide +kernel, by decide⟩
theorem ck_X3_become : ctLk mX3_become 1 := ⟨ctG_in 51 (by decide +kernel) (by decide +kernel), ctG_in 760 (by decide +kernel) (by decide +kernel), by decide +kernel, by decide⟩
theorem ck_X3_begin : ctLk mX3_begin 2 := ⟨ctG_in 51 (by decide +kernel) (by decide +kernel), ctG_in 717 (by decide +kernel) (by decide +kernel), by decide +kernel, by decide⟩
theorem ck_X3_has : ctLk mX3_has 1 := ⟨ctG_in 51 (by decide +kernel) (by decide +kernel), ctG_in 725 (by decide +kernel) (by decide +kernel), by decide +kernel, by decide⟩
theorem ck_X3_hasRun : ctLk mX3_hasRun 2 := ⟨ctG_in 51 (by decide +kernel) (by decide +kernel), ctG_in 745 (by decide +kernel) (by decide +kernel), by decide +kernel, by decide⟩
theorem ck_X3_init : ctLk mX3_init 0 := ⟨ctG_in 51 (by decide +kernel) (by decide +kernel), ctG_in 230 (by decide +kernel) (by decide +kernel), by decide +kernel, by decide⟩
theorem ck_X3_isMissing : ctLk mX3_isMissing 0 := ⟨ctG_in 51 (by decide +kernel) (by decide +kernel), ctG_in 576 (by decide +kernel) (by decide +kernel), by decide +kernel, by decide⟩
theorem ck_X4_init : ctLk mX4_init 0 := ⟨ctG_in 52 (by decide +kernel) (by decide +kernel), ctG_in 248 (by decide +kernel) (by decide +kernel), by decide +kernel, by decide⟩
theorem ck_X5_addFour : ctLk mX5_addFour 1 := ⟨ctG_in 47 (by decide +kernel) (by decide +kernel), ctG_in 589 (by decide +kernel) (by decide +kernel), by decide +kernel, by decide⟩
theorem ck_X5_advance : ctLk mX5_advance 0 := ⟨ctG_in 47 (by decide +kernel) (by decide +kernel), ctG_in 605 (by decide +kernel) (by decide +kernel), by decide +kernel, by decide⟩
theorem ck_X5_bracket : ctLk mX5_bracket 2 := ⟨ctG_in 47 (by decide +kernel) (by decide +kernel), ctG_in 697 (by decide +kernel) (by decide +kernel), by decide +kernel, by decide⟩
theorem ck_X5_chain : ctLk mX5_chain 3 := ⟨ctG_in 47 (by decide +kernel) (by decide +kernel), ctG_in 663 (by decide +kernel) (by decide +kernel), by decide +kernel, by decide⟩
theorem ck_X5_fail : ctLk mX5_fail 0 := ⟨ctG_in 47 (by decide +kernel) (by decide +kernel), ctG_in 675 (by decide +kernel) (by decide +kernel), by decide +kernel, by decide⟩
theorem ck_X5_faultOf : ctLk mX5_faultOf 0 := ⟨ctG_in 47 (by decide +kernel) (by decide +kernel), ctG_in 601 (by decide +kernel) (by decide +kernel), by decide +kernel, by decide⟩
theorem ck_X5_init : ctLk mX5_init 0 := ⟨ctG_in 47 (by decide +kernel) (by decide +kernel), ctG_in 76 (by decide +kernel) (by decide +kernel), by decide +kernel, by decide⟩
theorem ck_X5_keyOfWord : ctLk mX5_keyOfWord 0 := ⟨ctG_in 47 (by decide +kernel) (by decide +kernel), ctG_in 614 (by decide +kernel) (by decide +kernel), by decide +kernel, by decide⟩
theorem ck_X5_levelOf : ctLk mX5_levelOf 1 := ⟨ctG_in 47 (by decide +kernel) (by decide +kernel), ctG_in 700 (by decide +kernel) (by decide +kernel), by decide +kernel, by decide⟩
theorem ck_X5_name : ctLk mX5_name 0 := ⟨ctG_in 47 (by decide +kernel) (by decide +kernel), ctG_in 687 (by decide +kernel) (by decide +kernel), by decide +kernel, by decide⟩
theorem ck_X5_number : ctLk mX5_number 0 := ⟨ctG_in 47 (by decide +kernel) (by decide +kernel), ctG_in 671 (by decide +kernel) (by decide +kernel), by decide +kernel, by decide⟩
theorem ck_X5_piece : ctLk mX5_piece 2 := ⟨ctG_in 47 (by decide +kernel) (by decide +kernel), ctG_in 667 (by decide +kernel) (by decide +kernel), by decide +kernel, by decide⟩
theorem ck_X5_sortAt : ctLk mX5_sortAt 1 := ⟨ctG_in 47 (by decide +kernel) (by decide +kernel), ctG_in 609 (by decide +kernel) (by decide +kernel), by decide +kernel, by decide⟩
theorem ck_X6_ahead : ctLk mX6_ahead 2 := ⟨ctG_in 46 (by decide +kernel) (by decide +kernel), ctG_in 385 (by decide +kernel) (by decide +kernel), by decide +kernel, by decide⟩
theorem ck_X6_arcFrom : ctLk mX6_arcFrom 3 := ⟨ctG_in 46 (by decide +kernel) (by decide +kernel), ctG_in 565 (by decide +kernel) (by decide +kernel), by decide +kernel, by decide⟩
theorem ck_X6_as : ctLk mX6_as 2 := ⟨ctG_in 46 (by decide +kernel) (by decide +kernel), ctG_in 393 (by decide +kernel) (by decide +kernel), by decide +kernel, by decide⟩
theorem ck_X6_ask : ctLk mX6_ask 2 := ⟨ctG_in 46 (by decide +kernel) (by decide +kernel), ctG_in 764 (by decide +kernel) (by decide +kernel), by decide +kernel, by decide⟩
theorem ck_X6_back : ctLk mX6_back 0 := ⟨ctG_in 46 (by decide +kernel) (by decide +kernel), ctG_in 788 (by decide +kernel) (by decide +kernel), by decide +kernel, by decide⟩
theorem ck_X6_basin : ctLk mX6_basin 1 := ⟨ctG_in 46 (by decide +kernel) (by decide +kernel), ctG_in 552 (by decide +kernel) (by decide +kernel), by decide +kernel, by decide⟩
theorem ck_X6_check : ctLk mX6_check 1 := ⟨ctG_in 46 (by decide +kernel) (by decide +kernel), ctG_in 780 (by decide +kernel) (by decide +kernel), by decide +kernel, by decide⟩
theorem ck_X6_copy : ctLk mX6_copy 5 := ⟨ctG_in 46 (by decide +kernel) (by decide +kernel), ctG_in 741 (by decide +kernel) (by decide +kernel), by decide +kernel, by decide⟩
theorem ck_X6_count : ctLk mX6_count 1 := ⟨ctG_in 46 (by decide +kernel) (by decide +kernel), ctG_in 792 (by decide +kernel) (by decide +kernel), by decide +kernel, by decide⟩
theorem ck_X6_deal : ctLk mX6_deal 1 := ⟨ctG_in 46 (by decide +kernel) (by decide +kernel), ctG_in 440 (by decide +kernel) (by decide +kernel), by decide +kernel, by decide⟩
theorem ck_X6_feed : ctLk mX6_feed 3 := ⟨ctG_in 46 (by decide +kernel) (by decide +kernel), ctG_in 585 (by decide +kernel) (by decide +kernel), by decide +kernel, by decide⟩
theorem ck_X6_film : ctLk mX6_film 2 := ⟨ctG_in 46 (by decide +kernel) (by decide +kernel), ctG_in 547 (by decide +kernel) (by decide +kernel), by decide +kernel, by decide⟩
theorem ck_X6_flame : ctLk mX6_flame 3 := ⟨ctG_in 46 (by decide +kernel) (by decide +kernel), ctG_in 305 (by decide +kernel) (by decide +kernel), by decide +kernel, by decide⟩
theorem ck_X6_glass : ctLk mX6_glass 3 := ⟨ctG_in 46 (by decide +kernel) (by decide +kernel), ctG_in 418 (by decide +kernel) (by decide +kernel), by decide +kernel, by decide⟩
theorem ck_X6_groups : ctLk mX6_groups 1 := ⟨ctG_in 46 (by decide +kernel) (by decide +kernel), ctG_in 505 (by decide +kernel) (by decide +kernel), by decide +kernel, by decide⟩
theorem ck_X6_held : ctLk mX6_held 3 := ⟨ctG_in 46 (by decide +kernel) (by decide +kernel), ctG_in 355 (by decide +kernel) (by decide +kernel), by decide +kernel, by decide⟩
theorem ck_X6_hitsWith : ctLk mX6_hitsWith 3 := ⟨ctG_in 46 (by decide +kernel) (by decide +kernel), ctG_in 581 (by decide +kernel) (by decide +kernel), by decide +kernel, by decide⟩
theorem ck_X6_init : ctLk mX6_init 0 := ⟨ctG_in 46 (by decide +kernel) (by decide +kernel), ctG_in 64 (by decide +kernel) (by decide +kernel), by decide +kernel, by decide⟩
theorem ck_X6_isFlame : ctLk mX6_isFlame 1 := ⟨ctG_in 46 (by decide +kernel) (by decide +kernel), ctG_in 336 (by decide +kernel) (by decide +kernel), by decide +kernel, by decide⟩
theorem ck_X6_isKind : ctLk mX6_isKind 1 := ⟨ctG_in 46 (by decide +kernel) (by decide +kernel), ctG_in 308 (by decide +kernel) (by decide +kernel), by decide +kernel, by decide⟩
theorem ck_X6_isOnBoard : ctLk mX6_isOnBoard 2 := ⟨ctG_in 46 (by decide +kernel) (by decide +kernel), ctG_in 317 (by decide +kernel) (by decide +kernel), by decide +kernel, by decide⟩
theorem ck_X6_isPair : ctLk mX6_isPair 2 := ⟨ctG_in 46 (by decide +kernel) (by decide +kernel), ctG_in 422 (by decide +kernel) (by decide +kernel), by decide +kernel, by decide⟩
theorem ck_X6_isPhase : ctLk mX6_isPhase 1 := ⟨ctG_in 46 (by decide +kernel) (by decide +kernel), ctG_in 409 (by decide +kernel) (by decide +kernel), by decide +kernel, by decide⟩
theorem ck_X6_isPlace : ctLk mX6_isPlace 1 := ⟨ctG_in 46 (by decide +kernel) (by decide +kernel), ctG_in 314 (by decide +kernel) (by decide +kernel), by decide +kernel, by decide⟩
theorem ck_X6_isSheet : ctLk mX6_isSheet 1 := ⟨ctG_in 46 (by decide +kernel) (by decide +kernel), ctG_in 572 (by decide +kernel) (by decide +kernel), by decide +kernel, by decide⟩
theorem ck_X6_isSlot : ctLk mX6_isSlot 1 := ⟨ctG_in 46 (by decide +kernel) (by decide +kernel), ctG_in 755 (by decide +kernel) (by decide +kernel), by decide +kernel, by decide⟩
theorem ck_X6_isWithin : ctLk mX6_isWithin 3 := ⟨ctG_in 46 (by decide +kernel) (by decide +kernel), ctG_in 311 (by decide +kernel) (by decide +kernel), by decide +kernel, by decide⟩
theorem ck_X6_item : ctLk mX6_item 2 := ⟨ctG_in 46 (by decide +kernel) (by decide +kernel), ctG_in 768 (by decide +kernel) (by decide +kernel), by decide +kernel, by decide⟩
theorem ck_X6_keep : ctLk mX6_keep 0 := ⟨ctG_in 46 (by decide +kernel) (by decide +kernel), ctG_in 784 (by decide +kernel) (by decide +kernel), by decide +kernel, by decide⟩
theorem ck_X6_lay : ctLk mX6_lay 3 := ⟨ctG_in 46 (by decide +kernel) (by decide +kernel), ctG_in 752 (by decide +kernel) (by decide +kernel), by decide +kernel, by decide⟩
theorem ck_X6_learn : ctLk mX6_learn 2 := ⟨ctG_in 46 (by decide +kernel) (by decide +kernel), ctG_in 569 (by decide +kernel) (by decide +kernel), by decide +kernel, by decide⟩
theorem ck_X6_mark : ctLk mX6_mark 3 := ⟨ctG_in 46 (by decide +kernel) (by decide +kernel), ctG_in 721 (by decide +kernel) (by decide +kernel), by decide +kernel, by decide⟩
theorem ck_X6_move : ctLk mX6_move 2 := ⟨ctG_in 46 (by decide +kernel) (by decide +kernel), ctG_in 413 (by decide +kernel) (by decide +kernel), by decide +kernel, by decide⟩
theorem ck_X6_period : ctLk mX6_period 0 := ⟨ctG_in 46 (by decide +kernel) (by decide +kernel), ctG_in 539 (by decide +kernel) (by decide +kernel), by decide +kernel, by decide⟩
theorem ck_X6_pour : ctLk mX6_pour 1 := ⟨ctG_in 46 (by decide +kernel) (by decide +kernel), ctG_in 733 (by decide +kernel) (by decide +kernel), by decide +kernel, by decide⟩
theorem ck_X6_push : ctLk mX6_push 2 := ⟨ctG_in 46 (by decide +kernel) (by decide +kernel), ctG_in 435 (by decide +kernel) (by decide +kernel), by decide +kernel, by decide⟩
theorem ck_X6_quiet : ctLk mX6_quiet 2 := ⟨ctG_in 46 (by decide +kernel) (by decide +kernel), ctG_in 561 (by decide +kernel) (by decide +kernel), by decide +kernel, by decide⟩
theorem ck_X6_reach : ctLk mX6_reach 2 := ⟨ctG_in 46 (by decide +kernel) (by decide +kernel), ctG_in 431 (by decide +kernel) (by decide +kernel), by decide +kernel, by decide⟩
theorem ck_X6_reads : ctLk mX6_reads 1 := ⟨ctG_in 46 (by decide +kernel) (by decide +kernel), ctG_in 737 (by decide +kernel) (by decide +kernel), by decide +kernel, by decide⟩
theorem ck_X6_rest : ctLk mX6_rest 2 := ⟨ctG_in 46 (by decide +kernel) (by decide +kernel), ctG_in 772 (by decide +kernel) (by decide +kernel), by decide +kernel, by decide⟩
theorem ck_X6_run : ctLk mX6_run 1 := ⟨ctG_in 46 (by decide +kernel) (by decide +kernel), ctG_in 461 (by decide +kernel) (by decide +kernel), by decide +kernel, by decide⟩
theorem ck_X6_seed : ctLk mX6_seed 1 := ⟨ctG_in 46 (by decide +kernel) (by decide +kernel), ctG_in 457 (by decide +kernel) (by decide +kernel), by decide +kernel, by decide⟩
theorem ck_X6_set : ctLk mX6_set 3 := ⟨ctG_in 46 (by decide +kernel) (by decide +kernel), ctG_in 406 (by decide +kernel) (by decide +kernel), by decide +kernel, by decide⟩
theorem ck_X6_sheet : ctLk mX6_sheet 3 := ⟨ctG_in 46 (by decide +kernel) (by decide +kernel), ctG_in 712 (by decide +kernel) (by decide +kernel), by decide +kernel, by decide⟩
theorem ck_X6_soon : ctLk mX6_soon 1 := ⟨ctG_in 46 (by decide +kernel) (by decide +kernel), ctG_in 521 (by decide +kernel) (by decide +kernel), by decide +kernel, by decide⟩
theorem ck_X6_spread : ctLk mX6_spread 0 := ⟨ctG_in 46 (by decide +kernel) (by decide +kernel), ctG_in 491 (by decide +kernel) (by decide +kernel), by decide +kernel, by decide⟩
theorem ck_X6_tell : ctLk mX6_tell 1 := ⟨ctG_in 46 (by decide +kernel) (by decide +kernel), ctG_in 776 (by decide +kernel) (by decide +kernel), by decide +kernel, by decide⟩
theorem ck_X6_text : ctLk mX6_text 0 := ⟨ctG_in 46 (by decide +kernel) (by decide +kernel), ctG_in 597 (by decide +kernel) (by decide +kernel), by decide +kernel, by decide⟩
theorem ck_X6_textTold : ctLk mX6_textTold 2 := ⟨ctG_in 46 (by decide +kernel) (by decide +kernel), ctG_in 704 (by decide +kernel) (by decide +kernel), by decide +kernel, by decide⟩
theorem ck_X6_told : ctLk mX6_told 2 := ⟨ctG_in 46 (by decide +kernel) (by decide +kernel), ctG_in 332 (by decide +kernel) (by decide +kernel), by decide +kernel, by decide⟩
theorem ck_X6_trim : ctLk mX6_trim 1 := ⟨ctG_in 46 (by decide +kernel) (by decide +kernel), ctG_in 593 (by decide +kernel) (by decide +kernel), by decide +kernel, by decide⟩
theorem ck_X6_turns : ctLk mX6_turns 2 := ⟨ctG_in 46 (by decide +kernel) (by decide +kernel), ctG_in 402 (by decide +kernel) (by decide +kernel), by decide +kernel, by decide⟩
theorem ck_X6_why : ctLk mX6_why 1 := ⟨ctG_in 46 (by decide +kernel) (by decide +kernel), ctG_in 708 (by decide +kernel) (by decide +kernel), by decide +kernel, by decide⟩
theorem ck_X7_ahead : ctLk mX7_ahead 2 := ⟨ctG_in 53 (by decide +kernel) (by decide +kernel), ctG_in 981 (by decide +kernel) (by decide +kernel), by decide +kernel, by decide⟩
theorem ck_X7_as : ctLk mX7_as 2 := ⟨ctG_in 53 (by decide +kernel) (by decide +kernel), ctG_in 989 (by decide +kernel) (by decide +kernel), by decide +kernel, by decide⟩
theorem ck_X7_ask : ctLk mX7_ask 2 := ⟨ctG_in 53 (by decide +kernel) (by decide +kernel), ctG_in 1255 (by decide +kernel) (by decide +kernel), by decide +kernel, by decide⟩
theorem ck_X7_back : ctLk mX7_back 0 := ⟨ctG_in 53 (by decide +kernel) (by decide +kernel), ctG_in 1285 (by decide +kernel) (by decide +kernel), by decide +kernel, by decide⟩
theorem ck_X7_basin : ctLk mX7_basin 1 := ⟨ctG_in 53 (by decide +kernel) (by decide +kernel), ctG_in 1112 (by decide +kernel) (by decide +kernel), by decide +kernel, by decide⟩
theorem ck_X7_becomes : ctLk mX7_becomes 2 := ⟨ctG_in 53 (by decide +kernel) (by decide +kernel), ctG_in 1001 (by decide +kernel) (by decide +kernel), by decide +kernel, by decide⟩
theorem ck_X7_both : ctLk mX7_both 1 := ⟨ctG_in 53 (by decide +kernel) (by decide +kernel), ctG_in 1170 (by decide +kernel) (by decide +kernel), by decide +kernel, by decide⟩
theorem ck_X7_check : ctLk mX7_check 1 := ⟨ctG_in 53 (by decide +kernel) (by decide +kernel), ctG_in 1271 (by decide +kernel) (by decide +kernel), by decide +kernel, by decide⟩
theorem ck_X7_comes : ctLk mX7_comes 5 := ⟨ctG_in 53 (by decide +kernel) (by decide +kernel), ctG_in 924 (by decide +kernel) (by decide +kernel), by decide +kernel, by decide⟩
theorem ck_X7_copy : ctLk mX7_copy 5 := ⟨ctG_in 53 (by decide +kernel) (by decide +kernel), ctG_in 1244 (by decide +kernel) (by decide +kernel), by decide +kernel, by decide⟩
theorem ck_X7_count : ctLk mX7_count 1 := ⟨ctG_in 53 (by decide +kernel) (by decide +kernel), ctG_in 1289 (by decide +kernel) (by decide +kernel), by decide +kernel, by decide⟩
theorem ck_X7_counts : ctLk mX7_counts 1 := ⟨ctG_in 53 (by decide +kernel) (by decide +kernel), ctG_in 949 (by decide +kernel) (by decide +kernel), by decide +kernel, by decide⟩
theorem ck_X7_deal : ctLk mX7_deal 1 := ⟨ctG_in 53 (by decide +kernel) (by decide +kernel), ctG_in 1028 (by decide +kernel) (by decide +kernel), by decide +kernel, by decide⟩
theorem ck_X7_drawn : ctLk mX7_drawn 0 := ⟨ctG_in 53 (by decide +kernel) (by decide +kernel), ctG_in 1033 (by decide +kernel) (by decide +kernel), by decide +kernel, by decide⟩
theorem ck_X7_either : ctLk mX7_either 1 := ⟨ctG_in 53 (by decide +kernel) (by decide +kernel), ctG_in 1166 (by decide +kernel) (by decide +kernel), by decide +kernel, by decide⟩
theorem ck_X7_feed : ctLk mX7_feed 3 := ⟨ctG_in 53 (by decide +kernel) (by decide +kernel), ctG_in 1126 (by decide +kernel) (by decide +kernel), by decide +kernel, by decide⟩
theorem ck_X7_film : ctLk mX7_film 2 := ⟨ctG_in 53 (by decide +kernel) (by decide +kernel), ctG_in 1104 (by decide +kernel) (by decide +kernel), by decide +kernel, by decide⟩
theorem ck_X7_findSteps : ctLk mX7_findSteps 1 := ⟨ctG_in 53 (by decide +kernel) (by decide +kernel), ctG_in 1069 (by decide +kernel) (by decide +kernel), by decide +kernel, by decide⟩
theorem ck_X7_flame : ctLk mX7_flame 3 := ⟨ctG_in 53 (by decide +kernel) (by decide +kernel), ctG_in 910 (by decide +kernel) (by decide +kernel), by decide +kernel, by decide⟩
theorem ck_X7_flameAt : ctLk mX7_flameAt 1 := ⟨ctG_in 53 (by decide +kernel) (by decide +kernel), ctG_in 928 (by decide +kernel) (by decide +kernel), by decide +kernel, by decide⟩
theorem ck_X7_glass : ctLk mX7_glass 3 := ⟨ctG_in 53 (by decide +kernel) (by decide +kernel), ctG_in 1015 (by decide +kernel) (by decide +kernel), by decide +kernel, by decide⟩
theorem ck_X7_groups : ctLk mX7_groups 1 := ⟨ctG_in 53 (by decide +kernel) (by decide +kernel), ctG_in 1077 (by decide +kernel) (by decide +kernel), by decide +kernel, by decide⟩
theorem ck_X7_init : ctLk mX7_init 0 := ⟨ctG_in 53 (by decide +kernel) (by decide +kernel), ctG_in 798 (by decide +kernel) (by decide +kernel), by decide +kernel, by decide⟩
theorem ck_X7_isAsLaidBy : ctLk mX7_isAsLaidBy 0 := ⟨ctG_in 53 (by decide +kernel) (by decide +kernel), ctG_in 1100 (by decide +kernel) (by decide +kernel), by decide +kernel, by decide⟩
theorem ck_X7_isBound : ctLk mX7_isBound 1 := ⟨ctG_in 53 (by decide +kernel) (by decide +kernel), ctG_in 1084 (by decide +kernel) (by decide +kernel), by decide +kernel, by decide⟩
theorem ck_X7_isDigit : ctLk mX7_isDigit 1 := ⟨ctG_in 53 (by decide +kernel) (by decide +kernel), ctG_in 1152 (by decide +kernel) (by decide +kernel), by decide +kernel, by decide⟩
theorem ck_X7_isFlame : ctLk mX7_isFlame 1 := ⟨ctG_in 53 (by decide +kernel) (by decide +kernel), ctG_in 936 (by decide +kernel) (by decide +kernel), by decide +kernel, by decide⟩
theorem ck_X7_isIn : ctLk mX7_isIn 3 := ⟨ctG_in 53 (by decide +kernel) (by decide +kernel), ctG_in 914 (by decide +kernel) (by decide +kernel), by decide +kernel, by decide⟩
theorem ck_X7_isLetter : ctLk mX7_isLetter 1 := ⟨ctG_in 53 (by decide +kernel) (by decide +kernel), ctG_in 1146 (by decide +kernel) (by decide +kernel), by decide +kernel, by decide⟩
theorem ck_X7_isLit : ctLk mX7_isLit 1 := ⟨ctG_in 53 (by decide +kernel) (by decide +kernel), ctG_in 975 (by decide +kernel) (by decide +kernel), by decide +kernel, by decide⟩
theorem ck_X7_isName : ctLk mX7_isName 2 := ⟨ctG_in 53 (by decide +kernel) (by decide +kernel), ctG_in 1193 (by decide +kernel) (by decide +kernel), by decide +kernel, by decide⟩
theorem ck_X7_isOf : ctLk mX7_isOf 2 := ⟨ctG_in 53 (by decide +kernel) (by decide +kernel), ctG_in 992 (by decide +kernel) (by decide +kernel), by decide +kernel, by decide⟩
theorem ck_X7_isPlace : ctLk mX7_isPlace 1 := ⟨ctG_in 53 (by decide +kernel) (by decide +kernel), ctG_in 917 (by decide +kernel) (by decide +kernel), by decide +kernel, by decide⟩
theorem ck_X7_isSheet : ctLk mX7_isSheet 1 := ⟨ctG_in 53 (by decide +kernel) (by decide +kernel), ctG_in 1217 (by decide +kernel) (by decide +kernel), by decide +kernel, by decide⟩
theorem ck_X7_isSign : ctLk mX7_isSign 1 := ⟨ctG_in 53 (by decide +kernel) (by decide +kernel), ctG_in 1197 (by decide +kernel) (by decide +kernel), by decide +kernel, by decide⟩
theorem ck_X7_isSlot : ctLk mX7_isSlot 1 := ⟨ctG_in 53 (by decide +kernel) (by decide +kernel), ctG_in 1251 (by decide +kernel) (by decide +kernel), by decide +kernel, by decide⟩
theorem ck_X7_isText : ctLk mX7_isText 1 := ⟨ctG_in 53 (by decide +kernel) (by decide +kernel), ctG_in 1205 (by decide +kernel) (by decide +kernel), by decide +kernel, by decide⟩
theorem ck_X7_isWordAt : ctLk mX7_isWordAt 4 := ⟨ctG_in 53 (by decide +kernel) (by decide +kernel), ctG_in 1162 (by decide +kernel) (by decide +kernel), by decide +kernel, by decide⟩
theorem ck_X7_item : ctLk mX7_item 2 := ⟨ctG_in 53 (by decide +kernel) (by decide +kernel), ctG_in 1259 (by decide +kernel) (by decide +kernel), by decide +kernel, by decide⟩
theorem ck_X7_joined : ctLk mX7_joined 3 := ⟨ctG_in 53 (by decide +kernel) (by decide +kernel), ctG_in 960 (by decide +kernel) (by decide +kernel), by decide +kernel, by decide⟩
theorem ck_X7_keep : ctLk mX7_keep 0 := ⟨ctG_in 53 (by decide +kernel) (by decide +kernel), ctG_in 1281 (by decide +kernel) (by decide +kernel), by decide +kernel, by decide⟩
theorem ck_X7_key : ctLk mX7_key 0 := ⟨ctG_in 53 (by decide +kernel) (by decide +kernel), ctG_in 1158 (by decide +kernel) (by decide +kernel), by decide +kernel, by decide⟩
theorem ck_X7_lay : ctLk mX7_lay 3 := ⟨ctG_in 53 (by decide +kernel) (by decide +kernel), ctG_in 1248 (by decide +kernel) (by decide +kernel), by decide +kernel, by decide⟩
theorem ck_X7_laysBack : ctLk mX7_laysBack 0 := ⟨ctG_in 53 (by decide +kernel) (by decide +kernel), ctG_in 1092 (by decide +kernel) (by decide +kernel), by decide +kernel, by decide⟩
theorem ck_X7_laysBy : ctLk mX7_laysBy 0 := ⟨ctG_in 53 (by decide +kernel) (by decide +kernel), ctG_in 1088 (by decide +kernel) (by decide +kernel), by decide +kernel, by decide⟩
theorem ck_X7_learn : ctLk mX7_learn 2 := ⟨ctG_in 53 (by decide +kernel) (by decide +kernel), ctG_in 1232 (by decide +kernel) (by decide +kernel), by decide +kernel, by decide⟩
theorem ck_X7_litBehind : ctLk mX7_litBehind 1 := ⟨ctG_in 53 (by decide +kernel) (by decide +kernel), ctG_in 1116 (by decide +kernel) (by decide +kernel), by decide +kernel, by decide⟩
theorem ck_X7_litMany : ctLk mX7_litMany 0 := ⟨ctG_in 53 (by decide +kernel) (by decide +kernel), ctG_in 1293 (by decide +kernel) (by decide +kernel), by decide +kernel, by decide⟩
theorem ck_X7_mark : ctLk mX7_mark 3 := ⟨ctG_in 53 (by decide +kernel) (by decide +kernel), ctG_in 1224 (by decide +kernel) (by decide +kernel), by decide +kernel, by decide⟩
theorem ck_X7_move : ctLk mX7_move 2 := ⟨ctG_in 53 (by decide +kernel) (by decide +kernel), ctG_in 1011 (by decide +kernel) (by decide +kernel), by decide +kernel, by decide⟩
theorem ck_X7_nextToken : ctLk mX7_nextToken 0 := ⟨ctG_in 53 (by decide +kernel) (by decide +kernel), ctG_in 1142 (by decide +kernel) (by decide +kernel), by decide +kernel, by decide⟩
theorem ck_X7_of : ctLk mX7_of 2 := ⟨ctG_in 53 (by decide +kernel) (by decide +kernel), ctG_in 941 (by decide +kernel) (by decide +kernel), by decide +kernel, by decide⟩
theorem ck_X7_off : ctLk mX7_off 2 := ⟨ctG_in 53 (by decide +kernel) (by decide +kernel), ctG_in 978 (by decide +kernel) (by decide +kernel), by decide +kernel, by decide⟩
theorem ck_X7_orNone : ctLk mX7_orNone 1 := ⟨ctG_in 53 (by decide +kernel) (by decide +kernel), ctG_in 1072 (by decide +kernel) (by decide +kernel), by decide +kernel, by decide⟩
theorem ck_X7_pace : ctLk mX7_pace 1 := ⟨ctG_in 53 (by decide +kernel) (by decide +kernel), ctG_in 945 (by decide +kernel) (by decide +kernel), by decide +kernel, by decide⟩
theorem ck_X7_parse : ctLk mX7_parse 0 := ⟨ctG_in 53 (by decide +kernel) (by decide +kernel), ctG_in 1138 (by decide +kernel) (by decide +kernel), by decide +kernel, by decide⟩
theorem ck_X7_part0 : ctLk mX7_part0 1 := ⟨ctG_in 53 (by decide +kernel) (by decide +kernel), ctG_in 1186 (by decide +kernel) (by decide +kernel), by decide +kernel, by decide⟩
theorem ck_X7_period : ctLk mX7_period 0 := ⟨ctG_in 53 (by decide +kernel) (by decide +kernel), ctG_in 1096 (by decide +kernel) (by decide +kernel), by decide +kernel, by decide⟩
theorem ck_X7_pour : ctLk mX7_pour 1 := ⟨ctG_in 53 (by decide +kernel) (by decide +kernel), ctG_in 1236 (by decide +kernel) (by decide +kernel), by decide +kernel, by decide⟩
theorem ck_X7_push : ctLk mX7_push 2 := ⟨ctG_in 53 (by decide +kernel) (by decide +kernel), ctG_in 1024 (by decide +kernel) (by decide +kernel), by decide +kernel, by decide⟩
theorem ck_X7_pushOf : ctLk mX7_pushOf 2 := ⟨ctG_in 53 (by decide +kernel) (by decide +kernel), ctG_in 971 (by decide +kernel) (by decide +kernel), by decide +kernel, by decide⟩
theorem ck_X7_pushes : ctLk mX7_pushes 1 := ⟨ctG_in 53 (by decide +kernel) (by decide +kernel), ctG_in 967 (by decide +kernel) (by decide +kernel), by decide +kernel, by decide⟩
theorem ck_X7_quiet : ctLk mX7_quiet 2 := ⟨ctG_in 53 (by decide +kernel) (by decide +kernel), ctG_in 1121 (by decide +kernel) (by decide +kernel), by decide +kernel, by decide⟩
theorem ck_X7_reach : ctLk mX7_reach 2 := ⟨ctG_in 53 (by decide +kernel) (by decide +kernel), ctG_in 1019 (by decide +kernel) (by decide +kernel), by decide +kernel, by decide⟩
theorem ck_X7_reads : ctLk mX7_reads 1 := ⟨ctG_in 53 (by decide +kernel) (by decide +kernel), ctG_in 1240 (by decide +kernel) (by decide +kernel), by decide +kernel, by decide⟩
theorem ck_X7_rest : ctLk mX7_rest 2 := ⟨ctG_in 53 (by decide +kernel) (by decide +kernel), ctG_in 1263 (by decide +kernel) (by decide +kernel), by decide +kernel, by decide⟩
theorem ck_X7_run : ctLk mX7_run 1 := ⟨ctG_in 53 (by decide +kernel) (by decide +kernel), ctG_in 1042 (by decide +kernel) (by decide +kernel), by decide +kernel, by decide⟩
theorem ck_X7_seed : ctLk mX7_seed 1 := ⟨ctG_in 53 (by decide +kernel) (by decide +kernel), ctG_in 1038 (by decide +kernel) (by decide +kernel), by decide +kernel, by decide⟩
theorem ck_X7_set : ctLk mX7_set 3 := ⟨ctG_in 53 (by decide +kernel) (by decide +kernel), ctG_in 1005 (by decide +kernel) (by decide +kernel), by decide +kernel, by decide⟩
theorem ck_X7_setAside : ctLk mX7_setAside 2 := ⟨ctG_in 53 (by decide +kernel) (by decide +kernel), ctG_in 1276 (by decide +kernel) (by decide +kernel), by decide +kernel, by decide⟩
theorem ck_X7_sheet : ctLk mX7_sheet 3 := ⟨ctG_in 53 (by decide +kernel) (by decide +kernel), ctG_in 1214 (by decide +kernel) (by decide +kernel), by decide +kernel, by decide⟩
theorem ck_X7_soon : ctLk mX7_soon 1 := ⟨ctG_in 53 (by decide +kernel) (by decide +kernel), ctG_in 1081 (by decide +kernel) (by decide +kernel), by decide +kernel, by decide⟩
theorem ck_X7_spread : ctLk mX7_spread 0 := ⟨ctG_in 53 (by decide +kernel) (by decide +kernel), ctG_in 1061 (by decide +kernel) (by decide +kernel), by decide +kernel, by decide⟩
theorem ck_X7_spreadNow : ctLk mX7_spreadNow 0 := ⟨ctG_in 53 (by decide +kernel) (by decide +kernel), ctG_in 1065 (by decide +kernel) (by decide +kernel), by decide +kernel, by decide⟩
theorem ck_X7_step : ctLk mX7_step 2 := ⟨ctG_in 53 (by decide +kernel) (by decide +kernel), ctG_in 1190 (by decide +kernel) (by decide +kernel), by decide +kernel, by decide⟩
theorem ck_X7_sum : ctLk mX7_sum 1 := ⟨ctG_in 53 (by decide +kernel) (by decide +kernel), ctG_in 1178 (by decide +kernel) (by decide +kernel), by decide +kernel, by decide⟩
theorem ck_X7_tell : ctLk mX7_tell 1 := ⟨ctG_in 53 (by decide +kernel) (by decide +kernel), ctG_in 1267 (by decide +kernel) (by decide +kernel), by decide +kernel, by decide⟩
theorem ck_X7_term : ctLk mX7_term 1 := ⟨ctG_in 53 (by decide +kernel) (by decide +kernel), ctG_in 1182 (by decide +kernel) (by decide +kernel), by decide +kernel, by decide⟩
theorem ck_X7_test : ctLk mX7_test 1 := ⟨ctG_in 53 (by decide +kernel) (by decide +kernel), ctG_in 1174 (by decide +kernel) (by decide +kernel), by decide +kernel, by decide⟩
theorem ck_X7_text : ctLk mX7_text 0 := ⟨ctG_in 53 (by decide +kernel) (by decide +kernel), ctG_in 1134 (by decide +kernel) (by decide +kernel), by decide +kernel, by decide⟩
theorem ck_X7_textAt : ctLk mX7_textAt 1 := ⟨ctG_in 53 (by decide +kernel) (by decide +kernel), ctG_in 953 (by decide +kernel) (by decide +kernel), by decide +kernel, by decide⟩
theorem ck_X7_textTold : ctLk mX7_textTold 2 := ⟨ctG_in 53 (by decide +kernel) (by decide +kernel), ctG_in 1201 (by decide +kernel) (by decide +kernel), by decide +kernel, by decide⟩
theorem ck_X7_ticks : ctLk mX7_ticks 0 := ⟨ctG_in 53 (by decide +kernel) (by decide +kernel), ctG_in 1047 (by decide +kernel) (by decide +kernel), by decide +kernel, by decide⟩
theorem ck_X7_ticksMany : ctLk mX7_ticksMany 1 := ⟨ctG_in 53 (by decide +kernel) (by decide +kernel), ctG_in 1108 (by decide +kernel) (by decide +kernel), by decide +kernel, by decide⟩
theorem ck_X7_told : ctLk mX7_told 2 := ⟨ctG_in 53 (by decide +kernel) (by decide +kernel), ctG_in 932 (by decide +kernel) (by decide +kernel), by decide +kernel, by decide⟩
theorem ck_X7_trim : ctLk mX7_trim 1 := ⟨ctG_in 53 (by decide +kernel) (by decide +kernel), ctG_in 1130 (by decide +kernel) (by decide +kernel), by decide +kernel, by decide⟩
theorem ck_X7_turned : ctLk mX7_turned 1 := ⟨ctG_in 53 (by decide +kernel) (by decide +kernel), ctG_in 1051 (by decide +kernel) (by decide +kernel), by decide +kernel, by decide⟩
theorem ck_X7_turns : ctLk mX7_turns 2 := ⟨ctG_in 53 (by decide +kernel) (by decide +kernel), ctG_in 997 (by decide +kernel) (by decide +kernel), by decide +kernel, by decide⟩
theorem ck_X7_why : ctLk mX7_why 1 := ⟨ctG_in 53 (by decide +kernel) (by decide +kernel), ctG_in 1209 (by decide +kernel) (by decide +kernel), by decide +kernel, by decide⟩
theorem ck_X7_wind : ctLk mX7_wind 1 := ⟨ctG_in 53 (by decide +kernel) (by decide +kernel), ctG_in 1057 (by decide +kernel) (by decide +kernel), by decide +kernel, by decide⟩
theorem ck_X7_within : ctLk mX7_within 3 := ⟨ctG_in 53 (by decide +kernel) (by decide +kernel), ctG_in 963 (by decide +kernel) (by decide +kernel), by decide +kernel, by decide⟩
theorem ck_X7_worked : ctLk mX7_worked 1 := ⟨ctG_in 53 (by decide +kernel) (by decide +kernel), ctG_in 957 (by decide +kernel) (by decide +kernel), by decide +kernel, by decide⟩
theorem ck_X7_worth : ctLk mX7_worth 1 := ⟨ctG_in 53 (by decide +kernel) (by decide +kernel), ctG_in 985 (by decide +kernel) (by decide +kernel), by decide +kernel, by decide⟩
theorem ob_RX6_1 : ctOb RX6 1 := ⟨ctG_in 65 (by decide +kernel) (by decide +kernel), ctG_in 66 (by decide +kernel) (by decide +kernel), ctG_in 67 (by decide +kernel) (by decide +kernel)⟩
theorem lk_RX6_35 : ctLkI RX6 35 mX5_init 0 ∨ ∃ host, ctLkIN RX6 35 mX5_init 0 host := Or.inr ⟨RX6, ck_X5_init, ctNw_in 74 (by decide +kernel) rfl, ctG_in 75 (by decide +kernel) (by decide +kernel), rfl, rfl⟩
theorem lk_RX6_42 : ctLkI RX6 42 mX1_init 0 ∨ ∃ host, ctLkIN RX6 42 mX1_init 0 host := Or.inr ⟨RX6, ck_X1_init, ctNw_in 137 (by decide +kernel) rfl, ctG_in 81 (by decide +kernel) (by decide +kernel), rfl, rfl⟩
theorem lk_RX6_49 : ctLkI RX6 49 mX2_init 1 ∨ ∃ host, ctLkIN RX6 49 mX2_init 1 host := Or.inl ⟨ck_X2_init, ctG_in 140 (by decide +kernel) (by decide +kernel), ctG_in 141 (by decide +kernel) (by decide +kernel), rfl, rfl⟩
theorem lk_RX6_62 : ctLkI RX6 62 mX3_init 0 ∨ ∃ host, ctLkIN RX6 62 mX3_init 0 host := Or.inr ⟨RX6, ck_X3_init, ctNw_in 228 (by decide +kernel) rfl, ctG_in 229 (by decide +kernel) (by decide +kernel), rfl, rfl⟩
theorem lk_RX6_63 : ctLkI RX6 63 mX4_init 0 ∨ ∃ host, ctLkIN RX6 63 mX4_init 0 host := Or.inr ⟨RX6, ck_X4_init, ctNw_in 246 (by decide +kernel) rfl, ctG_in 247 (by decide +kernel) (by decide +kernel), rfl, rfl⟩
theorem lk_RX6_64 : ctLkS RX6 64 mX6_isKind 1 ∨ ∃ host, ctLkSN RX6 64 mX6_isKind 1 host := Or.inl ⟨ck_X6_isKind, ctG_in 306 (by decide +kernel) (by decide +kernel), ctG_in 307 (by decide +kernel) (by decide +kernel)⟩
theorem lk_RX6_68 : ctLkS RX6 68 mX6_isPlace 1 ∨ ∃ host, ctLkSN RX6 68 mX6_isPlace 1 host := Or.inl ⟨ck_X6_isPlace, ctG_in 312 (by decide +kernel) (by decide +kernel), ctG_in 313 (by decide +kernel) (by decide +kernel)⟩
theorem lk_RX6_71 : ctLkS RX6 71 mX6_isWithin 3 ∨ ∃ host, ctLkSN RX6 71 mX6_isWithin 3 host := Or.inl ⟨ck_X6_isWithin, ctG_in 309 (by decide +kernel) (by decide +kernel), ctG_in 310 (by decide +kernel) (by decide +kernel)⟩
theorem lk_RX6_80 : ctLkV RX6 80 mX2_lightOne 4 := ⟨ck_X2_lightOne, ctG_in 320 (by decide +kernel) (by decide +kernel), ctG_in 321 (by decide +kernel) (by decide +kernel), ctG_in 322 (by decide +kernel) (by decide +kernel)⟩
theorem lk_RX6_84 : ctLkV RX6 84 mX6_isFlame 1 := ⟨ck_X6_isFlame, ctG_in 333 (by decide +kernel) (by decide +kernel), ctG_in 335 (by decide +kernel) (by decide +kernel), ctG_in 0 (by decide +kernel) (by decide +kernel)⟩
theorem lk_RX6_114 : ctLkV RX6 114 mX2_paceOf 1 := ⟨ck_X2_paceOf, ctG_in 337 (by decide +kernel) (by decide +kernel), ctG_in 338 (by decide +kernel) (by decide +kernel), ctG_in 339 (by decide +kernel) (by decide +kernel)⟩
theorem lk_RX6_118 : ctLkV RX6 118 mX2_pushesOn 1 := ⟨ck_X2_pushesOn, ctG_in 360 (by decide +kernel) (by decide +kernel), ctG_in 361 (by decide +kernel) (by decide +kernel), ctG_in 362 (by decide +kernel) (by decide +kernel)⟩
theorem lk_RX6_121 : ctLkV RX6 121 mX0_worth 0 := ⟨ck_X0_worth, ctG_in 386 (by decide +kernel) (by decide +kernel), ctG_in 387 (by decide +kernel) (by decide +kernel), ctG_in 388 (by decide +kernel) (by decide +kernel)⟩
theorem lk_RX6_125 : ctLkV RX6 125 mX0_isOf 1 := ⟨ck_X0_isOf, ctG_in 394 (by decide +kernel) (by decide +kernel), ctG_in 395 (by decide +kernel) (by decide +kernel), ctG_in 396 (by decide +kernel) (by decide +kernel)⟩
theorem lk_RX6_129 : ctLkS RX6 129 mX6_isPhase 1 ∨ ∃ host, ctLkSN RX6 129 mX6_isPhase 1 host := Or.inl ⟨ck_X6_isPhase, ctG_in 407 (by decide +kernel) (by decide +kernel), ctG_in 408 (by decide +kernel) (by decide +kernel)⟩
theorem lk_RX6_132 : ctLkV RX6 132 mX0_wayTo 2 := ⟨ck_X0_wayTo, ctG_in 414 (by decide +kernel) (by decide +kernel), ctG_in 377 (by decide +kernel) (by decide +kernel), ctG_in 378 (by decide +kernel) (by decide +kernel)⟩
theorem lk_RX6_136 : ctLkV RX6 136 mX6_isPair 2 := ⟨ck_X6_isPair, ctG_in 419 (by decide +kernel) (by decide +kernel), ctG_in 421 (by decide +kernel) (by decide +kernel), ctG_in 1 (by decide +kernel) (by decide +kernel)⟩
theorem lk_RX6_140 : ctLkV RX6 140 mX2_hasGlass 2 := ⟨ck_X2_hasGlass, ctG_in 423 (by decide +kernel) (by decide +kernel), ctG_in 373 (by decide +kernel) (by decide +kernel), ctG_in 374 (by decide +kernel) (by decide +kernel)⟩
theorem lk_RX6_143 : ctLkV RX6 143 mX2_putGlass 3 := ⟨ck_X2_putGlass, ctG_in 424 (by decide +kernel) (by decide +kernel), ctG_in 425 (by decide +kernel) (by decide +kernel), ctG_in 426 (by decide +kernel) (by decide +kernel)⟩
theorem lk_RX6_153 : ctLkV RX6 153 mX2_pushBy 2 := ⟨ck_X2_pushBy, ctG_in 436 (by decide +kernel) (by decide +kernel), ctG_in 365 (by decide +kernel) (by decide +kernel), ctG_in 366 (by decide +kernel) (by decide +kernel)⟩
theorem ma_RX6_156 : ctMn RX6 156 := ⟨ctG_in 441 (by decide +kernel) (by decide +kernel), ctG_in 442 (by decide +kernel) (by decide +kernel), ctG_in 54 (by decide +kernel) (by decide +kernel), ctG_in 443 (by decide +kernel) (by decide +kernel)⟩
theorem lk_RX6_161 : ctLkV RX6 161 mX2_drawOne 0 := ⟨ck_X2_drawOne, ctG_in 444 (by decide +kernel) (by decide +kernel), ctG_in 445 (by decide +kernel) (by decide +kernel), ctG_in 446 (by decide +kernel) (by decide +kernel)⟩
theorem lk_RX6_167 : ctLkV RX6 167 mX2_goBy 0 := ⟨ck_X2_goBy, ctG_in 462 (by decide +kernel) (by decide +kernel), ctG_in 463 (by decide +kernel) (by decide +kernel), ctG_in 464 (by decide +kernel) (by decide +kernel)⟩
theorem lk_RX6_170 : ctLkV RX6 170 mX2_arc 0 := ⟨ck_X2_arc, ctG_in 492 (by decide +kernel) (by decide +kernel), ctG_in 493 (by decide +kernel) (by decide +kernel), ctG_in 494 (by decide +kernel) (by decide +kernel)⟩
theorem lk_RX6_173 : ctLkV RX6 173 mX2_gapsAbove 1 := ⟨ck_X2_gapsAbove, ctG_in 506 (by decide +kernel) (by decide +kernel), ctG_in 507 (by decide +kernel) (by decide +kernel), ctG_in 508 (by decide +kernel) (by decide +kernel)⟩
theorem lk_RX6_176 : ctLkV RX6 176 mX2_become 1 := ⟨ck_X2_become, ctG_in 522 (by decide +kernel) (by decide +kernel), ctG_in 523 (by decide +kernel) (by decide +kernel), ctG_in 524 (by decide +kernel) (by decide +kernel)⟩
theorem lk_RX6_180 : ctLkV RX6 180 mX2_agrees 1 := ⟨ck_X2_agrees, ctG_in 530 (by decide +kernel) (by decide +kernel), ctG_in 531 (by decide +kernel) (by decide +kernel), ctG_in 532 (by decide +kernel) (by decide +kernel)⟩
theorem lk_RX6_184 : ctLkV RX6 184 mX2_beatsAs 1 := ⟨ck_X2_beatsAs, ctG_in 540 (by decide +kernel) (by decide +kernel), ctG_in 541 (by decide +kernel) (by decide +kernel), ctG_in 542 (by decide +kernel) (by decide +kernel)⟩
theorem lk_RX6_188 : ctLkS RX6 188 mX6_ahead 2 ∨ ∃ host, ctLkSN RX6 188 mX6_ahead 2 host := Or.inl ⟨ck_X6_ahead, ctG_in 548 (by decide +kernel) (by decide +kernel), ctG_in 384 (by decide +kernel) (by decide +kernel)⟩
theorem lk_RX6_191 : ctLkV RX6 191 mX2_litFrom 1 := ⟨ck_X2_litFrom, ctG_in 553 (by decide +kernel) (by decide +kernel), ctG_in 554 (by decide +kernel) (by decide +kernel), ctG_in 555 (by decide +kernel) (by decide +kernel)⟩
theorem lk_RX6_195 : ctLkS RX6 195 mX6_isOnBoard 2 ∨ ∃ host, ctLkSN RX6 195 mX6_isOnBoard 2 host := Or.inl ⟨ck_X6_isOnBoard, ctG_in 315 (by decide +kernel) (by decide +kernel), ctG_in 316 (by decide +kernel) (by decide +kernel)⟩
theorem lk_RX6_198 : ctLkV RX6 198 mX6_arcFrom 3 := ⟨ck_X6_arcFrom, ctG_in 562 (by decide +kernel) (by decide +kernel), ctG_in 564 (by decide +kernel) (by decide +kernel), ctG_in 2 (by decide +kernel) (by decide +kernel)⟩
theorem lk_RX6_202 : ctLkS RX6 202 mX6_isSheet 1 ∨ ∃ host, ctLkSN RX6 202 mX6_isSheet 1 host := Or.inl ⟨ck_X6_isSheet, ctG_in 570 (by decide +kernel) (by decide +kernel), ctG_in 571 (by decide +kernel) (by decide +kernel)⟩
theorem lk_RX6_205 : ctLkV RX6 205 mX3_isMissing 0 := ⟨ck_X3_isMissing, ctG_in 573 (by decide +kernel) (by decide +kernel), ctG_in 574 (by decide +kernel) (by decide +kernel), ctG_in 575 (by decide +kernel) (by decide +kernel)⟩
theorem lk_RX6_210 : ctLkV RX6 210 mX6_hitsWith 3 := ⟨ck_X6_hitsWith, ctG_in 578 (by decide +kernel) (by decide +kernel), ctG_in 580 (by decide +kernel) (by decide +kernel), ctG_in 3 (by decide +kernel) (by decide +kernel)⟩
theorem lk_RX6_221 : ctLkV RX6 221 mX5_addFour 1 := ⟨ck_X5_addFour, ctG_in 586 (by decide +kernel) (by decide +kernel), ctG_in 587 (by decide +kernel) (by decide +kernel), ctG_in 588 (by decide +kernel) (by decide +kernel)⟩
theorem lk_RX6_225 : ctLkV RX6 225 mX5_faultOf 0 := ⟨ck_X5_faultOf, ctG_in 598 (by decide +kernel) (by decide +kernel), ctG_in 599 (by decide +kernel) (by decide +kernel), ctG_in 600 (by decide +kernel) (by decide +kernel)⟩
theorem lk_RX6_245 : ctLkV RX6 245 mX3_begin 2 := ⟨ck_X3_begin, ctG_in 714 (by decide +kernel) (by decide +kernel), ctG_in 715 (by decide +kernel) (by decide +kernel), ctG_in 716 (by decide +kernel) (by decide +kernel)⟩
theorem lk_RX6_249 : ctLkV RX6 249 mX3_has 1 := ⟨ck_X3_has, ctG_in 722 (by decide +kernel) (by decide +kernel), ctG_in 723 (by decide +kernel) (by decide +kernel), ctG_in 724 (by decide +kernel) (by decide +kernel)⟩
theorem lk_RX6_258 : ctLkV RX6 258 mX3_hasRun 2 := ⟨ck_X3_hasRun, ctG_in 742 (by decide +kernel) (by decide +kernel), ctG_in 743 (by decide +kernel) (by decide +kernel), ctG_in 744 (by decide +kernel) (by decide +kernel)⟩
theorem cy_RX6_261 : ctCy RX6 261 := ⟨ctG_in 746 (by decide +kernel) (by decide +kernel), ctG_in 748 (by decide +kernel) (by decide +kernel), ctG_in 747 (by decide +kernel) (by decide +kernel), ctG_in 59 (by decide +kernel) (by decide +kernel)⟩
theorem lk_RX6_267 : ctLkS RX6 267 mX6_isSlot 1 ∨ ∃ host, ctLkSN RX6 267 mX6_isSlot 1 host := Or.inl ⟨ck_X6_isSlot, ctG_in 753 (by decide +kernel) (by decide +kernel), ctG_in 754 (by decide +kernel) (by decide +kernel)⟩
theorem lk_RX6_277 : ctLkV RX6 277 mX0_become 1 := ⟨ck_X0_become, ctG_in 756 (by decide +kernel) (by decide +kernel), ctG_in 527 (by decide +kernel) (by decide +kernel), ctG_in 528 (by decide +kernel) (by decide +kernel)⟩
theorem lk_RX6_284 : ctLkV RX6 284 mX3_become 1 := ⟨ck_X3_become, ctG_in 757 (by decide +kernel) (by decide +kernel), ctG_in 758 (by decide +kernel) (by decide +kernel), ctG_in 759 (by decide +kernel) (by decide +kernel)⟩
theorem lk_RX6_288 : ctLkV RX6 288 mX2_litMany 0 := ⟨ck_X2_litMany, ctG_in 793 (by decide +kernel) (by decide +kernel), ctG_in 515 (by decide +kernel) (by decide +kernel), ctG_in 516 (by decide +kernel) (by decide +kernel)⟩
theorem ob_RX0_3 : ctOb RX0 3 := ⟨ctG_in 150 (by decide +kernel) (by decide +kernel), ctG_in 66 (by decide +kernel) (by decide +kernel), ctG_in 67 (by decide +kernel) (by decide +kernel)⟩
theorem ma_RX0_33 : ctMa RX0 33 := ⟨ctG_in 380 (by decide +kernel) (by decide +kernel), ctG_in 381 (by decide +kernel) (by decide +kernel), ctG_in 54 (by decide +kernel) (by decide +kernel), ctG_in 382 (by decide +kernel) (by decide +kernel)⟩
theorem lk_RX0_39 : ctLkS RX0 39 mX6_isWithin 3 ∨ ∃ host, ctLkSN RX0 39 mX6_isWithin 3 host := Or.inr ⟨RX6, ck_X6_isWithin, ctNw_in 480 (by decide +kernel) rfl, ctG_in 310 (by decide +kernel) (by decide +kernel)⟩
theorem ma_RX0_43 : ctMx RX0 43 := ⟨ctG_in 485 (by decide +kernel) (by decide +kernel), ctG_in 486 (by decide +kernel) (by decide +kernel), ctG_in 54 (by decide +kernel) (by decide +kernel), ctG_in 487 (by decide +kernel) (by decide +kernel)⟩
theorem ob_RX1_3 : ctOb RX1 3 := ⟨ctG_in 83 (by decide +kernel) (by decide +kernel), ctG_in 66 (by decide +kernel) (by decide +kernel), ctG_in 67 (by decide +kernel) (by decide +kernel)⟩
theorem lk_RX1_34 : ctLkV RX1 34 mX1_put 3 := ⟨ck_X1_put, ctG_in 680 (by decide +kernel) (by decide +kernel), ctG_in 681 (by decide +kernel) (by decide +kernel), ctG_in 682 (by decide +kernel) (by decide +kernel)⟩
theorem lk_RX1_38 : ctLkS RX1 38 mX6_isWithin 3 ∨ ∃ host, ctLkSN RX1 38 mX6_isWithin 3 host := Or.inr ⟨RX6, ck_X6_isWithin, ctNw_in 693 (by decide +kernel) rfl, ctG_in 310 (by decide +kernel) (by decide +kernel)⟩
theorem lk_RX1_42 : ctLkS RX1 42 mX1_work 3 ∨ ∃ host, ctLkSN RX1 42 mX1_work 3 host := Or.inl ⟨ck_X1_work, ctG_in 350 (by decide +kernel) (by decide +kernel), ctG_in 351 (by decide +kernel) (by decide +kernel)⟩
theorem ob_RX2_3 : ctOb RX2 3 := ⟨ctG_in 143 (by decide +kernel) (by decide +kernel), ctG_in 66 (by decide +kernel) (by decide +kernel), ctG_in 67 (by decide +kernel) (by decide +kernel)⟩
theorem lk_RX2_50 : ctLkI RX2 50 mX0_init 0 ∨ ∃ host, ctLkIN RX2 50 mX0_init 0 host := Or.inr ⟨RX6, ck_X0_init, ctNw_in 147 (by decide +kernel) rfl, ctG_in 148 (by decide +kernel) (by decide +kernel), rfl, rfl⟩
theorem lk_RX2_51 : ctLkV RX2 51 mX0_become 1 := ⟨ck_X0_become, ctG_in 526 (by decide +kernel) (by decide +kernel), ctG_in 527 (by decide +kernel) (by decide +kernel), ctG_in 528 (by decide +kernel) (by decide +kernel)⟩
theorem lk_RX2_56 : ctLkV RX2 56 mX0_light 4 := ⟨ck_X0_light, ctG_in 325 (by decide +kernel) (by decide +kernel), ctG_in 326 (by decide +kernel) (by decide +kernel), ctG_in 327 (by decide +kernel) (by decide +kernel)⟩
theorem lk_RX2_60 : ctLkV RX2 60 mX2_draw 0 := ⟨ck_X2_draw, ctG_in 448 (by decide +kernel) (by decide +kernel), ctG_in 449 (by decide +kernel) (by decide +kernel), ctG_in 450 (by decide +kernel) (by decide +kernel)⟩
theorem lk_RX2_64 : ctLkV RX2 64 mX2_lightOne 4 := ⟨ck_X2_lightOne, ctG_in 453 (by decide +kernel) (by decide +kernel), ctG_in 321 (by decide +kernel) (by decide +kernel), ctG_in 322 (by decide +kernel) (by decide +kernel)⟩
theorem lk_RX2_72 : ctLkS RX2 72 mX6_isWithin 3 ∨ ∃ host, ctLkSN RX2 72 mX6_isWithin 3 host := Or.inr ⟨RX6, ck_X6_isWithin, ctNw_in 345 (by decide +kernel) rfl, ctG_in 310 (by decide +kernel) (by decide +kernel)⟩
theorem lk_RX2_76 : ctLkV RX2 76 mX2_lawFor 1 := ⟨ck_X2_lawFor, ctG_in 341 (by decide +kernel) (by decide +kernel), ctG_in 342 (by decide +kernel) (by decide +kernel), ctG_in 343 (by decide +kernel) (by decide +kernel)⟩
theorem lk_RX2_83 : ctLkV RX2 83 mX1_gives 3 := ⟨ck_X1_gives, ctG_in 346 (by decide +kernel) (by decide +kernel), ctG_in 347 (by decide +kernel) (by decide +kernel), ctG_in 348 (by decide +kernel) (by decide +kernel)⟩
theorem lk_RX2_89 : ctLkS RX2 89 mX6_held 3 ∨ ∃ host, ctLkSN RX2 89 mX6_held 3 host := Or.inr ⟨RX6, ck_X6_held, ctNw_in 353 (by decide +kernel) rfl, ctG_in 354 (by decide +kernel) (by decide +kernel)⟩
theorem lk_RX2_92 : ctLkV RX2 92 mX0_paceFrom 1 := ⟨ck_X0_paceFrom, ctG_in 356 (by decide +kernel) (by decide +kernel), ctG_in 357 (by decide +kernel) (by decide +kernel), ctG_in 358 (by decide +kernel) (by decide +kernel)⟩
theorem lk_RX2_96 : ctLkV RX2 96 mX0_isLit 0 := ⟨ck_X0_isLit, ctG_in 368 (by decide +kernel) (by decide +kernel), ctG_in 369 (by decide +kernel) (by decide +kernel), ctG_in 370 (by decide +kernel) (by decide +kernel)⟩
theorem lk_RX2_100 : ctLkV RX2 100 mX2_hasGlass 2 := ⟨ck_X2_hasGlass, ctG_in 372 (by decide +kernel) (by decide +kernel), ctG_in 373 (by decide +kernel) (by decide +kernel), ctG_in 374 (by decide +kernel) (by decide +kernel)⟩
theorem lk_RX2_110 : ctLkV RX2 110 mX0_wayTo 2 := ⟨ck_X0_wayTo, ctG_in 376 (by decide +kernel) (by decide +kernel), ctG_in 377 (by decide +kernel) (by decide +kernel), ctG_in 378 (by decide +kernel) (by decide +kernel)⟩
theorem lk_RX2_114 : ctLkS RX2 114 mX6_ahead 2 ∨ ∃ host, ctLkSN RX2 114 mX6_ahead 2 host := Or.inr ⟨RX6, ck_X6_ahead, ctNw_in 383 (by decide +kernel) rfl, ctG_in 384 (by decide +kernel) (by decide +kernel)⟩
theorem lk_RX2_117 : ctLkV RX2 117 mX2_pushBy 2 := ⟨ck_X2_pushBy, ctG_in 364 (by decide +kernel) (by decide +kernel), ctG_in 365 (by decide +kernel) (by decide +kernel), ctG_in 366 (by decide +kernel) (by decide +kernel)⟩
theorem lk_RX2_123 : ctLkV RX2 123 mX2_windOn 1 := ⟨ck_X2_windOn, ctG_in 470 (by decide +kernel) (by decide +kernel), ctG_in 471 (by decide +kernel) (by decide +kernel), ctG_in 472 (by decide +kernel) (by decide +kernel)⟩
theorem lk_RX2_126 : ctLkV RX2 126 mX2_paceOf 1 := ⟨ck_X2_paceOf, ctG_in 474 (by decide +kernel) (by decide +kernel), ctG_in 338 (by decide +kernel) (by decide +kernel), ctG_in 339 (by decide +kernel) (by decide +kernel)⟩
theorem lk_RX2_129 : ctLkV RX2 129 mX2_pushesOn 1 := ⟨ck_X2_pushesOn, ctG_in 475 (by decide +kernel) (by decide +kernel), ctG_in 361 (by decide +kernel) (by decide +kernel), ctG_in 362 (by decide +kernel) (by decide +kernel)⟩
theorem lk_RX2_132 : ctLkV RX2 132 mX0_turnedFrom 2 := ⟨ck_X0_turnedFrom, ctG_in 476 (by decide +kernel) (by decide +kernel), ctG_in 477 (by decide +kernel) (by decide +kernel), ctG_in 478 (by decide +kernel) (by decide +kernel)⟩
theorem lk_RX2_135 : ctLkV RX2 135 mX2_nextOf 1 := ⟨ck_X2_nextOf, ctG_in 466 (by decide +kernel) (by decide +kernel), ctG_in 467 (by decide +kernel) (by decide +kernel), ctG_in 468 (by decide +kernel) (by decide +kernel)⟩
theorem lk_RX2_138 : ctLkV RX2 138 mX0_burnTo 1 := ⟨ck_X0_burnTo, ctG_in 481 (by decide +kernel) (by decide +kernel), ctG_in 482 (by decide +kernel) (by decide +kernel), ctG_in 483 (by decide +kernel) (by decide +kernel)⟩
theorem ma_RX2_142 : ctMx RX2 142 := ⟨ctG_in 500 (by decide +kernel) (by decide +kernel), ctG_in 486 (by decide +kernel) (by decide +kernel), ctG_in 54 (by decide +kernel) (by decide +kernel), ctG_in 487 (by decide +kernel) (by decide +kernel)⟩
theorem lk_RX2_147 : ctLkV RX2 147 mX2_stepFrom 1 := ⟨ck_X2_stepFrom, ctG_in 496 (by decide +kernel) (by decide +kernel), ctG_in 497 (by decide +kernel) (by decide +kernel), ctG_in 498 (by decide +kernel) (by decide +kernel)⟩
theorem lk_RX2_151 : ctLkV RX2 151 mX2_arc 0 := ⟨ck_X2_arc, ctG_in 534 (by decide +kernel) (by decide +kernel), ctG_in 493 (by decide +kernel) (by decide +kernel), ctG_in 494 (by decide +kernel) (by decide +kernel)⟩
theorem lk_RX2_154 : ctLkV RX2 154 mX2_isFirstOfPhase 1 := ⟨ck_X2_isFirstOfPhase, ctG_in 510 (by decide +kernel) (by decide +kernel), ctG_in 511 (by decide +kernel) (by decide +kernel), ctG_in 512 (by decide +kernel) (by decide +kernel)⟩
theorem lk_RX2_157 : ctLkV RX2 157 mX2_litMany 0 := ⟨ck_X2_litMany, ctG_in 514 (by decide +kernel) (by decide +kernel), ctG_in 515 (by decide +kernel) (by decide +kernel), ctG_in 516 (by decide +kernel) (by decide +kernel)⟩
theorem ob_RX3_3 : ctOb RX3 3 := ⟨ctG_in 231 (by decide +kernel) (by decide +kernel), ctG_in 66 (by decide +kernel) (by decide +kernel), ctG_in 67 (by decide +kernel) (by decide +kernel)⟩
theorem lk_RX3_22 : ctLkS RX3 22 mX6_isWithin 3 ∨ ∃ host, ctLkSN RX3 22 mX6_isWithin 3 host := Or.inr ⟨RX6, ck_X6_isWithin, ctNw_in 726 (by decide +kernel) rfl, ctG_in 310 (by decide +kernel) (by decide +kernel)⟩
theorem ob_RX4_3 : ctOb RX4 3 := ⟨ctG_in 249 (by decide +kernel) (by decide +kernel), ctG_in 66 (by decide +kernel) (by decide +kernel), ctG_in 67 (by decide +kernel) (by decide +kernel)⟩
theorem lk_RX4_17 : ctLkI RX4 17 mX0_init 0 ∨ ∃ host, ctLkIN RX4 17 mX0_init 0 host := Or.inr ⟨RX6, ck_X0_init, ctNw_in 251 (by decide +kernel) rfl, ctG_in 148 (by decide +kernel) (by decide +kernel), rfl, rfl⟩
theorem lk_RX4_24 : ctLkI RX4 24 mX3_init 0 ∨ ∃ host, ctLkIN RX4 24 mX3_init 0 host := Or.inr ⟨RX6, ck_X3_init, ctNw_in 253 (by decide +kernel) rfl, ctG_in 229 (by decide +kernel) (by decide +kernel), rfl, rfl⟩
theorem ob_RX5_3 : ctOb RX5 3 := ⟨ctG_in 77 (by decide +kernel) (by decide +kernel), ctG_in 66 (by decide +kernel) (by decide +kernel), ctG_in 67 (by decide +kernel) (by decide +kernel)⟩
theorem lk_RX5_33 : ctLkI RX5 33 mX1_init 0 ∨ ∃ host, ctLkIN RX5 33 mX1_init 0 host := Or.inr ⟨RX6, ck_X1_init, ctNw_in 80 (by decide +kernel) rfl, ctG_in 81 (by decide +kernel) (by decide +kernel), rfl, rfl⟩
theorem lk_RX5_38 : ctLkV RX5 38 mX5_advance 0 := ⟨ck_X5_advance, ctG_in 602 (by decide +kernel) (by decide +kernel), ctG_in 603 (by decide +kernel) (by decide +kernel), ctG_in 604 (by decide +kernel) (by decide +kernel)⟩
theorem lk_RX5_41 : ctLkV RX5 41 mX5_keyOfWord 0 := ⟨ck_X5_keyOfWord, ctG_in 611 (by decide +kernel) (by decide +kernel), ctG_in 612 (by decide +kernel) (by decide +kernel), ctG_in 613 (by decide +kernel) (by decide +kernel)⟩
theorem lk_RX5_45 : ctLkV RX5 45 mX1_begin 1 := ⟨ck_X1_begin, ctG_in 656 (by decide +kernel) (by decide +kernel), ctG_in 657 (by decide +kernel) (by decide +kernel), ctG_in 658 (by decide +kernel) (by decide +kernel)⟩
theorem lk_RX5_49 : ctLkV RX5 49 mX5_chain 3 := ⟨ck_X5_chain, ctG_in 660 (by decide +kernel) (by decide +kernel), ctG_in 661 (by decide +kernel) (by decide +kernel), ctG_in 662 (by decide +kernel) (by decide +kernel)⟩
theorem lk_RX5_53 : ctLkV RX5 53 mX5_fail 0 := ⟨ck_X5_fail, ctG_in 672 (by decide +kernel) (by decide +kernel), ctG_in 673 (by decide +kernel) (by decide +kernel), ctG_in 674 (by decide +kernel) (by decide +kernel)⟩
theorem lk_RX5_56 : ctLkV RX5 56 mX5_sortAt 1 := ⟨ck_X5_sortAt, ctG_in 606 (by decide +kernel) (by decide +kernel), ctG_in 607 (by decide +kernel) (by decide +kernel), ctG_in 608 (by decide +kernel) (by decide +kernel)⟩
theorem lk_RX5_60 : ctLkS RX5 60 mX6_isWithin 3 ∨ ∃ host, ctLkSN RX5 60 mX6_isWithin 3 host := Or.inr ⟨RX6, ck_X6_isWithin, ctNw_in 610 (by decide +kernel) rfl, ctG_in 310 (by decide +kernel) (by decide +kernel)⟩
theorem lk_RX5_66 : ctLkV RX5 66 mJ0_charAt_5068e 1 := ⟨ck_J0_charAt_5068e, ctG_in 616 (by decide +kernel) (by decide +kernel), ctG_in 617 (by decide +kernel) (by decide +kernel), ctG_in 618 (by decide +kernel) (by decide +kernel)⟩
theorem lk_RX5_72 : ctLkV RX5 72 mX5_piece 2 := ⟨ck_X5_piece, ctG_in 664 (by decide +kernel) (by decide +kernel), ctG_in 665 (by decide +kernel) (by decide +kernel), ctG_in 666 (by decide +kernel) (by decide +kernel)⟩
theorem lk_RX5_76 : ctLkS RX5 76 mX5_levelOf 1 ∨ ∃ host, ctLkSN RX5 76 mX5_levelOf 1 host := Or.inl ⟨ck_X5_levelOf, ctG_in 698 (by decide +kernel) (by decide +kernel), ctG_in 699 (by decide +kernel) (by decide +kernel)⟩
theorem lk_RX5_79 : ctLkV RX5 79 mX1_addStep 3 := ⟨ck_X1_addStep, ctG_in 689 (by decide +kernel) (by decide +kernel), ctG_in 690 (by decide +kernel) (by decide +kernel), ctG_in 691 (by decide +kernel) (by decide +kernel)⟩
theorem lk_RX5_82 : ctLkV RX5 82 mX5_number 0 := ⟨ck_X5_number, ctG_in 668 (by decide +kernel) (by decide +kernel), ctG_in 669 (by decide +kernel) (by decide +kernel), ctG_in 670 (by decide +kernel) (by decide +kernel)⟩
theorem lk_RX5_85 : ctLkV RX5 85 mX5_name 0 := ⟨ck_X5_name, ctG_in 684 (by decide +kernel) (by decide +kernel), ctG_in 685 (by decide +kernel) (by decide +kernel), ctG_in 686 (by decide +kernel) (by decide +kernel)⟩
theorem lk_RX5_88 : ctLkV RX5 88 mX5_bracket 2 := ⟨ck_X5_bracket, ctG_in 694 (by decide +kernel) (by decide +kernel), ctG_in 695 (by decide +kernel) (by decide +kernel), ctG_in 696 (by decide +kernel) (by decide +kernel)⟩
theorem lk_RX5_91 : ctLkV RX5 91 mX1_addLeaf 2 := ⟨ck_X1_addLeaf, ctG_in 676 (by decide +kernel) (by decide +kernel), ctG_in 677 (by decide +kernel) (by decide +kernel), ctG_in 678 (by decide +kernel) (by decide +kernel)⟩
theorem ob_RX7_1 : ctOb RX7 1 := ⟨ctG_in 799 (by decide +kernel) (by decide +kernel), ctG_in 66 (by decide +kernel) (by decide +kernel), ctG_in 67 (by decide +kernel) (by decide +kernel)⟩
theorem lk_RX7_72 : ctLkV RX7 72 mX7_flameAt 1 := ⟨ck_X7_flameAt, ctG_in 925 (by decide +kernel) (by decide +kernel), ctG_in 927 (by decide +kernel) (by decide +kernel), ctG_in 5 (by decide +kernel) (by decide +kernel)⟩
theorem lk_RX7_76 : ctLkS RX7 76 mX7_isIn 3 ∨ ∃ host, ctLkSN RX7 76 mX7_isIn 3 host := Or.inl ⟨ck_X7_isIn, ctG_in 912 (by decide +kernel) (by decide +kernel), ctG_in 913 (by decide +kernel) (by decide +kernel)⟩
theorem lk_RX7_80 : ctLkV RX7 80 mX7_of 2 := ⟨ck_X7_of, ctG_in 938 (by decide +kernel) (by decide +kernel), ctG_in 940 (by decide +kernel) (by decide +kernel), ctG_in 7 (by decide +kernel) (by decide +kernel)⟩
theorem lk_RX7_87 : ctLkS RX7 87 mX7_isPlace 1 ∨ ∃ host, ctLkSN RX7 87 mX7_isPlace 1 host := Or.inl ⟨ck_X7_isPlace, ctG_in 915 (by decide +kernel) (by decide +kernel), ctG_in 916 (by decide +kernel) (by decide +kernel)⟩
theorem lk_RX7_95 : ctLkV RX7 95 mX7_comes 5 := ⟨ck_X7_comes, ctG_in 921 (by decide +kernel) (by decide +kernel), ctG_in 923 (by decide +kernel) (by decide +kernel), ctG_in 4 (by decide +kernel) (by decide +kernel)⟩
theorem lk_RX7_99 : ctLkV RX7 99 mX7_counts 1 := ⟨ck_X7_counts, ctG_in 946 (by decide +kernel) (by decide +kernel), ctG_in 948 (by decide +kernel) (by decide +kernel), ctG_in 9 (by decide +kernel) (by decide +kernel)⟩
theorem lk_RX7_102 : ctLkV RX7 102 mX7_worked 1 := ⟨ck_X7_worked, ctG_in 954 (by decide +kernel) (by decide +kernel), ctG_in 956 (by decide +kernel) (by decide +kernel), ctG_in 11 (by decide +kernel) (by decide +kernel)⟩
theorem lk_RX7_105 : ctLkS RX7 105 mX7_within 3 ∨ ∃ host, ctLkSN RX7 105 mX7_within 3 host := Or.inl ⟨ck_X7_within, ctG_in 961 (by decide +kernel) (by decide +kernel), ctG_in 962 (by decide +kernel) (by decide +kernel)⟩
theorem lk_RX7_109 : ctLkV RX7 109 mX7_isLit 1 := ⟨ck_X7_isLit, ctG_in 972 (by decide +kernel) (by decide +kernel), ctG_in 974 (by decide +kernel) (by decide +kernel), ctG_in 14 (by decide +kernel) (by decide +kernel)⟩
theorem lk_RX7_112 : ctLkS RX7 112 mX7_off 2 ∨ ∃ host, ctLkSN RX7 112 mX7_off 2 host := Or.inl ⟨ck_X7_off, ctG_in 976 (by decide +kernel) (by decide +kernel), ctG_in 977 (by decide +kernel) (by decide +kernel)⟩
theorem lk_RX7_115 : ctLkS RX7 115 mX7_ahead 2 ∨ ∃ host, ctLkSN RX7 115 mX7_ahead 2 host := Or.inl ⟨ck_X7_ahead, ctG_in 979 (by decide +kernel) (by decide +kernel), ctG_in 980 (by decide +kernel) (by decide +kernel)⟩
theorem lk_RX7_118 : ctLkV RX7 118 mX7_pushOf 2 := ⟨ck_X7_pushOf, ctG_in 968 (by decide +kernel) (by decide +kernel), ctG_in 970 (by decide +kernel) (by decide +kernel), ctG_in 13 (by decide +kernel) (by decide +kernel)⟩
theorem lk_RX7_121 : ctLkV RX7 121 mX7_isFlame 1 := ⟨ck_X7_isFlame, ctG_in 933 (by decide +kernel) (by decide +kernel), ctG_in 935 (by decide +kernel) (by decide +kernel), ctG_in 6 (by decide +kernel) (by decide +kernel)⟩
theorem lk_RX7_126 : ctLkV RX7 126 mX7_pace 1 := ⟨ck_X7_pace, ctG_in 942 (by decide +kernel) (by decide +kernel), ctG_in 944 (by decide +kernel) (by decide +kernel), ctG_in 8 (by decide +kernel) (by decide +kernel)⟩
theorem lk_RX7_129 : ctLkV RX7 129 mX7_pushes 1 := ⟨ck_X7_pushes, ctG_in 964 (by decide +kernel) (by decide +kernel), ctG_in 966 (by decide +kernel) (by decide +kernel), ctG_in 12 (by decide +kernel) (by decide +kernel)⟩
theorem lk_RX7_132 : ctLkV RX7 132 mX7_worth 1 := ⟨ck_X7_worth, ctG_in 982 (by decide +kernel) (by decide +kernel), ctG_in 984 (by decide +kernel) (by decide +kernel), ctG_in 15 (by decide +kernel) (by decide +kernel)⟩
theorem lk_RX7_135 : ctLkS RX7 135 mX7_isOf 2 ∨ ∃ host, ctLkSN RX7 135 mX7_isOf 2 host := Or.inl ⟨ck_X7_isOf, ctG_in 990 (by decide +kernel) (by decide +kernel), ctG_in 991 (by decide +kernel) (by decide +kernel)⟩
theorem lk_RX7_140 : ctLkV RX7 140 mX7_becomes 2 := ⟨ck_X7_becomes, ctG_in 998 (by decide +kernel) (by decide +kernel), ctG_in 1000 (by decide +kernel) (by decide +kernel), ctG_in 16 (by decide +kernel) (by decide +kernel)⟩
theorem lk_RX7_151 : ctLkV RX7 151 mX7_drawn 0 := ⟨ck_X7_drawn, ctG_in 1030 (by decide +kernel) (by decide +kernel), ctG_in 1032 (by decide +kernel) (by decide +kernel), ctG_in 17 (by decide +kernel) (by decide +kernel)⟩
theorem lk_RX7_159 : ctLkV RX7 159 mX7_wind 1 := ⟨ck_X7_wind, ctG_in 1054 (by decide +kernel) (by decide +kernel), ctG_in 1056 (by decide +kernel) (by decide +kernel), ctG_in 20 (by decide +kernel) (by decide +kernel)⟩
theorem lk_RX7_162 : ctLkV RX7 162 mX7_turned 1 := ⟨ck_X7_turned, ctG_in 1048 (by decide +kernel) (by decide +kernel), ctG_in 1050 (by decide +kernel) (by decide +kernel), ctG_in 19 (by decide +kernel) (by decide +kernel)⟩
theorem lk_RX7_167 : ctLkV RX7 167 mX7_ticks 0 := ⟨ck_X7_ticks, ctG_in 1044 (by decide +kernel) (by decide +kernel), ctG_in 1046 (by decide +kernel) (by decide +kernel), ctG_in 18 (by decide +kernel) (by decide +kernel)⟩
theorem lk_RX7_177 : ctLkV RX7 177 mX7_findSteps 1 := ⟨ck_X7_findSteps, ctG_in 1066 (by decide +kernel) (by decide +kernel), ctG_in 1068 (by decide +kernel) (by decide +kernel), ctG_in 22 (by decide +kernel) (by decide +kernel)⟩
theorem lk_RX7_180 : ctLkV RX7 180 mX7_spreadNow 0 := ⟨ck_X7_spreadNow, ctG_in 1062 (by decide +kernel) (by decide +kernel), ctG_in 1064 (by decide +kernel) (by decide +kernel), ctG_in 21 (by decide +kernel) (by decide +kernel)⟩
theorem lk_RX7_183 : ctLkS RX7 183 mX7_orNone 1 ∨ ∃ host, ctLkSN RX7 183 mX7_orNone 1 host := Or.inl ⟨ck_X7_orNone, ctG_in 1070 (by decide +kernel) (by decide +kernel), ctG_in 1071 (by decide +kernel) (by decide +kernel)⟩
theorem lk_RX7_186 : ctLkS RX7 186 mX7_isBound 1 ∨ ∃ host, ctLkSN RX7 186 mX7_isBound 1 host := Or.inl ⟨ck_X7_isBound, ctG_in 1082 (by decide +kernel) (by decide +kernel), ctG_in 1083 (by decide +kernel) (by decide +kernel)⟩
theorem lk_RX7_189 : ctLkV RX7 189 mX7_laysBy 0 := ⟨ck_X7_laysBy, ctG_in 1085 (by decide +kernel) (by decide +kernel), ctG_in 1087 (by decide +kernel) (by decide +kernel), ctG_in 23 (by decide +kernel) (by decide +kernel)⟩
theorem lk_RX7_192 : ctLkV RX7 192 mX7_laysBack 0 := ⟨ck_X7_laysBack, ctG_in 1089 (by decide +kernel) (by decide +kernel), ctG_in 1091 (by decide +kernel) (by decide +kernel), ctG_in 24 (by decide +kernel) (by decide +kernel)⟩
theorem lk_RX7_195 : ctLkV RX7 195 mX7_isAsLaidBy 0 := ⟨ck_X7_isAsLaidBy, ctG_in 1097 (by decide +kernel) (by decide +kernel), ctG_in 1099 (by decide +kernel) (by decide +kernel), ctG_in 25 (by decide +kernel) (by decide +kernel)⟩
theorem lk_RX7_199 : ctLkV RX7 199 mX7_ticksMany 1 := ⟨ck_X7_ticksMany, ctG_in 1105 (by decide +kernel) (by decide +kernel), ctG_in 1107 (by decide +kernel) (by decide +kernel), ctG_in 26 (by decide +kernel) (by decide +kernel)⟩
theorem lk_RX7_203 : ctLkV RX7 203 mX7_litBehind 1 := ⟨ck_X7_litBehind, ctG_in 1113 (by decide +kernel) (by decide +kernel), ctG_in 1115 (by decide +kernel) (by decide +kernel), ctG_in 27 (by decide +kernel) (by decide +kernel)⟩
theorem lk_RX7_229 : ctLkV RX7 229 mX7_isLetter 1 := ⟨ck_X7_isLetter, ctG_in 1143 (by decide +kernel) (by decide +kernel), ctG_in 1145 (by decide +kernel) (by decide +kernel), ctG_in 30 (by decide +kernel) (by decide +kernel)⟩
theorem lk_RX7_235 : ctLkV RX7 235 mX7_isDigit 1 := ⟨ck_X7_isDigit, ctG_in 1149 (by decide +kernel) (by decide +kernel), ctG_in 1151 (by decide +kernel) (by decide +kernel), ctG_in 31 (by decide +kernel) (by decide +kernel)⟩
theorem lk_RX7_241 : ctLkV RX7 241 mX7_isWordAt 4 := ⟨ck_X7_isWordAt, ctG_in 1159 (by decide +kernel) (by decide +kernel), ctG_in 1161 (by decide +kernel) (by decide +kernel), ctG_in 33 (by decide +kernel) (by decide +kernel)⟩
theorem lk_RX7_251 : ctLkV RX7 251 mX7_both 1 := ⟨ck_X7_both, ctG_in 1167 (by decide +kernel) (by decide +kernel), ctG_in 1169 (by decide +kernel) (by decide +kernel), ctG_in 35 (by decide +kernel) (by decide +kernel)⟩
theorem lk_RX7_254 : ctLkV RX7 254 mX7_isSign 1 := ⟨ck_X7_isSign, ctG_in 1194 (by decide +kernel) (by decide +kernel), ctG_in 1196 (by decide +kernel) (by decide +kernel), ctG_in 41 (by decide +kernel) (by decide +kernel)⟩
theorem lk_RX7_257 : ctLkV RX7 257 mX7_nextToken 0 := ⟨ck_X7_nextToken, ctG_in 1139 (by decide +kernel) (by decide +kernel), ctG_in 1141 (by decide +kernel) (by decide +kernel), ctG_in 29 (by decide +kernel) (by decide +kernel)⟩
theorem lk_RX7_260 : ctLkV RX7 260 mX7_step 2 := ⟨ck_X7_step, ctG_in 1187 (by decide +kernel) (by decide +kernel), ctG_in 1189 (by decide +kernel) (by decide +kernel), ctG_in 40 (by decide +kernel) (by decide +kernel)⟩
theorem lk_RX7_264 : ctLkV RX7 264 mX7_test 1 := ⟨ck_X7_test, ctG_in 1171 (by decide +kernel) (by decide +kernel), ctG_in 1173 (by decide +kernel) (by decide +kernel), ctG_in 36 (by decide +kernel) (by decide +kernel)⟩
theorem lk_RX7_267 : ctLkV RX7 267 mX7_sum 1 := ⟨ck_X7_sum, ctG_in 1175 (by decide +kernel) (by decide +kernel), ctG_in 1177 (by decide +kernel) (by decide +kernel), ctG_in 37 (by decide +kernel) (by decide +kernel)⟩
theorem lk_RX7_270 : ctLkV RX7 270 mX7_term 1 := ⟨ck_X7_term, ctG_in 1179 (by decide +kernel) (by decide +kernel), ctG_in 1181 (by decide +kernel) (by decide +kernel), ctG_in 38 (by decide +kernel) (by decide +kernel)⟩
theorem lk_RX7_273 : ctLkV RX7 273 mX7_part0 1 := ⟨ck_X7_part0, ctG_in 1183 (by decide +kernel) (by decide +kernel), ctG_in 1185 (by decide +kernel) (by decide +kernel), ctG_in 39 (by decide +kernel) (by decide +kernel)⟩
theorem lk_RX7_279 : ctLkS RX7 279 mX7_isName 2 ∨ ∃ host, ctLkSN RX7 279 mX7_isName 2 host := Or.inl ⟨ck_X7_isName, ctG_in 1191 (by decide +kernel) (by decide +kernel), ctG_in 1192 (by decide +kernel) (by decide +kernel)⟩
theorem lk_RX7_287 : ctLkV RX7 287 mX7_either 1 := ⟨ck_X7_either, ctG_in 1163 (by decide +kernel) (by decide +kernel), ctG_in 1165 (by decide +kernel) (by decide +kernel), ctG_in 34 (by decide +kernel) (by decide +kernel)⟩
theorem lk_RX7_290 : ctLkV RX7 290 mX7_textAt 1 := ⟨ck_X7_textAt, ctG_in 950 (by decide +kernel) (by decide +kernel), ctG_in 952 (by decide +kernel) (by decide +kernel), ctG_in 10 (by decide +kernel) (by decide +kernel)⟩
theorem lk_RX7_293 : ctLkV RX7 293 mX7_key 0 := ⟨ck_X7_key, ctG_in 1155 (by decide +kernel) (by decide +kernel), ctG_in 1157 (by decide +kernel) (by decide +kernel), ctG_in 32 (by decide +kernel) (by decide +kernel)⟩
theorem lk_RX7_296 : ctLkV RX7 296 mX7_parse 0 := ⟨ck_X7_parse, ctG_in 1135 (by decide +kernel) (by decide +kernel), ctG_in 1137 (by decide +kernel) (by decide +kernel), ctG_in 28 (by decide +kernel) (by decide +kernel)⟩
theorem lk_RX7_299 : ctLkV RX7 299 mX7_isText 1 := ⟨ck_X7_isText, ctG_in 1202 (by decide +kernel) (by decide +kernel), ctG_in 1204 (by decide +kernel) (by decide +kernel), ctG_in 42 (by decide +kernel) (by decide +kernel)⟩
theorem lk_RX7_304 : ctLkS RX7 304 mX7_joined 3 ∨ ∃ host, ctLkSN RX7 304 mX7_joined 3 host := Or.inl ⟨ck_X7_joined, ctG_in 958 (by decide +kernel) (by decide +kernel), ctG_in 959 (by decide +kernel) (by decide +kernel)⟩
theorem lk_RX7_309 : ctLkS RX7 309 mX7_isSheet 1 ∨ ∃ host, ctLkSN RX7 309 mX7_isSheet 1 host := Or.inl ⟨ck_X7_isSheet, ctG_in 1215 (by decide +kernel) (by decide +kernel), ctG_in 1216 (by decide +kernel) (by decide +kernel)⟩
theorem lk_RX7_321 : ctLkS RX7 321 mX7_isSlot 1 ∨ ∃ host, ctLkSN RX7 321 mX7_isSlot 1 host := Or.inl ⟨ck_X7_isSlot, ctG_in 1249 (by decide +kernel) (by decide +kernel), ctG_in 1250 (by decide +kernel) (by decide +kernel)⟩
theorem lk_RX7_333 : ctLkV RX7 333 mX7_setAside 2 := ⟨ck_X7_setAside, ctG_in 1273 (by decide +kernel) (by decide +kernel), ctG_in 1275 (by decide +kernel) (by decide +kernel), ctG_in 43 (by decide +kernel) (by decide +kernel)⟩
theorem lk_RX7_337 : ctLkV RX7 337 mX7_spread 0 := ⟨ck_X7_spread, ctG_in 1277 (by decide +kernel) (by decide +kernel), ctG_in 1059 (by decide +kernel) (by decide +kernel), ctG_in 1060 (by decide +kernel) (by decide +kernel)⟩
theorem lk_RX7_340 : ctLkV RX7 340 mX7_litMany 0 := ⟨ck_X7_litMany, ctG_in 1290 (by decide +kernel) (by decide +kernel), ctG_in 1292 (by decide +kernel) (by decide +kernel), ctG_in 44 (by decide +kernel) (by decide +kernel)⟩
theorem lk_RJ0_492 : ctLkV RJ0 492 mJ0_isLatin1_aae02 0 := ⟨ck_J0_isLatin1_aae02, ctG_in 620 (by decide +kernel) (by decide +kernel), ctG_in 621 (by decide +kernel) (by decide +kernel), ctG_in 622 (by decide +kernel) (by decide +kernel)⟩
theorem lk_RJ0_495 : ctLkS RJ0 495 mJ1_charAt_3b067 2 ∨ ∃ host, ctLkSN RJ0 495 mJ1_charAt_3b067 2 host := Or.inl ⟨ck_J1_charAt_3b067, ctG_in 626 (by decide +kernel) (by decide +kernel), ctG_in 627 (by decide +kernel) (by decide +kernel)⟩
theorem lk_RJ0_498 : ctLkS RJ0 498 mJ2_charAt_3b067 2 ∨ ∃ host, ctLkSN RJ0 498 mJ2_charAt_3b067 2 host := Or.inl ⟨ck_J2_charAt_3b067, ctG_in 637 (by decide +kernel) (by decide +kernel), ctG_in 638 (by decide +kernel) (by decide +kernel)⟩
theorem lk_RJ0_1059 : ctLkS RJ0 1059 mJ3_checkIndex_8e157 3 ∨ ∃ host, ctLkSN RJ0 1059 mJ3_checkIndex_8e157 3 host := Or.inl ⟨ck_J3_checkIndex_8e157, ctG_in 634 (by decide +kernel) (by decide +kernel), ctG_in 635 (by decide +kernel) (by decide +kernel)⟩
theorem lk_RJ1_9 : ctLkS RJ1 9 mJ0_checkIndex_df160 2 ∨ ∃ host, ctLkSN RJ1 9 mJ0_checkIndex_df160 2 host := Or.inl ⟨ck_J0_checkIndex_df160, ctG_in 629 (by decide +kernel) (by decide +kernel), ctG_in 630 (by decide +kernel) (by decide +kernel)⟩
theorem lk_RJ2_48 : ctLkS RJ2 48 mJ2_length_9d52b 1 ∨ ∃ host, ctLkSN RJ2 48 mJ2_length_9d52b 1 host := Or.inl ⟨ck_J2_length_9d52b, ctG_in 643 (by decide +kernel) (by decide +kernel), ctG_in 644 (by decide +kernel) (by decide +kernel)⟩
theorem lk_RJ2_67 : ctLkS RJ2 67 mJ2_checkIndex_2214a 2 ∨ ∃ host, ctLkSN RJ2 67 mJ2_checkIndex_2214a 2 host := Or.inl ⟨ck_J2_checkIndex_2214a, ctG_in 640 (by decide +kernel) (by decide +kernel), ctG_in 641 (by decide +kernel) (by decide +kernel)⟩
theorem lk_RJ2_71 : ctLkS RJ2 71 mJ2_getChar_3b067 2 ∨ ∃ host, ctLkSN RJ2 71 mJ2_getChar_3b067 2 host := Or.inl ⟨ck_J2_getChar_3b067, ctG_in 647 (by decide +kernel) (by decide +kernel), ctG_in 648 (by decide +kernel) (by decide +kernel)⟩
theorem lk_RJ2_414 : ctLkS RJ2 414 mJ0_checkIndex_df160 2 ∨ ∃ host, ctLkSN RJ2 414 mJ0_checkIndex_df160 2 host := Or.inl ⟨ck_J0_checkIndex_df160, ctG_in 646 (by decide +kernel) (by decide +kernel), ctG_in 630 (by decide +kernel) (by decide +kernel)⟩
end
