/-- the name of a private method of the Collector, as the printed table has it -/
def mm_w0 : String := match tables_1_5[11]? with
  | some (Cond.instanceMethod q) => q.name
  | _ => ""
-- ===== PART A: goes FIRST, ahead of the names: the tables' words, and 'selects' of the private methods out of them =====
/-- a private method of a class that the tables say can be made, by its rows of tables_1 -/
def lw_okq (q : MethodName × Nat) : Prop := (q.1.cls ≠ "java/lang/invoke/MethodHandle" ∧ q.1.cls ≠ "java/lang/invoke/VarHandle") ∧ Cond.instantiable q.1.cls q.2 ∈ tables_1 ∧ Cond.privateMethod q.1 ∈ tables_1 ∧ Cond.instanceMethod q.1 ∈ tables_1
theorem lw_p0 : lw_okq (⟨"PaidSecrets$Tape", "scanWord", "()V"⟩, 10) := ⟨⟨by decide +kernel, by decide +kernel⟩, List.mem_of_getElem? (i := 37) (by decide +kernel), List.mem_of_getElem? (i := 455) (by decide +kernel), List.mem_of_getElem? (i := 456) (by decide +kernel)⟩
theorem lw_p1 : lw_okq (⟨"PaidSecrets$Tape", "scanNumber", "()V"⟩, 10) := ⟨⟨by decide +kernel, by decide +kernel⟩, List.mem_of_getElem? (i := 37) (by decide +kernel), List.mem_of_getElem? (i := 462) (by decide +kernel), List.mem_of_getElem? (i := 463) (by decide +kernel)⟩
theorem lw_p2 : lw_okq (⟨"PaidSecrets$Law", "readAll", "(LPaidSecrets$Tape;I)Z"⟩, 3) := ⟨⟨by decide +kernel, by decide +kernel⟩, List.mem_of_getElem? (i := 236) (by decide +kernel), List.mem_of_getElem? (i := 675) (by decide +kernel), List.mem_of_getElem? (i := 676) (by decide +kernel)⟩
theorem lw_p3 : lw_okq (⟨"PaidSecrets$Law", "readTest", "(LPaidSecrets$Tape;I)Z"⟩, 3) := ⟨⟨by decide +kernel, by decide +kernel⟩, List.mem_of_getElem? (i := 236) (by decide +kernel), List.mem_of_getElem? (i := 679) (by decide +kernel), List.mem_of_getElem? (i := 680) (by decide +kernel)⟩
theorem lw_p4 : lw_okq (⟨"PaidSecrets$Law", "readSum", "(LPaidSecrets$Tape;I)Z"⟩, 3) := ⟨⟨by decide +kernel, by decide +kernel⟩, List.mem_of_getElem? (i := 236) (by decide +kernel), List.mem_of_getElem? (i := 683) (by decide +kernel), List.mem_of_getElem? (i := 684) (by decide +kernel)⟩
theorem lw_p5 : lw_okq (⟨"PaidSecrets$Law", "readProduct", "(LPaidSecrets$Tape;I)Z"⟩, 3) := ⟨⟨by decide +kernel, by decide +kernel⟩, List.mem_of_getElem? (i := 236) (by decide +kernel), List.mem_of_getElem? (i := 687) (by decide +kernel), List.mem_of_getElem? (i := 688) (by decide +kernel)⟩
theorem lw_p6 : lw_okq (⟨"PaidSecrets$Law", "readPart", "(LPaidSecrets$Tape;I)Z"⟩, 3) := ⟨⟨by decide +kernel, by decide +kernel⟩, List.mem_of_getElem? (i := 236) (by decide +kernel), List.mem_of_getElem? (i := 691) (by decide +kernel), List.mem_of_getElem? (i := 692) (by decide +kernel)⟩
theorem lw_p7 : lw_okq (⟨"PaidSecrets$Law", "put", "(I)V"⟩, 3) := ⟨⟨by decide +kernel, by decide +kernel⟩, List.mem_of_getElem? (i := 236) (by decide +kernel), List.mem_of_getElem? (i := 700) (by decide +kernel), List.mem_of_getElem? (i := 701) (by decide +kernel)⟩
theorem lw_p8 : lw_okq (⟨"PaidSecrets", "weighed", "(LPaidSecrets$State;)[I"⟩, 20) := ⟨⟨by decide +kernel, by decide +kernel⟩, List.mem_of_getElem? (i := 29) (by decide +kernel), List.mem_of_getElem? (i := 790) (by decide +kernel), List.mem_of_getElem? (i := 791) (by decide +kernel)⟩
theorem lw_p9 : lw_okq (⟨"PaidSecrets", "remember", "()V"⟩, 20) := ⟨⟨by decide +kernel, by decide +kernel⟩, List.mem_of_getElem? (i := 29) (by decide +kernel), List.mem_of_getElem? (i := 855) (by decide +kernel), List.mem_of_getElem? (i := 856) (by decide +kernel)⟩
theorem lw_p10 : lw_okq (⟨"PaidSecrets", "judge", "()V"⟩, 20) := ⟨⟨by decide +kernel, by decide +kernel⟩, List.mem_of_getElem? (i := 29) (by decide +kernel), List.mem_of_getElem? (i := 928) (by decide +kernel), List.mem_of_getElem? (i := 929) (by decide +kernel)⟩
theorem lw_p11 : lw_okq (⟨"PaidSecrets", "tryLine", "(I)Z"⟩, 20) := ⟨⟨by decide +kernel, by decide +kernel⟩, List.mem_of_getElem? (i := 29) (by decide +kernel), List.mem_of_getElem? (i := 933) (by decide +kernel), List.mem_of_getElem? (i := 934) (by decide +kernel)⟩
theorem lw_p12 : lw_okq (⟨"PaidSecrets$Collector", "isLesser", "(II)Z"⟩, 3) := ⟨⟨by decide +kernel, by decide +kernel⟩, List.mem_of_getElem? (i := 179) (by decide +kernel), List.mem_of_getElem? (i := 955) (by decide +kernel), List.mem_of_getElem? (i := 956) (by decide +kernel)⟩
theorem lw_p13 : lw_okq (⟨"PaidSecrets$Collector", mm_w0, "(IIII)V"⟩, 3) := ⟨⟨by decide +kernel, by decide +kernel⟩, List.mem_of_getElem? (i := 179) (by decide +kernel), List.mem_of_getElem? (i := 970) (by decide +kernel), List.mem_of_getElem? (i := 971) (by decide +kernel)⟩
theorem lw_p14 : lw_okq (⟨"PaidSecrets", "findLeaks", "()V"⟩, 20) := ⟨⟨by decide +kernel, by decide +kernel⟩, List.mem_of_getElem? (i := 29) (by decide +kernel), List.mem_of_getElem? (i := 986) (by decide +kernel), List.mem_of_getElem? (i := 987) (by decide +kernel)⟩
theorem lw_p15 : lw_okq (⟨"PaidSecrets", "explains", "(I)Z"⟩, 20) := ⟨⟨by decide +kernel, by decide +kernel⟩, List.mem_of_getElem? (i := 29) (by decide +kernel), List.mem_of_getElem? (i := 990) (by decide +kernel), List.mem_of_getElem? (i := 991) (by decide +kernel)⟩
def lw_privs_1 : List (MethodName × Nat) := [(⟨"PaidSecrets$Tape", "scanWord", "()V"⟩, 10), (⟨"PaidSecrets$Tape", "scanNumber", "()V"⟩, 10), (⟨"PaidSecrets$Law", "readAll", "(LPaidSecrets$Tape;I)Z"⟩, 3), (⟨"PaidSecrets$Law", "readTest", "(LPaidSecrets$Tape;I)Z"⟩, 3), (⟨"PaidSecrets$Law", "readSum", "(LPaidSecrets$Tape;I)Z"⟩, 3), (⟨"PaidSecrets$Law", "readProduct", "(LPaidSecrets$Tape;I)Z"⟩, 3), (⟨"PaidSecrets$Law", "readPart", "(LPaidSecrets$Tape;I)Z"⟩, 3), (⟨"PaidSecrets$Law", "put", "(I)V"⟩, 3), (⟨"PaidSecrets", "weighed", "(LPaidSecrets$State;)[I"⟩, 20), (⟨"PaidSecrets", "remember", "()V"⟩, 20), (⟨"PaidSecrets", "judge", "()V"⟩, 20), (⟨"PaidSecrets", "tryLine", "(I)Z"⟩, 20), (⟨"PaidSecrets$Collector", "isLesser", "(II)Z"⟩, 3), (⟨"PaidSecrets$Collector", mm_w0, "(IIII)V"⟩, 3), (⟨"PaidSecrets", "findLeaks", "()V"⟩, 20), (⟨"PaidSecrets", "explains", "(I)Z"⟩, 20)]
theorem lw_r1 : ∀ q ∈ lw_privs_1, lw_okq q := List.forall_mem_cons.mpr ⟨lw_p0, List.forall_mem_cons.mpr ⟨lw_p1, List.forall_mem_cons.mpr ⟨lw_p2, List.forall_mem_cons.mpr ⟨lw_p3, List.forall_mem_cons.mpr ⟨lw_p4, List.forall_mem_cons.mpr ⟨lw_p5, List.forall_mem_cons.mpr ⟨lw_p6, List.forall_mem_cons.mpr ⟨lw_p7, List.forall_mem_cons.mpr ⟨lw_p8, List.forall_mem_cons.mpr ⟨lw_p9, List.forall_mem_cons.mpr ⟨lw_p10, List.forall_mem_cons.mpr ⟨lw_p11, List.forall_mem_cons.mpr ⟨lw_p12, List.forall_mem_cons.mpr ⟨lw_p13, List.forall_mem_cons.mpr ⟨lw_p14, List.forall_mem_cons.mpr ⟨lw_p15, fun _ h => absurd h List.not_mem_nil⟩⟩⟩⟩⟩⟩⟩⟩⟩⟩⟩⟩⟩⟩⟩⟩
theorem lw_p16 : lw_okq (⟨"PaidSecrets", "findLies", "()V"⟩, 20) := ⟨⟨by decide +kernel, by decide +kernel⟩, List.mem_of_getElem? (i := 29) (by decide +kernel), List.mem_of_getElem? (i := 998) (by decide +kernel), List.mem_of_getElem? (i := 999) (by decide +kernel)⟩
theorem lw_p17 : lw_okq (⟨"PaidSecrets", "passNights", "(II)Z"⟩, 20) := ⟨⟨by decide +kernel, by decide +kernel⟩, List.mem_of_getElem? (i := 29) (by decide +kernel), List.mem_of_getElem? (i := 1010) (by decide +kernel), List.mem_of_getElem? (i := 1011) (by decide +kernel)⟩
theorem lw_p18 : lw_okq (⟨"PaidSecrets$Nights", "passOne", "(LPaidSecrets$Town;)V"⟩, 4) := ⟨⟨by decide +kernel, by decide +kernel⟩, List.mem_of_getElem? (i := 211) (by decide +kernel), List.mem_of_getElem? (i := 1020) (by decide +kernel), List.mem_of_getElem? (i := 1021) (by decide +kernel)⟩
theorem lw_p19 : lw_okq (⟨"PaidSecrets$Nights", "listen", "(LPaidSecrets$Town;I)V"⟩, 4) := ⟨⟨by decide +kernel, by decide +kernel⟩, List.mem_of_getElem? (i := 211) (by decide +kernel), List.mem_of_getElem? (i := 1024) (by decide +kernel), List.mem_of_getElem? (i := 1025) (by decide +kernel)⟩
theorem lw_p20 : lw_okq (⟨"PaidSecrets$Nights", "spread", "(LPaidSecrets$Town;II)V"⟩, 4) := ⟨⟨by decide +kernel, by decide +kernel⟩, List.mem_of_getElem? (i := 211) (by decide +kernel), List.mem_of_getElem? (i := 1033) (by decide +kernel), List.mem_of_getElem? (i := 1034) (by decide +kernel)⟩
theorem lw_p21 : lw_okq (⟨"PaidSecrets$Nights", "share", "(LPaidSecrets$Town;II)J"⟩, 4) := ⟨⟨by decide +kernel, by decide +kernel⟩, List.mem_of_getElem? (i := 211) (by decide +kernel), List.mem_of_getElem? (i := 1037) (by decide +kernel), List.mem_of_getElem? (i := 1038) (by decide +kernel)⟩
theorem lw_p22 : lw_okq (⟨"PaidSecrets$Feast", "choose", "(I)Z"⟩, 3) := ⟨⟨by decide +kernel, by decide +kernel⟩, List.mem_of_getElem? (i := 195) (by decide +kernel), List.mem_of_getElem? (i := 1084) (by decide +kernel), List.mem_of_getElem? (i := 1085) (by decide +kernel)⟩
theorem lw_p23 : lw_okq (⟨"PaidSecrets$Feast", "mayChoose", "(II)Z"⟩, 3) := ⟨⟨by decide +kernel, by decide +kernel⟩, List.mem_of_getElem? (i := 195) (by decide +kernel), List.mem_of_getElem? (i := 1088) (by decide +kernel), List.mem_of_getElem? (i := 1089) (by decide +kernel)⟩
theorem lw_p24 : lw_okq (⟨"PaidSecrets$Feast", "rest", "([I)Z"⟩, 3) := ⟨⟨by decide +kernel, by decide +kernel⟩, List.mem_of_getElem? (i := 195) (by decide +kernel), List.mem_of_getElem? (i := 1092) (by decide +kernel), List.mem_of_getElem? (i := 1093) (by decide +kernel)⟩
theorem lw_p25 : lw_okq (⟨"PaidSecrets$Feast", "share", "(II[I)I"⟩, 3) := ⟨⟨by decide +kernel, by decide +kernel⟩, List.mem_of_getElem? (i := 195) (by decide +kernel), List.mem_of_getElem? (i := 1096) (by decide +kernel), List.mem_of_getElem? (i := 1097) (by decide +kernel)⟩
theorem lw_p26 : lw_okq (⟨"PaidSecrets", "live", "(II)V"⟩, 20) := ⟨⟨by decide +kernel, by decide +kernel⟩, List.mem_of_getElem? (i := 29) (by decide +kernel), List.mem_of_getElem? (i := 1104) (by decide +kernel), List.mem_of_getElem? (i := 1105) (by decide +kernel)⟩
theorem lw_p27 : lw_okq (⟨"PaidSecrets", "useEar", "(II)I"⟩, 20) := ⟨⟨by decide +kernel, by decide +kernel⟩, List.mem_of_getElem? (i := 29) (by decide +kernel), List.mem_of_getElem? (i := 1108) (by decide +kernel), List.mem_of_getElem? (i := 1109) (by decide +kernel)⟩
theorem lw_p28 : lw_okq (⟨"PaidSecrets", "draw", "(I)I"⟩, 20) := ⟨⟨by decide +kernel, by decide +kernel⟩, List.mem_of_getElem? (i := 29) (by decide +kernel), List.mem_of_getElem? (i := 1112) (by decide +kernel), List.mem_of_getElem? (i := 1113) (by decide +kernel)⟩
theorem lw_p29 : lw_okq (⟨"PaidSecrets", "quarterDay", "()I"⟩, 20) := ⟨⟨by decide +kernel, by decide +kernel⟩, List.mem_of_getElem? (i := 29) (by decide +kernel), List.mem_of_getElem? (i := 1120) (by decide +kernel), List.mem_of_getElem? (i := 1121) (by decide +kernel)⟩
theorem lw_p30 : lw_okq (⟨"java/lang/Throwable", "fillInStackTrace", "(I)Ljava/lang/Throwable;"⟩, 6) := ⟨⟨by decide +kernel, by decide +kernel⟩, List.mem_of_getElem? (i := 1181) (by decide +kernel), List.mem_of_getElem? (i := 1179) (by decide +kernel), List.mem_of_getElem? (i := 1180) (by decide +kernel)⟩
theorem lw_p31 : lw_okq (⟨"PaidSecrets", "scheme", "(III)V"⟩, 20) := ⟨⟨by decide +kernel, by decide +kernel⟩, List.mem_of_getElem? (i := 29) (by decide +kernel), List.mem_of_getElem? (i := 1214) (by decide +kernel), List.mem_of_getElem? (i := 1215) (by decide +kernel)⟩
def lw_privs_2 : List (MethodName × Nat) := [(⟨"PaidSecrets", "findLies", "()V"⟩, 20), (⟨"PaidSecrets", "passNights", "(II)Z"⟩, 20), (⟨"PaidSecrets$Nights", "passOne", "(LPaidSecrets$Town;)V"⟩, 4), (⟨"PaidSecrets$Nights", "listen", "(LPaidSecrets$Town;I)V"⟩, 4), (⟨"PaidSecrets$Nights", "spread", "(LPaidSecrets$Town;II)V"⟩, 4), (⟨"PaidSecrets$Nights", "share", "(LPaidSecrets$Town;II)J"⟩, 4), (⟨"PaidSecrets$Feast", "choose", "(I)Z"⟩, 3), (⟨"PaidSecrets$Feast", "mayChoose", "(II)Z"⟩, 3), (⟨"PaidSecrets$Feast", "rest", "([I)Z"⟩, 3), (⟨"PaidSecrets$Feast", "share", "(II[I)I"⟩, 3), (⟨"PaidSecrets", "live", "(II)V"⟩, 20), (⟨"PaidSecrets", "useEar", "(II)I"⟩, 20), (⟨"PaidSecrets", "draw", "(I)I"⟩, 20), (⟨"PaidSecrets", "quarterDay", "()I"⟩, 20), (⟨"java/lang/Throwable", "fillInStackTrace", "(I)Ljava/lang/Throwable;"⟩, 6), (⟨"PaidSecrets", "scheme", "(III)V"⟩, 20)]
theorem lw_r2 : ∀ q ∈ lw_privs_2, lw_okq q := List.forall_mem_cons.mpr ⟨lw_p16, List.forall_mem_cons.mpr ⟨lw_p17, List.forall_mem_cons.mpr ⟨lw_p18, List.forall_mem_cons.mpr ⟨lw_p19, List.forall_mem_cons.mpr ⟨lw_p20, List.forall_mem_cons.mpr ⟨lw_p21, List.forall_mem_cons.mpr ⟨lw_p22, List.forall_mem_cons.mpr ⟨lw_p23, List.forall_mem_cons.mpr ⟨lw_p24, List.forall_mem_cons.mpr ⟨lw_p25, List.forall_mem_cons.mpr ⟨lw_p26, List.forall_mem_cons.mpr ⟨lw_p27, List.forall_mem_cons.mpr ⟨lw_p28, List.forall_mem_cons.mpr ⟨lw_p29, List.forall_mem_cons.mpr ⟨lw_p30, List.forall_mem_cons.mpr ⟨lw_p31, fun _ h => absurd h List.not_mem_nil⟩⟩⟩⟩⟩⟩⟩⟩⟩⟩⟩⟩⟩⟩⟩⟩
theorem lw_p32 : lw_okq (⟨"PaidSecrets", "fillLawful", "()V"⟩, 20) := ⟨⟨by decide +kernel, by decide +kernel⟩, List.mem_of_getElem? (i := 29) (by decide +kernel), List.mem_of_getElem? (i := 1218) (by decide +kernel), List.mem_of_getElem? (i := 1219) (by decide +kernel)⟩
theorem lw_p33 : lw_okq (⟨"PaidSecrets", "gain", "(II)I"⟩, 20) := ⟨⟨by decide +kernel, by decide +kernel⟩, List.mem_of_getElem? (i := 29) (by decide +kernel), List.mem_of_getElem? (i := 1223) (by decide +kernel), List.mem_of_getElem? (i := 1224) (by decide +kernel)⟩
theorem lw_p34 : lw_okq (⟨"PaidSecrets", "tryFirst", "(IIII)V"⟩, 20) := ⟨⟨by decide +kernel, by decide +kernel⟩, List.mem_of_getElem? (i := 29) (by decide +kernel), List.mem_of_getElem? (i := 1227) (by decide +kernel), List.mem_of_getElem? (i := 1228) (by decide +kernel)⟩
theorem lw_p35 : lw_okq (⟨"PaidSecrets", "keepGain", "(IIII)V"⟩, 20) := ⟨⟨by decide +kernel, by decide +kernel⟩, List.mem_of_getElem? (i := 29) (by decide +kernel), List.mem_of_getElem? (i := 1231) (by decide +kernel), List.mem_of_getElem? (i := 1232) (by decide +kernel)⟩
theorem lw_p36 : lw_okq (⟨"PaidSecrets", "trySeconds", "(III)V"⟩, 20) := ⟨⟨by decide +kernel, by decide +kernel⟩, List.mem_of_getElem? (i := 29) (by decide +kernel), List.mem_of_getElem? (i := 1235) (by decide +kernel), List.mem_of_getElem? (i := 1236) (by decide +kernel)⟩
theorem lw_p37 : lw_okq (⟨"PaidSecretsModel", "readsAll", "()Z"⟩, 70) := ⟨⟨by decide +kernel, by decide +kernel⟩, List.mem_of_getElem? (i := 1243) (by decide +kernel), List.mem_of_getElem? (i := 1475) (by decide +kernel), List.mem_of_getElem? (i := 1476) (by decide +kernel)⟩
theorem lw_p38 : lw_okq (⟨"PaidSecretsModel", "starts", "()V"⟩, 70) := ⟨⟨by decide +kernel, by decide +kernel⟩, List.mem_of_getElem? (i := 1243) (by decide +kernel), List.mem_of_getElem? (i := 1479) (by decide +kernel), List.mem_of_getElem? (i := 1480) (by decide +kernel)⟩
theorem lw_p39 : lw_okq (⟨"PaidSecretsModel", "nextToken", "()V"⟩, 70) := ⟨⟨by decide +kernel, by decide +kernel⟩, List.mem_of_getElem? (i := 1243) (by decide +kernel), List.mem_of_getElem? (i := 1483) (by decide +kernel), List.mem_of_getElem? (i := 1484) (by decide +kernel)⟩
theorem lw_p40 : lw_okq (⟨"PaidSecretsModel", "signAt", "(I)I"⟩, 70) := ⟨⟨by decide +kernel, by decide +kernel⟩, List.mem_of_getElem? (i := 1243) (by decide +kernel), List.mem_of_getElem? (i := 1487) (by decide +kernel), List.mem_of_getElem? (i := 1488) (by decide +kernel)⟩
theorem lw_p41 : lw_okq (⟨"PaidSecretsModel", "isWord", "(J)Z"⟩, 70) := ⟨⟨by decide +kernel, by decide +kernel⟩, List.mem_of_getElem? (i := 1243) (by decide +kernel), List.mem_of_getElem? (i := 1494) (by decide +kernel), List.mem_of_getElem? (i := 1495) (by decide +kernel)⟩
theorem lw_p42 : lw_okq (⟨"PaidSecretsModel", "readsPerson", "()Z"⟩, 70) := ⟨⟨by decide +kernel, by decide +kernel⟩, List.mem_of_getElem? (i := 1243) (by decide +kernel), List.mem_of_getElem? (i := 1498) (by decide +kernel), List.mem_of_getElem? (i := 1499) (by decide +kernel)⟩
theorem lw_p43 : lw_okq (⟨"PaidSecretsModel", "fails", "(I)Z"⟩, 70) := ⟨⟨by decide +kernel, by decide +kernel⟩, List.mem_of_getElem? (i := 1243) (by decide +kernel), List.mem_of_getElem? (i := 1502) (by decide +kernel), List.mem_of_getElem? (i := 1503) (by decide +kernel)⟩
theorem lw_p44 : lw_okq (⟨"PaidSecretsModel", "isNew", "()Z"⟩, 70) := ⟨⟨by decide +kernel, by decide +kernel⟩, List.mem_of_getElem? (i := 1243) (by decide +kernel), List.mem_of_getElem? (i := 1506) (by decide +kernel), List.mem_of_getElem? (i := 1507) (by decide +kernel)⟩
theorem lw_p45 : lw_okq (⟨"PaidSecretsModel", "isKept", "()Z"⟩, 70) := ⟨⟨by decide +kernel, by decide +kernel⟩, List.mem_of_getElem? (i := 1243) (by decide +kernel), List.mem_of_getElem? (i := 1510) (by decide +kernel), List.mem_of_getElem? (i := 1511) (by decide +kernel)⟩
theorem lw_p46 : lw_okq (⟨"PaidSecretsModel", "personNamed", "(I)I"⟩, 70) := ⟨⟨by decide +kernel, by decide +kernel⟩, List.mem_of_getElem? (i := 1243) (by decide +kernel), List.mem_of_getElem? (i := 1537) (by decide +kernel), List.mem_of_getElem? (i := 1538) (by decide +kernel)⟩
theorem lw_p47 : lw_okq (⟨"PaidSecretsModel", "secretNamed", "(I)I"⟩, 70) := ⟨⟨by decide +kernel, by decide +kernel⟩, List.mem_of_getElem? (i := 1243) (by decide +kernel), List.mem_of_getElem? (i := 1544) (by decide +kernel), List.mem_of_getElem? (i := 1545) (by decide +kernel)⟩
def lw_privs_3 : List (MethodName × Nat) := [(⟨"PaidSecrets", "fillLawful", "()V"⟩, 20), (⟨"PaidSecrets", "gain", "(II)I"⟩, 20), (⟨"PaidSecrets", "tryFirst", "(IIII)V"⟩, 20), (⟨"PaidSecrets", "keepGain", "(IIII)V"⟩, 20), (⟨"PaidSecrets", "trySeconds", "(III)V"⟩, 20), (⟨"PaidSecretsModel", "readsAll", "()Z"⟩, 70), (⟨"PaidSecretsModel", "starts", "()V"⟩, 70), (⟨"PaidSecretsModel", "nextToken", "()V"⟩, 70), (⟨"PaidSecretsModel", "signAt", "(I)I"⟩, 70), (⟨"PaidSecretsModel", "isWord", "(J)Z"⟩, 70), (⟨"PaidSecretsModel", "readsPerson", "()Z"⟩, 70), (⟨"PaidSecretsModel", "fails", "(I)Z"⟩, 70), (⟨"PaidSecretsModel", "isNew", "()Z"⟩, 70), (⟨"PaidSecretsModel", "isKept", "()Z"⟩, 70), (⟨"PaidSecretsModel", "personNamed", "(I)I"⟩, 70), (⟨"PaidSecretsModel", "secretNamed", "(I)I"⟩, 70)]
theorem lw_r3 : ∀ q ∈ lw_privs_3, lw_okq q := List.forall_mem_cons.mpr ⟨lw_p32, List.forall_mem_cons.mpr ⟨lw_p33, List.forall_mem_cons.mpr ⟨lw_p34, List.forall_mem_cons.mpr ⟨lw_p35, List.forall_mem_cons.mpr ⟨lw_p36, List.forall_mem_cons.mpr ⟨lw_p37, List.forall_mem_cons.mpr ⟨lw_p38, List.forall_mem_cons.mpr ⟨lw_p39, List.forall_mem_cons.mpr ⟨lw_p40, List.forall_mem_cons.mpr ⟨lw_p41, List.forall_mem_cons.mpr ⟨lw_p42, List.forall_mem_cons.mpr ⟨lw_p43, List.forall_mem_cons.mpr ⟨lw_p44, List.forall_mem_cons.mpr ⟨lw_p45, List.forall_mem_cons.mpr ⟨lw_p46, List.forall_mem_cons.mpr ⟨lw_p47, fun _ h => absurd h List.not_mem_nil⟩⟩⟩⟩⟩⟩⟩⟩⟩⟩⟩⟩⟩⟩⟩⟩
theorem lw_p48 : lw_okq (⟨"PaidSecretsModel", "needsBoth", "(JII)Z"⟩, 70) := ⟨⟨by decide +kernel, by decide +kernel⟩, List.mem_of_getElem? (i := 1243) (by decide +kernel), List.mem_of_getElem? (i := 1548) (by decide +kernel), List.mem_of_getElem? (i := 1549) (by decide +kernel)⟩
theorem lw_p49 : lw_okq (⟨"PaidSecretsModel", "needsWord", "(J)Z"⟩, 70) := ⟨⟨by decide +kernel, by decide +kernel⟩, List.mem_of_getElem? (i := 1243) (by decide +kernel), List.mem_of_getElem? (i := 1552) (by decide +kernel), List.mem_of_getElem? (i := 1553) (by decide +kernel)⟩
theorem lw_p50 : lw_okq (⟨"PaidSecretsModel", "needsNumber", "(II)Z"⟩, 70) := ⟨⟨by decide +kernel, by decide +kernel⟩, List.mem_of_getElem? (i := 1243) (by decide +kernel), List.mem_of_getElem? (i := 1556) (by decide +kernel), List.mem_of_getElem? (i := 1557) (by decide +kernel)⟩
theorem lw_p51 : lw_okq (⟨"PaidSecretsModel", "closes", "()Z"⟩, 70) := ⟨⟨by decide +kernel, by decide +kernel⟩, List.mem_of_getElem? (i := 1243) (by decide +kernel), List.mem_of_getElem? (i := 1563) (by decide +kernel), List.mem_of_getElem? (i := 1564) (by decide +kernel)⟩
theorem lw_p52 : lw_okq (⟨"PaidSecretsModel", "isSign", "(I)Z"⟩, 70) := ⟨⟨by decide +kernel, by decide +kernel⟩, List.mem_of_getElem? (i := 1243) (by decide +kernel), List.mem_of_getElem? (i := 1567) (by decide +kernel), List.mem_of_getElem? (i := 1568) (by decide +kernel)⟩
theorem lw_p53 : lw_okq (⟨"PaidSecretsModel", "readsSecret", "()Z"⟩, 70) := ⟨⟨by decide +kernel, by decide +kernel⟩, List.mem_of_getElem? (i := 1243) (by decide +kernel), List.mem_of_getElem? (i := 1571) (by decide +kernel), List.mem_of_getElem? (i := 1572) (by decide +kernel)⟩
theorem lw_p54 : lw_okq (⟨"PaidSecretsModel", "needsPerson", "(I)Z"⟩, 70) := ⟨⟨by decide +kernel, by decide +kernel⟩, List.mem_of_getElem? (i := 1243) (by decide +kernel), List.mem_of_getElem? (i := 1575) (by decide +kernel), List.mem_of_getElem? (i := 1576) (by decide +kernel)⟩
theorem lw_p55 : lw_okq (⟨"PaidSecretsModel", "needsSecret", "(I)Z"⟩, 70) := ⟨⟨by decide +kernel, by decide +kernel⟩, List.mem_of_getElem? (i := 1243) (by decide +kernel), List.mem_of_getElem? (i := 1579) (by decide +kernel), List.mem_of_getElem? (i := 1580) (by decide +kernel)⟩
theorem lw_p56 : lw_okq (⟨"PaidSecretsModel", "readsKnowers", "(I)Z"⟩, 70) := ⟨⟨by decide +kernel, by decide +kernel⟩, List.mem_of_getElem? (i := 1243) (by decide +kernel), List.mem_of_getElem? (i := 1583) (by decide +kernel), List.mem_of_getElem? (i := 1584) (by decide +kernel)⟩
theorem lw_p57 : lw_okq (⟨"PaidSecretsModel", "readsEar", "()Z"⟩, 70) := ⟨⟨by decide +kernel, by decide +kernel⟩, List.mem_of_getElem? (i := 1243) (by decide +kernel), List.mem_of_getElem? (i := 1587) (by decide +kernel), List.mem_of_getElem? (i := 1588) (by decide +kernel)⟩
theorem lw_p58 : lw_okq (⟨"PaidSecretsModel", "readsClash", "()Z"⟩, 70) := ⟨⟨by decide +kernel, by decide +kernel⟩, List.mem_of_getElem? (i := 1243) (by decide +kernel), List.mem_of_getElem? (i := 1591) (by decide +kernel), List.mem_of_getElem? (i := 1592) (by decide +kernel)⟩
theorem lw_p59 : lw_okq (⟨"PaidSecretsModel", "readsWorth", "()Z"⟩, 70) := ⟨⟨by decide +kernel, by decide +kernel⟩, List.mem_of_getElem? (i := 1243) (by decide +kernel), List.mem_of_getElem? (i := 1595) (by decide +kernel), List.mem_of_getElem? (i := 1596) (by decide +kernel)⟩
theorem lw_p60 : lw_okq (⟨"PaidSecretsModel", "reads", "()Z"⟩, 70) := ⟨⟨by decide +kernel, by decide +kernel⟩, List.mem_of_getElem? (i := 1243) (by decide +kernel), List.mem_of_getElem? (i := 1599) (by decide +kernel), List.mem_of_getElem? (i := 1600) (by decide +kernel)⟩
theorem lw_p61 : lw_okq (⟨"PaidSecretsModel", "fact", "()I"⟩, 70) := ⟨⟨by decide +kernel, by decide +kernel⟩, List.mem_of_getElem? (i := 1243) (by decide +kernel), List.mem_of_getElem? (i := 1603) (by decide +kernel), List.mem_of_getElem? (i := 1604) (by decide +kernel)⟩
theorem lw_p62 : lw_okq (⟨"PaidSecretsModel", "puts", "(I)V"⟩, 70) := ⟨⟨by decide +kernel, by decide +kernel⟩, List.mem_of_getElem? (i := 1243) (by decide +kernel), List.mem_of_getElem? (i := 1611) (by decide +kernel), List.mem_of_getElem? (i := 1612) (by decide +kernel)⟩
theorem lw_p63 : lw_okq (⟨"PaidSecretsModel", "lays", "()V"⟩, 70) := ⟨⟨by decide +kernel, by decide +kernel⟩, List.mem_of_getElem? (i := 1243) (by decide +kernel), List.mem_of_getElem? (i := 1615) (by decide +kernel), List.mem_of_getElem? (i := 1616) (by decide +kernel)⟩
def lw_privs_4 : List (MethodName × Nat) := [(⟨"PaidSecretsModel", "needsBoth", "(JII)Z"⟩, 70), (⟨"PaidSecretsModel", "needsWord", "(J)Z"⟩, 70), (⟨"PaidSecretsModel", "needsNumber", "(II)Z"⟩, 70), (⟨"PaidSecretsModel", "closes", "()Z"⟩, 70), (⟨"PaidSecretsModel", "isSign", "(I)Z"⟩, 70), (⟨"PaidSecretsModel", "readsSecret", "()Z"⟩, 70), (⟨"PaidSecretsModel", "needsPerson", "(I)Z"⟩, 70), (⟨"PaidSecretsModel", "needsSecret", "(I)Z"⟩, 70), (⟨"PaidSecretsModel", "readsKnowers", "(I)Z"⟩, 70), (⟨"PaidSecretsModel", "readsEar", "()Z"⟩, 70), (⟨"PaidSecretsModel", "readsClash", "()Z"⟩, 70), (⟨"PaidSecretsModel", "readsWorth", "()Z"⟩, 70), (⟨"PaidSecretsModel", "reads", "()Z"⟩, 70), (⟨"PaidSecretsModel", "fact", "()I"⟩, 70), (⟨"PaidSecretsModel", "puts", "(I)V"⟩, 70), (⟨"PaidSecretsModel", "lays", "()V"⟩, 70)]
theorem lw_r4 : ∀ q ∈ lw_privs_4, lw_okq q := List.forall_mem_cons.mpr ⟨lw_p48, List.forall_mem_cons.mpr ⟨lw_p49, List.forall_mem_cons.mpr ⟨lw_p50, List.forall_mem_cons.mpr ⟨lw_p51, List.forall_mem_cons.mpr ⟨lw_p52, List.forall_mem_cons.mpr ⟨lw_p53, List.forall_mem_cons.mpr ⟨lw_p54, List.forall_mem_cons.mpr ⟨lw_p55, List.forall_mem_cons.mpr ⟨lw_p56, List.forall_mem_cons.mpr ⟨lw_p57, List.forall_mem_cons.mpr ⟨lw_p58, List.forall_mem_cons.mpr ⟨lw_p59, List.forall_mem_cons.mpr ⟨lw_p60, List.forall_mem_cons.mpr ⟨lw_p61, List.forall_mem_cons.mpr ⟨lw_p62, List.forall_mem_cons.mpr ⟨lw_p63, fun _ h => absurd h List.not_mem_nil⟩⟩⟩⟩⟩⟩⟩⟩⟩⟩⟩⟩⟩⟩⟩⟩
theorem lw_p64 : lw_okq (⟨"PaidSecretsModel", "fresh", "()V"⟩, 70) := ⟨⟨by decide +kernel, by decide +kernel⟩, List.mem_of_getElem? (i := 1243) (by decide +kernel), List.mem_of_getElem? (i := 1625) (by decide +kernel), List.mem_of_getElem? (i := 1626) (by decide +kernel)⟩
theorem lw_p65 : lw_okq (⟨"PaidSecretsModel", "readsLine", "()Z"⟩, 70) := ⟨⟨by decide +kernel, by decide +kernel⟩, List.mem_of_getElem? (i := 1243) (by decide +kernel), List.mem_of_getElem? (i := 1633) (by decide +kernel), List.mem_of_getElem? (i := 1634) (by decide +kernel)⟩
theorem lw_p66 : lw_okq (⟨"PaidSecretsModel", "readsTelling", "(I)Z"⟩, 70) := ⟨⟨by decide +kernel, by decide +kernel⟩, List.mem_of_getElem? (i := 1243) (by decide +kernel), List.mem_of_getElem? (i := 1637) (by decide +kernel), List.mem_of_getElem? (i := 1638) (by decide +kernel)⟩
theorem lw_p67 : lw_okq (⟨"PaidSecretsModel", "readsPayment", "(I)Z"⟩, 70) := ⟨⟨by decide +kernel, by decide +kernel⟩, List.mem_of_getElem? (i := 1243) (by decide +kernel), List.mem_of_getElem? (i := 1641) (by decide +kernel), List.mem_of_getElem? (i := 1642) (by decide +kernel)⟩
theorem lw_p68 : lw_okq (⟨"PaidSecretsModel", "readsRise", "(I)Z"⟩, 70) := ⟨⟨by decide +kernel, by decide +kernel⟩, List.mem_of_getElem? (i := 1243) (by decide +kernel), List.mem_of_getElem? (i := 1645) (by decide +kernel), List.mem_of_getElem? (i := 1646) (by decide +kernel)⟩
theorem lw_p69 : lw_okq (⟨"PaidSecretsModel", "laysLines", "(II)V"⟩, 70) := ⟨⟨by decide +kernel, by decide +kernel⟩, List.mem_of_getElem? (i := 1243) (by decide +kernel), List.mem_of_getElem? (i := 1649) (by decide +kernel), List.mem_of_getElem? (i := 1650) (by decide +kernel)⟩
theorem lw_p70 : lw_okq (⟨"PaidSecretsModel", "isPerson", "(I)Z"⟩, 70) := ⟨⟨by decide +kernel, by decide +kernel⟩, List.mem_of_getElem? (i := 1243) (by decide +kernel), List.mem_of_getElem? (i := 1657) (by decide +kernel), List.mem_of_getElem? (i := 1658) (by decide +kernel)⟩
theorem lw_p71 : lw_okq (⟨"PaidSecretsModel", "knownBy", "(I)I"⟩, 70) := ⟨⟨by decide +kernel, by decide +kernel⟩, List.mem_of_getElem? (i := 1243) (by decide +kernel), List.mem_of_getElem? (i := 1661) (by decide +kernel), List.mem_of_getElem? (i := 1662) (by decide +kernel)⟩
theorem lw_p72 : lw_okq (⟨"PaidSecretsModel", "purse", "(I)I"⟩, 70) := ⟨⟨by decide +kernel, by decide +kernel⟩, List.mem_of_getElem? (i := 1243) (by decide +kernel), List.mem_of_getElem? (i := 1665) (by decide +kernel), List.mem_of_getElem? (i := 1666) (by decide +kernel)⟩
theorem lw_p73 : lw_okq (⟨"PaidSecretsModel", "worthsOf", "(I)I"⟩, 70) := ⟨⟨by decide +kernel, by decide +kernel⟩, List.mem_of_getElem? (i := 1243) (by decide +kernel), List.mem_of_getElem? (i := 1669) (by decide +kernel), List.mem_of_getElem? (i := 1670) (by decide +kernel)⟩
theorem lw_p74 : lw_okq (⟨"PaidSecretsModel", "worthOf", "(I)I"⟩, 70) := ⟨⟨by decide +kernel, by decide +kernel⟩, List.mem_of_getElem? (i := 1243) (by decide +kernel), List.mem_of_getElem? (i := 1673) (by decide +kernel), List.mem_of_getElem? (i := 1674) (by decide +kernel)⟩
theorem lw_p75 : lw_okq (⟨"PaidSecretsModel", "baseOf", "(II)I"⟩, 70) := ⟨⟨by decide +kernel, by decide +kernel⟩, List.mem_of_getElem? (i := 1243) (by decide +kernel), List.mem_of_getElem? (i := 1677) (by decide +kernel), List.mem_of_getElem? (i := 1678) (by decide +kernel)⟩
theorem lw_p76 : lw_okq (⟨"PaidSecretsModel", "knowersOf", "(I)I"⟩, 70) := ⟨⟨by decide +kernel, by decide +kernel⟩, List.mem_of_getElem? (i := 1243) (by decide +kernel), List.mem_of_getElem? (i := 1681) (by decide +kernel), List.mem_of_getElem? (i := 1682) (by decide +kernel)⟩
theorem lw_p77 : lw_okq (⟨"PaidSecretsModel", "worked", "(I)I"⟩, 70) := ⟨⟨by decide +kernel, by decide +kernel⟩, List.mem_of_getElem? (i := 1243) (by decide +kernel), List.mem_of_getElem? (i := 1686) (by decide +kernel), List.mem_of_getElem? (i := 1687) (by decide +kernel)⟩
theorem lw_p78 : lw_okq (⟨"PaidSecretsModel", "opens", "(I)V"⟩, 70) := ⟨⟨by decide +kernel, by decide +kernel⟩, List.mem_of_getElem? (i := 1243) (by decide +kernel), List.mem_of_getElem? (i := 1690) (by decide +kernel), List.mem_of_getElem? (i := 1691) (by decide +kernel)⟩
theorem lw_p79 : lw_okq (⟨"PaidSecretsModel", "sums", "(I)V"⟩, 70) := ⟨⟨by decide +kernel, by decide +kernel⟩, List.mem_of_getElem? (i := 1243) (by decide +kernel), List.mem_of_getElem? (i := 1694) (by decide +kernel), List.mem_of_getElem? (i := 1695) (by decide +kernel)⟩
def lw_privs_5 : List (MethodName × Nat) := [(⟨"PaidSecretsModel", "fresh", "()V"⟩, 70), (⟨"PaidSecretsModel", "readsLine", "()Z"⟩, 70), (⟨"PaidSecretsModel", "readsTelling", "(I)Z"⟩, 70), (⟨"PaidSecretsModel", "readsPayment", "(I)Z"⟩, 70), (⟨"PaidSecretsModel", "readsRise", "(I)Z"⟩, 70), (⟨"PaidSecretsModel", "laysLines", "(II)V"⟩, 70), (⟨"PaidSecretsModel", "isPerson", "(I)Z"⟩, 70), (⟨"PaidSecretsModel", "knownBy", "(I)I"⟩, 70), (⟨"PaidSecretsModel", "purse", "(I)I"⟩, 70), (⟨"PaidSecretsModel", "worthsOf", "(I)I"⟩, 70), (⟨"PaidSecretsModel", "worthOf", "(I)I"⟩, 70), (⟨"PaidSecretsModel", "baseOf", "(II)I"⟩, 70), (⟨"PaidSecretsModel", "knowersOf", "(I)I"⟩, 70), (⟨"PaidSecretsModel", "worked", "(I)I"⟩, 70), (⟨"PaidSecretsModel", "opens", "(I)V"⟩, 70), (⟨"PaidSecretsModel", "sums", "(I)V"⟩, 70)]
theorem lw_r5 : ∀ q ∈ lw_privs_5, lw_okq q := List.forall_mem_cons.mpr ⟨lw_p64, List.forall_mem_cons.mpr ⟨lw_p65, List.forall_mem_cons.mpr ⟨lw_p66, List.forall_mem_cons.mpr ⟨lw_p67, List.forall_mem_cons.mpr ⟨lw_p68, List.forall_mem_cons.mpr ⟨lw_p69, List.forall_mem_cons.mpr ⟨lw_p70, List.forall_mem_cons.mpr ⟨lw_p71, List.forall_mem_cons.mpr ⟨lw_p72, List.forall_mem_cons.mpr ⟨lw_p73, List.forall_mem_cons.mpr ⟨lw_p74, List.forall_mem_cons.mpr ⟨lw_p75, List.forall_mem_cons.mpr ⟨lw_p76, List.forall_mem_cons.mpr ⟨lw_p77, List.forall_mem_cons.mpr ⟨lw_p78, List.forall_mem_cons.mpr ⟨lw_p79, fun _ h => absurd h List.not_mem_nil⟩⟩⟩⟩⟩⟩⟩⟩⟩⟩⟩⟩⟩⟩⟩⟩
theorem lw_p80 : lw_okq (⟨"PaidSecretsModel", "tests", "(I)V"⟩, 70) := ⟨⟨by decide +kernel, by decide +kernel⟩, List.mem_of_getElem? (i := 1243) (by decide +kernel), List.mem_of_getElem? (i := 1698) (by decide +kernel), List.mem_of_getElem? (i := 1699) (by decide +kernel)⟩
theorem lw_p81 : lw_okq (⟨"PaidSecretsModel", "net", "(I)I"⟩, 70) := ⟨⟨by decide +kernel, by decide +kernel⟩, List.mem_of_getElem? (i := 1243) (by decide +kernel), List.mem_of_getElem? (i := 1705) (by decide +kernel), List.mem_of_getElem? (i := 1706) (by decide +kernel)⟩
theorem lw_p82 : lw_okq (⟨"PaidSecretsModel", "isSecret", "(I)Z"⟩, 70) := ⟨⟨by decide +kernel, by decide +kernel⟩, List.mem_of_getElem? (i := 1243) (by decide +kernel), List.mem_of_getElem? (i := 1713) (by decide +kernel), List.mem_of_getElem? (i := 1714) (by decide +kernel)⟩
theorem lw_p83 : lw_okq (⟨"PaidSecretsModel", "areTwo", "(II)Z"⟩, 70) := ⟨⟨by decide +kernel, by decide +kernel⟩, List.mem_of_getElem? (i := 1243) (by decide +kernel), List.mem_of_getElem? (i := 1721) (by decide +kernel), List.mem_of_getElem? (i := 1722) (by decide +kernel)⟩
theorem lw_p84 : lw_okq (⟨"PaidSecretsModel", "chanceOf", "(I)I"⟩, 70) := ⟨⟨by decide +kernel, by decide +kernel⟩, List.mem_of_getElem? (i := 1243) (by decide +kernel), List.mem_of_getElem? (i := 1729) (by decide +kernel), List.mem_of_getElem? (i := 1730) (by decide +kernel)⟩
theorem lw_p85 : lw_okq (⟨"PaidSecretsModel", "canTell", "(III)Z"⟩, 70) := ⟨⟨by decide +kernel, by decide +kernel⟩, List.mem_of_getElem? (i := 1243) (by decide +kernel), List.mem_of_getElem? (i := 1738) (by decide +kernel), List.mem_of_getElem? (i := 1739) (by decide +kernel)⟩
theorem lw_p86 : lw_okq (⟨"PaidSecretsModel", "speaks", "(I)Z"⟩, 70) := ⟨⟨by decide +kernel, by decide +kernel⟩, List.mem_of_getElem? (i := 1243) (by decide +kernel), List.mem_of_getElem? (i := 1742) (by decide +kernel), List.mem_of_getElem? (i := 1743) (by decide +kernel)⟩
theorem lw_p87 : lw_okq (⟨"PaidSecretsModel", "keeps", "()V"⟩, 70) := ⟨⟨by decide +kernel, by decide +kernel⟩, List.mem_of_getElem? (i := 1243) (by decide +kernel), List.mem_of_getElem? (i := 1746) (by decide +kernel), List.mem_of_getElem? (i := 1747) (by decide +kernel)⟩
theorem lw_p88 : lw_okq (⟨"PaidSecretsModel", "tells", "(III)V"⟩, 70) := ⟨⟨by decide +kernel, by decide +kernel⟩, List.mem_of_getElem? (i := 1243) (by decide +kernel), List.mem_of_getElem? (i := 1753) (by decide +kernel), List.mem_of_getElem? (i := 1754) (by decide +kernel)⟩
theorem lw_p89 : lw_okq (⟨"PaidSecretsModel", "canPay", "(II)Z"⟩, 70) := ⟨⟨by decide +kernel, by decide +kernel⟩, List.mem_of_getElem? (i := 1243) (by decide +kernel), List.mem_of_getElem? (i := 1761) (by decide +kernel), List.mem_of_getElem? (i := 1762) (by decide +kernel)⟩
theorem lw_p90 : lw_okq (⟨"PaidSecretsModel", "pays", "(II)V"⟩, 70) := ⟨⟨by decide +kernel, by decide +kernel⟩, List.mem_of_getElem? (i := 1243) (by decide +kernel), List.mem_of_getElem? (i := 1765) (by decide +kernel), List.mem_of_getElem? (i := 1766) (by decide +kernel)⟩
theorem lw_p91 : lw_okq (⟨"PaidSecretsModel", "passes", "()I"⟩, 70) := ⟨⟨by decide +kernel, by decide +kernel⟩, List.mem_of_getElem? (i := 1243) (by decide +kernel), List.mem_of_getElem? (i := 1777) (by decide +kernel), List.mem_of_getElem? (i := 1778) (by decide +kernel)⟩
theorem lw_p92 : lw_okq (⟨"PaidSecretsModel", "goes", "(I)Z"⟩, 70) := ⟨⟨by decide +kernel, by decide +kernel⟩, List.mem_of_getElem? (i := 1243) (by decide +kernel), List.mem_of_getElem? (i := 1793) (by decide +kernel), List.mem_of_getElem? (i := 1794) (by decide +kernel)⟩
theorem lw_p93 : lw_okq (⟨"PaidSecretsModel", "finesOfAll", "()I"⟩, 70) := ⟨⟨by decide +kernel, by decide +kernel⟩, List.mem_of_getElem? (i := 1243) (by decide +kernel), List.mem_of_getElem? (i := 1797) (by decide +kernel), List.mem_of_getElem? (i := 1798) (by decide +kernel)⟩
theorem lw_p94 : lw_okq (⟨"PaidSecretsModel", "allSecrets", "()I"⟩, 70) := ⟨⟨by decide +kernel, by decide +kernel⟩, List.mem_of_getElem? (i := 1243) (by decide +kernel), List.mem_of_getElem? (i := 1801) (by decide +kernel), List.mem_of_getElem? (i := 1802) (by decide +kernel)⟩
theorem lw_p95 : lw_okq (⟨"PaidSecretsModel", "leastOf", "(I)I"⟩, 70) := ⟨⟨by decide +kernel, by decide +kernel⟩, List.mem_of_getElem? (i := 1243) (by decide +kernel), List.mem_of_getElem? (i := 1809) (by decide +kernel), List.mem_of_getElem? (i := 1810) (by decide +kernel)⟩
def lw_privs_6 : List (MethodName × Nat) := [(⟨"PaidSecretsModel", "tests", "(I)V"⟩, 70), (⟨"PaidSecretsModel", "net", "(I)I"⟩, 70), (⟨"PaidSecretsModel", "isSecret", "(I)Z"⟩, 70), (⟨"PaidSecretsModel", "areTwo", "(II)Z"⟩, 70), (⟨"PaidSecretsModel", "chanceOf", "(I)I"⟩, 70), (⟨"PaidSecretsModel", "canTell", "(III)Z"⟩, 70), (⟨"PaidSecretsModel", "speaks", "(I)Z"⟩, 70), (⟨"PaidSecretsModel", "keeps", "()V"⟩, 70), (⟨"PaidSecretsModel", "tells", "(III)V"⟩, 70), (⟨"PaidSecretsModel", "canPay", "(II)Z"⟩, 70), (⟨"PaidSecretsModel", "pays", "(II)V"⟩, 70), (⟨"PaidSecretsModel", "passes", "()I"⟩, 70), (⟨"PaidSecretsModel", "goes", "(I)Z"⟩, 70), (⟨"PaidSecretsModel", "finesOfAll", "()I"⟩, 70), (⟨"PaidSecretsModel", "allSecrets", "()I"⟩, 70), (⟨"PaidSecretsModel", "leastOf", "(I)I"⟩, 70)]
theorem lw_r6 : ∀ q ∈ lw_privs_6, lw_okq q := List.forall_mem_cons.mpr ⟨lw_p80, List.forall_mem_cons.mpr ⟨lw_p81, List.forall_mem_cons.mpr ⟨lw_p82, List.forall_mem_cons.mpr ⟨lw_p83, List.forall_mem_cons.mpr ⟨lw_p84, List.forall_mem_cons.mpr ⟨lw_p85, List.forall_mem_cons.mpr ⟨lw_p86, List.forall_mem_cons.mpr ⟨lw_p87, List.forall_mem_cons.mpr ⟨lw_p88, List.forall_mem_cons.mpr ⟨lw_p89, List.forall_mem_cons.mpr ⟨lw_p90, List.forall_mem_cons.mpr ⟨lw_p91, List.forall_mem_cons.mpr ⟨lw_p92, List.forall_mem_cons.mpr ⟨lw_p93, List.forall_mem_cons.mpr ⟨lw_p94, List.forall_mem_cons.mpr ⟨lw_p95, fun _ h => absurd h List.not_mem_nil⟩⟩⟩⟩⟩⟩⟩⟩⟩⟩⟩⟩⟩⟩⟩⟩
theorem lw_p96 : lw_okq (⟨"PaidSecretsModel", "payTogether", "(II)Z"⟩, 70) := ⟨⟨by decide +kernel, by decide +kernel⟩, List.mem_of_getElem? (i := 1243) (by decide +kernel), List.mem_of_getElem? (i := 1820) (by decide +kernel), List.mem_of_getElem? (i := 1821) (by decide +kernel)⟩
theorem lw_p97 : lw_okq (⟨"PaidSecretsModel", "plots", "(IIII)V"⟩, 70) := ⟨⟨by decide +kernel, by decide +kernel⟩, List.mem_of_getElem? (i := 1243) (by decide +kernel), List.mem_of_getElem? (i := 1828) (by decide +kernel), List.mem_of_getElem? (i := 1829) (by decide +kernel)⟩
theorem lw_p98 : lw_okq (⟨"PaidSecretsModel", "isAsSeen", "(I)Z"⟩, 70) := ⟨⟨by decide +kernel, by decide +kernel⟩, List.mem_of_getElem? (i := 1243) (by decide +kernel), List.mem_of_getElem? (i := 1840) (by decide +kernel), List.mem_of_getElem? (i := 1841) (by decide +kernel)⟩
theorem lw_p99 : lw_okq (⟨"PaidSecretsModel", "isClashing", "(I)Z"⟩, 70) := ⟨⟨by decide +kernel, by decide +kernel⟩, List.mem_of_getElem? (i := 1243) (by decide +kernel), List.mem_of_getElem? (i := 1848) (by decide +kernel), List.mem_of_getElem? (i := 1849) (by decide +kernel)⟩
theorem lw_p100 : lw_okq (⟨"PaidSecretsModel", "nights", "(II)V"⟩, 70) := ⟨⟨by decide +kernel, by decide +kernel⟩, List.mem_of_getElem? (i := 1243) (by decide +kernel), List.mem_of_getElem? (i := 1856) (by decide +kernel), List.mem_of_getElem? (i := 1857) (by decide +kernel)⟩
theorem lw_p101 : lw_okq (⟨"PaidSecretsModel", "night", "()V"⟩, 70) := ⟨⟨by decide +kernel, by decide +kernel⟩, List.mem_of_getElem? (i := 1243) (by decide +kernel), List.mem_of_getElem? (i := 1861) (by decide +kernel), List.mem_of_getElem? (i := 1862) (by decide +kernel)⟩
theorem lw_p102 : lw_okq (⟨"PaidSecretsModel", "laysHears", "(I)V"⟩, 70) := ⟨⟨by decide +kernel, by decide +kernel⟩, List.mem_of_getElem? (i := 1243) (by decide +kernel), List.mem_of_getElem? (i := 1865) (by decide +kernel), List.mem_of_getElem? (i := 1866) (by decide +kernel)⟩
theorem lw_p103 : lw_okq (⟨"PaidSecretsModel", "may", "(II)Z"⟩, 70) := ⟨⟨by decide +kernel, by decide +kernel⟩, List.mem_of_getElem? (i := 1243) (by decide +kernel), List.mem_of_getElem? (i := 1883) (by decide +kernel), List.mem_of_getElem? (i := 1884) (by decide +kernel)⟩
theorem lw_p104 : lw_okq (⟨"PaidSecretsModel", "isRest", "()Z"⟩, 70) := ⟨⟨by decide +kernel, by decide +kernel⟩, List.mem_of_getElem? (i := 1243) (by decide +kernel), List.mem_of_getElem? (i := 1887) (by decide +kernel), List.mem_of_getElem? (i := 1888) (by decide +kernel)⟩
theorem lw_p105 : lw_okq (⟨"PaidSecretsModel", "hasBy", "(I)I"⟩, 70) := ⟨⟨by decide +kernel, by decide +kernel⟩, List.mem_of_getElem? (i := 1243) (by decide +kernel), List.mem_of_getElem? (i := 1891) (by decide +kernel), List.mem_of_getElem? (i := 1892) (by decide +kernel)⟩
theorem lw_p106 : lw_okq (⟨"PaidSecretsModel", "whispers", "()I"⟩, 70) := ⟨⟨by decide +kernel, by decide +kernel⟩, List.mem_of_getElem? (i := 1243) (by decide +kernel), List.mem_of_getElem? (i := 1899) (by decide +kernel), List.mem_of_getElem? (i := 1900) (by decide +kernel)⟩
theorem lw_p107 : lw_okq (⟨"PaidSecretsModel", "draws", "(I)I"⟩, 70) := ⟨⟨by decide +kernel, by decide +kernel⟩, List.mem_of_getElem? (i := 1243) (by decide +kernel), List.mem_of_getElem? (i := 1903) (by decide +kernel), List.mem_of_getElem? (i := 1904) (by decide +kernel)⟩
theorem lw_p108 : lw_okq (⟨"PaidSecretsModel", "laysSeen", "(II)V"⟩, 70) := ⟨⟨by decide +kernel, by decide +kernel⟩, List.mem_of_getElem? (i := 1243) (by decide +kernel), List.mem_of_getElem? (i := 1915) (by decide +kernel), List.mem_of_getElem? (i := 1916) (by decide +kernel)⟩
def lw_privs_7 : List (MethodName × Nat) := [(⟨"PaidSecretsModel", "payTogether", "(II)Z"⟩, 70), (⟨"PaidSecretsModel", "plots", "(IIII)V"⟩, 70), (⟨"PaidSecretsModel", "isAsSeen", "(I)Z"⟩, 70), (⟨"PaidSecretsModel", "isClashing", "(I)Z"⟩, 70), (⟨"PaidSecretsModel", "nights", "(II)V"⟩, 70), (⟨"PaidSecretsModel", "night", "()V"⟩, 70), (⟨"PaidSecretsModel", "laysHears", "(I)V"⟩, 70), (⟨"PaidSecretsModel", "may", "(II)Z"⟩, 70), (⟨"PaidSecretsModel", "isRest", "()Z"⟩, 70), (⟨"PaidSecretsModel", "hasBy", "(I)I"⟩, 70), (⟨"PaidSecretsModel", "whispers", "()I"⟩, 70), (⟨"PaidSecretsModel", "draws", "(I)I"⟩, 70), (⟨"PaidSecretsModel", "laysSeen", "(II)V"⟩, 70)]
theorem lw_r7 : ∀ q ∈ lw_privs_7, lw_okq q := List.forall_mem_cons.mpr ⟨lw_p96, List.forall_mem_cons.mpr ⟨lw_p97, List.forall_mem_cons.mpr ⟨lw_p98, List.forall_mem_cons.mpr ⟨lw_p99, List.forall_mem_cons.mpr ⟨lw_p100, List.forall_mem_cons.mpr ⟨lw_p101, List.forall_mem_cons.mpr ⟨lw_p102, List.forall_mem_cons.mpr ⟨lw_p103, List.forall_mem_cons.mpr ⟨lw_p104, List.forall_mem_cons.mpr ⟨lw_p105, List.forall_mem_cons.mpr ⟨lw_p106, List.forall_mem_cons.mpr ⟨lw_p107, List.forall_mem_cons.mpr ⟨lw_p108, fun _ h => absurd h List.not_mem_nil⟩⟩⟩⟩⟩⟩⟩⟩⟩⟩⟩⟩⟩
def lw_privs : List (MethodName × Nat) := lw_privs_1 ++ (lw_privs_2 ++ (lw_privs_3 ++ (lw_privs_4 ++ (lw_privs_5 ++ (lw_privs_6 ++ (lw_privs_7))))))
def lw_tbl : List Cond := k2_sels lw_privs ++ tables_1
theorem lw_privs_ok : ∀ q ∈ lw_privs, lw_okq q := by
  show ∀ q ∈ lw_privs_1 ++ (lw_privs_2 ++ (lw_privs_3 ++ (lw_privs_4 ++ (lw_privs_5 ++ (lw_privs_6 ++ (lw_privs_7)))))), lw_okq q
  exact List.forall_mem_append.mpr ⟨lw_r1, List.forall_mem_append.mpr ⟨lw_r2, List.forall_mem_append.mpr ⟨lw_r3, List.forall_mem_append.mpr ⟨lw_r4, List.forall_mem_append.mpr ⟨lw_r5, List.forall_mem_append.mpr ⟨lw_r6, lw_r7⟩⟩⟩⟩⟩⟩

theorem goodIn_r {big : List Cond} (ws : List Cond) (ps : List Nat) (hp : ws = ps.filterMap (fun i => big[i]?)) (h : ws.all goodWord = true) : GoodIn big ws := by
  intro w hw
  have h1 := List.all_eq_true.mp h w hw
  rw [hp] at hw
  obtain ⟨i, -, hi⟩ := List.mem_filterMap.mp hw
  have hm : w ∈ big := by first | exact List.mem_of_getElem? hi | exact List.getElem?_mem hi
  exact ⟨hm, good_of_word h1⟩
theorem goodIn_app {big a b : List Cond} (ha : GoodIn big a) (hb : GoodIn big b) : GoodIn big (a ++ b) := fun w h => (List.mem_append.mp h).elim (ha w) (hb w)
theorem goodIn_ca {big a b : List Cond} {c : Cond} (ha : GoodIn big (c :: a)) (hb : GoodIn big b) : GoodIn big (c :: (a ++ b)) := fun w h => (List.mem_cons.mp h).elim (fun e => ha w (List.mem_cons.mpr (Or.inl e))) (fun h => (List.mem_append.mp h).elim (fun h => ha w (List.mem_cons.mpr (Or.inr h))) (hb w))
theorem goodIn_sub {big ws : List Cond} (hm : ∀ w ∈ ws, w ∈ big) (h : ws.all goodWord = true) : GoodIn big ws := fun w hw => ⟨hm w hw, good_of_word (List.all_eq_true.mp h w hw)⟩
def RX0 : String := "PaidSecrets$Collector"
def TX0 : u_T := fun k => match k with
  | 0 => ("PaidSecrets$Collector", "sums", "[I", true)
  | 1 => ("PaidSecrets$Collector", "payable", "[J", true)
  | _ => ("PaidSecrets$Collector", "groups", "[I", true)
def tyX0 : Nat → FieldType := fun k => match k with
  | 0 => .array .int
  | 1 => .array .long
  | _ => .array .int
abbrev wsX00 : List Cond := u_ws RX0 TX0 3
theorem nmX0 : ∀ a, a < 3 → ∀ b, b < 3 → a ≠ b → (TX0 a).2.1 ≠ (TX0 b).2.1 := by decide +kernel
theorem tyX0_ok : ∀ k, k < 3 → parseFieldDescriptor (TX0 k).2.2.1 = some (tyX0 k) := by decide +kernel
abbrev cX0_init : ByteArray := prog_2_method_1_code
def yX0_init : MethodName := ⟨RX0, "<init>", "()V"⟩
abbrev cX0_weighSets : ByteArray := prog_2_method_2_code
def yX0_weighSets : MethodName := ⟨RX0, "weighSets", "(LPaidSecrets$Town;[I)V"⟩
abbrev cX0_fewest : ByteArray := prog_2_method_3_code
def yX0_fewest : MethodName := ⟨RX0, "fewest", "(LPaidSecrets$Town;LPaidSecrets$State;I)I"⟩
abbrev cX0_isLesser : ByteArray := prog_2_method_4_code
def yX0_isLesser : MethodName := ⟨RX0, "isLesser", "(II)Z"⟩
abbrev cX0_mostAtOnce : ByteArray := prog_2_method_5_code
def yX0_mostAtOnce : MethodName := ⟨RX0, "mostAtOnce", "(LPaidSecrets$Town;LPaidSecrets$State;)I"⟩
abbrev cX0_admit : ByteArray := prog_2_method_6_code
def yX0_admit : MethodName := ⟨RX0, mm_w0, "(IIII)V"⟩
abbrev cX0_fewestPayments : ByteArray := prog_2_method_7_code
def yX0_fewestPayments : MethodName := ⟨RX0, "fewestPayments", "(LPaidSecrets$Town;LPaidSecrets$State;)I"⟩
def RX1 : String := "PaidSecrets$Feast"
def TX1 : u_T := fun k => match k with
  | 0 => ("PaidSecrets$Feast", "known", "[I", true)
  | 1 => ("PaidSecrets$Feast", "choice", "[I", true)
  | _ => ("PaidSecrets$Feast", "guests", "I", false)
def tyX1 : Nat → FieldType := fun k => match k with
  | 0 => .array .int
  | 1 => .array .int
  | _ => .int
abbrev wsX10 : List Cond := u_ws RX1 TX1 3
theorem nmX1 : ∀ a, a < 3 → ∀ b, b < 3 → a ≠ b → (TX1 a).2.1 ≠ (TX1 b).2.1 := by decide +kernel
theorem tyX1_ok : ∀ k, k < 3 → parseFieldDescriptor (TX1 k).2.2.1 = some (tyX1 k) := by decide +kernel
abbrev cX1_init : ByteArray := prog_3_method_1_code
def yX1_init : MethodName := ⟨RX1, "<init>", "()V"⟩
abbrev cX1_invite : ByteArray := prog_3_method_2_code
def yX1_invite : MethodName := ⟨RX1, "invite", "(LPaidSecrets$Town;LPaidSecrets$State;I)V"⟩
abbrev cX1_atRest : ByteArray := prog_3_method_3_code
def yX1_atRest : MethodName := ⟨RX1, "atRest", "([II)I"⟩
abbrev cX1_choose : ByteArray := prog_3_method_4_code
def yX1_choose : MethodName := ⟨RX1, "choose", "(I)Z"⟩
abbrev cX1_mayChoose : ByteArray := prog_3_method_5_code
def yX1_mayChoose : MethodName := ⟨RX1, "mayChoose", "(II)Z"⟩
abbrev cX1_rest : ByteArray := prog_3_method_6_code
def yX1_rest : MethodName := ⟨RX1, "rest", "([I)Z"⟩
abbrev cX1_share : ByteArray := prog_3_method_7_code
def yX1_share : MethodName := ⟨RX1, "share", "(II[I)I"⟩
def RX2 : String := "PaidSecrets$GossipReader"
def TX2 : u_T := fun k => match k with
  | _ => ("", "", "", false)
def tyX2 : Nat → FieldType := fun k => match k with
  | _ => .int
abbrev wsX20 : List Cond := u_ws RX2 TX2 0
theorem nmX2 : ∀ a, a < 0 → ∀ b, b < 0 → a ≠ b → (TX2 a).2.1 ≠ (TX2 b).2.1 := by decide +kernel
theorem tyX2_ok : ∀ k, k < 0 → parseFieldDescriptor (TX2 k).2.2.1 = some (tyX2 k) := by decide +kernel
abbrev cX2_readGossip : ByteArray := prog_4_method_2_code
def yX2_readGossip : MethodName := ⟨RX2, "readGossip", "(LPaidSecrets$Tape;LPaidSecrets$Town;LPaidSecrets$Talk;)I"⟩
abbrev cX2_readLine : ByteArray := prog_4_method_3_code
def yX2_readLine : MethodName := ⟨RX2, "readLine", "(LPaidSecrets$Tape;LPaidSecrets$Town;LPaidSecrets$Talk;)Z"⟩
abbrev cX2_readTell : ByteArray := prog_4_method_4_code
def yX2_readTell : MethodName := ⟨RX2, "readTell", "(LPaidSecrets$Tape;LPaidSecrets$Town;LPaidSecrets$Talk;I)Z"⟩
abbrev cX2_readPay : ByteArray := prog_4_method_5_code
def yX2_readPay : MethodName := ⟨RX2, "readPay", "(LPaidSecrets$Tape;LPaidSecrets$Town;LPaidSecrets$Talk;I)Z"⟩
def RX3 : String := "PaidSecrets$Law"
def TX3 : u_T := fun k => match k with
  | 0 => ("PaidSecrets$Law", "steps", "[I", true)
  | 1 => ("PaidSecrets$Law", "stack", "[I", true)
  | _ => ("PaidSecrets$Law", "size", "I", false)
def tyX3 : Nat → FieldType := fun k => match k with
  | 0 => .array .int
  | 1 => .array .int
  | _ => .int
abbrev wsX30 : List Cond := u_ws RX3 TX3 3
theorem nmX3 : ∀ a, a < 3 → ∀ b, b < 3 → a ≠ b → (TX3 a).2.1 ≠ (TX3 b).2.1 := by decide +kernel
theorem tyX3_ok : ∀ k, k < 3 → parseFieldDescriptor (TX3 k).2.2.1 = some (tyX3 k) := by decide +kernel
abbrev cX3_init : ByteArray := prog_5_method_1_code
def yX3_init : MethodName := ⟨RX3, "<init>", "()V"⟩
abbrev cX3_put : ByteArray := prog_5_method_2_code
def yX3_put : MethodName := ⟨RX3, "put", "(I)V"⟩
abbrev cX3_readAll : ByteArray := prog_5_method_3_code
def yX3_readAll : MethodName := ⟨RX3, "readAll", "(LPaidSecrets$Tape;I)Z"⟩
abbrev cX3_readTest : ByteArray := prog_5_method_4_code
def yX3_readTest : MethodName := ⟨RX3, "readTest", "(LPaidSecrets$Tape;I)Z"⟩
abbrev cX3_readSum : ByteArray := prog_5_method_5_code
def yX3_readSum : MethodName := ⟨RX3, "readSum", "(LPaidSecrets$Tape;I)Z"⟩
abbrev cX3_readProduct : ByteArray := prog_5_method_6_code
def yX3_readProduct : MethodName := ⟨RX3, "readProduct", "(LPaidSecrets$Tape;I)Z"⟩
abbrev cX3_readPart : ByteArray := prog_5_method_7_code
def yX3_readPart : MethodName := ⟨RX3, "readPart", "(LPaidSecrets$Tape;I)Z"⟩
abbrev cX3_value : ByteArray := prog_5_method_8_code
def yX3_value : MethodName := ⟨RX3, "value", "(IIII)I"⟩
abbrev cX3_operand : ByteArray := prog_5_method_9_code
def yX3_operand : MethodName := ⟨RX3, "operand", "(IIIII)I"⟩
abbrev cX3_joined : ByteArray := prog_5_method_10_code
def yX3_joined : MethodName := ⟨RX3, "joined", "(III)I"⟩
def RX4 : String := "PaidSecrets$Nights"
def TX4 : u_T := fun k => match k with
  | 0 => ("PaidSecrets$Nights", "chances", "[J", true)
  | 1 => ("PaidSecrets$Nights", "next", "[J", true)
  | 2 => ("PaidSecrets$Nights", "hearing", "[J", true)
  | _ => ("PaidSecrets$Nights", "byKnowers", "[I", true)
def tyX4 : Nat → FieldType := fun k => match k with
  | 0 => .array .long
  | 1 => .array .long
  | 2 => .array .long
  | _ => .array .int
abbrev wsX40 : List Cond := u_ws RX4 TX4 4
theorem nmX4 : ∀ a, a < 4 → ∀ b, b < 4 → a ≠ b → (TX4 a).2.1 ≠ (TX4 b).2.1 := by decide +kernel
theorem tyX4_ok : ∀ k, k < 4 → parseFieldDescriptor (TX4 k).2.2.1 = some (tyX4 k) := by decide +kernel
abbrev cX4_init : ByteArray := prog_6_method_1_code
def yX4_init : MethodName := ⟨RX4, "<init>", "()V"⟩
abbrev cX4_pass : ByteArray := prog_6_method_2_code
def yX4_pass : MethodName := ⟨RX4, "pass", "(LPaidSecrets$Town;II)V"⟩
abbrev cX4_passOne : ByteArray := prog_6_method_3_code
def yX4_passOne : MethodName := ⟨RX4, "passOne", "(LPaidSecrets$Town;)V"⟩
abbrev cX4_listen : ByteArray := prog_6_method_4_code
def yX4_listen : MethodName := ⟨RX4, "listen", "(LPaidSecrets$Town;I)V"⟩
abbrev cX4_spread : ByteArray := prog_6_method_5_code
def yX4_spread : MethodName := ⟨RX4, "spread", "(LPaidSecrets$Town;II)V"⟩
abbrev cX4_share : ByteArray := prog_6_method_6_code
def yX4_share : MethodName := ⟨RX4, "share", "(LPaidSecrets$Town;II)J"⟩
abbrev cX4_weighCounts : ByteArray := prog_6_method_7_code
def yX4_weighCounts : MethodName := ⟨RX4, "weighCounts", "(LPaidSecrets$Town;LPaidSecrets$State;I)V"⟩
abbrev cX4_expected : ByteArray := prog_6_method_8_code
def yX4_expected : MethodName := ⟨RX4, "expected", "(LPaidSecrets$Town;)J"⟩
abbrev cX4_surety : ByteArray := prog_6_method_9_code
def yX4_surety : MethodName := ⟨RX4, "surety", "(LPaidSecrets$Town;I)J"⟩
def RX5 : String := "PaidSecrets$State"
def TX5 : u_T := fun k => match k with
  | 0 => ("PaidSecrets$State", "knowing", "[I", true)
  | 1 => ("PaidSecrets$State", "awareness", "[J", true)
  | 2 => ("PaidSecrets$State", "rank", "[I", true)
  | 3 => ("PaidSecrets$State", "fined", "[I", true)
  | 4 => ("PaidSecrets$State", "net", "[I", true)
  | 5 => ("PaidSecrets$State", "met", "I", false)
  | 6 => ("PaidSecrets$State", "paidSecrets", "I", false)
  | 7 => ("PaidSecrets$State", "paidPeople", "I", false)
  | 8 => ("PaidSecrets$State", "loans", "I", false)
  | _ => ("PaidSecrets$State", "quarters", "I", false)
def tyX5 : Nat → FieldType := fun k => match k with
  | 0 => .array .int
  | 1 => .array .long
  | 2 => .array .int
  | 3 => .array .int
  | 4 => .array .int
  | 5 => .int
  | 6 => .int
  | 7 => .int
  | 8 => .int
  | _ => .int
abbrev wsX50 : List Cond := u_ws RX5 TX5 10
theorem nmX5 : ∀ a, a < 10 → ∀ b, b < 10 → a ≠ b → (TX5 a).2.1 ≠ (TX5 b).2.1 := by decide +kernel
theorem tyX5_ok : ∀ k, k < 10 → parseFieldDescriptor (TX5 k).2.2.1 = some (tyX5 k) := by decide +kernel
abbrev cX5_init : ByteArray := prog_7_method_1_code
def yX5_init : MethodName := ⟨RX5, "<init>", "()V"⟩
abbrev cX5_begin : ByteArray := prog_7_method_2_code
def yX5_begin : MethodName := ⟨RX5, "begin", "(LPaidSecrets$Town;)V"⟩
abbrev cX5_copyFrom : ByteArray := prog_7_method_3_code
def yX5_copyFrom : MethodName := ⟨RX5, "copyFrom", "(LPaidSecrets$State;)V"⟩
abbrev cX5_known : ByteArray := prog_7_method_4_code
def yX5_known : MethodName := ⟨RX5, "known", "(LPaidSecrets$Town;I)I"⟩
abbrev cX5_isAware : ByteArray := prog_7_method_5_code
def yX5_isAware : MethodName := ⟨RX5, "isAware", "(III)Z"⟩
abbrev cX5_lawWorth : ByteArray := prog_7_method_6_code
def yX5_lawWorth : MethodName := ⟨RX5, "lawWorth", "(LPaidSecrets$Town;II)I"⟩
abbrev cX5_weigh : ByteArray := prog_7_method_7_code
def yX5_weigh : MethodName := ⟨RX5, "weigh", "(LPaidSecrets$Town;[I)V"⟩
abbrev cX5_mayTell : ByteArray := prog_7_method_8_code
def yX5_mayTell : MethodName := ⟨RX5, "mayTell", "(LPaidSecrets$Town;III)Z"⟩
abbrev cX5_whisper : ByteArray := prog_7_method_9_code
def yX5_whisper : MethodName := ⟨RX5, "whisper", "(LPaidSecrets$Town;III)V"⟩
abbrev cX5_forget : ByteArray := prog_7_method_10_code
def yX5_forget : MethodName := ⟨RX5, "forget", "(III)V"⟩
abbrev cX5_payable : ByteArray := prog_7_method_11_code
def yX5_payable : MethodName := ⟨RX5, "payable", "(LPaidSecrets$Town;I)I"⟩
abbrev cX5_mayPay : ByteArray := prog_7_method_12_code
def yX5_mayPay : MethodName := ⟨RX5, "mayPay", "(LPaidSecrets$Town;II[I)Z"⟩
abbrev cX5_take : ByteArray := prog_7_method_13_code
def yX5_take : MethodName := ⟨RX5, "take", "(II)V"⟩
abbrev cX5_endQuarter : ByteArray := prog_7_method_14_code
def yX5_endQuarter : MethodName := ⟨RX5, "endQuarter", "(LPaidSecrets$Town;)I"⟩
abbrev cX5_mayLend : ByteArray := prog_7_method_15_code
def yX5_mayLend : MethodName := ⟨RX5, "mayLend", "(LPaidSecrets$Town;III)Z"⟩
abbrev cX5_owe : ByteArray := prog_7_method_16_code
def yX5_owe : MethodName := ⟨RX5, "owe", "(III)V"⟩
def RX6 : String := "PaidSecrets$Talk"
def TX6 : u_T := fun k => match k with
  | 0 => ("PaidSecrets$Talk", "lines", "I", false)
  | 1 => ("PaidSecrets$Talk", "deed", "[I", true)
  | 2 => ("PaidSecrets$Talk", "who", "[I", true)
  | 3 => ("PaidSecrets$Talk", "whom", "[I", true)
  | 4 => ("PaidSecrets$Talk", "what", "[I", true)
  | 5 => ("PaidSecrets$Talk", "seen", "I", false)
  | 6 => ("PaidSecrets$Talk", "seenSecret", "[I", true)
  | _ => ("PaidSecrets$Talk", "seenFell", "[I", true)
def tyX6 : Nat → FieldType := fun k => match k with
  | 0 => .int
  | 1 => .array .int
  | 2 => .array .int
  | 3 => .array .int
  | 4 => .array .int
  | 5 => .int
  | 6 => .array .int
  | _ => .array .int
abbrev wsX60 : List Cond := u_ws RX6 TX6 8
theorem nmX6 : ∀ a, a < 8 → ∀ b, b < 8 → a ≠ b → (TX6 a).2.1 ≠ (TX6 b).2.1 := by decide +kernel
theorem tyX6_ok : ∀ k, k < 8 → parseFieldDescriptor (TX6 k).2.2.1 = some (tyX6 k) := by decide +kernel
abbrev cX6_init : ByteArray := prog_8_method_1_code
def yX6_init : MethodName := ⟨RX6, "<init>", "()V"⟩
abbrev cX6_clear : ByteArray := prog_8_method_2_code
def yX6_clear : MethodName := ⟨RX6, "clear", "()V"⟩
abbrev cX6_copyLines : ByteArray := prog_8_method_3_code
def yX6_copyLines : MethodName := ⟨RX6, "copyLines", "(LPaidSecrets$Talk;)V"⟩
abbrev cX6_copyFrom : ByteArray := prog_8_method_4_code
def yX6_copyFrom : MethodName := ⟨RX6, "copyFrom", "(LPaidSecrets$Talk;)V"⟩
abbrev cX6_addLine : ByteArray := prog_8_method_5_code
def yX6_addLine : MethodName := ⟨RX6, "addLine", "(IIII)V"⟩
abbrev cX6_addSeen : ByteArray := prog_8_method_6_code
def yX6_addSeen : MethodName := ⟨RX6, "addSeen", "(IZ)Z"⟩
def RX7 : String := "PaidSecrets$Tape"
def TX7 : u_T := fun k => match k with
  | 0 => ("PaidSecrets$Tape", "signs", "[C", true)
  | 1 => ("PaidSecrets$Tape", "length", "I", false)
  | 2 => ("PaidSecrets$Tape", "at", "I", false)
  | 3 => ("PaidSecrets$Tape", "place", "I", false)
  | 4 => ("PaidSecrets$Tape", "kind", "I", false)
  | 5 => ("PaidSecrets$Tape", "number", "I", false)
  | 6 => ("PaidSecrets$Tape", "code", "J", false)
  | 7 => ("PaidSecrets$Tape", "word", "LPaidSecrets$Word;", false)
  | 8 => ("PaidSecrets$Tape", "sign", "C", false)
  | _ => ("PaidSecrets$Tape", "fault", "I", false)
def tyX7 : Nat → FieldType := fun k => match k with
  | 0 => .array .char
  | 1 => .int
  | 2 => .int
  | 3 => .int
  | 4 => .int
  | 5 => .int
  | 6 => .long
  | 7 => .object "PaidSecrets$Word"
  | 8 => .char
  | _ => .int
abbrev wsX70 : List Cond := u_ws RX7 TX7 10
theorem nmX7 : ∀ a, a < 10 → ∀ b, b < 10 → a ≠ b → (TX7 a).2.1 ≠ (TX7 b).2.1 := by decide +kernel
theorem tyX7_ok : ∀ k, k < 10 → parseFieldDescriptor (TX7 k).2.2.1 = some (tyX7 k) := by decide +kernel
abbrev cX7_init : ByteArray := prog_9_method_1_code
def yX7_init : MethodName := ⟨RX7, "<init>", "()V"⟩
abbrev cX7_add : ByteArray := prog_9_method_2_code
def yX7_add : MethodName := ⟨RX7, "add", "(J)V"⟩
abbrev cX7_clear : ByteArray := prog_9_method_3_code
def yX7_clear : MethodName := ⟨RX7, "clear", "()V"⟩
abbrev cX7_rewind : ByteArray := prog_9_method_4_code
def yX7_rewind : MethodName := ⟨RX7, "rewind", "()V"⟩
abbrev cX7_next : ByteArray := prog_9_method_5_code
def yX7_next : MethodName := ⟨RX7, "next", "()V"⟩
abbrev cX7_scanWord : ByteArray := prog_9_method_6_code
def yX7_scanWord : MethodName := ⟨RX7, "scanWord", "()V"⟩
abbrev cX7_scanNumber : ByteArray := prog_9_method_7_code
def yX7_scanNumber : MethodName := ⟨RX7, "scanNumber", "()V"⟩
abbrev cX7_isName : ByteArray := prog_9_method_8_code
def yX7_isName : MethodName := ⟨RX7, "isName", "()Z"⟩
abbrev cX7_isSign : ByteArray := prog_9_method_9_code
def yX7_isSign : MethodName := ⟨RX7, "isSign", "(C)Z"⟩
abbrev cX7_wrong : ByteArray := prog_9_method_10_code
def yX7_wrong : MethodName := ⟨RX7, "wrong", "(I)Z"⟩
abbrev cX7_takeWord : ByteArray := prog_9_method_11_code
def yX7_takeWord : MethodName := ⟨RX7, "takeWord", "(LPaidSecrets$Word;)Z"⟩
abbrev cX7_takeSign : ByteArray := prog_9_method_12_code
def yX7_takeSign : MethodName := ⟨RX7, "takeSign", "(C)Z"⟩
abbrev cX7_takeNumber : ByteArray := prog_9_method_13_code
def yX7_takeNumber : MethodName := ⟨RX7, "takeNumber", "(II)I"⟩
def RX8 : String := "PaidSecrets$Town"
def TX8 : u_T := fun k => match k with
  | 0 => ("PaidSecrets$Town", "people", "I", false)
  | 1 => ("PaidSecrets$Town", "personName", "[J", true)
  | 2 => ("PaidSecrets$Town", "kind", "[I", true)
  | 3 => ("PaidSecrets$Town", "rank", "[I", true)
  | 4 => ("PaidSecrets$Town", "tax", "[I", true)
  | 5 => ("PaidSecrets$Town", "priests", "I", false)
  | 6 => ("PaidSecrets$Town", "secrets", "I", false)
  | 7 => ("PaidSecrets$Town", "secretName", "[J", true)
  | 8 => ("PaidSecrets$Town", "falsehoods", "I", false)
  | 9 => ("PaidSecrets$Town", "ofWhom", "[I", true)
  | 10 => ("PaidSecrets$Town", "cost", "[I", true)
  | 11 => ("PaidSecrets$Town", "on", "[I", true)
  | 12 => ("PaidSecrets$Town", "knownBy", "[I", true)
  | 13 => ("PaidSecrets$Town", "ears", "I", false)
  | 14 => ("PaidSecrets$Town", "earFrom", "[I", true)
  | 15 => ("PaidSecrets$Town", "earTo", "[I", true)
  | 16 => ("PaidSecrets$Town", "earChance", "[I", true)
  | 17 => ("PaidSecrets$Town", "clashes", "I", false)
  | 18 => ("PaidSecrets$Town", "clashing", "[I", true)
  | _ => ("PaidSecrets$Town", "law", "LPaidSecrets$Law;", true)
def tyX8 : Nat → FieldType := fun k => match k with
  | 0 => .int
  | 1 => .array .long
  | 2 => .array .int
  | 3 => .array .int
  | 4 => .array .int
  | 5 => .int
  | 6 => .int
  | 7 => .array .long
  | 8 => .int
  | 9 => .array .int
  | 10 => .array .int
  | 11 => .array .int
  | 12 => .array .int
  | 13 => .int
  | 14 => .array .int
  | 15 => .array .int
  | 16 => .array .int
  | 17 => .int
  | 18 => .array .int
  | _ => .object "PaidSecrets$Law"
abbrev wsX80 : List Cond := u_ws RX8 TX8 20
theorem nmX8 : ∀ a, a < 20 → ∀ b, b < 20 → a ≠ b → (TX8 a).2.1 ≠ (TX8 b).2.1 := by decide +kernel
theorem tyX8_ok : ∀ k, k < 20 → parseFieldDescriptor (TX8 k).2.2.1 = some (tyX8 k) := by decide +kernel
abbrev cX8_init : ByteArray := prog_10_method_1_code
def yX8_init : MethodName := ⟨RX8, "<init>", "()V"⟩
abbrev cX8_clear : ByteArray := prog_10_method_2_code
def yX8_clear : MethodName := ⟨RX8, "clear", "()V"⟩
abbrev cX8_hasPerson : ByteArray := prog_10_method_3_code
def yX8_hasPerson : MethodName := ⟨RX8, "hasPerson", "(I)Z"⟩
abbrev cX8_hasSecret : ByteArray := prog_10_method_4_code
def yX8_hasSecret : MethodName := ⟨RX8, "hasSecret", "(I)Z"⟩
abbrev cX8_hasPair : ByteArray := prog_10_method_5_code
def yX8_hasPair : MethodName := ⟨RX8, "hasPair", "(II)Z"⟩
abbrev cX8_allSecrets : ByteArray := prog_10_method_6_code
def yX8_allSecrets : MethodName := ⟨RX8, "allSecrets", "()I"⟩
abbrev cX8_findPerson : ByteArray := prog_10_method_7_code
def yX8_findPerson : MethodName := ⟨RX8, "findPerson", "(J)I"⟩
abbrev cX8_findSecret : ByteArray := prog_10_method_8_code
def yX8_findSecret : MethodName := ⟨RX8, "findSecret", "(J)I"⟩
abbrev cX8_knowers : ByteArray := prog_10_method_9_code
def yX8_knowers : MethodName := ⟨RX8, "knowers", "(I)I"⟩
abbrev cX8_speaks : ByteArray := prog_10_method_10_code
def yX8_speaks : MethodName := ⟨RX8, "speaks", "(I)Z"⟩
abbrev cX8_chance : ByteArray := prog_10_method_11_code
def yX8_chance : MethodName := ⟨RX8, "chance", "(II)I"⟩
abbrev cX8_agrees : ByteArray := prog_10_method_12_code
def yX8_agrees : MethodName := ⟨RX8, "agrees", "(I)Z"⟩
abbrev cX8_findTold : ByteArray := prog_10_method_13_code
def yX8_findTold : MethodName := ⟨RX8, "findTold", "(LPaidSecrets$Tape;Z)I"⟩
abbrev cX8_takeTold : ByteArray := prog_10_method_14_code
def yX8_takeTold : MethodName := ⟨RX8, "takeTold", "(LPaidSecrets$Tape;Z)I"⟩
abbrev cX8_takeSet : ByteArray := prog_10_method_15_code
def yX8_takeSet : MethodName := ⟨RX8, "takeSet", "(LPaidSecrets$Tape;Z)I"⟩
def RX9 : String := "PaidSecrets$TownReader"
def TX9 : u_T := fun k => match k with
  | _ => ("", "", "", false)
def tyX9 : Nat → FieldType := fun k => match k with
  | _ => .int
abbrev wsX90 : List Cond := u_ws RX9 TX9 0
theorem nmX9 : ∀ a, a < 0 → ∀ b, b < 0 → a ≠ b → (TX9 a).2.1 ≠ (TX9 b).2.1 := by decide +kernel
theorem tyX9_ok : ∀ k, k < 0 → parseFieldDescriptor (TX9 k).2.2.1 = some (tyX9 k) := by decide +kernel
abbrev cX9_readTown : ByteArray := prog_11_method_2_code
def yX9_readTown : MethodName := ⟨RX9, "readTown", "(LPaidSecrets$Tape;LPaidSecrets$Town;)I"⟩
abbrev cX9_readLine : ByteArray := prog_11_method_3_code
def yX9_readLine : MethodName := ⟨RX9, "readLine", "(LPaidSecrets$Tape;LPaidSecrets$Town;)Z"⟩
abbrev cX9_takeNewName : ByteArray := prog_11_method_4_code
def yX9_takeNewName : MethodName := ⟨RX9, "takeNewName", "(LPaidSecrets$Tape;LPaidSecrets$Town;)Z"⟩
abbrev cX9_kindOf : ByteArray := prog_11_method_5_code
def yX9_kindOf : MethodName := ⟨RX9, "kindOf", "(LPaidSecrets$Word;)I"⟩
abbrev cX9_readPerson : ByteArray := prog_11_method_6_code
def yX9_readPerson : MethodName := ⟨RX9, "readPerson", "(LPaidSecrets$Tape;LPaidSecrets$Town;)Z"⟩
abbrev cX9_readSecret : ByteArray := prog_11_method_7_code
def yX9_readSecret : MethodName := ⟨RX9, "readSecret", "(LPaidSecrets$Tape;LPaidSecrets$Town;)Z"⟩
abbrev cX9_readOf : ByteArray := prog_11_method_8_code
def yX9_readOf : MethodName := ⟨RX9, "readOf", "(LPaidSecrets$Tape;LPaidSecrets$Town;I)Z"⟩
abbrev cX9_readOn : ByteArray := prog_11_method_9_code
def yX9_readOn : MethodName := ⟨RX9, "readOn", "(LPaidSecrets$Tape;LPaidSecrets$Town;I)Z"⟩
abbrev cX9_readEar : ByteArray := prog_11_method_10_code
def yX9_readEar : MethodName := ⟨RX9, "readEar", "(LPaidSecrets$Tape;LPaidSecrets$Town;)Z"⟩
abbrev cX9_readClash : ByteArray := prog_11_method_11_code
def yX9_readClash : MethodName := ⟨RX9, "readClash", "(LPaidSecrets$Tape;LPaidSecrets$Town;)Z"⟩
abbrev cX9_readWorth : ByteArray := prog_11_method_12_code
def yX9_readWorth : MethodName := ⟨RX9, "readWorth", "(LPaidSecrets$Tape;LPaidSecrets$Town;)Z"⟩
def RX10 : String := "PaidSecrets$Word"
def TX10 : u_T := fun k => match k with
  | _ => ("", "", "", false)
def tyX10 : Nat → FieldType := fun k => match k with
  | _ => .int
abbrev wsX100 : List Cond := u_ws RX10 TX10 0
theorem nmX10 : ∀ a, a < 0 → ∀ b, b < 0 → a ≠ b → (TX10 a).2.1 ≠ (TX10 b).2.1 := by decide +kernel
theorem tyX10_ok : ∀ k, k < 0 → parseFieldDescriptor (TX10 k).2.2.1 = some (tyX10 k) := by decide +kernel
def RX11 : String := "PaidSecrets"
def TX11 : u_T := fun k => match k with
  | 0 => ("PaidSecrets", "tape", "LPaidSecrets$Tape;", true)
  | 1 => ("PaidSecrets", "now", "LPaidSecrets$State;", true)
  | 2 => ("PaidSecrets", "trial", "LPaidSecrets$State;", true)
  | 3 => ("PaidSecrets", "talk", "LPaidSecrets$Talk;", true)
  | 4 => ("PaidSecrets", "draftTalk", "LPaidSecrets$Talk;", true)
  | 5 => ("PaidSecrets", "past", "[LPaidSecrets$State;", true)
  | 6 => ("PaidSecrets", "markStates", "[LPaidSecrets$State;", true)
  | 7 => ("PaidSecrets", "markTalks", "[LPaidSecrets$Talk;", true)
  | 8 => ("PaidSecrets", "collector", "LPaidSecrets$Collector;", true)
  | 9 => ("PaidSecrets", "feast", "LPaidSecrets$Feast;", true)
  | 10 => ("PaidSecrets", "passing", "LPaidSecrets$Nights;", true)
  | 11 => ("PaidSecrets", "worths", "[I", true)
  | 12 => ("PaidSecrets", "lawful", "[I", true)
  | 13 => ("PaidSecrets", "answers", "[I", true)
  | 14 => ("PaidSecrets", "here", "LPaidSecrets$Town;", false)
  | 15 => ("PaidSecrets", "draft", "LPaidSecrets$Town;", false)
  | 16 => ("PaidSecrets", "pasts", "I", false)
  | 17 => ("PaidSecrets", "pastEnd", "I", false)
  | 18 => ("PaidSecrets", "laid", "I", false)
  | _ => ("PaidSecrets", "drawn", "J", false)
def tyX11 : Nat → FieldType := fun k => match k with
  | 0 => .object "PaidSecrets$Tape"
  | 1 => .object "PaidSecrets$State"
  | 2 => .object "PaidSecrets$State"
  | 3 => .object "PaidSecrets$Talk"
  | 4 => .object "PaidSecrets$Talk"
  | 5 => .array (.object "PaidSecrets$State")
  | 6 => .array (.object "PaidSecrets$State")
  | 7 => .array (.object "PaidSecrets$Talk")
  | 8 => .object "PaidSecrets$Collector"
  | 9 => .object "PaidSecrets$Feast"
  | 10 => .object "PaidSecrets$Nights"
  | 11 => .array .int
  | 12 => .array .int
  | 13 => .array .int
  | 14 => .object "PaidSecrets$Town"
  | 15 => .object "PaidSecrets$Town"
  | 16 => .int
  | 17 => .int
  | 18 => .int
  | _ => .long
abbrev wsX110 : List Cond := u_ws RX11 TX11 20
theorem nmX11 : ∀ a, a < 20 → ∀ b, b < 20 → a ≠ b → (TX11 a).2.1 ≠ (TX11 b).2.1 := by decide +kernel
theorem tyX11_ok : ∀ k, k < 20 → parseFieldDescriptor (TX11 k).2.2.1 = some (tyX11 k) := by decide +kernel
abbrev cX11_init : ByteArray := prog_1_method_1_code
def yX11_init : MethodName := ⟨RX11, "<init>", "()V"⟩
abbrev cX11_feed : ByteArray := prog_1_method_2_code
def yX11_feed : MethodName := ⟨RX11, "feed", "(JJJ)I"⟩
abbrev cX11_town : ByteArray := prog_1_method_3_code
def yX11_town : MethodName := ⟨RX11, "town", "()I"⟩
abbrev cX11_gossip : ByteArray := prog_1_method_4_code
def yX11_gossip : MethodName := ⟨RX11, "gossip", "()I"⟩
abbrev cX11_person : ByteArray := prog_1_method_5_code
def yX11_person : MethodName := ⟨RX11, "person", "(II)I"⟩
abbrev cX11_secret : ByteArray := prog_1_method_6_code
def yX11_secret : MethodName := ⟨RX11, "secret", "(II)I"⟩
abbrev cX11_aware : ByteArray := prog_1_method_7_code
def yX11_aware : MethodName := ⟨RX11, "aware", "(III)I"⟩
abbrev cX11_ear : ByteArray := prog_1_method_8_code
def yX11_ear : MethodName := ⟨RX11, "ear", "(II)I"⟩
abbrev cX11_tell : ByteArray := prog_1_method_9_code
def yX11_tell : MethodName := ⟨RX11, "tell", "(III)I"⟩
abbrev cX11_pay : ByteArray := prog_1_method_10_code
def yX11_pay : MethodName := ⟨RX11, "pay", "(II)I"⟩
abbrev cX11_rise : ByteArray := prog_1_method_11_code
def yX11_rise : MethodName := ⟨RX11, "rise", "(I)I"⟩
abbrev cX11_quarter : ByteArray := prog_1_method_12_code
def yX11_quarter : MethodName := ⟨RX11, "quarter", "()I"⟩
abbrev cX11_lend : ByteArray := prog_1_method_13_code
def yX11_lend : MethodName := ⟨RX11, "lend", "(III)I"⟩
abbrev cX11_undo : ByteArray := prog_1_method_14_code
def yX11_undo : MethodName := ⟨RX11, "undo", "()Z"⟩
abbrev cX11_judged : ByteArray := prog_1_method_15_code
def yX11_judged : MethodName := ⟨RX11, "judged", "(I)I"⟩
abbrev cX11_least : ByteArray := prog_1_method_16_code
def yX11_least : MethodName := ⟨RX11, "least", "(I)I"⟩
abbrev cX11_payers : ByteArray := prog_1_method_17_code
def yX11_payers : MethodName := ⟨RX11, "payers", "()I"⟩
abbrev cX11_plot : ByteArray := prog_1_method_18_code
def yX11_plot : MethodName := ⟨RX11, "plot", "(IIII)I"⟩
abbrev cX11_see : ByteArray := prog_1_method_19_code
def yX11_see : MethodName := ⟨RX11, "see", "(IZ)Z"⟩
abbrev cX11_leaks : ByteArray := prog_1_method_20_code
def yX11_leaks : MethodName := ⟨RX11, "leaks", "(I)I"⟩
abbrev cX11_lies : ByteArray := prog_1_method_21_code
def yX11_lies : MethodName := ⟨RX11, "lies", "(I)I"⟩
abbrev cX11_mean : ByteArray := prog_1_method_22_code
def yX11_mean : MethodName := ⟨RX11, "mean", "(II)I"⟩
abbrev cX11_holds : ByteArray := prog_1_method_23_code
def yX11_holds : MethodName := ⟨RX11, "holds", "(II)I"⟩
abbrev cX11_settle : ByteArray := prog_1_method_24_code
def yX11_settle : MethodName := ⟨RX11, "settle", "()I"⟩
abbrev cX11_rests : ByteArray := prog_1_method_25_code
def yX11_rests : MethodName := ⟨RX11, "rests", "(II)I"⟩
abbrev cX11_years : ByteArray := prog_1_method_26_code
def yX11_years : MethodName := ⟨RX11, "years", "(III)I"⟩
abbrev cX11_mark : ByteArray := prog_1_method_27_code
def yX11_mark : MethodName := ⟨RX11, "mark", "(IZ)Z"⟩
abbrev cX11_count : ByteArray := prog_1_method_28_code
def yX11_count : MethodName := ⟨RX11, "count", "(I)I"⟩
abbrev cX11_bit : ByteArray := prog_1_method_29_code
def yX11_bit : MethodName := ⟨RX11, "bit", "(II)I"⟩
abbrev cX11_weighed : ByteArray := prog_1_method_30_code
def yX11_weighed : MethodName := ⟨RX11, "weighed", "(LPaidSecrets$State;)[I"⟩
abbrev cX11_together : ByteArray := prog_1_method_31_code
def yX11_together : MethodName := ⟨RX11, "together", "([II)I"⟩
abbrev cX11_remember : ByteArray := prog_1_method_32_code
def yX11_remember : MethodName := ⟨RX11, "remember", "()V"⟩
abbrev cX11_judge : ByteArray := prog_1_method_33_code
def yX11_judge : MethodName := ⟨RX11, "judge", "()V"⟩
abbrev cX11_tryLine : ByteArray := prog_1_method_34_code
def yX11_tryLine : MethodName := ⟨RX11, "tryLine", "(I)Z"⟩
abbrev cX11_scheme : ByteArray := prog_1_method_35_code
def yX11_scheme : MethodName := ⟨RX11, "scheme", "(III)V"⟩
abbrev cX11_tryFirst : ByteArray := prog_1_method_36_code
def yX11_tryFirst : MethodName := ⟨RX11, "tryFirst", "(IIII)V"⟩
abbrev cX11_trySeconds : ByteArray := prog_1_method_37_code
def yX11_trySeconds : MethodName := ⟨RX11, "trySeconds", "(III)V"⟩
abbrev cX11_keepGain : ByteArray := prog_1_method_38_code
def yX11_keepGain : MethodName := ⟨RX11, "keepGain", "(IIII)V"⟩
abbrev cX11_fillLawful : ByteArray := prog_1_method_39_code
def yX11_fillLawful : MethodName := ⟨RX11, "fillLawful", "()V"⟩
abbrev cX11_gain : ByteArray := prog_1_method_40_code
def yX11_gain : MethodName := ⟨RX11, "gain", "(II)I"⟩
abbrev cX11_findLeaks : ByteArray := prog_1_method_41_code
def yX11_findLeaks : MethodName := ⟨RX11, "findLeaks", "()V"⟩
abbrev cX11_explains : ByteArray := prog_1_method_42_code
def yX11_explains : MethodName := ⟨RX11, "explains", "(I)Z"⟩
abbrev cX11_findLies : ByteArray := prog_1_method_43_code
def yX11_findLies : MethodName := ⟨RX11, "findLies", "()V"⟩
abbrev cX11_passNights : ByteArray := prog_1_method_44_code
def yX11_passNights : MethodName := ⟨RX11, "passNights", "(II)Z"⟩
abbrev cX11_live : ByteArray := prog_1_method_45_code
def yX11_live : MethodName := ⟨RX11, "live", "(II)V"⟩
abbrev cX11_useEar : ByteArray := prog_1_method_46_code
def yX11_useEar : MethodName := ⟨RX11, "useEar", "(II)I"⟩
abbrev cX11_quarterDay : ByteArray := prog_1_method_47_code
def yX11_quarterDay : MethodName := ⟨RX11, "quarterDay", "()I"⟩
abbrev cX11_draw : ByteArray := prog_1_method_48_code
def yX11_draw : MethodName := ⟨RX11, "draw", "(I)I"⟩
def RX12 : String := "PaidSecretsModel"
def TX12 : u_T := fun k => match k with
  | 0 => ("PaidSecretsModel", "thrown", "I", false)
  | 1 => ("PaidSecretsModel", "taped", "I", false)
  | 2 => ("PaidSecretsModel", "tape", "[I", true)
  | 3 => ("PaidSecretsModel", "size", "I", false)
  | 4 => ("PaidSecretsModel", "place", "I", false)
  | 5 => ("PaidSecretsModel", "begin", "I", false)
  | 6 => ("PaidSecretsModel", "token", "I", false)
  | 7 => ("PaidSecretsModel", "word", "J", false)
  | 8 => ("PaidSecretsModel", "told", "I", false)
  | 9 => ("PaidSecretsModel", "wrong", "I", false)
  | 10 => ("PaidSecretsModel", "town", "[I", true)
  | 11 => ("PaidSecretsModel", "personName", "[J", true)
  | 12 => ("PaidSecretsModel", "secretName", "[J", true)
  | 13 => ("PaidSecretsModel", "kind", "[I", true)
  | 14 => ("PaidSecretsModel", "rankTold", "[I", true)
  | 15 => ("PaidSecretsModel", "tax", "[I", true)
  | 16 => ("PaidSecretsModel", "truth", "[I", true)
  | 17 => ("PaidSecretsModel", "whose", "[I", true)
  | 18 => ("PaidSecretsModel", "costs", "[I", true)
  | 19 => ("PaidSecretsModel", "onSecret", "[I", true)
  | 20 => ("PaidSecretsModel", "knowTold", "[I", true)
  | 21 => ("PaidSecretsModel", "clashes", "[I", true)
  | 22 => ("PaidSecretsModel", "earFrom", "[I", true)
  | 23 => ("PaidSecretsModel", "earTo", "[I", true)
  | 24 => ("PaidSecretsModel", "earChance", "[I", true)
  | 25 => ("PaidSecretsModel", "lineFrom", "[I", true)
  | 26 => ("PaidSecretsModel", "lineTo", "[I", true)
  | 27 => ("PaidSecretsModel", "codes", "[I", true)
  | 28 => ("PaidSecretsModel", "code", "I", false)
  | 29 => ("PaidSecretsModel", "opened", "[I", true)
  | 30 => ("PaidSecretsModel", "compared", "[Z", true)
  | 31 => ("PaidSecretsModel", "kept", "[I", true)
  | 32 => ("PaidSecretsModel", "keptBy", "[I", true)
  | 33 => ("PaidSecretsModel", "ahead", "[I", true)
  | 34 => ("PaidSecretsModel", "against", "[I", true)
  | 35 => ("PaidSecretsModel", "sum", "[I", true)
  | 36 => ("PaidSecretsModel", "sumBy", "[I", true)
  | 37 => ("PaidSecretsModel", "term", "[I", true)
  | 38 => ("PaidSecretsModel", "termBy", "[I", true)
  | 39 => ("PaidSecretsModel", "byNot", "[I", true)
  | 40 => ("PaidSecretsModel", "valueOf", "[I", true)
  | 41 => ("PaidSecretsModel", "given", "I", false)
  | 42 => ("PaidSecretsModel", "lines", "[I", true)
  | 43 => ("PaidSecretsModel", "lineWhat", "[I", true)
  | 44 => ("PaidSecretsModel", "lineA", "[I", true)
  | 45 => ("PaidSecretsModel", "lineB", "[I", true)
  | 46 => ("PaidSecretsModel", "lineC", "[I", true)
  | 47 => ("PaidSecretsModel", "seens", "[I", true)
  | 48 => ("PaidSecretsModel", "seen", "[I", true)
  | 49 => ("PaidSecretsModel", "seenFell", "[Z", true)
  | 50 => ("PaidSecretsModel", "s", "[I", true)
  | 51 => ("PaidSecretsModel", "aside", "[I", true)
  | 52 => ("PaidSecretsModel", "marked", "[I", true)
  | 53 => ("PaidSecretsModel", "undone", "[I", true)
  | 54 => ("PaidSecretsModel", "isLaid", "[Z", true)
  | 55 => ("PaidSecretsModel", "done", "I", false)
  | 56 => ("PaidSecretsModel", "together", "[Z", true)
  | 57 => ("PaidSecretsModel", "isEnough", "[Z", true)
  | 58 => ("PaidSecretsModel", "telling", "[I", true)
  | 59 => ("PaidSecretsModel", "bestTelling", "[I", true)
  | 60 => ("PaidSecretsModel", "bestGap", "I", false)
  | 61 => ("PaidSecretsModel", "bestMany", "I", false)
  | 62 => ("PaidSecretsModel", "odds", "[I", true)
  | 63 => ("PaidSecretsModel", "oddsThen", "[I", true)
  | 64 => ("PaidSecretsModel", "hears", "[I", true)
  | 65 => ("PaidSecretsModel", "groups", "[I", true)
  | 66 => ("PaidSecretsModel", "guest", "[I", true)
  | 67 => ("PaidSecretsModel", "chosen", "[I", true)
  | 68 => ("PaidSecretsModel", "guests", "I", false)
  | _ => ("PaidSecretsModel", "g", "J", false)
def tyX12 : Nat → FieldType := fun k => match k with
  | 0 => .int
  | 1 => .int
  | 2 => .array .int
  | 3 => .int
  | 4 => .int
  | 5 => .int
  | 6 => .int
  | 7 => .long
  | 8 => .int
  | 9 => .int
  | 10 => .array .int
  | 11 => .array .long
  | 12 => .array .long
  | 13 => .array .int
  | 14 => .array .int
  | 15 => .array .int
  | 16 => .array .int
  | 17 => .array .int
  | 18 => .array .int
  | 19 => .array .int
  | 20 => .array .int
  | 21 => .array .int
  | 22 => .array .int
  | 23 => .array .int
  | 24 => .array .int
  | 25 => .array .int
  | 26 => .array .int
  | 27 => .array .int
  | 28 => .int
  | 29 => .array .int
  | 30 => .array .boolean
  | 31 => .array .int
  | 32 => .array .int
  | 33 => .array .int
  | 34 => .array .int
  | 35 => .array .int
  | 36 => .array .int
  | 37 => .array .int
  | 38 => .array .int
  | 39 => .array .int
  | 40 => .array .int
  | 41 => .int
  | 42 => .array .int
  | 43 => .array .int
  | 44 => .array .int
  | 45 => .array .int
  | 46 => .array .int
  | 47 => .array .int
  | 48 => .array .int
  | 49 => .array .boolean
  | 50 => .array .int
  | 51 => .array .int
  | 52 => .array .int
  | 53 => .array .int
  | 54 => .array .boolean
  | 55 => .int
  | 56 => .array .boolean
  | 57 => .array .boolean
  | 58 => .array .int
  | 59 => .array .int
  | 60 => .int
  | 61 => .int
  | 62 => .array .int
  | 63 => .array .int
  | 64 => .array .int
  | 65 => .array .int
  | 66 => .array .int
  | 67 => .array .int
  | 68 => .int
  | _ => .long
abbrev wsX120 : List Cond := u_ws RX12 TX12 70
theorem nmX12 : ∀ a, a < 70 → ∀ b, b < 70 → a ≠ b → (TX12 a).2.1 ≠ (TX12 b).2.1 := by decide +kernel
theorem tyX12_ok : ∀ k, k < 70 → parseFieldDescriptor (TX12 k).2.2.1 = some (tyX12 k) := by decide +kernel
abbrev cX12_init : ByteArray := prog_14_method_1_code
def yX12_init : MethodName := ⟨RX12, "<init>", "()V"⟩
abbrev cX12_thrown : ByteArray := prog_14_method_2_code
def yX12_thrown : MethodName := ⟨RX12, "thrown", "()I"⟩
abbrev cX12_within : ByteArray := prog_14_method_3_code
def yX12_within : MethodName := ⟨RX12, "within", "(III)Z"⟩
abbrev cX12_between : ByteArray := prog_14_method_4_code
def yX12_between : MethodName := ⟨RX12, "between", "(III)I"⟩
abbrev cX12_bits : ByteArray := prog_14_method_5_code
def yX12_bits : MethodName := ⟨RX12, "bits", "(I)I"⟩
abbrev cX12_feed : ByteArray := prog_14_method_6_code
def yX12_feed : MethodName := ⟨RX12, "feed", "(JJJ)I"⟩
abbrev cX12_signAt : ByteArray := prog_14_method_7_code
def yX12_signAt : MethodName := ⟨RX12, "signAt", "(I)I"⟩
abbrev cX12_nextToken : ByteArray := prog_14_method_8_code
def yX12_nextToken : MethodName := ⟨RX12, "nextToken", "()V"⟩
abbrev cX12_isWord : ByteArray := prog_14_method_9_code
def yX12_isWord : MethodName := ⟨RX12, "isWord", "(J)Z"⟩
abbrev cX12_isSign : ByteArray := prog_14_method_10_code
def yX12_isSign : MethodName := ⟨RX12, "isSign", "(I)Z"⟩
abbrev cX12_fails : ByteArray := prog_14_method_11_code
def yX12_fails : MethodName := ⟨RX12, "fails", "(I)Z"⟩
abbrev cX12_puts : ByteArray := prog_14_method_12_code
def yX12_puts : MethodName := ⟨RX12, "puts", "(I)V"⟩
abbrev cX12_fact : ByteArray := prog_14_method_13_code
def yX12_fact : MethodName := ⟨RX12, "fact", "()I"⟩
abbrev cX12_reads : ByteArray := prog_14_method_14_code
def yX12_reads : MethodName := ⟨RX12, "reads", "()Z"⟩
abbrev cX12_opens : ByteArray := prog_14_method_15_code
def yX12_opens : MethodName := ⟨RX12, "opens", "(I)V"⟩
abbrev cX12_sums : ByteArray := prog_14_method_16_code
def yX12_sums : MethodName := ⟨RX12, "sums", "(I)V"⟩
abbrev cX12_tests : ByteArray := prog_14_method_17_code
def yX12_tests : MethodName := ⟨RX12, "tests", "(I)V"⟩
abbrev cX12_worked : ByteArray := prog_14_method_18_code
def yX12_worked : MethodName := ⟨RX12, "worked", "(I)I"⟩
abbrev cX12_isKept : ByteArray := prog_14_method_19_code
def yX12_isKept : MethodName := ⟨RX12, "isKept", "()Z"⟩
abbrev cX12_named : ByteArray := prog_14_method_20_code
def yX12_named : MethodName := ⟨RX12, "named", "([JIIJ)I"⟩
abbrev cX12_personNamed : ByteArray := prog_14_method_21_code
def yX12_personNamed : MethodName := ⟨RX12, "personNamed", "(I)I"⟩
abbrev cX12_secretNamed : ByteArray := prog_14_method_22_code
def yX12_secretNamed : MethodName := ⟨RX12, "secretNamed", "(I)I"⟩
abbrev cX12_needsNumber : ByteArray := prog_14_method_23_code
def yX12_needsNumber : MethodName := ⟨RX12, "needsNumber", "(II)Z"⟩
abbrev cX12_needsWord : ByteArray := prog_14_method_24_code
def yX12_needsWord : MethodName := ⟨RX12, "needsWord", "(J)Z"⟩
abbrev cX12_needsBoth : ByteArray := prog_14_method_25_code
def yX12_needsBoth : MethodName := ⟨RX12, "needsBoth", "(JII)Z"⟩
abbrev cX12_closes : ByteArray := prog_14_method_26_code
def yX12_closes : MethodName := ⟨RX12, "closes", "()Z"⟩
abbrev cX12_isNew : ByteArray := prog_14_method_27_code
def yX12_isNew : MethodName := ⟨RX12, "isNew", "()Z"⟩
abbrev cX12_needsPerson : ByteArray := prog_14_method_28_code
def yX12_needsPerson : MethodName := ⟨RX12, "needsPerson", "(I)Z"⟩
abbrev cX12_needsSecret : ByteArray := prog_14_method_29_code
def yX12_needsSecret : MethodName := ⟨RX12, "needsSecret", "(I)Z"⟩
abbrev cX12_readsPerson : ByteArray := prog_14_method_30_code
def yX12_readsPerson : MethodName := ⟨RX12, "readsPerson", "()Z"⟩
abbrev cX12_readsKnowers : ByteArray := prog_14_method_31_code
def yX12_readsKnowers : MethodName := ⟨RX12, "readsKnowers", "(I)Z"⟩
abbrev cX12_readsSecret : ByteArray := prog_14_method_32_code
def yX12_readsSecret : MethodName := ⟨RX12, "readsSecret", "()Z"⟩
abbrev cX12_readsEar : ByteArray := prog_14_method_33_code
def yX12_readsEar : MethodName := ⟨RX12, "readsEar", "()Z"⟩
abbrev cX12_readsClash : ByteArray := prog_14_method_34_code
def yX12_readsClash : MethodName := ⟨RX12, "readsClash", "()Z"⟩
abbrev cX12_readsWorth : ByteArray := prog_14_method_35_code
def yX12_readsWorth : MethodName := ⟨RX12, "readsWorth", "()Z"⟩
abbrev cX12_starts : ByteArray := prog_14_method_36_code
def yX12_starts : MethodName := ⟨RX12, "starts", "()V"⟩
abbrev cX12_readsAll : ByteArray := prog_14_method_37_code
def yX12_readsAll : MethodName := ⟨RX12, "readsAll", "()Z"⟩
abbrev cX12_moves : ByteArray := prog_14_method_38_code
def yX12_moves : MethodName := ⟨RX12, "moves", "([II)V"⟩
abbrev cX12_movesNames : ByteArray := prog_14_method_39_code
def yX12_movesNames : MethodName := ⟨RX12, "movesNames", "([JI)V"⟩
abbrev cX12_lays : ByteArray := prog_14_method_40_code
def yX12_lays : MethodName := ⟨RX12, "lays", "()V"⟩
abbrev cX12_copies : ByteArray := prog_14_method_41_code
def yX12_copies : MethodName := ⟨RX12, "copies", "([II[II)V"⟩
abbrev cX12_readsTelling : ByteArray := prog_14_method_42_code
def yX12_readsTelling : MethodName := ⟨RX12, "readsTelling", "(I)Z"⟩
abbrev cX12_readsPayment : ByteArray := prog_14_method_43_code
def yX12_readsPayment : MethodName := ⟨RX12, "readsPayment", "(I)Z"⟩
abbrev cX12_readsRise : ByteArray := prog_14_method_44_code
def yX12_readsRise : MethodName := ⟨RX12, "readsRise", "(I)Z"⟩
abbrev cX12_readsLine : ByteArray := prog_14_method_45_code
def yX12_readsLine : MethodName := ⟨RX12, "readsLine", "()Z"⟩
abbrev cX12_laysLines : ByteArray := prog_14_method_46_code
def yX12_laysLines : MethodName := ⟨RX12, "laysLines", "(II)V"⟩
abbrev cX12_laysSeen : ByteArray := prog_14_method_47_code
def yX12_laysSeen : MethodName := ⟨RX12, "laysSeen", "(II)V"⟩
abbrev cX12_fresh : ByteArray := prog_14_method_48_code
def yX12_fresh : MethodName := ⟨RX12, "fresh", "()V"⟩
abbrev cX12_town : ByteArray := prog_14_method_49_code
def yX12_town : MethodName := ⟨RX12, "town", "()I"⟩
abbrev cX12_gossip : ByteArray := prog_14_method_50_code
def yX12_gossip : MethodName := ⟨RX12, "gossip", "()I"⟩
abbrev cX12_isPerson : ByteArray := prog_14_method_51_code
def yX12_isPerson : MethodName := ⟨RX12, "isPerson", "(I)Z"⟩
abbrev cX12_isSecret : ByteArray := prog_14_method_52_code
def yX12_isSecret : MethodName := ⟨RX12, "isSecret", "(I)Z"⟩
abbrev cX12_knowersOf : ByteArray := prog_14_method_53_code
def yX12_knowersOf : MethodName := ⟨RX12, "knowersOf", "(I)I"⟩
abbrev cX12_baseOf : ByteArray := prog_14_method_54_code
def yX12_baseOf : MethodName := ⟨RX12, "baseOf", "(II)I"⟩
abbrev cX12_worthOf : ByteArray := prog_14_method_55_code
def yX12_worthOf : MethodName := ⟨RX12, "worthOf", "(I)I"⟩
abbrev cX12_knownBy : ByteArray := prog_14_method_56_code
def yX12_knownBy : MethodName := ⟨RX12, "knownBy", "(I)I"⟩
abbrev cX12_worthsOf : ByteArray := prog_14_method_57_code
def yX12_worthsOf : MethodName := ⟨RX12, "worthsOf", "(I)I"⟩
abbrev cX12_purse : ByteArray := prog_14_method_58_code
def yX12_purse : MethodName := ⟨RX12, "purse", "(I)I"⟩
abbrev cX12_net : ByteArray := prog_14_method_59_code
def yX12_net : MethodName := ⟨RX12, "net", "(I)I"⟩
abbrev cX12_person : ByteArray := prog_14_method_60_code
def yX12_person : MethodName := ⟨RX12, "person", "(II)I"⟩
abbrev cX12_secret : ByteArray := prog_14_method_61_code
def yX12_secret : MethodName := ⟨RX12, "secret", "(II)I"⟩
abbrev cX12_areTwo : ByteArray := prog_14_method_62_code
def yX12_areTwo : MethodName := ⟨RX12, "areTwo", "(II)Z"⟩
abbrev cX12_aware : ByteArray := prog_14_method_63_code
def yX12_aware : MethodName := ⟨RX12, "aware", "(III)I"⟩
abbrev cX12_chanceOf : ByteArray := prog_14_method_64_code
def yX12_chanceOf : MethodName := ⟨RX12, "chanceOf", "(I)I"⟩
abbrev cX12_ear : ByteArray := prog_14_method_65_code
def yX12_ear : MethodName := ⟨RX12, "ear", "(II)I"⟩
abbrev cX12_keeps : ByteArray := prog_14_method_66_code
def yX12_keeps : MethodName := ⟨RX12, "keeps", "()V"⟩
abbrev cX12_speaks : ByteArray := prog_14_method_67_code
def yX12_speaks : MethodName := ⟨RX12, "speaks", "(I)Z"⟩
abbrev cX12_canTell : ByteArray := prog_14_method_68_code
def yX12_canTell : MethodName := ⟨RX12, "canTell", "(III)Z"⟩
abbrev cX12_tells : ByteArray := prog_14_method_69_code
def yX12_tells : MethodName := ⟨RX12, "tells", "(III)V"⟩
abbrev cX12_tell : ByteArray := prog_14_method_70_code
def yX12_tell : MethodName := ⟨RX12, "tell", "(III)I"⟩
abbrev cX12_canPay : ByteArray := prog_14_method_71_code
def yX12_canPay : MethodName := ⟨RX12, "canPay", "(II)Z"⟩
abbrev cX12_pays : ByteArray := prog_14_method_72_code
def yX12_pays : MethodName := ⟨RX12, "pays", "(II)V"⟩
abbrev cX12_pay : ByteArray := prog_14_method_73_code
def yX12_pay : MethodName := ⟨RX12, "pay", "(II)I"⟩
abbrev cX12_rise : ByteArray := prog_14_method_74_code
def yX12_rise : MethodName := ⟨RX12, "rise", "(I)I"⟩
abbrev cX12_passes : ByteArray := prog_14_method_75_code
def yX12_passes : MethodName := ⟨RX12, "passes", "()I"⟩
abbrev cX12_quarter : ByteArray := prog_14_method_76_code
def yX12_quarter : MethodName := ⟨RX12, "quarter", "()I"⟩
abbrev cX12_lend : ByteArray := prog_14_method_77_code
def yX12_lend : MethodName := ⟨RX12, "lend", "(III)I"⟩
abbrev cX12_undo : ByteArray := prog_14_method_78_code
def yX12_undo : MethodName := ⟨RX12, "undo", "()Z"⟩
abbrev cX12_goes : ByteArray := prog_14_method_79_code
def yX12_goes : MethodName := ⟨RX12, "goes", "(I)Z"⟩
abbrev cX12_finesOfAll : ByteArray := prog_14_method_80_code
def yX12_finesOfAll : MethodName := ⟨RX12, "finesOfAll", "()I"⟩
abbrev cX12_allSecrets : ByteArray := prog_14_method_81_code
def yX12_allSecrets : MethodName := ⟨RX12, "allSecrets", "()I"⟩
abbrev cX12_judged : ByteArray := prog_14_method_82_code
def yX12_judged : MethodName := ⟨RX12, "judged", "(I)I"⟩
abbrev cX12_leastOf : ByteArray := prog_14_method_83_code
def yX12_leastOf : MethodName := ⟨RX12, "leastOf", "(I)I"⟩
abbrev cX12_least : ByteArray := prog_14_method_84_code
def yX12_least : MethodName := ⟨RX12, "least", "(I)I"⟩
abbrev cX12_payTogether : ByteArray := prog_14_method_85_code
def yX12_payTogether : MethodName := ⟨RX12, "payTogether", "(II)Z"⟩
abbrev cX12_payers : ByteArray := prog_14_method_86_code
def yX12_payers : MethodName := ⟨RX12, "payers", "()I"⟩
abbrev cX12_plots : ByteArray := prog_14_method_87_code
def yX12_plots : MethodName := ⟨RX12, "plots", "(IIII)V"⟩
abbrev cX12_plot : ByteArray := prog_14_method_88_code
def yX12_plot : MethodName := ⟨RX12, "plot", "(IIII)I"⟩
abbrev cX12_see : ByteArray := prog_14_method_89_code
def yX12_see : MethodName := ⟨RX12, "see", "(IZ)Z"⟩
abbrev cX12_isAsSeen : ByteArray := prog_14_method_90_code
def yX12_isAsSeen : MethodName := ⟨RX12, "isAsSeen", "(I)Z"⟩
abbrev cX12_leaks : ByteArray := prog_14_method_91_code
def yX12_leaks : MethodName := ⟨RX12, "leaks", "(I)I"⟩
abbrev cX12_isClashing : ByteArray := prog_14_method_92_code
def yX12_isClashing : MethodName := ⟨RX12, "isClashing", "(I)Z"⟩
abbrev cX12_lies : ByteArray := prog_14_method_93_code
def yX12_lies : MethodName := ⟨RX12, "lies", "(I)I"⟩
abbrev cX12_laysHears : ByteArray := prog_14_method_94_code
def yX12_laysHears : MethodName := ⟨RX12, "laysHears", "(I)V"⟩
abbrev cX12_night : ByteArray := prog_14_method_95_code
def yX12_night : MethodName := ⟨RX12, "night", "()V"⟩
abbrev cX12_nights : ByteArray := prog_14_method_96_code
def yX12_nights : MethodName := ⟨RX12, "nights", "(II)V"⟩
abbrev cX12_mean : ByteArray := prog_14_method_97_code
def yX12_mean : MethodName := ⟨RX12, "mean", "(II)I"⟩
abbrev cX12_holds : ByteArray := prog_14_method_98_code
def yX12_holds : MethodName := ⟨RX12, "holds", "(II)I"⟩
abbrev cX12_settle : ByteArray := prog_14_method_99_code
def yX12_settle : MethodName := ⟨RX12, "settle", "()I"⟩
abbrev cX12_hasBy : ByteArray := prog_14_method_100_code
def yX12_hasBy : MethodName := ⟨RX12, "hasBy", "(I)I"⟩
abbrev cX12_may : ByteArray := prog_14_method_101_code
def yX12_may : MethodName := ⟨RX12, "may", "(II)Z"⟩
abbrev cX12_isRest : ByteArray := prog_14_method_102_code
def yX12_isRest : MethodName := ⟨RX12, "isRest", "()Z"⟩
abbrev cX12_rests : ByteArray := prog_14_method_103_code
def yX12_rests : MethodName := ⟨RX12, "rests", "(II)I"⟩
abbrev cX12_draws : ByteArray := prog_14_method_104_code
def yX12_draws : MethodName := ⟨RX12, "draws", "(I)I"⟩
abbrev cX12_whispers : ByteArray := prog_14_method_105_code
def yX12_whispers : MethodName := ⟨RX12, "whispers", "()I"⟩
abbrev cX12_years : ByteArray := prog_14_method_106_code
def yX12_years : MethodName := ⟨RX12, "years", "(III)I"⟩
abbrev cX12_mark : ByteArray := prog_14_method_107_code
def yX12_mark : MethodName := ⟨RX12, "mark", "(IZ)Z"⟩
abbrev cX12_count : ByteArray := prog_14_method_108_code
def yX12_count : MethodName := ⟨RX12, "count", "(I)I"⟩
def RJx145de : String := "java/io/Serializable"
def RJx9f9b0 : String := "java/lang/CharSequence"
def RJ11 : String := "java/lang/Character"
abbrev cJ11_isValidCodePoint_9a6ad : ByteArray := prog_17_method_11_code
def yJ11_isValidCodePoint_9a6ad : MethodName := ⟨RJ11, "isValidCodePoint", "(I)Z"⟩
abbrev cJ11_highSurrogate_5068e : ByteArray := prog_17_method_28_code
def yJ11_highSurrogate_5068e : MethodName := ⟨RJ11, "highSurrogate", "(I)C"⟩
abbrev cJ11_lowSurrogate_5068e : ByteArray := prog_17_method_29_code
def yJ11_lowSurrogate_5068e : MethodName := ⟨RJ11, "lowSurrogate", "(I)C"⟩
def RJxb160c : String := "java/lang/Comparable"
def RJx29ce0 : String := "java/lang/Enum"
def RJ6 : String := "java/lang/Integer"
abbrev cJ6_bitCount_0f7a4 : ByteArray := prog_21_method_49_code
def yJ6_bitCount_0f7a4 : MethodName := ⟨RJ6, "bitCount", "(I)I"⟩
def RJ9 : String := "java/lang/Math"
abbrev cJ9_floorMod_7cf53 : ByteArray := prog_22_method_50_code
def yJ9_floorMod_7cf53 : MethodName := ⟨RJ9, "floorMod", "(II)I"⟩
abbrev cJ9_max_7cf53 : ByteArray := prog_22_method_65_code
def yJ9_max_7cf53 : MethodName := ⟨RJ9, "max", "(II)I"⟩
abbrev cJ9_min_7cf53 : ByteArray := prog_22_method_69_code
def yJ9_min_7cf53 : MethodName := ⟨RJ9, "min", "(II)I"⟩
def RJ0 : String := "java/lang/String"
abbrev cJ0_length_8abf5 : ByteArray := prog_24_method_54_code
def yJ0_length_8abf5 : MethodName := ⟨RJ0, "length", "()I"⟩
abbrev cJ0_indexOf_0f7a4 : ByteArray := prog_24_method_79_code
def yJ0_indexOf_0f7a4 : MethodName := ⟨RJ0, "indexOf", "(I)I"⟩
abbrev cJ0_indexOf_7cf53 : ByteArray := prog_24_method_80_code
def yJ0_indexOf_7cf53 : MethodName := ⟨RJ0, "indexOf", "(II)I"⟩
abbrev cJ0_coder_7d493 : ByteArray := prog_24_method_152_code
def yJ0_coder_7d493 : MethodName := ⟨RJ0, "coder", "()B"⟩
abbrev cJ0_isLatin1_aae02 : ByteArray := prog_24_method_154_code
def yJ0_isLatin1_aae02 : MethodName := ⟨RJ0, "isLatin1", "()Z"⟩
abbrev cJ0_checkBoundsBeginEnd_23922 : ByteArray := prog_24_method_158_code
def yJ0_checkBoundsBeginEnd_23922 : MethodName := ⟨RJ0, "checkBoundsBeginEnd", "(III)V"⟩
def RJ1 : String := "java/lang/StringLatin1"
abbrev cJ1_canEncode_9a6ad : ByteArray := prog_25_method_4_code
def yJ1_canEncode_9a6ad : MethodName := ⟨RJ1, "canEncode", "(I)Z"⟩
abbrev cJ1_indexOf_4cfef : ByteArray := prog_25_method_22_code
def yJ1_indexOf_4cfef : MethodName := ⟨RJ1, "indexOf", "([BIII)I"⟩
abbrev cJ1_indexOfChar_4cfef : ByteArray := prog_25_method_23_code
def yJ1_indexOfChar_4cfef : MethodName := ⟨RJ1, "indexOfChar", "([BIII)I"⟩
def RJ2 : String := "java/lang/StringUTF16"
abbrev cJ2_getChar_3b067 : ByteArray := prog_26_method_5_code
def yJ2_getChar_3b067 : MethodName := ⟨RJ2, "getChar", "([BI)C"⟩
abbrev cJ2_length_9d52b : ByteArray := prog_26_method_6_code
def yJ2_length_9d52b : MethodName := ⟨RJ2, "length", "([B)I"⟩
abbrev cJ2_indexOf_4cfef : ByteArray := prog_26_method_40_code
def yJ2_indexOf_4cfef : MethodName := ⟨RJ2, "indexOf", "([BIII)I"⟩
abbrev cJ2_indexOfChar_4cfef : ByteArray := prog_26_method_47_code
def yJ2_indexOfChar_4cfef : MethodName := ⟨RJ2, "indexOfChar", "([BIII)I"⟩
abbrev cJ2_indexOfCharUnsafe_4cfef : ByteArray := prog_26_method_48_code
def yJ2_indexOfCharUnsafe_4cfef : MethodName := ⟨RJ2, "indexOfCharUnsafe", "([BIII)I"⟩
abbrev cJ2_indexOfSupplementary_4cfef : ByteArray := prog_26_method_49_code
def yJ2_indexOfSupplementary_4cfef : MethodName := ⟨RJ2, "indexOfSupplementary", "([BIII)I"⟩
abbrev cJ2_checkBoundsBeginEnd_d044e : ByteArray := prog_26_method_93_code
def yJ2_checkBoundsBeginEnd_d044e : MethodName := ⟨RJ2, "checkBoundsBeginEnd", "(II[B)V"⟩
def RJ10 : String := "java/lang/System"
def RJxfd54e : String := "java/lang/constant/Constable"
def RJx3cf43 : String := "java/lang/constant/ConstantDesc"
def RJ7 : String := "java/util/Arrays"
abbrev cJ7_fill_d0a16 : ByteArray := prog_31_method_101_code
def yJ7_fill_d0a16 : MethodName := ⟨RJ7, "fill", "([JJ)V"⟩
abbrev cJ7_fill_53178 : ByteArray := prog_31_method_103_code
def yJ7_fill_53178 : MethodName := ⟨RJ7, "fill", "([II)V"⟩
def RJ3 : String := "jdk/internal/util/Preconditions"
abbrev cJ3_checkFromToIndex_8c36e : ByteArray := prog_33_method_12_code
def yJ3_checkFromToIndex_8c36e : MethodName := ⟨RJ3, "checkFromToIndex", "(IIILjava/util/function/BiFunction;)I"⟩
def RL : String := "PaidSecretsLaw"
abbrev cL_person : ByteArray := method_3_code
def yL_person : MethodName := ⟨RL, "person", "(LPaidSecrets;II[J)I"⟩
abbrev cL_plot : ByteArray := method_4_code
def yL_plot : MethodName := ⟨RL, "plot", "(LPaidSecrets;IIII[J)I"⟩
abbrev cL_law : ByteArray := code
def yL_law : MethodName := ⟨RL, "law", "([I)Z"⟩
