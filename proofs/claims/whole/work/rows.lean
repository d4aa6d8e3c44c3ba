section
-- ===== PART A: goes FIRST, ahead of the names: the tables' words, and 'selects' of the private methods out of them =====
/-- a private method of a class that the tables say can be made, by its rows of tables_1 -/
def lw_okq (q : MethodName × Nat) : Prop := (q.1.cls ≠ "java/lang/invoke/MethodHandle" ∧ q.1.cls ≠ "java/lang/invoke/VarHandle") ∧ Cond.instantiable q.1.cls q.2 ∈ tables_1 ∧ Cond.privateMethod q.1 ∈ tables_1 ∧ Cond.instanceMethod q.1 ∈ tables_1
theorem lw_p0 : lw_okq (⟨"java/lang/Throwable", "fillInStackTrace", "(I)Ljava/lang/Throwable;"⟩, 6) := ⟨⟨by decide +kernel, by decide +kernel⟩, List.mem_of_getElem? (i := 334) (by decide +kernel), List.mem_of_getElem? (i := 332) (by decide +kernel), List.mem_of_getElem? (i := 333) (by decide +kernel)⟩
theorem lw_p1 : lw_okq (⟨"LeaseServer", "requirePool", "(I)V"⟩, 4) := ⟨⟨by decide +kernel, by decide +kernel⟩, List.mem_of_getElem? (i := 23) (by decide +kernel), List.mem_of_getElem? (i := 469) (by decide +kernel), List.mem_of_getElem? (i := 470) (by decide +kernel)⟩
theorem lw_p2 : lw_okq (⟨"LeaseServer", "requireInPool", "(I)V"⟩, 4) := ⟨⟨by decide +kernel, by decide +kernel⟩, List.mem_of_getElem? (i := 23) (by decide +kernel), List.mem_of_getElem? (i := 516) (by decide +kernel), List.mem_of_getElem? (i := 517) (by decide +kernel)⟩
theorem lw_p3 : lw_okq (⟨"LeaseServer$State", "isCandidate", "(II)Z"⟩, 5) := ⟨⟨by decide +kernel, by decide +kernel⟩, List.mem_of_getElem? (i := 49) (by decide +kernel), List.mem_of_getElem? (i := 617) (by decide +kernel), List.mem_of_getElem? (i := 618) (by decide +kernel)⟩
theorem lw_p4 : lw_okq (⟨"LeaseServer$State", "longestFree", "(I)I"⟩, 5) := ⟨⟨by decide +kernel, by decide +kernel⟩, List.mem_of_getElem? (i := 49) (by decide +kernel), List.mem_of_getElem? (i := 627) (by decide +kernel), List.mem_of_getElem? (i := 628) (by decide +kernel)⟩
theorem lw_p5 : lw_okq (⟨"LeaseServer$State", "longestFreeIn", "(III)I"⟩, 5) := ⟨⟨by decide +kernel, by decide +kernel⟩, List.mem_of_getElem? (i := 49) (by decide +kernel), List.mem_of_getElem? (i := 631) (by decide +kernel), List.mem_of_getElem? (i := 632) (by decide +kernel)⟩
theorem lw_p6 : lw_okq (⟨"LeaseServer$State", "holdFor", "(II)V"⟩, 5) := ⟨⟨by decide +kernel, by decide +kernel⟩, List.mem_of_getElem? (i := 49) (by decide +kernel), List.mem_of_getElem? (i := 641) (by decide +kernel), List.mem_of_getElem? (i := 642) (by decide +kernel)⟩
theorem lw_p7 : lw_okq (⟨"LeaseServer$State", "findConflict", "(I)V"⟩, 5) := ⟨⟨by decide +kernel, by decide +kernel⟩, List.mem_of_getElem? (i := 49) (by decide +kernel), List.mem_of_getElem? (i := 658) (by decide +kernel), List.mem_of_getElem? (i := 659) (by decide +kernel)⟩
theorem lw_p8 : lw_okq (⟨"LeaseServer$State", "groupOfClient", "(I)I"⟩, 5) := ⟨⟨by decide +kernel, by decide +kernel⟩, List.mem_of_getElem? (i := 49) (by decide +kernel), List.mem_of_getElem? (i := 680) (by decide +kernel), List.mem_of_getElem? (i := 681) (by decide +kernel)⟩
theorem lw_p9 : lw_okq (⟨"LeaseServer$State", "startTerm", "(I)V"⟩, 5) := ⟨⟨by decide +kernel, by decide +kernel⟩, List.mem_of_getElem? (i := 49) (by decide +kernel), List.mem_of_getElem? (i := 689) (by decide +kernel), List.mem_of_getElem? (i := 690) (by decide +kernel)⟩
theorem lw_p10 : lw_okq (⟨"LeaseServer", "requireBound", "(I)V"⟩, 4) := ⟨⟨by decide +kernel, by decide +kernel⟩, List.mem_of_getElem? (i := 23) (by decide +kernel), List.mem_of_getElem? (i := 708) (by decide +kernel), List.mem_of_getElem? (i := 709) (by decide +kernel)⟩
theorem lw_p11 : lw_okq (⟨"LeaseServer$State", "earliestEventOfClients", "()I"⟩, 5) := ⟨⟨by decide +kernel, by decide +kernel⟩, List.mem_of_getElem? (i := 49) (by decide +kernel), List.mem_of_getElem? (i := 766) (by decide +kernel), List.mem_of_getElem? (i := 767) (by decide +kernel)⟩
theorem lw_p12 : lw_okq (⟨"LeaseServer$State", "eventOfClient", "(I)I"⟩, 5) := ⟨⟨by decide +kernel, by decide +kernel⟩, List.mem_of_getElem? (i := 49) (by decide +kernel), List.mem_of_getElem? (i := 771) (by decide +kernel), List.mem_of_getElem? (i := 772) (by decide +kernel)⟩
theorem lw_p13 : lw_okq (⟨"LeaseServer$State", "carryOut", "(I)V"⟩, 5) := ⟨⟨by decide +kernel, by decide +kernel⟩, List.mem_of_getElem? (i := 49) (by decide +kernel), List.mem_of_getElem? (i := 780) (by decide +kernel), List.mem_of_getElem? (i := 781) (by decide +kernel)⟩
theorem lw_p14 : lw_okq (⟨"LeaseServer$State", "carryOutForHolder", "(III)V"⟩, 5) := ⟨⟨by decide +kernel, by decide +kernel⟩, List.mem_of_getElem? (i := 49) (by decide +kernel), List.mem_of_getElem? (i := 790) (by decide +kernel), List.mem_of_getElem? (i := 791) (by decide +kernel)⟩
theorem lw_p15 : lw_okq (⟨"LeaseServer$State", "renewOrTurn", "(IZI)V"⟩, 5) := ⟨⟨by decide +kernel, by decide +kernel⟩, List.mem_of_getElem? (i := 49) (by decide +kernel), List.mem_of_getElem? (i := 795) (by decide +kernel), List.mem_of_getElem? (i := 796) (by decide +kernel)⟩
def lw_privs_1 : List (MethodName × Nat) := [(⟨"java/lang/Throwable", "fillInStackTrace", "(I)Ljava/lang/Throwable;"⟩, 6), (⟨"LeaseServer", "requirePool", "(I)V"⟩, 4), (⟨"LeaseServer", "requireInPool", "(I)V"⟩, 4), (⟨"LeaseServer$State", "isCandidate", "(II)Z"⟩, 5), (⟨"LeaseServer$State", "longestFree", "(I)I"⟩, 5), (⟨"LeaseServer$State", "longestFreeIn", "(III)I"⟩, 5), (⟨"LeaseServer$State", "holdFor", "(II)V"⟩, 5), (⟨"LeaseServer$State", "findConflict", "(I)V"⟩, 5), (⟨"LeaseServer$State", "groupOfClient", "(I)I"⟩, 5), (⟨"LeaseServer$State", "startTerm", "(I)V"⟩, 5), (⟨"LeaseServer", "requireBound", "(I)V"⟩, 4), (⟨"LeaseServer$State", "earliestEventOfClients", "()I"⟩, 5), (⟨"LeaseServer$State", "eventOfClient", "(I)I"⟩, 5), (⟨"LeaseServer$State", "carryOut", "(I)V"⟩, 5), (⟨"LeaseServer$State", "carryOutForHolder", "(III)V"⟩, 5), (⟨"LeaseServer$State", "renewOrTurn", "(IZI)V"⟩, 5)]
theorem lw_r1 : ∀ q ∈ lw_privs_1, lw_okq q := List.forall_mem_cons.mpr ⟨lw_p0, List.forall_mem_cons.mpr ⟨lw_p1, List.forall_mem_cons.mpr ⟨lw_p2, List.forall_mem_cons.mpr ⟨lw_p3, List.forall_mem_cons.mpr ⟨lw_p4, List.forall_mem_cons.mpr ⟨lw_p5, List.forall_mem_cons.mpr ⟨lw_p6, List.forall_mem_cons.mpr ⟨lw_p7, List.forall_mem_cons.mpr ⟨lw_p8, List.forall_mem_cons.mpr ⟨lw_p9, List.forall_mem_cons.mpr ⟨lw_p10, List.forall_mem_cons.mpr ⟨lw_p11, List.forall_mem_cons.mpr ⟨lw_p12, List.forall_mem_cons.mpr ⟨lw_p13, List.forall_mem_cons.mpr ⟨lw_p14, List.forall_mem_cons.mpr ⟨lw_p15, fun _ h => absurd h List.not_mem_nil⟩⟩⟩⟩⟩⟩⟩⟩⟩⟩⟩⟩⟩⟩⟩⟩
theorem lw_p16 : lw_okq (⟨"LeaseServerModel", "raises", "(I)I"⟩, 6) := ⟨⟨by decide +kernel, by decide +kernel⟩, List.mem_of_getElem? (i := 967) (by decide +kernel), List.mem_of_getElem? (i := 1006) (by decide +kernel), List.mem_of_getElem? (i := 1007) (by decide +kernel)⟩
theorem lw_p17 : lw_okq (⟨"LeaseServerModel", "owner", "(I)I"⟩, 6) := ⟨⟨by decide +kernel, by decide +kernel⟩, List.mem_of_getElem? (i := 967) (by decide +kernel), List.mem_of_getElem? (i := 1013) (by decide +kernel), List.mem_of_getElem? (i := 1014) (by decide +kernel)⟩
theorem lw_p18 : lw_okq (⟨"LeaseServerModel", "pool", "(I)I"⟩, 6) := ⟨⟨by decide +kernel, by decide +kernel⟩, List.mem_of_getElem? (i := 967) (by decide +kernel), List.mem_of_getElem? (i := 1017) (by decide +kernel), List.mem_of_getElem? (i := 1018) (by decide +kernel)⟩
theorem lw_p19 : lw_okq (⟨"LeaseServerModel", "isPool", "(I)Z"⟩, 6) := ⟨⟨by decide +kernel, by decide +kernel⟩, List.mem_of_getElem? (i := 967) (by decide +kernel), List.mem_of_getElem? (i := 1025) (by decide +kernel), List.mem_of_getElem? (i := 1026) (by decide +kernel)⟩
theorem lw_p20 : lw_okq (⟨"LeaseServerModel", "isCandidate", "(II)Z"⟩, 6) := ⟨⟨by decide +kernel, by decide +kernel⟩, List.mem_of_getElem? (i := 967) (by decide +kernel), List.mem_of_getElem? (i := 1037) (by decide +kernel), List.mem_of_getElem? (i := 1038) (by decide +kernel)⟩
theorem lw_p21 : lw_okq (⟨"LeaseServerModel", "groupOf", "(I)I"⟩, 6) := ⟨⟨by decide +kernel, by decide +kernel⟩, List.mem_of_getElem? (i := 967) (by decide +kernel), List.mem_of_getElem? (i := 1041) (by decide +kernel), List.mem_of_getElem? (i := 1042) (by decide +kernel)⟩
theorem lw_p22 : lw_okq (⟨"LeaseServerModel", "flips", "(ZIZ)Z"⟩, 6) := ⟨⟨by decide +kernel, by decide +kernel⟩, List.mem_of_getElem? (i := 967) (by decide +kernel), List.mem_of_getElem? (i := 1053) (by decide +kernel), List.mem_of_getElem? (i := 1054) (by decide +kernel)⟩
theorem lw_p23 : lw_okq (⟨"LeaseServerModel", "sets", "(II)I"⟩, 6) := ⟨⟨by decide +kernel, by decide +kernel⟩, List.mem_of_getElem? (i := 967) (by decide +kernel), List.mem_of_getElem? (i := 1057) (by decide +kernel), List.mem_of_getElem? (i := 1058) (by decide +kernel)⟩
theorem lw_p24 : lw_okq (⟨"LeaseServerModel", "isBound", "(I)Z"⟩, 6) := ⟨⟨by decide +kernel, by decide +kernel⟩, List.mem_of_getElem? (i := 967) (by decide +kernel), List.mem_of_getElem? (i := 1088) (by decide +kernel), List.mem_of_getElem? (i := 1089) (by decide +kernel)⟩
theorem lw_p25 : lw_okq (⟨"LeaseServerModel", "frees", "(II)V"⟩, 6) := ⟨⟨by decide +kernel, by decide +kernel⟩, List.mem_of_getElem? (i := 967) (by decide +kernel), List.mem_of_getElem? (i := 1092) (by decide +kernel), List.mem_of_getElem? (i := 1093) (by decide +kernel)⟩
theorem lw_p26 : lw_okq (⟨"LeaseServerModel", "candidate", "(III)I"⟩, 6) := ⟨⟨by decide +kernel, by decide +kernel⟩, List.mem_of_getElem? (i := 967) (by decide +kernel), List.mem_of_getElem? (i := 1096) (by decide +kernel), List.mem_of_getElem? (i := 1097) (by decide +kernel)⟩
theorem lw_p27 : lw_okq (⟨"LeaseServerModel", "declines", "(I)V"⟩, 6) := ⟨⟨by decide +kernel, by decide +kernel⟩, List.mem_of_getElem? (i := 967) (by decide +kernel), List.mem_of_getElem? (i := 1100) (by decide +kernel), List.mem_of_getElem? (i := 1101) (by decide +kernel)⟩
theorem lw_p28 : lw_okq (⟨"LeaseServerModel", "logs", "(II)V"⟩, 6) := ⟨⟨by decide +kernel, by decide +kernel⟩, List.mem_of_getElem? (i := 967) (by decide +kernel), List.mem_of_getElem? (i := 1104) (by decide +kernel), List.mem_of_getElem? (i := 1105) (by decide +kernel)⟩
theorem lw_p29 : lw_okq (⟨"LeaseServerModel", "lasts", "(II)V"⟩, 6) := ⟨⟨by decide +kernel, by decide +kernel⟩, List.mem_of_getElem? (i := 967) (by decide +kernel), List.mem_of_getElem? (i := 1112) (by decide +kernel), List.mem_of_getElem? (i := 1113) (by decide +kernel)⟩
theorem lw_p30 : lw_okq (⟨"LeaseServerModel", "lacksLease", "(I)I"⟩, 6) := ⟨⟨by decide +kernel, by decide +kernel⟩, List.mem_of_getElem? (i := 967) (by decide +kernel), List.mem_of_getElem? (i := 1120) (by decide +kernel), List.mem_of_getElem? (i := 1121) (by decide +kernel)⟩
theorem lw_p31 : lw_okq (⟨"LeaseServerModel", "renews", "(II)Z"⟩, 6) := ⟨⟨by decide +kernel, by decide +kernel⟩, List.mem_of_getElem? (i := 967) (by decide +kernel), List.mem_of_getElem? (i := 1132) (by decide +kernel), List.mem_of_getElem? (i := 1133) (by decide +kernel)⟩
def lw_privs_2 : List (MethodName × Nat) := [(⟨"LeaseServerModel", "raises", "(I)I"⟩, 6), (⟨"LeaseServerModel", "owner", "(I)I"⟩, 6), (⟨"LeaseServerModel", "pool", "(I)I"⟩, 6), (⟨"LeaseServerModel", "isPool", "(I)Z"⟩, 6), (⟨"LeaseServerModel", "isCandidate", "(II)Z"⟩, 6), (⟨"LeaseServerModel", "groupOf", "(I)I"⟩, 6), (⟨"LeaseServerModel", "flips", "(ZIZ)Z"⟩, 6), (⟨"LeaseServerModel", "sets", "(II)I"⟩, 6), (⟨"LeaseServerModel", "isBound", "(I)Z"⟩, 6), (⟨"LeaseServerModel", "frees", "(II)V"⟩, 6), (⟨"LeaseServerModel", "candidate", "(III)I"⟩, 6), (⟨"LeaseServerModel", "declines", "(I)V"⟩, 6), (⟨"LeaseServerModel", "logs", "(II)V"⟩, 6), (⟨"LeaseServerModel", "lasts", "(II)V"⟩, 6), (⟨"LeaseServerModel", "lacksLease", "(I)I"⟩, 6), (⟨"LeaseServerModel", "renews", "(II)Z"⟩, 6)]
theorem lw_r2 : ∀ q ∈ lw_privs_2, lw_okq q := List.forall_mem_cons.mpr ⟨lw_p16, List.forall_mem_cons.mpr ⟨lw_p17, List.forall_mem_cons.mpr ⟨lw_p18, List.forall_mem_cons.mpr ⟨lw_p19, List.forall_mem_cons.mpr ⟨lw_p20, List.forall_mem_cons.mpr ⟨lw_p21, List.forall_mem_cons.mpr ⟨lw_p22, List.forall_mem_cons.mpr ⟨lw_p23, List.forall_mem_cons.mpr ⟨lw_p24, List.forall_mem_cons.mpr ⟨lw_p25, List.forall_mem_cons.mpr ⟨lw_p26, List.forall_mem_cons.mpr ⟨lw_p27, List.forall_mem_cons.mpr ⟨lw_p28, List.forall_mem_cons.mpr ⟨lw_p29, List.forall_mem_cons.mpr ⟨lw_p30, List.forall_mem_cons.mpr ⟨lw_p31, fun _ h => absurd h List.not_mem_nil⟩⟩⟩⟩⟩⟩⟩⟩⟩⟩⟩⟩⟩⟩⟩⟩
theorem lw_p32 : lw_okq (⟨"LeaseServerModel", "earliest", "()I"⟩, 6) := ⟨⟨by decide +kernel, by decide +kernel⟩, List.mem_of_getElem? (i := 967) (by decide +kernel), List.mem_of_getElem? (i := 1141) (by decide +kernel), List.mem_of_getElem? (i := 1142) (by decide +kernel)⟩
theorem lw_p33 : lw_okq (⟨"LeaseServerModel", "due", "(I)I"⟩, 6) := ⟨⟨by decide +kernel, by decide +kernel⟩, List.mem_of_getElem? (i := 967) (by decide +kernel), List.mem_of_getElem? (i := 1145) (by decide +kernel), List.mem_of_getElem? (i := 1146) (by decide +kernel)⟩
theorem lw_p34 : lw_okq (⟨"LeaseServerModel", "stateOf", "(I)I"⟩, 6) := ⟨⟨by decide +kernel, by decide +kernel⟩, List.mem_of_getElem? (i := 967) (by decide +kernel), List.mem_of_getElem? (i := 1149) (by decide +kernel), List.mem_of_getElem? (i := 1150) (by decide +kernel)⟩
theorem lw_p35 : lw_okq (⟨"LeaseServerModel", "happen", "(I)I"⟩, 6) := ⟨⟨by decide +kernel, by decide +kernel⟩, List.mem_of_getElem? (i := 967) (by decide +kernel), List.mem_of_getElem? (i := 1153) (by decide +kernel), List.mem_of_getElem? (i := 1154) (by decide +kernel)⟩
theorem lw_p36 : lw_okq (⟨"LeaseServerModel", "kind", "(I)I"⟩, 6) := ⟨⟨by decide +kernel, by decide +kernel⟩, List.mem_of_getElem? (i := 967) (by decide +kernel), List.mem_of_getElem? (i := 1157) (by decide +kernel), List.mem_of_getElem? (i := 1158) (by decide +kernel)⟩
theorem lw_p37 : lw_okq (⟨"LeaseServerModel", "happens", "(II)V"⟩, 6) := ⟨⟨by decide +kernel, by decide +kernel⟩, List.mem_of_getElem? (i := 967) (by decide +kernel), List.mem_of_getElem? (i := 1161) (by decide +kernel), List.mem_of_getElem? (i := 1162) (by decide +kernel)⟩
theorem lw_p38 : lw_okq (⟨"LeaseServerModel", "lacks", "(I)I"⟩, 6) := ⟨⟨by decide +kernel, by decide +kernel⟩, List.mem_of_getElem? (i := 967) (by decide +kernel), List.mem_of_getElem? (i := 1193) (by decide +kernel), List.mem_of_getElem? (i := 1194) (by decide +kernel)⟩
theorem lw_p39 : lw_okq (⟨"LeaseServerModel", "count", "(II)I"⟩, 6) := ⟨⟨by decide +kernel, by decide +kernel⟩, List.mem_of_getElem? (i := 967) (by decide +kernel), List.mem_of_getElem? (i := 1217) (by decide +kernel), List.mem_of_getElem? (i := 1218) (by decide +kernel)⟩
theorem lw_p40 : lw_okq (⟨"LeaseServerModel", "boundOnes", "()I"⟩, 6) := ⟨⟨by decide +kernel, by decide +kernel⟩, List.mem_of_getElem? (i := 967) (by decide +kernel), List.mem_of_getElem? (i := 1225) (by decide +kernel), List.mem_of_getElem? (i := 1226) (by decide +kernel)⟩
def lw_privs_3 : List (MethodName × Nat) := [(⟨"LeaseServerModel", "earliest", "()I"⟩, 6), (⟨"LeaseServerModel", "due", "(I)I"⟩, 6), (⟨"LeaseServerModel", "stateOf", "(I)I"⟩, 6), (⟨"LeaseServerModel", "happen", "(I)I"⟩, 6), (⟨"LeaseServerModel", "kind", "(I)I"⟩, 6), (⟨"LeaseServerModel", "happens", "(II)V"⟩, 6), (⟨"LeaseServerModel", "lacks", "(I)I"⟩, 6), (⟨"LeaseServerModel", "count", "(II)I"⟩, 6), (⟨"LeaseServerModel", "boundOnes", "()I"⟩, 6)]
theorem lw_r3 : ∀ q ∈ lw_privs_3, lw_okq q := List.forall_mem_cons.mpr ⟨lw_p32, List.forall_mem_cons.mpr ⟨lw_p33, List.forall_mem_cons.mpr ⟨lw_p34, List.forall_mem_cons.mpr ⟨lw_p35, List.forall_mem_cons.mpr ⟨lw_p36, List.forall_mem_cons.mpr ⟨lw_p37, List.forall_mem_cons.mpr ⟨lw_p38, List.forall_mem_cons.mpr ⟨lw_p39, List.forall_mem_cons.mpr ⟨lw_p40, fun _ h => absurd h List.not_mem_nil⟩⟩⟩⟩⟩⟩⟩⟩⟩
def lw_privs : List (MethodName × Nat) := lw_privs_1 ++ (lw_privs_2 ++ (lw_privs_3))
def lw_tbl : List Cond := k2_sels lw_privs ++ tables_1
theorem lw_privs_ok : ∀ q ∈ lw_privs, lw_okq q := by
  show ∀ q ∈ lw_privs_1 ++ (lw_privs_2 ++ (lw_privs_3)), lw_okq q
  exact List.forall_mem_append.mpr ⟨lw_r1, List.forall_mem_append.mpr ⟨lw_r2, lw_r3⟩⟩
/-- the streams that the claim lets the run draw from -/
abbrev lw_cs : List Choice := [Jvm.Choice.named "NaN.bits"]
theorem lw_bits : nanBits ∈ lw_cs := by first | decide | exact List.mem_cons_self | simp [lw_cs, nanBits]
end
section
/-! ===== BEGIN words of one list among another's, by their places ===== -/
theorem goodIn_r {big : List Cond} (ws : List Cond) (ps : List Nat) (hp : ws = ps.filterMap (fun i => big[i]?)) (h : ws.all goodWord = true) : GoodIn big ws := by
  intro w hw
  have h1 := List.all_eq_true.mp h w hw
  rw [hp] at hw
  obtain ⟨i, -, hi⟩ := List.mem_filterMap.mp hw
  have hm : w ∈ big := by first | exact List.mem_of_getElem? hi | exact List.getElem?_mem hi
  exact ⟨hm, good_of_word h1⟩
theorem goodIn_app {big a b : List Cond} (ha : GoodIn big a) (hb : GoodIn big b) : GoodIn big (a ++ b) := fun w h => (List.mem_append.mp h).elim (ha w) (hb w)
theorem goodIn_ca {big a b : List Cond} {c : Cond} (ha : GoodIn big (c :: a)) (hb : GoodIn big b) : GoodIn big (c :: (a ++ b)) := fun w h => (List.mem_cons.mp h).elim (fun e => ha w (List.mem_cons.mpr (Or.inl e))) (fun h => (List.mem_append.mp h).elim (fun h => ha w (List.mem_cons.mpr (Or.inr h))) (hb w))
theorem goodIn_sub {big ws : List Cond} (hm : ∀ w ∈ ws, w ∈ big) (h : ws.all goodWord = true) : GoodIn big ws := fun w hw => ⟨hm w hw, good_of_word (List.all_eq_true.mp h w hw)⟩
/-! ===== END ===== -/

/-! ===== BEGIN exceptions that leave a method, and their catching by the caller (launches without stack traces) ===== -/
section VXA
/-! The laws vx_back, vx_callV, vx_callS, vx_callSW, vx_throw0, vx_throwS follow proofs of the library, with one case more: JvmDerived/Free/Laws.lean (Back.of_free), Shelf42/LK1.lean (callV, callS), Shelf/KitTraced.lean (throwNew0V, throwNewS). -/
/-- where a method has thrown q: the class by its name, the cell, what was written, the world -/
def vx_T (XC : String → State → State → Prop) (st : State) (q : Addr) (t : State) (mc ms : Nat) (free : Addr → Prop) : Prop :=
  ∃ (E : String) (ce : Cell) (L : List Loc), XC E st t ∧ t.heap[q]? = some ce ∧ ce.vm = .none ∧ st.vm.findClass E = some ce.cls ∧ st.WarmedH t.vm ∧ st.sameButNew ({ t with vm := st.vm } : State) L mc ms ∧ ∀ z ∈ L, free z.base
def vx_Q (Qc : Array Value → State → Outcome → State → Prop) (XC : String → State → State → Prop) (mc ms : Nat) (free : Addr → Prop) : Array Value → State → Outcome → State → Prop := fun a st o t =>
  (Qc a st o t ∧ ∃ L, FrameEnd st o t L mc ms ∧ ∀ q ∈ L, free q.base) ∨ ∃ q, o = .threw q ∧ vx_T XC st q t mc ms free
/-- a callee that returns or throws -/
def vx_Met (l : Launch) (y : MethodName) (ws : List Cond) (rm : Room) (Pc : Array Value → State → Prop) (Qc : Array Value → State → Outcome → State → Prop) (XC : String → State → State → Prop) (mc ms : Nat) (free : Addr → Prop) : Prop :=
  MetFree l y (headSpec ws rm) Pc (fun _ _ _ _ _ => True) (vx_Q Qc XC mc ms free)
def vx_Post (XC : String → State → State → Prop) (mc ms : Nat) (free : Addr → Prop) : Pt → Array Value → Addr → Pt → Prop := fun A a q B =>
  ∃ (g : JFrame) (mk : MethodId) (t : State) (L : List Loc) (E : String) (ce : Cell), B.U.heap = t.heap ∧ B.U.vm = t.vm ∧ XC E (A.U.calling g mk a) t ∧ t.heap[q]? = some ce ∧ ce.vm = .none ∧ A.U.vm.findClass E = some ce.cls ∧ B.locs = A.locs ++ L ∧ (∀ z ∈ L, free z.base) ∧ B.cells = A.cells + mc ∧ B.slots = A.slots + ms
def vx_Back (l : Launch) (R : Room) (p : Program) (e : Env) (below : List Frame) (s : State) (sargs : Array Value) (y : MethodName) (len W9 : Nat)
    (Pre : Pt → Array Value → Prop) (Post : Pt → Array Value → Option Value → Pt → Prop) (PostX : Pt → Array Value → Addr → Pt → Prop) : Prop :=
  ∀ (m : MethodId) (meth : Method) (c : Code) (A : Pt) (g : JFrame) (ig : Instr) (mk : MethodId) (a : Array Value),
    Stand p l e R s m sargs below meth c A.U A.locs A.cells A.slots → g.method = m → g.locals.size = c.maxLocals → decode c.code g.pc = .ok (ig, len) →
    2 * g.monitorRoom + (g.stack.map fun v => v.category).sum ≤ W9 → A.U.methodNamed? y = some mk → Pre A a →
    (∃ (v : Option Value) (B : Pt), Stand p l e R s m sargs below meth c B.U B.locs B.cells B.slots ∧ Post A a v B ∧
      Steps p.tables e below (doInvoke e (A.U.setTop g) [] mk a).1 (B.U.setTop { g with pc := g.pc + len, stack := v.toList ++ g.stack })) ∨
    (∃ (q : Addr) (B : Pt), Stand p l e R s m sargs below meth c B.U B.locs B.cells B.slots ∧ PostX A a q B ∧
      Steps p.tables e below (doInvoke e (A.U.setTop g) [] mk a).1 ((B.U.setTop g).pushFrame (.throwing q)))
section Payer
variable {l : Launch} {R : Room} {p : Program} {e : Env} {below : List Frame} {s : State} {sargs : Array Value} {y : MethodName} {len W9 : Nat}
theorem vx_back {ws : List Cond} {rm : Room} {Pc : Array Value → State → Prop} {Qc : Array Value → State → Outcome → State → Prop} {XC : String → State → State → Prop} {mc ms : Nat} {free : Addr → Prop} {bytes : ByteArray} {maxL : Nat} {ret : Option FieldType}
    (hM : vx_Met l y ws rm Pc Qc XC mc ms free) (hblind : FrameBlind Pc) (hrc : rm.cells = mc) (hrs : rm.slots = ms)
    (hframes : rm.frames + 1 ≤ R.frames) (hlocals : W9 + (maxL + 11) + rm.locals ≤ R.locals)
    (hws : ∀ w ∈ ws, ∀ a' U, s.WarmedH U.vm → w.before a' U = true) (hcode : Cond.code y bytes maxL ret ∈ ws) (hinit : ∀ a' U, s.WarmedH U.vm → (Cond.initialized y.cls).before a' U = true) :
    vx_Back l R p e below s sargs y len W9 (PreOf R mc ms Pc) (PostOf Qc mc ms free) (vx_Post XC mc ms free) := by
  intro m meth c A g ig mk a X hg hsize hdg hW hn hp
  have h1 : (headSpec ws rm).pre.before a A.U = true := atoms_intro fun w hw => hws w hw _ _ X.warmed
  have h2 : (Cond.code y bytes maxL ret).before a A.U = true := hws _ hcode _ _ X.warmed
  have h3 : (Cond.initialized y.cls).before a A.U = true := hinit _ _ X.warmed
  have h4 : A.cells + (headSpec ws rm).room.cells ≤ R.cells := by rw [show (headSpec ws rm).room.cells = mc from hrc]; exact hp.1
  have h5 : A.slots + (headSpec ws rm).room.slots ≤ R.slots := by rw [show (headSpec ws rm).room.slots = ms from hrs]; exact hp.2.1
  have hPc : Pc a (A.U.calling g mk a) := hblind _ _ _ _ hp.2.2
  obtain ⟨U, Ls, c0, s0⟩ := A
  dsimp only [Pt.U, Pt.locs, Pt.cells, Pt.slots] at h1 h2 h3 h4 h5 X hn hPc ⊢
  obtain ⟨methY, cY, hmY, hcY, -, hlY, -, -, -, -⟩ := Cond.code_spec hn h2
  obtain ⟨kY, hkY, -⟩ := className_of_methodNamed hn
  have hinitY : kY.init = .initialized := Cond.initialized_spec (findClass_of_methodNamed hn) hkY h3
  have h : At U g.method c below := by rw [hg]; exact X.here
  have hlocals9 : W9 + (maxL + 11) + (headSpec ws rm).room.locals ≤ R.locals := hlocals
  have happ : (headSpec ws rm).appliesLoose y e.platform (U.calling g mk a) = true :=
    Spec.appliesLoose_calling (g := g) h hdg hn hkY hinitY
      (X.room_calling (g := g) (R' := (headSpec ws rm).room) hsize hmY hcY hframes (by rw [hlY]; omega) h4 h5) h1
  obtain ⟨mid, hmid⟩ := h.above
  have hfr : (U.setTop g).frames = (.java g :: mid) ++ below := by rw [State.frames_setTop' g h.top, hmid]; rfl
  obtain ⟨o, s₂, hsteps, -, hend, hq⟩ := Steps.callFree hM p X.admits X.cas X.clock (acts := []) hfr happ hPc trivial
  have hq' : vx_Q Qc XC mc ms free a (U.calling g mk a) o s₂ := hq
  rw [State.frames_setTop' g h.top] at hend
  obtain ⟨g₀, hg0⟩ := Option.isSome_iff_exists.mp h.top
  obtain ⟨r, hr⟩ := State.topJava?_eq_some.mp hg0
  have hr' : (({ U with heap := s₂.heap, slotsUsed := s₂.slotsUsed } : State).setVm s₂.vm).frames = .java g₀ :: r := hr
  rcases hq' with ⟨hqc, L, hfe, hL⟩ | ⟨q, rfl, E, ce, L, hx, hce, hcv, hcl, hW₂, hsm, hL⟩
  · obtain ⟨⟨v, rfl⟩, hW₂, e2, q2, q3, q4, q5, q6⟩ := id hfe
    have e3 : s₂ = ({ (U.calling g mk a).setFrames s₂.frames with heap := s₂.heap, slotsUsed := s₂.slotsUsed } : State).setVm s₂.vm := by
      have : s₂ = ({ s₂ with vm := (U.calling g mk a).vm } : State).setVm s₂.vm := rfl
      rw [e2] at this
      exact this
    obtain ⟨c₂, i₂, len₂, hc₂, hd₂, hf₂⟩ := hend
    have hW' : U.WarmedH s₂.vm := hW₂
    have hcc : c₂ = c := by
      have h1 : s₂.code? g.method = U.code? g.method := by
        rw [State.code?_eq, State.code?_eq, hW'.alike.method?]
      exact Option.some.inj (hc₂.symm.trans (h1.trans h.code))
    subst hcc
    have hlen : len₂ = len := by rw [hdg] at hd₂; cases hd₂; rfl
    subst hlen
    have hs₂ : s₂ = (({ U with heap := s₂.heap, slotsUsed := s₂.slotsUsed } : State).setVm s₂.vm).setTop { g with pc := g.pc + len₂, stack := v.toList ++ g.stack } := by
      refine e3.trans ?_
      rw [hf₂, State.calling_eq h.top, State.setFrames_setFrames, State.setTop_of_frames _ hr', hr]
      rfl
    have hsame : U.sameButNew ({ U with heap := s₂.heap, slotsUsed := s₂.slotsUsed } : State) L mc ms := by
      refine ⟨?_, q2, q3, q4, q5, q6⟩
      obtain ⟨t, ht, -⟩ := State.frames_cons hr
      show ({ U with heap := s₂.heap, slotsUsed := s₂.slotsUsed } : State) = { U.setFrames U.frames with heap := s₂.heap, slotsUsed := s₂.slotsUsed }
      rw [State.setFrames_self ht]
    subst hg
    refine Or.inl ⟨v, ⟨(({ U with heap := s₂.heap, slotsUsed := s₂.slotsUsed } : State).setVm s₂.vm), Ls ++ L, c0 + mc, s0 + ms⟩,
      ⟨X.admits, X.cas, X.clock, X.frames, X.room, X.hears, X.method, X.code, (X.here.setHeapUsed s₂.heap s₂.slotsUsed).setVm hW'.alike, X.tail, State.WarmedH.trans X.warmed hW', X.limits, X.bytes, X.same.trans (hsame.setVm s.vm)⟩,
      ⟨g, mk, s₂, L, rfl, rfl, hqc, rfl, hL, rfl, rfl⟩, ?_⟩
    show Steps p.tables e below _ ((({ U with heap := s₂.heap, slotsUsed := s₂.slotsUsed } : State).setVm s₂.vm).setTop { g with pc := g.pc + len₂, stack := v.toList ++ g.stack })
    rw [← hs₂]
    exact hsteps
  · obtain ⟨e2, q2, q3, q4, q5, q6⟩ := id hsm
    have e3 : s₂ = ({ (U.calling g mk a).setFrames s₂.frames with heap := s₂.heap, slotsUsed := s₂.slotsUsed } : State).setVm s₂.vm := by
      have : s₂ = ({ s₂ with vm := (U.calling g mk a).vm } : State).setVm s₂.vm := rfl
      rw [e2] at this
      exact this
    have hf₂ : s₂.frames = .throwing q :: .java g :: U.frames.tail := hend
    have hW' : U.WarmedH s₂.vm := hW₂
    have hs₂ : s₂ = ((({ U with heap := s₂.heap, slotsUsed := s₂.slotsUsed } : State).setVm s₂.vm).setTop g).pushFrame (.throwing q) := by
      refine e3.trans ?_
      rw [hf₂, State.calling_eq h.top, State.setFrames_setFrames, State.pushFrame, State.frames_setTop _ hr', State.setTop_of_frames _ hr', State.setFrames_setFrames, hr]
      rfl
    have hsame : U.sameButNew ({ U with heap := s₂.heap, slotsUsed := s₂.slotsUsed } : State) L mc ms := by
      refine ⟨?_, q2, q3, q4, q5, q6⟩
      obtain ⟨t, ht, -⟩ := State.frames_cons hr
      show ({ U with heap := s₂.heap, slotsUsed := s₂.slotsUsed } : State) = { U.setFrames U.frames with heap := s₂.heap, slotsUsed := s₂.slotsUsed }
      rw [State.setFrames_self ht]
    subst hg
    refine Or.inr ⟨q, ⟨(({ U with heap := s₂.heap, slotsUsed := s₂.slotsUsed } : State).setVm s₂.vm), Ls ++ L, c0 + mc, s0 + ms⟩,
      ⟨X.admits, X.cas, X.clock, X.frames, X.room, X.hears, X.method, X.code, (X.here.setHeapUsed s₂.heap s₂.slotsUsed).setVm hW'.alike, X.tail, State.WarmedH.trans X.warmed hW', X.limits, X.bytes, X.same.trans (hsame.setVm s.vm)⟩,
      ⟨g, mk, s₂, L, E, ce, rfl, rfl, hx, hce, hcv, hcl, rfl, hL, rfl, rfl⟩, ?_⟩
    show Steps p.tables e below _ (((({ U with heap := s₂.heap, slotsUsed := s₂.slotsUsed } : State).setVm s₂.vm).setTop g).pushFrame (.throwing q))
    rw [← hs₂]
    exact hsteps
end Payer
section Calls
variable {p : Program} {l : Launch} {e : Env} {R : Room} {s : State} {m : MethodId} {args : Array Value} {below : List Frame} {meth : Method} {c : Code} {T : State} {locs : List Loc} {cells slots : Nat}
theorem vx_callV (X : Stand p l e R s m args below meth c T locs cells slots) (hexec : p.tables.exec = Jvm.exec) {own C : String} {index : Nat} {y : MethodName} {bytes : ByteArray} {maxL : Nat} {ret : Option FieldType}
    (hown : s.vm.findClass own = some m.cls) (hlink : (Cond.methodLink own index y).before args s = true) (hinst : (Cond.instanceMethod y).before args s = true) (hsel : (Cond.selects C y y).before args s = true)
    (hcode : (Cond.code y bytes maxL ret).before args s = true) (hy : y.cls ≠ "java/lang/invoke/MethodHandle" ∧ y.cls ≠ "java/lang/invoke/VarHandle")
    {W9 : Nat} {Pre : Pt → Array Value → Prop} {Post : Pt → Array Value → Option Value → Pt → Prop} {PostX : Pt → Array Value → Addr → Pt → Prop} (hK : vx_Back l R p e below s args y 3 W9 Pre Post PostX)
    {b : Addr} {cellB : Cell} (hcell : T.heap[b]? = some cellB) (hobj : cellB.vm.isStatics = false) (hcls : s.vm.findClass C = some cellB.cls)
    {g : JFrame} (hg : g.method = m) (hsize : g.locals.size = c.maxLocals) {argsL rest : List Value} (hlen : ∀ sig, parseMethodDescriptor y.desc = some sig → argsL.length = sig.parameters.length)
    (hstack : g.stack = argsL.reverse ++ .ref b :: rest) (hW : 2 * g.monitorRoom + (rest.map fun v => v.category).sum ≤ W9) (hdg : decode c.code g.pc = .ok (.invokevirtual index, 3))
    (hpre : ∀ vm₁, s.WarmedH vm₁ → Pre ⟨T.setVm vm₁, locs, cells, slots⟩ (Value.ref b :: argsL).toArray) :
    (∃ (v : Option Value) (vm₁ : Vm) (B : Pt), s.WarmedH vm₁ ∧ Stand p l e R s m args below meth c B.U B.locs B.cells B.slots ∧ Post ⟨T.setVm vm₁, locs, cells, slots⟩ (Value.ref b :: argsL).toArray v B ∧
      ∀ target, Steps p.tables e below (B.U.setTop { g with pc := g.pc + 3, stack := v.toList ++ rest }) target → Steps p.tables e below (T.setTop g) target) ∨
    (∃ (q : Addr) (vm₁ : Vm) (B : Pt), s.WarmedH vm₁ ∧ Stand p l e R s m args below meth c B.U B.locs B.cells B.slots ∧ PostX ⟨T.setVm vm₁, locs, cells, slots⟩ (Value.ref b :: argsL).toArray q B ∧
      Steps p.tables e below (T.setTop g) ((B.U.setTop { g with stack := rest }).pushFrame (.throwing q))) := by
  obtain ⟨mk, methM, hnamed, hmethM, hstM, habM⟩ := Cond.instanceMethod_spec hinst
  obtain ⟨methM', cM, hmethM', -, -, -, -, -, -, hsigM⟩ := Cond.code_spec hnamed hcode
  cases hmethM.symm.trans hmethM'
  obtain ⟨c2, r2, m2, q1, q2, q3, q4, kP, hkP, hkPi⟩ := Cond.selects_spec hsel
  cases hcls.symm.trans q1
  cases (State.methodFound?_of_named hnamed hy).symm.trans q2
  cases hnamed.symm.trans q3
  have hselP : selectMethod e.platform s.vm cellB.cls mk = .method mk := by rw [Launch.admits_selectMethod X.admits]; exact q4
  obtain ⟨vm₁, X₁, hstep₁⟩ := X.invokevirtual hexec hown hlink hnamed hmethM hstM hkP hkPi hy (a := b) (cell := cellB) hcell
    (fun z h => by rw [h] at hobj; cases hobj) hselP hmethM habM hkP hkPi (g := g) hg (argsL := argsL) (rest := rest) (hlen _ hsigM) hstack hdg
  rcases hK m meth c ⟨T.setVm vm₁, locs, cells, slots⟩ { g with stack := rest } (.invokevirtual index) mk (Value.ref b :: argsL).toArray X₁ hg hsize hdg hW (X₁.named hnamed) (hpre vm₁ X₁.warmed) with ⟨v, B, X', hpost, hsteps⟩ | ⟨q, B, X', hpost, hsteps⟩
  · exact Or.inl ⟨v, vm₁, B, X₁.warmed, X', hpost, fun target h => hstep₁ _ fun acts => by rw [doInvoke_state]; exact hsteps.trans h⟩
  · exact Or.inr ⟨q, vm₁, B, X₁.warmed, X', hpost, hstep₁ _ fun acts => by rw [doInvoke_state]; exact hsteps⟩
theorem vx_callS (X : Stand p l e R s m args below meth c T locs cells slots) (hexec : p.tables.exec = Jvm.exec) {own : String} {index : Nat} {y : MethodName} {bytes : ByteArray} {maxL : Nat} {ret : Option FieldType}
    (hown : s.vm.findClass own = some m.cls) (hlink : (Cond.methodLink own index y).before args s = true) (hstat : (Cond.static y).before args s = true) (hinit : (Cond.initialized y.cls).before args s = true)
    (hcode : (Cond.code y bytes maxL ret).before args s = true) (hy : y.cls ≠ "java/lang/invoke/MethodHandle" ∧ y.cls ≠ "java/lang/invoke/VarHandle")
    {W9 : Nat} {Pre : Pt → Array Value → Prop} {Post : Pt → Array Value → Option Value → Pt → Prop} {PostX : Pt → Array Value → Addr → Pt → Prop} (hK : vx_Back l R p e below s args y 3 W9 Pre Post PostX)
    {g : JFrame} (hg : g.method = m) (hsize : g.locals.size = c.maxLocals) {argsL rest : List Value} (hlen : ∀ sig, parseMethodDescriptor y.desc = some sig → argsL.length = sig.parameters.length)
    (hstack : g.stack = argsL.reverse ++ rest) (hW : 2 * g.monitorRoom + (rest.map fun v => v.category).sum ≤ W9) (hdg : decode c.code g.pc = .ok (.invokestatic index, 3))
    (hpre : ∀ vm₁, s.WarmedH vm₁ → Pre ⟨T.setVm vm₁, locs, cells, slots⟩ argsL.toArray) :
    (∃ (v : Option Value) (vm₁ : Vm) (B : Pt), s.WarmedH vm₁ ∧ Stand p l e R s m args below meth c B.U B.locs B.cells B.slots ∧ Post ⟨T.setVm vm₁, locs, cells, slots⟩ argsL.toArray v B ∧
      ∀ target, Steps p.tables e below (B.U.setTop { g with pc := g.pc + 3, stack := v.toList ++ rest }) target → Steps p.tables e below (T.setTop g) target) ∨
    (∃ (q : Addr) (vm₁ : Vm) (B : Pt), s.WarmedH vm₁ ∧ Stand p l e R s m args below meth c B.U B.locs B.cells B.slots ∧ PostX ⟨T.setVm vm₁, locs, cells, slots⟩ argsL.toArray q B ∧
      Steps p.tables e below (T.setTop g) ((B.U.setTop { g with stack := rest }).pushFrame (.throwing q))) := by
  obtain ⟨mk, hnamed⟩ := Cond.code_named hcode
  obtain ⟨methM, cM, hmethM, -, -, -, -, -, -, hsigM⟩ := Cond.code_spec hnamed hcode
  have hstatic : methM.isStatic = true := Cond.static_spec hnamed hmethM hstat
  obtain ⟨kP, hkP, -⟩ := className_of_methodNamed hnamed
  have hinitP : kP.init = .initialized := Cond.initialized_spec (findClass_of_methodNamed hnamed) hkP hinit
  obtain ⟨vm₁, X₁, hstep₁⟩ := X.invokestatic hexec hown hlink hnamed hmethM hstatic hkP hinitP hy (g := g) hg (argsL := argsL) (rest := rest) (hlen _ hsigM) hstack hdg
  rcases hK m meth c ⟨T.setVm vm₁, locs, cells, slots⟩ { g with stack := rest } (.invokestatic index) mk argsL.toArray X₁ hg hsize hdg hW (X₁.named hnamed) (hpre vm₁ X₁.warmed) with ⟨v, B, X', hpost, hsteps⟩ | ⟨q, B, X', hpost, hsteps⟩
  · exact Or.inl ⟨v, vm₁, B, X₁.warmed, X', hpost, fun target h => hstep₁ _ fun acts => by rw [doInvoke_state]; exact hsteps.trans h⟩
  · exact Or.inr ⟨q, vm₁, B, X₁.warmed, X', hpost, hstep₁ _ fun acts => by rw [doInvoke_state]; exact hsteps⟩
end Calls
theorem vx_cls {s : State} {T : State} {vm₁ : Vm} {E : String} {k : ClassId} (hW : s.WarmedH vm₁) (h : (T.setVm vm₁).vm.findClass E = some k) : s.vm.findClass E = some k := by
  have h1 : vm₁.findClass E = some k := h
  rw [hW.alike.findClass] at h1
  exact h1
/-- the method's frame g, with q thrown over it -/
def vx_W (p : Program) (l : Launch) (e : Env) (R : Room) (s : State) (m : MethodId) (args : Array Value) (below : List Frame) (meth : Method) (c : Code) (H : Heap) (locs : List Loc) (cells slots : Nat) (Q : State → Prop) (g : JFrame) (q : Addr) : Prop :=
  ∀ T : State, T.heap = H → Stand p l e R s m args below meth c T locs cells slots → ∃ t, Steps p.tables e below ((T.setTop g).pushFrame (.throwing q)) t ∧ Q t
def vx_Run (p : Program) (l : Launch) (e : Env) (R : Room) (s : State) (m : MethodId) (args : Array Value) (below : List Frame) (meth : Method) (c : Code) (H : Heap) (locs : List Loc) (cells slots mc ms : Nat) (g : JFrame) (rest : List Value) (Qa : State → Outcome → State → Prop) (XC : String → State → State → Prop) (free : Addr → Prop) : Prop :=
  ∀ T : State, T.heap = H → Stand p l e R s m args below meth c T locs cells slots →
    (∃ (v : Option Value) (st₀ t T' : State) (L : List Loc), st₀.heap = H ∧ Stand p l e R s m args below meth c T' (locs ++ L) (cells + mc) (slots + ms) ∧ (∀ q ∈ L, free q.base) ∧ T'.heap = t.heap ∧ T'.vm = t.vm ∧ Qa st₀ (.returned v) t ∧
      Goes p e below T g T' { g with pc := g.pc + 3, stack := v.toList ++ rest }) ∨
    (∃ (q : Addr) (st₀ t T' : State) (L : List Loc) (E : String) (ce : Cell), st₀.heap = H ∧ Stand p l e R s m args below meth c T' (locs ++ L) (cells + mc) (slots + ms) ∧ (∀ z ∈ L, free z.base) ∧ T'.heap = t.heap ∧ T'.vm = t.vm ∧ XC E st₀ t ∧ t.heap[q]? = some ce ∧ ce.vm = .none ∧ s.vm.findClass E = some ce.cls ∧
      Steps p.tables e below (T.setTop g) ((T'.setTop { g with stack := rest }).pushFrame (.throwing q)))
def vx_X {S : Type} (px : S → Prop) (B : String → S → State → Prop) (A : Nat → Prop) : String → State → State → Prop := fun E st t => ∃ u : S, px u ∧ B E u t ∧ va_F A st t
section Runs
variable {p : Program} {l : Launch} {e : Env} {R : Room} {s : State} {m : MethodId} {args : Array Value} {below : List Frame} {meth : Method} {c : Code} {H : Heap} {locs : List Loc} {cells slots : Nat}
variable {y : MethodName} {bytes cc : ByteArray} {maxL nL mc ms n index : Nat} {ret : Option FieldType} {ws : List Cond} {rm : Room} {Pc : Array Value → State → Prop} {Qc : Array Value → State → Outcome → State → Prop} {XC : String → State → State → Prop} {free : Addr → Prop} {Ts : List Cond} {own C : String} {b : Addr} {As rest : List Value} {g : JFrame}
theorem vx_callBack (cb : CallB R s args own index y bytes maxL ret ws rm mc ms n) (hM : vx_Met l y ws rm Pc Qc XC mc ms free) (hbl : FrameBlind Pc) : vx_Back l R p e below s args y 3 8 (PreOf R mc ms Pc) (PostOf Qc mc ms free) (vx_Post XC mc ms free) := by
  obtain ⟨hrc, hrs, hfr, hlo, hws, hcw, -, hini, -⟩ := cb
  exact vx_back (bytes := bytes) (maxL := maxL) (ret := ret) hM hbl hrc hrs hfr hlo hws hcw (fun a' U hW => word_at hW (Or.inl (by first | rfl | simp [Cond.onTables, Cond.keeps, Cond.steady])) hini)
theorem vx_runV (S : CallFix p m c cc nL s args Ts own) (hM : vx_Met l y ws rm Pc Qc XC mc ms free) (cw : CallW R s args own C index y bytes maxL ret ws rm mc ms n) (hp : PreV s H C b Pc As)
    (hg : g.method = m) (hn : As.length = n) (hsize : g.locals.size = nL) (hstack : g.stack = As.reverse ++ .ref b :: rest) (hW : 2 * g.monitorRoom + (rest.map fun v => v.category).sum ≤ 8) (hdg : decode cc g.pc = .ok (.invokevirtual index, 3)) (hf : cells + mc ≤ R.cells ∧ slots + ms ≤ R.slots) :
    vx_Run p l e R s m args below meth c H locs cells slots mc ms g rest (Qc (Value.ref b :: As).toArray) XC free := by
  have hK : vx_Back l R p e below s args y 3 8 (PreOf R mc ms Pc) (PostOf Qc mc ms free) (vx_Post XC mc ms free) := vx_callBack cw.1 hM hp.1
  obtain ⟨⟨-, -, -, -, -, -, hcode, -, hy, hlen, hl⟩, hin, hse⟩ := cw
  obtain ⟨hx, hb, hml, ho, -⟩ := S
  obtain ⟨-, ⟨cellB, hcB, hoB, hclB⟩, hPc⟩ := hp
  intro T hT X
  rcases vx_callV X hx (C := C) (bytes := bytes) (maxL := maxL) (ret := ret) ho hl hin hse hcode hy hK (by rw [hT]; exact hcB) hoB hclB hg (hsize.trans hml.symm) (argsL := As) (rest := rest) (fun sig h => hn.trans (hlen sig h)) hstack hW (by rw [hb]; exact hdg)
    (fun vm₁ hW₁ => ⟨hf.1, hf.2, hPc (T.setVm vm₁) hT hW₁⟩) with ⟨v, vm₁, ⟨U', l2, c2, s2⟩, hW₁, X', ⟨g', mk, t, L, e1, e2, hq, h1, hL, h2, h3⟩, st⟩ | ⟨q, vm₁, ⟨U', l2, c2, s2⟩, hW₁, X', ⟨g', mk, t, L, E, ce, e1, e2, hq, hce, hcv, hcl, h1, hL, h2, h3⟩, st⟩
  · dsimp only [Pt.U, Pt.locs, Pt.cells, Pt.slots] at X' e1 e2 h1 h2 h3 st
    subst h1; subst h2; subst h3
    exact Or.inl ⟨v, (T.setVm vm₁).calling g' mk (Value.ref b :: As).toArray, t, U', L, hT, X', hL, e1, e2, hq, st⟩
  · dsimp only [Pt.U, Pt.locs, Pt.cells, Pt.slots] at X' e1 e2 h1 h2 h3 st hcl
    subst h1; subst h2; subst h3
    exact Or.inr ⟨q, (T.setVm vm₁).calling g' mk (Value.ref b :: As).toArray, t, U', L, E, ce, hT, X', hL, e1, e2, hq, hce, hcv, vx_cls hW₁ hcl, st⟩
theorem vx_runS (S : CallFix p m c cc nL s args Ts own) (hM : vx_Met l y ws rm Pc Qc XC mc ms free) (cw : CallB R s args own index y bytes maxL ret ws rm mc ms n ∧ (Cond.static y).before args s = true) (hp : PreS s H Pc As)
    (hg : g.method = m) (hn : As.length = n) (hsize : g.locals.size = nL) (hstack : g.stack = As.reverse ++ rest) (hW : 2 * g.monitorRoom + (rest.map fun v => v.category).sum ≤ 8) (hdg : decode cc g.pc = .ok (.invokestatic index, 3)) (hf : cells + mc ≤ R.cells ∧ slots + ms ≤ R.slots) :
    vx_Run p l e R s m args below meth c H locs cells slots mc ms g rest (Qc As.toArray) XC free := by
  have hK : vx_Back l R p e below s args y 3 8 (PreOf R mc ms Pc) (PostOf Qc mc ms free) (vx_Post XC mc ms free) := vx_callBack cw.1 hM hp.1
  obtain ⟨⟨-, -, -, -, -, -, hcode, hini, hy, hlen, hl⟩, hstt⟩ := cw
  obtain ⟨hx, hb, hml, ho, -⟩ := S
  intro T hT X
  rcases vx_callS X hx (bytes := bytes) (maxL := maxL) (ret := ret) ho hl hstt hini hcode hy hK hg (hsize.trans hml.symm) (argsL := As) (rest := rest) (fun sig h => hn.trans (hlen sig h)) hstack hW (by rw [hb]; exact hdg)
    (fun vm₁ hW₁ => ⟨hf.1, hf.2, hp.2 (T.setVm vm₁) hT hW₁⟩) with ⟨v, vm₁, ⟨U', l2, c2, s2⟩, hW₁, X', ⟨g', mk, t, L, e1, e2, hq, h1, hL, h2, h3⟩, st⟩ | ⟨q, vm₁, ⟨U', l2, c2, s2⟩, hW₁, X', ⟨g', mk, t, L, E, ce, e1, e2, hq, hce, hcv, hcl, h1, hL, h2, h3⟩, st⟩
  · dsimp only [Pt.U, Pt.locs, Pt.cells, Pt.slots] at X' e1 e2 h1 h2 h3 st
    subst h1; subst h2; subst h3
    exact Or.inl ⟨v, (T.setVm vm₁).calling g' mk As.toArray, t, U', L, hT, X', hL, e1, e2, hq, st⟩
  · dsimp only [Pt.U, Pt.locs, Pt.cells, Pt.slots] at X' e1 e2 h1 h2 h3 st hcl
    subst h1; subst h2; subst h3
    exact Or.inr ⟨q, (T.setVm vm₁).calling g' mk As.toArray, t, U', L, E, ce, hT, X', hL, e1, e2, hq, hce, hcv, vx_cls hW₁ hcl, st⟩
end Runs
section Rows
variable {p : Program} {l : Launch} {e : Env} {R : Room} {s : State} {m : MethodId} {args : Array Value} {below : List Frame} {meth : Method} {c : Code} {H : Heap} {locs : List Loc} {cells slots : Nat} {Q : State → Prop}
variable {mc ms : Nat} {free : Addr → Prop} {A0 A1 : Nat → Prop} {H0 : Heap} {a : Array Value} {pc : Nat} {ls : Array Slot} {st0 rest : List Value}
theorem vx_keep {st₀ t T' : State} {L : List Loc} (h0 : st₀.heap = H) (e1 : T'.heap = t.heap) (hS : va_S A0 H0 H locs) (hA : ∀ q, q < H.size → A1 q → A0 q) (hf : ∀ q, free q → A0 q) (hL : ∀ q ∈ L, free q.base) (hF : va_F A1 st₀ t) :
    H.size ≤ T'.heap.size ∧ (∀ q : Nat, q < H.size → ¬ A1 q → T'.heap[q]? = H[q]?) ∧ va_S A0 H0 T'.heap (locs ++ L) := by
  obtain ⟨hz, hk⟩ := hF
  rw [h0] at hz hk
  exact ⟨by rw [e1]; exact hz, fun q h1 h2 => by rw [e1]; exact hk q h1 h2,
    ⟨Nat.le_trans hS.1 (by rw [e1]; exact hz), fun q h1 h2 => by rw [e1, hk q (Nat.lt_of_lt_of_le h1 hS.1) (fun z => h2 (hA q (Nat.lt_of_lt_of_le h1 hS.1) z))]; exact hS.2.1 q h1 h2, fun q hq => by
      rcases List.mem_append.mp hq with h | h
      · exact hS.2.2 q h
      · exact hf _ (hL q h)⟩⟩
theorem vx_calli {S SX : Type} {post : Int32 → S → Prop} {px : SX → Prop} {B : S → State → Prop} {BX : String → SX → State → Prop} {AX : Nat → Prop} (hr : vx_Run p l e R s m args below meth c H locs cells slots mc ms (F0 m pc ls st0) rest (va_Qi post B A1 a) (vx_X px BX AX) free) (hS : va_S A0 H0 H locs) (hA : ∀ q, q < H.size → A1 q → A0 q) (hf : ∀ q, free q → A0 q) (hAX : ∀ q, q < H.size → AX q → A0 q)
    (kx : ∀ (E : String) (ce : Cell) (q9 : Addr) (u : SX) (t : State) (H1 : Heap) (locs1 : List Loc), t.heap = H1 → s.vm.Alike t.vm → px u → BX E u t → H.size ≤ H1.size → (∀ q : Nat, q < H.size → ¬ AX q → H1[q]? = H[q]?) → va_S A0 H0 H1 locs1 → H1[q9]? = some ce → ce.vm = .none → s.vm.findClass E = some ce.cls → vx_W p l e R s m args below meth c H1 locs1 (cells + mc) (slots + ms) Q (F0 m pc ls rest) q9)
    (kk : ∀ (r : Int32) (u : S) (t : State) (H1 : Heap) (locs1 : List Loc), t.heap = H1 → s.vm.Alike t.vm → post r u → B u t → H.size ≤ H1.size → (∀ q : Nat, q < H.size → ¬ A1 q → H1[q]? = H[q]?) → va_S A0 H0 H1 locs1 → W p l e R s m args below meth c H1 locs1 (cells + mc) (slots + ms) Q (F0 m (pc + 3) ls (.int r :: rest))) : W p l e R s m args below meth c H locs cells slots Q (F0 m pc ls st0) := by
  intro T hT X
  rcases hr T hT X with ⟨v, st₀, t, T', L, h0, X', hL, e1, e2, ⟨⟨r, u, hv, hp, hb⟩, hF⟩, st⟩ | ⟨q, st₀, t, T', L, E, ce, h0, X', hL, e1, e2, ⟨u, hp, hb, hF⟩, hce, hcv, hcl, st⟩
  · cases hv
    obtain ⟨k1, k2, k3⟩ := vx_keep h0 e1 hS hA hf hL hF
    obtain ⟨t2, a1, b1⟩ := kk r u t T'.heap (locs ++ L) e1.symm (by rw [← e2]; exact X'.warmed.alike) hp hb k1 k2 k3 T' rfl X'
    exact ⟨t2, st t2 a1, b1⟩
  · obtain ⟨k1, k2, k3⟩ := vx_keep h0 e1 hS hAX hf hL hF
    obtain ⟨t2, a1, b1⟩ := kx E ce q u t T'.heap (locs ++ L) e1.symm (by rw [← e2]; exact X'.warmed.alike) hp hb k1 k2 k3 (by rw [e1]; exact hce) hcv hcl T' rfl X'
    exact ⟨t2, st.trans a1, b1⟩
theorem vx_calll {S SX : Type} {post : Int64 → S → Prop} {px : SX → Prop} {B : S → State → Prop} {BX : String → SX → State → Prop} {AX : Nat → Prop} (hr : vx_Run p l e R s m args below meth c H locs cells slots mc ms (F0 m pc ls st0) rest (va_Ql post B A1 a) (vx_X px BX AX) free) (hS : va_S A0 H0 H locs) (hA : ∀ q, q < H.size → A1 q → A0 q) (hf : ∀ q, free q → A0 q) (hAX : ∀ q, q < H.size → AX q → A0 q)
    (kx : ∀ (E : String) (ce : Cell) (q9 : Addr) (u : SX) (t : State) (H1 : Heap) (locs1 : List Loc), t.heap = H1 → s.vm.Alike t.vm → px u → BX E u t → H.size ≤ H1.size → (∀ q : Nat, q < H.size → ¬ AX q → H1[q]? = H[q]?) → va_S A0 H0 H1 locs1 → H1[q9]? = some ce → ce.vm = .none → s.vm.findClass E = some ce.cls → vx_W p l e R s m args below meth c H1 locs1 (cells + mc) (slots + ms) Q (F0 m pc ls rest) q9)
    (kk : ∀ (r : Int64) (u : S) (t : State) (H1 : Heap) (locs1 : List Loc), t.heap = H1 → s.vm.Alike t.vm → post r u → B u t → H.size ≤ H1.size → (∀ q : Nat, q < H.size → ¬ A1 q → H1[q]? = H[q]?) → va_S A0 H0 H1 locs1 → W p l e R s m args below meth c H1 locs1 (cells + mc) (slots + ms) Q (F0 m (pc + 3) ls (.long r :: rest))) : W p l e R s m args below meth c H locs cells slots Q (F0 m pc ls st0) := by
  intro T hT X
  rcases hr T hT X with ⟨v, st₀, t, T', L, h0, X', hL, e1, e2, ⟨⟨r, u, hv, hp, hb⟩, hF⟩, st⟩ | ⟨q, st₀, t, T', L, E, ce, h0, X', hL, e1, e2, ⟨u, hp, hb, hF⟩, hce, hcv, hcl, st⟩
  · cases hv
    obtain ⟨k1, k2, k3⟩ := vx_keep h0 e1 hS hA hf hL hF
    obtain ⟨t2, a1, b1⟩ := kk r u t T'.heap (locs ++ L) e1.symm (by rw [← e2]; exact X'.warmed.alike) hp hb k1 k2 k3 T' rfl X'
    exact ⟨t2, st t2 a1, b1⟩
  · obtain ⟨k1, k2, k3⟩ := vx_keep h0 e1 hS hAX hf hL hF
    obtain ⟨t2, a1, b1⟩ := kx E ce q u t T'.heap (locs ++ L) e1.symm (by rw [← e2]; exact X'.warmed.alike) hp hb k1 k2 k3 (by rw [e1]; exact hce) hcv hcl T' rfl X'
    exact ⟨t2, st.trans a1, b1⟩
theorem vx_callf {S SX : Type} {post : UInt32 → S → Prop} {px : SX → Prop} {B : S → State → Prop} {BX : String → SX → State → Prop} {AX : Nat → Prop} (hr : vx_Run p l e R s m args below meth c H locs cells slots mc ms (F0 m pc ls st0) rest (va_Qf post B A1 a) (vx_X px BX AX) free) (hS : va_S A0 H0 H locs) (hA : ∀ q, q < H.size → A1 q → A0 q) (hf : ∀ q, free q → A0 q) (hAX : ∀ q, q < H.size → AX q → A0 q)
    (kx : ∀ (E : String) (ce : Cell) (q9 : Addr) (u : SX) (t : State) (H1 : Heap) (locs1 : List Loc), t.heap = H1 → s.vm.Alike t.vm → px u → BX E u t → H.size ≤ H1.size → (∀ q : Nat, q < H.size → ¬ AX q → H1[q]? = H[q]?) → va_S A0 H0 H1 locs1 → H1[q9]? = some ce → ce.vm = .none → s.vm.findClass E = some ce.cls → vx_W p l e R s m args below meth c H1 locs1 (cells + mc) (slots + ms) Q (F0 m pc ls rest) q9)
    (kk : ∀ (r : UInt32) (u : S) (t : State) (H1 : Heap) (locs1 : List Loc), t.heap = H1 → s.vm.Alike t.vm → post r u → B u t → H.size ≤ H1.size → (∀ q : Nat, q < H.size → ¬ A1 q → H1[q]? = H[q]?) → va_S A0 H0 H1 locs1 → W p l e R s m args below meth c H1 locs1 (cells + mc) (slots + ms) Q (F0 m (pc + 3) ls (.float r :: rest))) : W p l e R s m args below meth c H locs cells slots Q (F0 m pc ls st0) := by
  intro T hT X
  rcases hr T hT X with ⟨v, st₀, t, T', L, h0, X', hL, e1, e2, ⟨⟨r, u, hv, hp, hb⟩, hF⟩, st⟩ | ⟨q, st₀, t, T', L, E, ce, h0, X', hL, e1, e2, ⟨u, hp, hb, hF⟩, hce, hcv, hcl, st⟩
  · cases hv
    obtain ⟨k1, k2, k3⟩ := vx_keep h0 e1 hS hA hf hL hF
    obtain ⟨t2, a1, b1⟩ := kk r u t T'.heap (locs ++ L) e1.symm (by rw [← e2]; exact X'.warmed.alike) hp hb k1 k2 k3 T' rfl X'
    exact ⟨t2, st t2 a1, b1⟩
  · obtain ⟨k1, k2, k3⟩ := vx_keep h0 e1 hS hAX hf hL hF
    obtain ⟨t2, a1, b1⟩ := kx E ce q u t T'.heap (locs ++ L) e1.symm (by rw [← e2]; exact X'.warmed.alike) hp hb k1 k2 k3 (by rw [e1]; exact hce) hcv hcl T' rfl X'
    exact ⟨t2, st.trans a1, b1⟩
theorem vx_calld {S SX : Type} {post : UInt64 → S → Prop} {px : SX → Prop} {B : S → State → Prop} {BX : String → SX → State → Prop} {AX : Nat → Prop} (hr : vx_Run p l e R s m args below meth c H locs cells slots mc ms (F0 m pc ls st0) rest (va_Qd post B A1 a) (vx_X px BX AX) free) (hS : va_S A0 H0 H locs) (hA : ∀ q, q < H.size → A1 q → A0 q) (hf : ∀ q, free q → A0 q) (hAX : ∀ q, q < H.size → AX q → A0 q)
    (kx : ∀ (E : String) (ce : Cell) (q9 : Addr) (u : SX) (t : State) (H1 : Heap) (locs1 : List Loc), t.heap = H1 → s.vm.Alike t.vm → px u → BX E u t → H.size ≤ H1.size → (∀ q : Nat, q < H.size → ¬ AX q → H1[q]? = H[q]?) → va_S A0 H0 H1 locs1 → H1[q9]? = some ce → ce.vm = .none → s.vm.findClass E = some ce.cls → vx_W p l e R s m args below meth c H1 locs1 (cells + mc) (slots + ms) Q (F0 m pc ls rest) q9)
    (kk : ∀ (r : UInt64) (u : S) (t : State) (H1 : Heap) (locs1 : List Loc), t.heap = H1 → s.vm.Alike t.vm → post r u → B u t → H.size ≤ H1.size → (∀ q : Nat, q < H.size → ¬ A1 q → H1[q]? = H[q]?) → va_S A0 H0 H1 locs1 → W p l e R s m args below meth c H1 locs1 (cells + mc) (slots + ms) Q (F0 m (pc + 3) ls (.double r :: rest))) : W p l e R s m args below meth c H locs cells slots Q (F0 m pc ls st0) := by
  intro T hT X
  rcases hr T hT X with ⟨v, st₀, t, T', L, h0, X', hL, e1, e2, ⟨⟨r, u, hv, hp, hb⟩, hF⟩, st⟩ | ⟨q, st₀, t, T', L, E, ce, h0, X', hL, e1, e2, ⟨u, hp, hb, hF⟩, hce, hcv, hcl, st⟩
  · cases hv
    obtain ⟨k1, k2, k3⟩ := vx_keep h0 e1 hS hA hf hL hF
    obtain ⟨t2, a1, b1⟩ := kk r u t T'.heap (locs ++ L) e1.symm (by rw [← e2]; exact X'.warmed.alike) hp hb k1 k2 k3 T' rfl X'
    exact ⟨t2, st t2 a1, b1⟩
  · obtain ⟨k1, k2, k3⟩ := vx_keep h0 e1 hS hAX hf hL hF
    obtain ⟨t2, a1, b1⟩ := kx E ce q u t T'.heap (locs ++ L) e1.symm (by rw [← e2]; exact X'.warmed.alike) hp hb k1 k2 k3 (by rw [e1]; exact hce) hcv hcl T' rfl X'
    exact ⟨t2, st.trans a1, b1⟩
theorem vx_callv {S SX : Type} {post : S → Prop} {px : SX → Prop} {B : S → State → Prop} {BX : String → SX → State → Prop} {AX : Nat → Prop} (hr : vx_Run p l e R s m args below meth c H locs cells slots mc ms (F0 m pc ls st0) rest (va_Qv post B A1 a) (vx_X px BX AX) free) (hS : va_S A0 H0 H locs) (hA : ∀ q, q < H.size → A1 q → A0 q) (hf : ∀ q, free q → A0 q) (hAX : ∀ q, q < H.size → AX q → A0 q)
    (kx : ∀ (E : String) (ce : Cell) (q9 : Addr) (u : SX) (t : State) (H1 : Heap) (locs1 : List Loc), t.heap = H1 → s.vm.Alike t.vm → px u → BX E u t → H.size ≤ H1.size → (∀ q : Nat, q < H.size → ¬ AX q → H1[q]? = H[q]?) → va_S A0 H0 H1 locs1 → H1[q9]? = some ce → ce.vm = .none → s.vm.findClass E = some ce.cls → vx_W p l e R s m args below meth c H1 locs1 (cells + mc) (slots + ms) Q (F0 m pc ls rest) q9)
    (kk : ∀ (u : S) (t : State) (H1 : Heap) (locs1 : List Loc), t.heap = H1 → s.vm.Alike t.vm → post u → B u t → H.size ≤ H1.size → (∀ q : Nat, q < H.size → ¬ A1 q → H1[q]? = H[q]?) → va_S A0 H0 H1 locs1 → W p l e R s m args below meth c H1 locs1 (cells + mc) (slots + ms) Q (F0 m (pc + 3) ls (rest))) : W p l e R s m args below meth c H locs cells slots Q (F0 m pc ls st0) := by
  intro T hT X
  rcases hr T hT X with ⟨v, st₀, t, T', L, h0, X', hL, e1, e2, ⟨⟨u, hv, hp, hb⟩, hF⟩, st⟩ | ⟨q, st₀, t, T', L, E, ce, h0, X', hL, e1, e2, ⟨u, hp, hb, hF⟩, hce, hcv, hcl, st⟩
  · cases hv
    obtain ⟨k1, k2, k3⟩ := vx_keep h0 e1 hS hA hf hL hF
    obtain ⟨t2, a1, b1⟩ := kk u t T'.heap (locs ++ L) e1.symm (by rw [← e2]; exact X'.warmed.alike) hp hb k1 k2 k3 T' rfl X'
    exact ⟨t2, st t2 a1, b1⟩
  · obtain ⟨k1, k2, k3⟩ := vx_keep h0 e1 hS hAX hf hL hF
    obtain ⟨t2, a1, b1⟩ := kx E ce q u t T'.heap (locs ++ L) e1.symm (by rw [← e2]; exact X'.warmed.alike) hp hb k1 k2 k3 (by rw [e1]; exact hce) hcv hcl T' rfl X'
    exact ⟨t2, st.trans a1, b1⟩
/-- caught by the row x of this method's table; the rows ahead don't take it -/
theorem vx_catch {own name : String} {E : String} {ce : Cell} {q : Addr} (hown : s.vm.findClass own = some m.cls) (pre : List ExceptionTableEntry) (x : ExceptionTableEntry) (suf : List ExceptionTableEntry) (hsplit : c.exceptionTable.toList = pre ++ x :: suf)
    (hpass : ∀ z ∈ pre, covers z pc = false ∨ (z.catchType ≠ 0 ∧ ∃ nm : String, (Cond.classLink own z.catchType nm).before args s = true ∧ va_Nc E nm s)) (hx : covers x pc = true) (h0 : x.catchType ≠ 0)
    (hlink : (Cond.classLink own x.catchType name).before args s = true) (hcast : (Cond.castable E name).before args s = true) (hcell : H[q]? = some ce) (hv : ce.vm = .none) (hcl : s.vm.findClass E = some ce.cls)
    (kk : W p l e R s m args below meth c H locs cells slots Q (F0 m x.handlerPc ls [.ref q])) : vx_W p l e R s m args below meth c H locs cells slots Q (F0 m pc ls rest) q := by
  intro T hT X
  have hpl : e.platform.magicAccessors = ({} : Platform).magicAccessors := by rw [X.admits.platform]
  obtain ⟨c3, c4, hc3, hc4, hasg⟩ := Cond.castable_spec hcast
  cases Option.some.inj (hc3.symm.trans hcl)
  obtain ⟨c5, hc5, hcl5⟩ := Cond.classLink_spec hown hlink e.platform hpl
  cases Option.some.inj (hc4.symm.trans hc5)
  obtain ⟨vm', X', st⟩ := X.thenCaughtThrough q (g := F0 m pc ls rest) rfl (Steps.refl _) (by rw [hT]; exact hcell) (by rw [hv]; rfl) (by obtain ⟨k9, h9, -⟩ := Vm.findClass_spec hcl; exact ⟨k9, h9⟩) pre x suf hsplit
    (fun z hz => by
      rcases hpass z hz with h | ⟨hz0, nm, hl1, hn1⟩
      · exact Or.inl h
      · obtain ⟨c6, hc6, hcl6⟩ := Cond.classLink_spec hown hl1 e.platform hpl
        obtain ⟨a8, b8, h1, h2, h3⟩ := hn1
        cases Option.some.inj (h1.symm.trans hcl)
        cases Option.some.inj (h2.symm.trans hc6)
        exact Or.inr ⟨hz0, _, hcl6, h3⟩) hx (Or.inr ⟨h0, c4, hcl5, hasg⟩)
  obtain ⟨t, a1, b1⟩ := kk (T.setVm vm') hT X'
  exact ⟨t, st.trans a1, b1⟩
end Rows
section Ends
variable {p : Program} {l : Launch} {e : Env} {R : Room} {s : State} {m : MethodId} {args : Array Value} {below : List Frame} {meth : Method} {c : Code} {H : Heap} {locs : List Loc} {cells slots : Nat} {Q : State → Prop}
variable {mc ms : Nat} {free : Addr → Prop} {A0 A1 : Nat → Prop} {H0 : Heap} {a : Array Value} {ls : Array Slot} {st0 rest : List Value}
variable {Qc : Array Value → State → Outcome → State → Prop} {XC : String → State → State → Prop}
/-- what a body that may throw owes at its end -/
def vx_MQ (below : List Frame) (Qc : Array Value → State → Outcome → State → Prop) (XC : String → State → State → Prop) (a : Array Value) (s : State) (mc ms : Nat) (free : Addr → Prop) : State → Prop := fun t =>
  ∃ o, t.status = .running ∧ Ended t below o ∧ vx_Q Qc XC mc ms free a s o t
theorem vx_ret {g : JFrame} {mc ms : Nat} (k : W p l e R s m args below meth c H locs cells slots (MQ below Qc args s mc ms free) g) : W p l e R s m args below meth c H locs cells slots (vx_MQ below Qc XC args s mc ms free) g := by
  intro T hT X
  obtain ⟨t, a1, o, b1, b2, b3, b4⟩ := k T hT X
  exact ⟨t, a1, o, b1, b2, Or.inl ⟨b3, b4⟩⟩
/-- not caught here: it goes on to the caller -/
theorem vx_widen {g : JFrame} {q : Addr} {k n : Nat} (h1 : cells ≤ k) (h2 : slots ≤ n) (kk : vx_W p l e R s m args below meth c H locs k n Q g q) : vx_W p l e R s m args below meth c H locs cells slots Q g q := fun T hT X => kk T hT (stand_widen X h1 h2)
theorem vx_out {pc : Nat} {E : String} {ce : Cell} {q : Addr} {mc ms : Nat} (hout : ∀ x ∈ c.exceptionTable.toList, covers x pc = false) (hlocks : meth.locks = false) (hcell : H[q]? = some ce) (hv : ce.vm = .none) (hcl : s.vm.findClass E = some ce.cls)
    (hx : ∀ t : State, t.heap = H → s.vm.Alike t.vm → XC E s t) (hf : ∀ z ∈ locs, free z.base) (hc : cells ≤ mc) (hs : slots ≤ ms) :
    vx_W p l e R s m args below meth c H locs cells slots (vx_MQ below Qc XC args s mc ms free) (F0 m pc ls rest) q := by
  intro T hT X
  obtain ⟨st1, hrun, hend, hW, hsm⟩ := X.leaveThrown q (g := F0 m pc ls rest) rfl rfl rfl hout hlocks
  have hcell9 : (T.setFrames (.throwing q :: below)).heap[q]? = some ce := by
    show T.heap[q]? = some ce
    rw [hT]; exact hcell
  exact ⟨_, st1, .threw q, hrun, hend, Or.inr ⟨q, rfl, E, ce, locs, hx _ hT hW.alike, hcell9, hv, hcl, hW, hsm.mono hc hs, hf⟩⟩
theorem vx_frame {U : State} {k n : Nat} (h : s.sameButNew ({ U with vm := s.vm } : State) locs k n) : s.heap.size ≤ U.heap.size ∧ ∀ q : Nat, q < s.heap.size → (∀ z ∈ locs, z.base ≠ q) → U.heap[q]? = s.heap[q]? := by
  obtain ⟨-, h2, -, -, -, h6⟩ := h
  refine ⟨h2, fun q hq hz => ?_⟩
  obtain ⟨c9, e1, e2, e3, e4⟩ := h6 q _ (Array.getElem?_eq_getElem hq)
  have hs : c9.slots = (s.heap[q]).slots := Array.ext_getElem? fun i => e4 i fun hm => hz _ hm rfl
  have h9 : c9 = s.heap[q] := by
    rw [hs] at e2
    exact e2
  have e5 : U.heap[q]? = some c9 := e1
  rw [e5, h9, Array.getElem?_eq_getElem hq]
/-- the words of a throw but the four that speak of the heap -/
def vx_no (w : Cond) : Bool := decide (w ≠ .isRef (.static Bundle.tN "UNASSIGNED_STACK" Bundle.steD)) && decide (w ≠ .isRef (.static Bundle.tN "SUPPRESSED_SENTINEL" Bundle.listD)) && decide (w ≠ .laysStatic Bundle.tN "UNASSIGNED_STACK" Bundle.steD) && decide (w ≠ .laysStatic Bundle.tN "SUPPRESSED_SENTINEL" Bundle.listD)
def vx_at0 (own : String) (ic : Nat) (X : String) (names : List String) : List Cond := (Bundle.ownAtoms0 own ic X names).filter vx_no
def vx_atS (own : String) (ic : Nat) (X : String) (names : List String) : List Cond := (Bundle.ownAtoms own ic X names).filter vx_no
/-- a word that the tables alone decide, or a good one -/
def vx_ot (w : Cond) : Bool := w.onTables || goodWord w
theorem vx_ot_at {args a' : Array Value} {s U : State} {w : Cond} (hW : s.WarmedH U.vm) (hvm : s.vm = U.vm) (hg : vx_ot w = true) (h : w.before args s = true) : w.before a' U = true := by
  simp only [vx_ot, Bool.or_eq_true] at hg
  rcases hg with hg | hg
  · exact va_tabs hg hvm h
  · exact word_at hW (good_of_word hg) h
/-- a list's words: the good ones out of the method's own list, the others by premises of their own -/
theorem vx_hat {args : Array Value} {s : State} {L B : List Cond} (h1 : ∀ w ∈ L.filter goodWord, w.before args s = true) (h2 : ∀ w ∈ L.filter (fun w => !goodWord w), w ∈ B) (h3 : ∀ w ∈ B, w.before args s = true) : ∀ w ∈ L, w.before args s = true := by
  intro w hw
  by_cases g : goodWord w = true
  · exact h1 w (List.mem_filter.mpr ⟨hw, g⟩)
  · refine h3 w (h2 w (List.mem_filter.mpr ⟨hw, ?_⟩))
    show (!goodWord w) = true
    cases hgw : goodWord w
    · rfl
    · exact absurd hgw g
theorem vx_c {args : Array Value} {s : State} {w : Cond} {B : List Cond} (h : w.before args s = true) (t : ∀ w ∈ B, w.before args s = true) : ∀ w' ∈ w :: B, w'.before args s = true := fun w' h' => (List.mem_cons.mp h').elim (fun e => by rw [e]; exact h) (t w')
theorem vx_n {args : Array Value} {s : State} : ∀ w ∈ ([] : List Cond), w.before args s = true := fun _ h => nomatch h
theorem vx_own {args : Array Value} {s : State} {L : List Cond} (h1 : ∀ w ∈ L.filter vx_no, w.before args s = true)
    (hU : (Cond.isRef (.static Bundle.tN "UNASSIGNED_STACK" Bundle.steD)).before args s = true) (hN : (Cond.isRef (.static Bundle.tN "SUPPRESSED_SENTINEL" Bundle.listD)).before args s = true)
    (lU : (Cond.laysStatic Bundle.tN "UNASSIGNED_STACK" Bundle.steD).before args s = true) (lN : (Cond.laysStatic Bundle.tN "SUPPRESSED_SENTINEL" Bundle.listD).before args s = true) : ∀ w ∈ L, w.before args s = true := by
  intro w hw
  by_cases e1 : w = .isRef (.static Bundle.tN "UNASSIGNED_STACK" Bundle.steD)
  · rw [e1]; exact hU
  · by_cases e2 : w = .isRef (.static Bundle.tN "SUPPRESSED_SENTINEL" Bundle.listD)
    · rw [e2]; exact hN
    · by_cases e3 : w = .laysStatic Bundle.tN "UNASSIGNED_STACK" Bundle.steD
      · rw [e3]; exact lU
      · by_cases e4 : w = .laysStatic Bundle.tN "SUPPRESSED_SENTINEL" Bundle.listD
        · rw [e4]; exact lN
        · exact h1 w (List.mem_filter.mpr ⟨hw, by unfold vx_no; rw [decide_eq_true e1, decide_eq_true e2, decide_eq_true e3, decide_eq_true e4]; rfl⟩)
/-- where a static field lies, its class's statics cell in H -/
def vx_L (C n d : String) (A : Nat → Prop) (U : State) (H : Heap) : Prop := ∃ (c : ClassId) (k : Class) (i : Nat) (f : Field) (a : Nat) (cell : Cell), U.vm.findClass C = some c ∧ U.fieldFound? C n d = some (c, k, i, f) ∧ f.isStatic = true ∧ k.statics = some a ∧ H[a]? = some cell ∧ cell.vm.isStatics = true ∧ cell.cls = c ∧ f.slot < cell.slots.size ∧ k.staticTypes[f.slot]? = some f.type ∧ ¬ A a
theorem vx_L.moved {C n d : String} {A : Nat → Prop} {u U : State} {H : Heap} (hvm : u.vm.Alike U.vm) (h : vx_L C n d A u H) : vx_L C n d A U H := by
  obtain ⟨c, k, i, f, a, cell, h1, h2, h3, h4, h5, h6, h7, h8, h9, h10⟩ := h
  obtain ⟨k', hi', he⟩ := State.fieldFound?_setVm hvm h2
  exact ⟨c, k', i, f, a, cell, by rw [hvm.findClass]; exact h1, hi', h3, by rw [he]; exact h4, h5, h6, h7, h8, by rw [he]; exact h9, h10⟩
theorem vx_L.kept {C n d : String} {A : Nat → Prop} {U : State} {H H1 : Heap} (h : vx_L C n d A U H) (hq : ∀ a : Nat, a < H.size → ¬ A a → H1[a]? = H[a]?) : vx_L C n d A U H1 := by
  obtain ⟨c, k, i, f, a, cell, h1, h2, h3, h4, h5, h6, h7, h8, h9, h10⟩ := h
  exact ⟨c, k, i, f, a, cell, h1, h2, h3, h4, by rw [hq a (Array.getElem?_eq_some_iff.mp h5).1 h10]; exact h5, h6, h7, h8, h9, h10⟩
theorem vx_L.narrow {C n d : String} {A B : Nat → Prop} {U : State} {H : Heap} (h : vx_L C n d A U H) (hAB : ∀ q, B q → A q) : vx_L C n d B U H := by
  obtain ⟨c, k, i, f, a, cell, h1, h2, h3, h4, h5, h6, h7, h8, h9, h10⟩ := h
  exact ⟨c, k, i, f, a, cell, h1, h2, h3, h4, h5, h6, h7, h8, h9, fun z => h10 (hAB _ z)⟩
theorem vx_L.word {C n d : String} {A : Nat → Prop} {s : State} {args : Array Value} (h : vx_L C n d A s s.heap) : (Cond.laysStatic C n d).before args s = true := by
  obtain ⟨c, k, i, f, a, cell, h1, h2, h3, h4, h5, h6, h7, h8, h9, -⟩ := h
  show (Cond.laysStatic C n d).holds args s none s [] = true
  exact Cond.laysStatic_of h1 h2 h3 h4 h5 h6 h7 h8 h9
/-- .. and what it holds: null or some reference -/
def vx_Zq (C n d : String) (A : Nat → Prop) (U : State) (H : Heap) : Prop := va_Zq C n d A U H ∧ vx_L C n d A U H
theorem vx_Zq.moved {C n d : String} {A : Nat → Prop} {u U : State} {H : Heap} (hvm : u.vm.Alike U.vm) (h : vx_Zq C n d A u H) : vx_Zq C n d A U H := ⟨va_Zq.moved hvm h.1, vx_L.moved hvm h.2⟩
theorem vx_Zq.kept {C n d : String} {A : Nat → Prop} {U : State} {H H1 : Heap} (h : vx_Zq C n d A U H) (hq : ∀ a : Nat, a < H.size → ¬ A a → H1[a]? = H[a]?) : vx_Zq C n d A U H1 := ⟨va_Zq.kept h.1 hq, vx_L.kept h.2 hq⟩
theorem vx_Zq.narrow {C n d : String} {A B : Nat → Prop} {U : State} {H : Heap} (h : vx_Zq C n d A U H) (hAB : ∀ q, B q → A q) : vx_Zq C n d B U H := ⟨va_Zq.narrow h.1 hAB, vx_L.narrow h.2 hAB⟩
theorem vx_Zqof {args : Array Value} {s : State} {C n d : String} {A : Nat → Prop} (hl : (Cond.laysStatic C n d).before args s = true) (hini : (Cond.initialized C).before args s = true) (h : (Cond.isRef (.static C n d)).before args s = true) (hA : ∀ a : Nat, a < s.heap.size → ¬ A a) : vx_Zq C n d A s s.heap := by
  refine ⟨va_Zqof hl hini h hA, ?_⟩
  obtain ⟨c, k, i, f, a, cell, h1, h2, h3, h4, h5, h6, h7, h8, h9⟩ := Cond.laysStatic_spec hl
  exact ⟨c, k, i, f, a, cell, h1, h2, h3, h4, h5, h6, h7, h8, h9, hA a (Array.getElem?_eq_some_iff.mp h5).1⟩
theorem vx_isRef {C n d : String} {v : Value} {A : Nat → Prop} {s : State} {args : Array Value} (h : va_Z C n d v A s s.heap) (hv : v.isRef = true) : (Cond.isRef (.static C n d)).before args s = true := by
  obtain ⟨cf, kf, fi, f, a, cell, h1, h2, h3, h4, h5, h6, h7, -⟩ := h
  have he : (Term.static C n d).eval args s none [] s = some v := by
    simp [Term.eval, State.fieldNamed?, h1, h2, h4, h5, h6, h7]
  simp only [Cond.before, Cond.holds, Cond.value, he]
  cases v <;> simp_all [Value.isRef]
theorem vx_isRefq {C n d : String} {A : Nat → Prop} {s : State} {args : Array Value} (h : va_Zq C n d A s s.heap) : (Cond.isRef (.static C n d)).before args s = true := by
  rcases h with h | ⟨t, h⟩
  · exact vx_isRef h rfl
  · exact vx_isRef h rfl
/-- the same frame, seen from here: as if the method were called anew in this heap -/
theorem vx_rebase {T : State} (X : Stand p l e R s m args below meth c T locs cells slots) {R' : Room} (hf : R'.frames ≤ R.frames) (hl : R'.locals ≤ R.locals) (hc : cells + R'.cells ≤ R.cells) (hs : slots + R'.slots ≤ R.slots) :
    Stand p l e R' ((T.setVm s.vm).setFrames (.invoking m args :: below)) m args below meth c T [] 0 0 := by
  have htop : (T.setVm s.vm).topJava?.isSome := X.here.top
  have hF : ((T.setVm s.vm).setFrames (.invoking m args :: below)).frames = .invoking m args :: below := State.frames_setFrames _ (State.cur_lt_of_top htop)
  obtain ⟨g₀, hg0⟩ := Option.isSome_iff_exists.mp htop
  obtain ⟨r, hr⟩ := State.topJava?_eq_some.mp hg0
  have hl9 : e.platform.stackLimits (T.setVm s.vm).me = e.platform.stackLimits s.me := X.limits
  have hb9 : (T.setVm s.vm).me.stackBytes = s.me.stackBytes := X.bytes
  refine ⟨X.admits, X.cas, X.clock, hF, ?_, X.hears, X.method, X.code, X.here, X.tail, X.warmed, ?_, ?_, ?_⟩
  · have h := X.room
    have hU : ((T.setVm s.vm).setFrames (.invoking m args :: below)).localsInUse = s.localsInUse := by
      rw [State.localsInUse_invoking hF (meth := meth) (c := c) X.method X.code, State.localsInUse_invoking X.frames X.method X.code]
    simp only [State.hasRoom, Bool.and_eq_true, decide_eq_true_eq] at h ⊢
    obtain ⟨⟨⟨⟨h1, h2, h3, h4, h5, h6⟩, h7⟩, h8⟩, h9⟩ := h
    rw [X.frames, List.length_cons] at h2 h3
    have q1 := X.heapSize
    have q2 := X.used
    simp only [hF, hU, List.length_cons, State.stackLimits_setFrames, State.stackBytes_setFrames, hl9, hb9]
    refine ⟨⟨⟨⟨by omega, by omega, by omega, by omega, by omega, h6⟩, ?_⟩, ?_⟩, X.book⟩
    · show T.heap.size + R'.cells ≤ e.platform.maxCells
      omega
    · show T.slotsUsed + R'.slots ≤ e.platform.maxSlots
      omega
  · rw [State.stackLimits_setFrames]; rfl
  · rw [State.stackBytes_setFrames]; rfl
  · refine ⟨?_, Nat.le_refl _, Nat.le_refl _, ?_, ?_, fun a c9 h9 => ⟨c9, h9, rfl, rfl, fun _ _ => rfl⟩⟩
    · obtain ⟨t, ht, -⟩ := State.frames_cons hr
      show T.setVm s.vm = { ((T.setVm s.vm).setFrames (.invoking m args :: below)).setFrames (T.setVm s.vm).frames with heap := T.heap, slotsUsed := T.slotsUsed }
      rw [State.setFrames_setFrames, State.setFrames_self ht]
      rfl
    · show T.slotsUsed = T.slotsUsed + ((T.heap.toList.drop T.heap.size).map (·.slots.size)).sum
      rw [List.drop_eq_nil_of_le (Nat.le_of_eq Array.length_toList)]
      rfl
    · show ((T.heap.toList.drop T.heap.size).map (·.slots.size)).sum ≤ 0
      rw [List.drop_eq_nil_of_le (Nat.le_of_eq Array.length_toList)]
      exact Nat.le_refl _
/-- 'throw new E()': new; dup; invokespecial; athrow -/
theorem vx_throw0 {cc : ByteArray} {pc : Nat} (hexec : p.tables.exec = Jvm.exec) (hb : c.code = cc) (hl : l.stackTraces = false) {own cls : String} {names : List String} {ik ic mc ms : Nat} {A : Nat → Prop}
    (hown : s.vm.findClass own = some m.cls) (hcls : Bundle.fit cls = true) (hnames : ∀ n ∈ names, Bundle.fit n = true)
    (hk : (Cond.classLink own ik cls).before args s = true) (hini : (Cond.initialized cls).before args s = true) (hat : ∀ w ∈ vx_at0 own ic cls names, w.before args s = true)
    (hgood : ∀ w ∈ Cond.classLink own ik cls :: Cond.initialized cls :: vx_at0 own ic cls names, vx_ot w = true)
    (hU : vx_Zq Bundle.tN "UNASSIGNED_STACK" Bundle.steD A s s.heap) (hN : vx_Zq Bundle.tN "SUPPRESSED_SENTINEL" Bundle.listD A s s.heap) (hS : va_S A s.heap H locs) (hsize : ls.size = c.maxLocals)
    (d0 : decode cc pc = .ok (.new ik, 3)) (d3 : decode cc (pc + 3) = .ok (.dup, 1)) (d4 : decode cc (pc + 4) = .ok (.invokespecial ic, 3)) (d7 : decode cc (pc + 7) = .ok (.athrow, 1))
    (hout : ∀ x ∈ c.exceptionTable.toList, covers x (pc + 7) = false)
    (hRframes : names.length + 3 < R.frames) (hRlocals : (rest.map fun v => v.category).sum + (13 * (names.length + 1) + 42) ≤ R.locals) (hRcells : cells + 1 ≤ R.cells) (hRslots : slots + 6 ≤ R.slots) (hlocks : meth.locks = false)
    (hx : ∀ t : State, s.vm.Alike t.vm → H.size ≤ t.heap.size → (∀ q : Nat, q < H.size → t.heap[q]? = H[q]?) → XC cls s t)
    (hf : ∀ z ∈ locs, free z.base) (hc : cells + 1 ≤ mc) (hs : slots + 6 ≤ ms) :
    W p l e R s m args below meth c H locs cells slots (vx_MQ below Qc XC args s mc ms free) (F0 m pc ls rest) := by
  intro T hT X
  have htr : e.platform.stackTraces = false := (show e.platform.stackTraces = l.stackTraces by rw [X.admits.platform]).trans hl
  have Y := vx_rebase X (R' := { frames := R.frames, locals := R.locals, cells := 1, slots := 6 }) (Nat.le_refl _) (Nat.le_refl _) hRcells hRslots
  obtain ⟨s', hA⟩ : ∃ z, z = (T.setVm s.vm).setFrames (.invoking m args :: below) := ⟨_, rfl⟩
  rw [← hA] at Y
  have hvm : s'.vm = s.vm := by rw [hA]; rfl
  have hhp : s'.heap = H := by rw [hA]; exact hT
  have hW0 : s.WarmedH s'.vm := by rw [hvm]; exact State.WarmedH.refl s
  have hat' : ∀ w ∈ vx_at0 own ic cls names, w.before args s' = true := fun w hw => vx_ot_at hW0 hvm.symm (hgood w (List.mem_cons_of_mem _ (List.mem_cons_of_mem _ hw))) (hat w hw)
  have hk' : (Cond.classLink own ik cls).before args s' = true := vx_ot_at hW0 hvm.symm (hgood _ List.mem_cons_self) hk
  have hini' : (Cond.initialized cls).before args s' = true := vx_ot_at hW0 hvm.symm (hgood _ (List.mem_cons_of_mem _ List.mem_cons_self)) hini
  have hU' : vx_Zq Bundle.tN "UNASSIGNED_STACK" Bundle.steD A s' s'.heap := by rw [hhp]; exact vx_Zq.moved hW0.alike (hU.kept hS.2.1)
  have hN' : vx_Zq Bundle.tN "SUPPRESSED_SENTINEL" Bundle.listD A s' s'.heap := by rw [hhp]; exact vx_Zq.moved hW0.alike (hN.kept hS.2.1)
  have h : ∀ w ∈ Bundle.ownAtoms0 own ic cls names, w.before args s' = true := vx_own hat' (vx_isRefq hU'.1) (vx_isRefq hN'.1) hU'.2.word hN'.2.word
  have hown' : s'.vm.findClass own = some m.cls := by rw [hvm]; exact hown
  have hins : (Cond.instantiable cls 6).before args s' = true := h _ (by simp [Bundle.ownAtoms0])
  obtain ⟨vm₁, cX, kX, hfX, hkX, -, -, X₁, st1⟩ := Y.newCold hexec (own := own) (C := cls) (index := ik) (n := 6) hown' hk' hins hini'
    (g := F0 m pc ls rest) rfl (by rw [hb]; exact d0) (Nat.le_refl _) (Nat.le_refl _)
  generalize hT1 : (T.setVm vm₁).pushCell { cls := cX, slots := kX.instanceTypes.map defaultValue, vm := .none } = T1 at X₁ st1
  have hcat : (Value.ref T.heap.size).category = 1 := rfl
  have hcellA : T1.heap[T.heap.size]? = some (freshCell cX kX) := by rw [← hT1]; exact State.heap_pushCell_size _ _
  have d3' : decode c.code (pc + 3) = .ok (.dup, 1) := by rw [hb]; exact d3
  obtain ⟨U, hsteps, hrun, hend, hW, hsame, ce, hce, hO⟩ := X₁.ctorThrow0 hexec htr (own := own) (cls := cls) (names := names) (ic := ic) hown' hcls hnames h (fun x hx => nomatch hx) hfX hkX hcellA (by rw [hhp, hT]; exact Nat.le_refl _)
    (g := { method := m, pc := pc + 4, locals := ls, stack := .ref T.heap.size :: .ref T.heap.size :: rest, locked := none }) rfl hsize rfl rfl (rest := rest) rfl
    (by rw [hb]; exact d4) (by rw [hb]; exact d7) hout hRframes (by simp only [List.map_cons, List.sum_cons, hcat]; omega) hlocks
  obtain ⟨f1, f2⟩ := vx_frame hsame
  rw [hhp] at f1 f2
  have hWs : s.WarmedH U.vm := State.WarmedH.trans hW0 hW
  have hcl : s.vm.findClass cls = some ce.cls := by
    have h9 := hO.cls
    rw [hvm] at h9
    exact h9
  have hall : s.sameButNew ({ U with vm := s.vm } : State) locs mc ms := by
    subst hA
    obtain ⟨e1, e2⟩ := hsame
    rw [State.setFrames_setFrames] at e1
    have h2 : (T.setVm s.vm).sameButNew ({ U with vm := s.vm } : State) [] (0 + 1) (0 + 6) := ⟨e1, e2⟩
    have h3 := X.same.trans h2
    rw [List.append_nil] at h3
    exact h3.mono hc hs
  refine ⟨U, ?_, .threw T.heap.size, hrun, hend, Or.inr ⟨T.heap.size, rfl, cls, ce, locs, hx U hWs.alike f1 (fun q hq => f2 q hq (fun z hz => nomatch hz)), hce, hO.vm, hcl, hWs, hall, hf⟩⟩
  refine st1 _ ?_
  show Steps p.tables e below (T1.setTop { method := m, pc := pc + 3, locals := ls, stack := .ref T.heap.size :: rest, locked := none }) _
  jvm_step X₁.here [X₁.here.top, hexec, d3', Value.category]
  exact hsteps
/-- 'throw new E("text")': new; dup; ldc; invokespecial; athrow -/
theorem vx_throwS {cc : ByteArray} {pc : Nat} (hexec : p.tables.exec = Jvm.exec) (hb : c.code = cc) (hl : l.stackTraces = false) {own cls text : String} {names : List String} {ik is ic mc ms sa : Nat} {A : Nat → Prop}
    (hown : s.vm.findClass own = some m.cls) (hcls : Bundle.fit cls = true) (hnames : ∀ n ∈ names, Bundle.fit n = true)
    (hk : (Cond.classLink own ik cls).before args s = true) (hini : (Cond.initialized cls).before args s = true) (hstr : vk_R own is text sa s) (hat : ∀ w ∈ vx_atS own ic cls names, w.before args s = true)
    (hgood : ∀ w ∈ Cond.classLink own ik cls :: Cond.initialized cls :: vx_atS own ic cls names, vx_ot w = true)
    (hU : vx_Zq Bundle.tN "UNASSIGNED_STACK" Bundle.steD A s s.heap) (hN : vx_Zq Bundle.tN "SUPPRESSED_SENTINEL" Bundle.listD A s s.heap) (hS : va_S A s.heap H locs) (hsize : ls.size = c.maxLocals)
    (d0 : decode cc pc = .ok (.new ik, 3)) (d3 : decode cc (pc + 3) = .ok (.dup, 1)) (d4 : decode cc (pc + 4) = .ok (.ldc is, 2)) (d6 : decode cc (pc + 6) = .ok (.invokespecial ic, 3)) (d9 : decode cc (pc + 9) = .ok (.athrow, 1))
    (hout : ∀ x ∈ c.exceptionTable.toList, covers x (pc + 9) = false)
    (hRframes : names.length + 3 < R.frames) (hRlocals : (rest.map fun v => v.category).sum + (13 * (names.length + 1) + 43) ≤ R.locals) (hRcells : cells + 1 ≤ R.cells) (hRslots : slots + 6 ≤ R.slots) (hlocks : meth.locks = false)
    (hx : ∀ t : State, s.vm.Alike t.vm → H.size ≤ t.heap.size → (∀ q : Nat, q < H.size → t.heap[q]? = H[q]?) → XC cls s t)
    (hf : ∀ z ∈ locs, free z.base) (hc : cells + 1 ≤ mc) (hs : slots + 6 ≤ ms) :
    W p l e R s m args below meth c H locs cells slots (vx_MQ below Qc XC args s mc ms free) (F0 m pc ls rest) := by
  intro T hT X
  have htr : e.platform.stackTraces = false := (show e.platform.stackTraces = l.stackTraces by rw [X.admits.platform]).trans hl
  have Y := vx_rebase X (R' := { frames := R.frames, locals := R.locals, cells := 1, slots := 6 }) (Nat.le_refl _) (Nat.le_refl _) hRcells hRslots
  obtain ⟨s', hA⟩ : ∃ z, z = (T.setVm s.vm).setFrames (.invoking m args :: below) := ⟨_, rfl⟩
  rw [← hA] at Y
  have hvm : s'.vm = s.vm := by rw [hA]; rfl
  have hhp : s'.heap = H := by rw [hA]; exact hT
  have hW0 : s.WarmedH s'.vm := by rw [hvm]; exact State.WarmedH.refl s
  have hat' : ∀ w ∈ vx_atS own ic cls names, w.before args s' = true := fun w hw => vx_ot_at hW0 hvm.symm (hgood w (List.mem_cons_of_mem _ (List.mem_cons_of_mem _ hw))) (hat w hw)
  have hk' : (Cond.classLink own ik cls).before args s' = true := vx_ot_at hW0 hvm.symm (hgood _ List.mem_cons_self) hk
  have hini' : (Cond.initialized cls).before args s' = true := vx_ot_at hW0 hvm.symm (hgood _ (List.mem_cons_of_mem _ List.mem_cons_self)) hini
  have hU' : vx_Zq Bundle.tN "UNASSIGNED_STACK" Bundle.steD A s' s'.heap := by rw [hhp]; exact vx_Zq.moved hW0.alike (hU.kept hS.2.1)
  have hN' : vx_Zq Bundle.tN "SUPPRESSED_SENTINEL" Bundle.listD A s' s'.heap := by rw [hhp]; exact vx_Zq.moved hW0.alike (hN.kept hS.2.1)
  have h : ∀ w ∈ Bundle.ownAtoms own ic cls names, w.before args s' = true := vx_own hat' (vx_isRefq hU'.1) (vx_isRefq hN'.1) hU'.2.word hN'.2.word
  have hown' : s'.vm.findClass own = some m.cls := by rw [hvm]; exact hown
  have hins : (Cond.instantiable cls 6).before args s' = true := h _ (by simp [Bundle.ownAtoms])
  obtain ⟨vm₁, cX, kX, hfX, hkX, -, -, X₁, st1⟩ := Y.newCold hexec (own := own) (C := cls) (index := ik) (n := 6) hown' hk' hins hini'
    (g := F0 m pc ls rest) rfl (by rw [hb]; exact d0) (Nat.le_refl _) (Nat.le_refl _)
  generalize hT1 : (T.setVm vm₁).pushCell { cls := cX, slots := kX.instanceTypes.map defaultValue, vm := .none } = T1 at X₁ st1
  have hcat : (Value.ref T.heap.size).category = 1 := rfl
  have hcellA : T1.heap[T.heap.size]? = some (freshCell cX kX) := by rw [← hT1]; exact State.heap_pushCell_size _ _
  have d3' : decode c.code (pc + 3) = .ok (.dup, 1) := by rw [hb]; exact d3
  have d4' : decode c.code (pc + 4) = .ok (.ldc is, 2) := by rw [hb]; exact d4
  have hstr' : vk_R own is text sa s' := vk_R.warm hW0 hstr
  obtain ⟨U, hsteps, hrun, hend, hW, hsame, ce, hce, hO⟩ := X₁.ctorThrowS hexec htr (own := own) (cls := cls) (names := names) (ic := ic) hown' hcls hnames h (fun x hx => nomatch hx) hfX hkX hcellA (by rw [hhp, hT]; exact Nat.le_refl _) (msg := .ref sa) rfl
    (g := { method := m, pc := pc + 6, locals := ls, stack := .ref sa :: .ref T.heap.size :: .ref T.heap.size :: rest, locked := none }) rfl hsize rfl rfl (rest := rest) rfl
    (by rw [hb]; exact d6) (by rw [hb]; exact d9) hout hRframes (by simp only [List.map_cons, List.sum_cons, hcat]; omega) hlocks
  obtain ⟨f1, f2⟩ := vx_frame hsame
  rw [hhp] at f1 f2
  have hWs : s.WarmedH U.vm := State.WarmedH.trans hW0 hW
  have hcl : s.vm.findClass cls = some ce.cls := by
    have h9 := hO.cls
    rw [hvm] at h9
    exact h9
  have hall : s.sameButNew ({ U with vm := s.vm } : State) locs mc ms := by
    subst hA
    obtain ⟨e1, e2⟩ := hsame
    rw [State.setFrames_setFrames] at e1
    have h2 : (T.setVm s.vm).sameButNew ({ U with vm := s.vm } : State) [] (0 + 1) (0 + 6) := ⟨e1, e2⟩
    have h3 := X.same.trans h2
    rw [List.append_nil] at h3
    exact h3.mono hc hs
  refine ⟨U, ?_, .threw T.heap.size, hrun, hend, Or.inr ⟨T.heap.size, rfl, cls, ce, locs, hx U hWs.alike f1 (fun q hq => f2 q hq (fun z hz => nomatch hz)), hce, hO.vm, hcl, hWs, hall, hf⟩⟩
  refine st1 _ ?_
  show Steps p.tables e below (T1.setTop { method := m, pc := pc + 3, locals := ls, stack := .ref T.heap.size :: rest, locked := none }) _
  jvm_step X₁.here [X₁.here.top, hexec, d3', Value.category]
  exact X₁.ldcString hexec (own := own) (text := text) (index := is) (a := sa) hown' hstr'.1 hstr'.2
    (g := { method := m, pc := pc + 4, locals := ls, stack := .ref T.heap.size :: .ref T.heap.size :: rest, locked := none }) rfl d4' _ hsteps
/-- 'throw new E("text")', the text by a wide index -/
theorem vx_throwSW {cc : ByteArray} {pc : Nat} (hexec : p.tables.exec = Jvm.exec) (hb : c.code = cc) (hl : l.stackTraces = false) {own cls text : String} {names : List String} {ik is ic mc ms sa : Nat} {A : Nat → Prop}
    (hown : s.vm.findClass own = some m.cls) (hcls : Bundle.fit cls = true) (hnames : ∀ n ∈ names, Bundle.fit n = true)
    (hk : (Cond.classLink own ik cls).before args s = true) (hini : (Cond.initialized cls).before args s = true) (hstr : vk_R own is text sa s) (hat : ∀ w ∈ vx_atS own ic cls names, w.before args s = true)
    (hgood : ∀ w ∈ Cond.classLink own ik cls :: Cond.initialized cls :: vx_atS own ic cls names, vx_ot w = true)
    (hU : vx_Zq Bundle.tN "UNASSIGNED_STACK" Bundle.steD A s s.heap) (hN : vx_Zq Bundle.tN "SUPPRESSED_SENTINEL" Bundle.listD A s s.heap) (hS : va_S A s.heap H locs) (hsize : ls.size = c.maxLocals)
    (d0 : decode cc pc = .ok (.new ik, 3)) (d3 : decode cc (pc + 3) = .ok (.dup, 1)) (d4 : decode cc (pc + 4) = .ok (.ldc_w is, 3)) (d7 : decode cc (pc + 7) = .ok (.invokespecial ic, 3)) (d10 : decode cc (pc + 10) = .ok (.athrow, 1))
    (hout : ∀ x ∈ c.exceptionTable.toList, covers x (pc + 10) = false)
    (hRframes : names.length + 3 < R.frames) (hRlocals : (rest.map fun v => v.category).sum + (13 * (names.length + 1) + 43) ≤ R.locals) (hRcells : cells + 1 ≤ R.cells) (hRslots : slots + 6 ≤ R.slots) (hlocks : meth.locks = false)
    (hx : ∀ t : State, s.vm.Alike t.vm → H.size ≤ t.heap.size → (∀ q : Nat, q < H.size → t.heap[q]? = H[q]?) → XC cls s t)
    (hf : ∀ z ∈ locs, free z.base) (hc : cells + 1 ≤ mc) (hs : slots + 6 ≤ ms) :
    W p l e R s m args below meth c H locs cells slots (vx_MQ below Qc XC args s mc ms free) (F0 m pc ls rest) := by
  intro T hT X
  have htr : e.platform.stackTraces = false := (show e.platform.stackTraces = l.stackTraces by rw [X.admits.platform]).trans hl
  have Y := vx_rebase X (R' := { frames := R.frames, locals := R.locals, cells := 1, slots := 6 }) (Nat.le_refl _) (Nat.le_refl _) hRcells hRslots
  obtain ⟨s', hA⟩ : ∃ z, z = (T.setVm s.vm).setFrames (.invoking m args :: below) := ⟨_, rfl⟩
  rw [← hA] at Y
  have hvm : s'.vm = s.vm := by rw [hA]; rfl
  have hhp : s'.heap = H := by rw [hA]; exact hT
  have hW0 : s.WarmedH s'.vm := by rw [hvm]; exact State.WarmedH.refl s
  have hat' : ∀ w ∈ vx_atS own ic cls names, w.before args s' = true := fun w hw => vx_ot_at hW0 hvm.symm (hgood w (List.mem_cons_of_mem _ (List.mem_cons_of_mem _ hw))) (hat w hw)
  have hk' : (Cond.classLink own ik cls).before args s' = true := vx_ot_at hW0 hvm.symm (hgood _ List.mem_cons_self) hk
  have hini' : (Cond.initialized cls).before args s' = true := vx_ot_at hW0 hvm.symm (hgood _ (List.mem_cons_of_mem _ List.mem_cons_self)) hini
  have hU' : vx_Zq Bundle.tN "UNASSIGNED_STACK" Bundle.steD A s' s'.heap := by rw [hhp]; exact vx_Zq.moved hW0.alike (hU.kept hS.2.1)
  have hN' : vx_Zq Bundle.tN "SUPPRESSED_SENTINEL" Bundle.listD A s' s'.heap := by rw [hhp]; exact vx_Zq.moved hW0.alike (hN.kept hS.2.1)
  have h : ∀ w ∈ Bundle.ownAtoms own ic cls names, w.before args s' = true := vx_own hat' (vx_isRefq hU'.1) (vx_isRefq hN'.1) hU'.2.word hN'.2.word
  have hown' : s'.vm.findClass own = some m.cls := by rw [hvm]; exact hown
  have hins : (Cond.instantiable cls 6).before args s' = true := h _ (by simp [Bundle.ownAtoms])
  obtain ⟨vm₁, cX, kX, hfX, hkX, -, -, X₁, st1⟩ := Y.newCold hexec (own := own) (C := cls) (index := ik) (n := 6) hown' hk' hins hini'
    (g := F0 m pc ls rest) rfl (by rw [hb]; exact d0) (Nat.le_refl _) (Nat.le_refl _)
  generalize hT1 : (T.setVm vm₁).pushCell { cls := cX, slots := kX.instanceTypes.map defaultValue, vm := .none } = T1 at X₁ st1
  have hcat : (Value.ref T.heap.size).category = 1 := rfl
  have hcellA : T1.heap[T.heap.size]? = some (freshCell cX kX) := by rw [← hT1]; exact State.heap_pushCell_size _ _
  have d3' : decode c.code (pc + 3) = .ok (.dup, 1) := by rw [hb]; exact d3
  have d4' : decode c.code (pc + 4) = .ok (.ldc_w is, 3) := by rw [hb]; exact d4
  have hstr' : vk_R own is text sa s' := vk_R.warm hW0 hstr
  obtain ⟨U, hsteps, hrun, hend, hW, hsame, ce, hce, hO⟩ := X₁.ctorThrowS hexec htr (own := own) (cls := cls) (names := names) (ic := ic) hown' hcls hnames h (fun x hx => nomatch hx) hfX hkX hcellA (by rw [hhp, hT]; exact Nat.le_refl _) (msg := .ref sa) rfl
    (g := { method := m, pc := pc + 7, locals := ls, stack := .ref sa :: .ref T.heap.size :: .ref T.heap.size :: rest, locked := none }) rfl hsize rfl rfl (rest := rest) rfl
    (by rw [hb]; exact d7) (by rw [hb]; exact d10) hout hRframes (by simp only [List.map_cons, List.sum_cons, hcat]; omega) hlocks
  obtain ⟨f1, f2⟩ := vx_frame hsame
  rw [hhp] at f1 f2
  have hWs : s.WarmedH U.vm := State.WarmedH.trans hW0 hW
  have hcl : s.vm.findClass cls = some ce.cls := by
    have h9 := hO.cls
    rw [hvm] at h9
    exact h9
  have hall : s.sameButNew ({ U with vm := s.vm } : State) locs mc ms := by
    subst hA
    obtain ⟨e1, e2⟩ := hsame
    rw [State.setFrames_setFrames] at e1
    have h2 : (T.setVm s.vm).sameButNew ({ U with vm := s.vm } : State) [] (0 + 1) (0 + 6) := ⟨e1, e2⟩
    have h3 := X.same.trans h2
    rw [List.append_nil] at h3
    exact h3.mono hc hs
  refine ⟨U, ?_, .threw T.heap.size, hrun, hend, Or.inr ⟨T.heap.size, rfl, cls, ce, locs, hx U hWs.alike f1 (fun q hq => f2 q hq (fun z hz => nomatch hz)), hce, hO.vm, hcl, hWs, hall, hf⟩⟩
  refine st1 _ ?_
  show Steps p.tables e below (T1.setTop { method := m, pc := pc + 3, locals := ls, stack := .ref T.heap.size :: rest, locked := none }) _
  jvm_step X₁.here [X₁.here.top, hexec, d3', Value.category]
  exact X₁.ldcStringW hexec (own := own) (text := text) (index := is) (a := sa) hown' hstr'.1 hstr'.2
    (g := { method := m, pc := pc + 4, locals := ls, stack := .ref T.heap.size :: .ref T.heap.size :: rest, locked := none }) rfl d4' _ hsteps
end Ends
section Bodies
variable {l : Launch}
theorem vx_ofW {y : MethodName} {ws ws' : List Cond} {rm : Room} {Pc : Array Value → State → Prop} {Qc : Array Value → State → Outcome → State → Prop} {XC : String → State → State → Prop} {mc ms : Nat} {free : Addr → Prop} {cc : ByteArray} {maxL : Nat} {ret : Option FieldType}
    (hy : plainName y.cls = true) (hw : ws = Cond.code y cc maxL ret :: ws')
    (body : ∀ p e s m args below meth c s₁, BodyLoose p l y (headSpec ws rm) cc maxL ret e s m args below meth c s₁ → c.maxLocals = maxL → (∀ x ∈ c.exceptionTable.toList, False) → Pc args s →
      W p l e (headSpec ws rm).room s m args below meth c s.heap [] 0 0 (vx_MQ below Qc XC args s mc ms free) (entryFrame m args maxL)) : vx_Met l y ws rm Pc Qc XC mc ms free := by
  refine MetFree.of_bodyS (code := cc) (maxLocals := maxL) (ret := ret) hy ?_ ?_
  · intro args s m h hn
    obtain ⟨meth, c, h1, h2, h3, h4, h5, h6, -, -⟩ := Cond.code_spec hn (atoms_spec (ws := ws) h _ (by rw [hw]; exact List.mem_cons_self))
    exact ⟨meth, c, h1, h2, h3, h4, h5, h6⟩
  · intro p e s m args below meth c s₁ B hml hP _
    have hh0 : s₁.heap = s.heap := by rw [B.state]; rfl
    have ht : ∀ x ∈ c.exceptionTable.toList, False := by
      obtain ⟨meth9, c9, h1, h2, -, -, -, -, h7, -⟩ := Cond.code_spec B.named (atoms_spec (ws := ws) B.pre _ (by rw [hw]; exact List.mem_cons_self))
      cases Option.some.inj (h1.symm.trans B.method)
      cases Option.some.inj (h2.symm.trans (Stand.of_body B).code)
      intro x hx
      rw [Array.isEmpty_iff.mp h7] at hx
      cases hx
    obtain ⟨t, a1, o, b1, b2, b3⟩ := body p e s m args below meth c s₁ B hml ht hP s₁ hh0 (Stand.of_body B)
    exact ⟨t, o, a1, b1, b2, b3⟩
/-- the table of a body with handlers -/
theorem vx_table {p : Program} {x y : MethodName} {S : Spec} {cc bytes : ByteArray} {maxL maxL' : Nat} {ret ret' : Option FieldType} {e : Env} {s s₁ : State} {m : MethodId} {args : Array Value} {below : List Frame} {meth : Method} {c : Code} {hh : List (Nat × Nat × Nat × Nat)}
    (B : BodyLoose p l y S cc maxL ret e s m args below meth c s₁) (h : (Cond.codeWith y bytes maxL' ret' hh).before args s = true) : c.exceptionTable.toList = tableOf hh := by
  obtain ⟨m9, meth9, c9, hn9, h1, h2, -, -, h6, -⟩ := Cond.codeWith_spec h
  cases Option.some.inj (hn9.symm.trans B.named)
  cases Option.some.inj (h1.symm.trans B.method)
  cases Option.some.inj (h2.symm.trans (Stand.of_body B).code)
  rw [← h6, table_eq]
end Bodies
end VXA
/-! ===== END ===== -/
/-! ===== BEGIN a static call of a method with an exception table ===== -/
section VXS
variable {p : Program} {l : Launch} {e : Env} {R : Room} {s : State} {m : MethodId} {args : Array Value} {below : List Frame} {meth : Method} {c : Code} {T : State} {H : Heap} {locs : List Loc} {cells slots : Nat}
abbrev vx_CSW (R : Room) (s : State) (args : Array Value) (own : String) (index : Nat) (y : MethodName) (bytes : ByteArray) (maxL : Nat) (ret : Option FieldType) (hh : List (Nat × Nat × Nat × Nat)) (ws : List Cond) (rm : Room) (mc ms n : Nat) : Prop :=
  (rm.cells = mc ∧ rm.slots = ms ∧ rm.frames + 1 ≤ R.frames ∧ 8 + (maxL + 11) + rm.locals ≤ R.locals ∧ (∀ w ∈ ws, ∀ (a' : Array Value) (U : State), s.WarmedH U.vm → w.before a' U = true) ∧ Cond.codeWith y bytes maxL ret hh ∈ ws) ∧
  (Cond.codeWith y bytes maxL ret hh).before args s = true ∧ (Cond.initialized y.cls).before args s = true ∧ (y.cls ≠ "java/lang/invoke/MethodHandle" ∧ y.cls ≠ "java/lang/invoke/VarHandle") ∧
  (∀ sig, parseMethodDescriptor y.desc = some sig → n = sig.parameters.length) ∧ (Cond.methodLink own index y).before args s = true ∧ (Cond.static y).before args s = true
theorem vx_cwSW {own : String} {index maxL mc ms : Nat} {y : MethodName} {bytes : ByteArray} {ret : Option FieldType} {hh : List (Nat × Nat × Nat × Nat)} {Ts ws ws' : List Cond} {rm : Room} (n : Nat) (ht : ∀ w ∈ Ts, w.before args s = true) (hT : GoodIn Ts (va_wsS own index y ws)) (hw : ws = Cond.codeWith y bytes maxL ret hh :: ws') (hrc : rm.cells = mc) (hrs : rm.slots = ms)
    (hd : y.cls ≠ "java/lang/invoke/MethodHandle" ∧ y.cls ≠ "java/lang/invoke/VarHandle" ∧ (parseMethodDescriptor y.desc).map (fun d => d.parameters.length) = some n) (hR : rm.frames + 1 ≤ R.frames ∧ 8 + (maxL + 11) + rm.locals ≤ R.locals) :
    vx_CSW R s args own index y bytes maxL ret hh ws rm mc ms n := by
  have ok : ∀ w ∈ va_wsS own index y ws, w.before args s = true := fun w h => ht w (hT w h).1
  have hG : GoodIn Ts ws := fun w h => hT w (by unfold va_wsS; exact List.mem_append_right _ h)
  have hc : Cond.codeWith y bytes maxL ret hh ∈ ws := by rw [hw]; exact List.mem_cons_self
  refine ⟨⟨hrc, hrs, hR.1, hR.2, pay_in ht hG, hc⟩, ht _ (hG _ hc).1, ok _ (by simp [va_wsS]), ⟨hd.1, hd.2.1⟩, fun sig h => ?_, ok _ (by simp [va_wsS]), ok _ (by simp [va_wsS])⟩
  have h2 := hd.2.2
  rw [h] at h2
  exact (Option.some.inj h2).symm
theorem vx_callSW (X : Stand p l e R s m args below meth c T locs cells slots) (hexec : p.tables.exec = Jvm.exec) {own : String} {index : Nat} {y : MethodName} {bytes : ByteArray} {maxL : Nat} {ret : Option FieldType} {hh : List (Nat × Nat × Nat × Nat)}
    (hown : s.vm.findClass own = some m.cls) (hlink : (Cond.methodLink own index y).before args s = true) (hstat : (Cond.static y).before args s = true) (hinit : (Cond.initialized y.cls).before args s = true)
    (hcode : (Cond.codeWith y bytes maxL ret hh).before args s = true) (hy : y.cls ≠ "java/lang/invoke/MethodHandle" ∧ y.cls ≠ "java/lang/invoke/VarHandle")
    {W9 : Nat} {Pre : Pt → Array Value → Prop} {Post : Pt → Array Value → Option Value → Pt → Prop} (hK : Back l R p e below s args y 3 W9 Pre Post)
    {g : JFrame} (hg : g.method = m) (hsize : g.locals.size = c.maxLocals) {argsL rest : List Value} (hlen : ∀ sig, parseMethodDescriptor y.desc = some sig → argsL.length = sig.parameters.length)
    (hstack : g.stack = argsL.reverse ++ rest) (hW : 2 * g.monitorRoom + (rest.map fun v => v.category).sum ≤ W9) (hdg : decode c.code g.pc = .ok (.invokestatic index, 3))
    (hpre : ∀ vm₁, s.WarmedH vm₁ → Pre ⟨T.setVm vm₁, locs, cells, slots⟩ argsL.toArray) :
    ∃ (v : Option Value) (vm₁ : Vm) (B : Pt), s.WarmedH vm₁ ∧ Stand p l e R s m args below meth c B.U B.locs B.cells B.slots ∧ Post ⟨T.setVm vm₁, locs, cells, slots⟩ argsL.toArray v B ∧
      ∀ target, Steps p.tables e below (B.U.setTop { g with pc := g.pc + 3, stack := v.toList ++ rest }) target → Steps p.tables e below (T.setTop g) target := by
  obtain ⟨mk, methM, cM, hnamed, hmethM, -, -, -, -, -, -, hsigM⟩ := Cond.codeWith_spec hcode
  have hstatic : methM.isStatic = true := Cond.static_spec hnamed hmethM hstat
  obtain ⟨kP, hkP, -⟩ := className_of_methodNamed hnamed
  have hinitP : kP.init = .initialized := Cond.initialized_spec (findClass_of_methodNamed hnamed) hkP hinit
  obtain ⟨vm₁, X₁, hstep₁⟩ := X.invokestatic hexec hown hlink hnamed hmethM hstatic hkP hinitP hy (g := g) hg (argsL := argsL) (rest := rest) (hlen _ hsigM) hstack hdg
  obtain ⟨v, B, X', hpost, hsteps⟩ := hK m meth c ⟨T.setVm vm₁, locs, cells, slots⟩ { g with stack := rest } (.invokestatic index) mk argsL.toArray X₁ hg hsize hdg hW (X₁.named hnamed) (hpre vm₁ X₁.warmed)
  exact ⟨v, vm₁, B, X₁.warmed, X', hpost, fun target h => hstep₁ _ fun acts => by rw [doInvoke_state]; exact hsteps.trans h⟩
theorem vx_runSW {y : MethodName} {bytes cc : ByteArray} {maxL nL mc ms n index : Nat} {ret : Option FieldType} {hh : List (Nat × Nat × Nat × Nat)} {ws : List Cond} {rm : Room} {Pc : Array Value → State → Prop} {Qc : Array Value → State → Outcome → State → Prop} {free : Addr → Prop} {Ts : List Cond} {own : String} {As rest : List Value} {g : JFrame}
    (S : CallFix p m c cc nL s args Ts own) (hM : Met l y ws rm Pc Qc mc ms free) (cw : vx_CSW R s args own index y bytes maxL ret hh ws rm mc ms n) (hp : PreS s H Pc As)
    (hg : g.method = m) (hn : As.length = n) (hsize : g.locals.size = nL) (hstack : g.stack = As.reverse ++ rest) (hW : 2 * g.monitorRoom + (rest.map fun v => v.category).sum ≤ 8) (hdg : decode cc g.pc = .ok (.invokestatic index, 3)) (hf : cells + mc ≤ R.cells ∧ slots + ms ≤ R.slots) :
    va_Run p l e R s m args below meth c H locs cells slots mc ms g rest (Qc As.toArray) (free) := by
  obtain ⟨⟨hrc, hrs, hfr, hlo, hws, hcw⟩, hcode, hini, hy, hlen, hl, hstt⟩ := cw
  have hK : Back l R p e below s args y 3 8 (PreOf R mc ms Pc) (PostOf Qc mc ms free) := va_backW (hh := hh) (bytes := bytes) (maxL := maxL) (ret := ret) hM hp.1 hrc hrs hfr hlo hws hcw (fun a' U hW => word_at hW (Or.inl (by first | rfl | simp [Cond.onTables, Cond.keeps, Cond.steady])) hini)
  obtain ⟨hx, hb, hml, ho, -⟩ := S
  intro T hT X
  obtain ⟨v, vm₁, ⟨U', l2, c2, s2⟩, hW₁, X', ⟨g', mk, t, L, e1, e2, hq, h1, hL, h2, h3⟩, st⟩ := vx_callSW X hx (hh := hh) (bytes := bytes) (maxL := maxL) (ret := ret) ho hl hstt hini hcode hy hK hg (hsize.trans hml.symm) (argsL := As) (rest := rest) (fun sig h => hn.trans (hlen sig h)) hstack hW (by rw [hb]; exact hdg)
    (fun vm₁ hW₁ => ⟨hf.1, hf.2, hp.2 (T.setVm vm₁) hT hW₁⟩)
  dsimp only [Pt.U, Pt.locs, Pt.cells, Pt.slots] at X' e1 e2 h1 h2 h3 st
  subst h1; subst h2; subst h3
  exact ⟨v, (T.setVm vm₁).calling g' mk As.toArray, t, U', L, hT, X', hL, e1, e2, hq, st⟩
/-- not caught here, past rows that name other classes: it goes on to the caller -/
theorem vx_outP {p : Program} {l : Launch} {e : Env} {R : Room} {s : State} {m : MethodId} {args : Array Value} {below : List Frame} {meth : Method} {c : Code} {H : Heap} {locs : List Loc} {cells slots : Nat} {free : Addr → Prop} {ls : Array Slot} {rest : List Value} {Qc : Array Value → State → Outcome → State → Prop} {XC : String → State → State → Prop}
    {pc : Nat} {own E : String} {ce : Cell} {q : Addr} {mc ms : Nat} (hown : s.vm.findClass own = some m.cls) (hlocks : meth.locks = false)
    (hpass : ∀ z ∈ c.exceptionTable.toList, covers z pc = false ∨ (z.catchType ≠ 0 ∧ ∃ nm : String, (Cond.classLink own z.catchType nm).before args s = true ∧ va_Nc E nm s)) (hcell : H[q]? = some ce) (hv : ce.vm = .none) (hcl : s.vm.findClass E = some ce.cls)
    (hx : ∀ t : State, t.heap = H → s.vm.Alike t.vm → XC E s t) (hf : ∀ z ∈ locs, free z.base) (hc : cells ≤ mc) (hs : slots ≤ ms) :
    vx_W p l e R s m args below meth c H locs cells slots (vx_MQ below Qc XC args s mc ms free) (F0 m pc ls rest) q := by
  intro T hT X
  have hpl : e.platform.magicAccessors = ({} : Platform).magicAccessors := by rw [X.admits.platform]
  obtain ⟨vm', hW', X', st⟩ := X.outThrough hlocks q (g := F0 m pc ls rest) rfl rfl rfl (cell := ce) (by rw [hT]; exact hcell) (by rw [hv]; rfl)
    (by obtain ⟨k9, h9, -⟩ := Vm.findClass_spec hcl; exact ⟨k9, h9⟩) (fun z hz => by
      rcases hpass z hz with h | ⟨hz0, nm, hl1, hn1⟩
      · exact Or.inl h
      · obtain ⟨c6, hc6, hcl6⟩ := Cond.classLink_spec hown hl1 e.platform hpl
        obtain ⟨a8, b8, h1, h2, h3⟩ := hn1
        cases Option.some.inj (h1.symm.trans hcl)
        cases Option.some.inj (h2.symm.trans hc6)
        exact Or.inr ⟨hz0, _, hcl6, h3⟩)
  obtain ⟨g₀, hfr⟩ := X'.frames_eq
  have hcell9 : ((T.setVm vm').setFrames (.throwing q :: below)).heap[q]? = some ce := by
    show T.heap[q]? = some ce
    rw [hT]; exact hcell
  have hend : Ended ((T.setVm vm').setFrames (.throwing q :: below)) below (.threw q) := State.frames_setFrames _ (State.cur_lt_of_frames hfr)
  refine ⟨(T.setVm vm').setFrames (.throwing q :: below), ?_, .threw q, X'.here.running, hend, Or.inr ⟨q, rfl, E, ce, locs, hx _ hT (X'.ends _).1.alike, hcell9, hv, hcl, (X'.ends _).1, (X'.ends _).2.mono hc hs, hf⟩⟩
  rw [X.pushThrowing_eq]
  exact st
/-- a thing of a world lies in the heap -/
theorem vx_lt {D : va_G} {cl : List vw_C} {ws : va_W} {H1 : Heap} (h : va_P D cl ws H1) {k : Nat} {q : Nat × va_E} (hk : ws[k]? = some q) : q.1 < H1.size := (h k q hk).lt
end VXS
/-! ===== END ===== -/
/-! ===== BEGIN methods with a table of their own: called by a name, returning or throwing ===== -/
section VXH
/-! vx_backW, vx_callVX, vx_callSX, vx_callVW, vx_runVW, vx_runVX, vx_runSX, vx_ofWH follow the same proofs as their sisters above (Free/Laws.lean, Shelf42/LK1.lean); vx_outP calls Shelf42/NT130.lean (outThrough). -/
section
variable {l : Launch} {R : Room} {p : Program} {e : Env} {below : List Frame} {s : State} {sargs : Array Value} {y : MethodName} {len W9 : Nat}
theorem vx_backW {ws : List Cond} {rm : Room} {Pc : Array Value → State → Prop} {Qc : Array Value → State → Outcome → State → Prop} {XC : String → State → State → Prop} {mc ms : Nat} {free : Addr → Prop} {bytes : ByteArray} {maxL : Nat} {ret : Option FieldType} {hh : List (Nat × Nat × Nat × Nat)}
    (hM : vx_Met l y ws rm Pc Qc XC mc ms free) (hblind : FrameBlind Pc) (hrc : rm.cells = mc) (hrs : rm.slots = ms)
    (hframes : rm.frames + 1 ≤ R.frames) (hlocals : W9 + (maxL + 11) + rm.locals ≤ R.locals)
    (hws : ∀ w ∈ ws, ∀ a' U, s.WarmedH U.vm → w.before a' U = true) (hcode : Cond.codeWith y bytes maxL ret hh ∈ ws) (hinit : ∀ a' U, s.WarmedH U.vm → (Cond.initialized y.cls).before a' U = true) :
    vx_Back l R p e below s sargs y len W9 (PreOf R mc ms Pc) (PostOf Qc mc ms free) (vx_Post XC mc ms free) := by
  intro m meth c A g ig mk a X hg hsize hdg hW hn hp
  have h1 : (headSpec ws rm).pre.before a A.U = true := atoms_intro fun w hw => hws w hw _ _ X.warmed
  have h2 : (Cond.codeWith y bytes maxL ret hh).before a A.U = true := hws _ hcode _ _ X.warmed
  have h3 : (Cond.initialized y.cls).before a A.U = true := hinit _ _ X.warmed
  have h4 : A.cells + (headSpec ws rm).room.cells ≤ R.cells := by rw [show (headSpec ws rm).room.cells = mc from hrc]; exact hp.1
  have h5 : A.slots + (headSpec ws rm).room.slots ≤ R.slots := by rw [show (headSpec ws rm).room.slots = ms from hrs]; exact hp.2.1
  have hPc : Pc a (A.U.calling g mk a) := hblind _ _ _ _ hp.2.2
  obtain ⟨U, Ls, c0, s0⟩ := A
  dsimp only [Pt.U, Pt.locs, Pt.cells, Pt.slots] at h1 h2 h3 h4 h5 X hn hPc ⊢
  obtain ⟨m9, methY, cY, hn9, hmY, hcY, -, hlY, -⟩ := Cond.codeWith_spec h2
  cases Option.some.inj (hn9.symm.trans hn)
  obtain ⟨kY, hkY, -⟩ := className_of_methodNamed hn
  have hinitY : kY.init = .initialized := Cond.initialized_spec (findClass_of_methodNamed hn) hkY h3
  have h : At U g.method c below := by rw [hg]; exact X.here
  have hlocals9 : W9 + (maxL + 11) + (headSpec ws rm).room.locals ≤ R.locals := hlocals
  have happ : (headSpec ws rm).appliesLoose y e.platform (U.calling g mk a) = true :=
    Spec.appliesLoose_calling (g := g) h hdg hn hkY hinitY
      (X.room_calling (g := g) (R' := (headSpec ws rm).room) hsize hmY hcY hframes (by rw [hlY]; omega) h4 h5) h1
  obtain ⟨mid, hmid⟩ := h.above
  have hfr : (U.setTop g).frames = (.java g :: mid) ++ below := by rw [State.frames_setTop' g h.top, hmid]; rfl
  obtain ⟨o, s₂, hsteps, -, hend, hq⟩ := Steps.callFree hM p X.admits X.cas X.clock (acts := []) hfr happ hPc trivial
  have hq' : vx_Q Qc XC mc ms free a (U.calling g mk a) o s₂ := hq
  rw [State.frames_setTop' g h.top] at hend
  obtain ⟨g₀, hg0⟩ := Option.isSome_iff_exists.mp h.top
  obtain ⟨r, hr⟩ := State.topJava?_eq_some.mp hg0
  have hr' : (({ U with heap := s₂.heap, slotsUsed := s₂.slotsUsed } : State).setVm s₂.vm).frames = .java g₀ :: r := hr
  rcases hq' with ⟨hqc, L, hfe, hL⟩ | ⟨q, rfl, E, ce, L, hx, hce, hcv, hcl, hW₂, hsm, hL⟩
  · obtain ⟨⟨v, rfl⟩, hW₂, e2, q2, q3, q4, q5, q6⟩ := id hfe
    have e3 : s₂ = ({ (U.calling g mk a).setFrames s₂.frames with heap := s₂.heap, slotsUsed := s₂.slotsUsed } : State).setVm s₂.vm := by
      have : s₂ = ({ s₂ with vm := (U.calling g mk a).vm } : State).setVm s₂.vm := rfl
      rw [e2] at this
      exact this
    obtain ⟨c₂, i₂, len₂, hc₂, hd₂, hf₂⟩ := hend
    have hW' : U.WarmedH s₂.vm := hW₂
    have hcc : c₂ = c := by
      have h1 : s₂.code? g.method = U.code? g.method := by
        rw [State.code?_eq, State.code?_eq, hW'.alike.method?]
      exact Option.some.inj (hc₂.symm.trans (h1.trans h.code))
    subst hcc
    have hlen : len₂ = len := by rw [hdg] at hd₂; cases hd₂; rfl
    subst hlen
    have hs₂ : s₂ = (({ U with heap := s₂.heap, slotsUsed := s₂.slotsUsed } : State).setVm s₂.vm).setTop { g with pc := g.pc + len₂, stack := v.toList ++ g.stack } := by
      refine e3.trans ?_
      rw [hf₂, State.calling_eq h.top, State.setFrames_setFrames, State.setTop_of_frames _ hr', hr]
      rfl
    have hsame : U.sameButNew ({ U with heap := s₂.heap, slotsUsed := s₂.slotsUsed } : State) L mc ms := by
      refine ⟨?_, q2, q3, q4, q5, q6⟩
      obtain ⟨t, ht, -⟩ := State.frames_cons hr
      show ({ U with heap := s₂.heap, slotsUsed := s₂.slotsUsed } : State) = { U.setFrames U.frames with heap := s₂.heap, slotsUsed := s₂.slotsUsed }
      rw [State.setFrames_self ht]
    subst hg
    refine Or.inl ⟨v, ⟨(({ U with heap := s₂.heap, slotsUsed := s₂.slotsUsed } : State).setVm s₂.vm), Ls ++ L, c0 + mc, s0 + ms⟩,
      ⟨X.admits, X.cas, X.clock, X.frames, X.room, X.hears, X.method, X.code, (X.here.setHeapUsed s₂.heap s₂.slotsUsed).setVm hW'.alike, X.tail, State.WarmedH.trans X.warmed hW', X.limits, X.bytes, X.same.trans (hsame.setVm s.vm)⟩,
      ⟨g, mk, s₂, L, rfl, rfl, hqc, rfl, hL, rfl, rfl⟩, ?_⟩
    show Steps p.tables e below _ ((({ U with heap := s₂.heap, slotsUsed := s₂.slotsUsed } : State).setVm s₂.vm).setTop { g with pc := g.pc + len₂, stack := v.toList ++ g.stack })
    rw [← hs₂]
    exact hsteps
  · obtain ⟨e2, q2, q3, q4, q5, q6⟩ := id hsm
    have e3 : s₂ = ({ (U.calling g mk a).setFrames s₂.frames with heap := s₂.heap, slotsUsed := s₂.slotsUsed } : State).setVm s₂.vm := by
      have : s₂ = ({ s₂ with vm := (U.calling g mk a).vm } : State).setVm s₂.vm := rfl
      rw [e2] at this
      exact this
    have hf₂ : s₂.frames = .throwing q :: .java g :: U.frames.tail := hend
    have hW' : U.WarmedH s₂.vm := hW₂
    have hs₂ : s₂ = ((({ U with heap := s₂.heap, slotsUsed := s₂.slotsUsed } : State).setVm s₂.vm).setTop g).pushFrame (.throwing q) := by
      refine e3.trans ?_
      rw [hf₂, State.calling_eq h.top, State.setFrames_setFrames, State.pushFrame, State.frames_setTop _ hr', State.setTop_of_frames _ hr', State.setFrames_setFrames, hr]
      rfl
    have hsame : U.sameButNew ({ U with heap := s₂.heap, slotsUsed := s₂.slotsUsed } : State) L mc ms := by
      refine ⟨?_, q2, q3, q4, q5, q6⟩
      obtain ⟨t, ht, -⟩ := State.frames_cons hr
      show ({ U with heap := s₂.heap, slotsUsed := s₂.slotsUsed } : State) = { U.setFrames U.frames with heap := s₂.heap, slotsUsed := s₂.slotsUsed }
      rw [State.setFrames_self ht]
    subst hg
    refine Or.inr ⟨q, ⟨(({ U with heap := s₂.heap, slotsUsed := s₂.slotsUsed } : State).setVm s₂.vm), Ls ++ L, c0 + mc, s0 + ms⟩,
      ⟨X.admits, X.cas, X.clock, X.frames, X.room, X.hears, X.method, X.code, (X.here.setHeapUsed s₂.heap s₂.slotsUsed).setVm hW'.alike, X.tail, State.WarmedH.trans X.warmed hW', X.limits, X.bytes, X.same.trans (hsame.setVm s.vm)⟩,
      ⟨g, mk, s₂, L, E, ce, rfl, rfl, hx, hce, hcv, hcl, rfl, hL, rfl, rfl⟩, ?_⟩
    show Steps p.tables e below _ (((({ U with heap := s₂.heap, slotsUsed := s₂.slotsUsed } : State).setVm s₂.vm).setTop g).pushFrame (.throwing q))
    rw [← hs₂]
    exact hsteps
end
variable {p : Program} {l : Launch} {e : Env} {R : Room} {s : State} {m : MethodId} {args : Array Value} {below : List Frame} {meth : Method} {c : Code} {T : State} {H : Heap} {locs : List Loc} {cells slots : Nat}
theorem vx_callVX (X : Stand p l e R s m args below meth c T locs cells slots) (hexec : p.tables.exec = Jvm.exec) {own C : String} {index : Nat} {y : MethodName} {bytes : ByteArray} {maxL : Nat} {ret : Option FieldType} {hh : List (Nat × Nat × Nat × Nat)}
    (hown : s.vm.findClass own = some m.cls) (hlink : (Cond.methodLink own index y).before args s = true) (hinst : (Cond.instanceMethod y).before args s = true) (hsel : (Cond.selects C y y).before args s = true)
    (hcode : (Cond.codeWith y bytes maxL ret hh).before args s = true) (hy : y.cls ≠ "java/lang/invoke/MethodHandle" ∧ y.cls ≠ "java/lang/invoke/VarHandle")
    {W9 : Nat} {Pre : Pt → Array Value → Prop} {Post : Pt → Array Value → Option Value → Pt → Prop} {PostX : Pt → Array Value → Addr → Pt → Prop} (hK : vx_Back l R p e below s args y 3 W9 Pre Post PostX)
    {b : Addr} {cellB : Cell} (hcell : T.heap[b]? = some cellB) (hobj : cellB.vm.isStatics = false) (hcls : s.vm.findClass C = some cellB.cls)
    {g : JFrame} (hg : g.method = m) (hsize : g.locals.size = c.maxLocals) {argsL rest : List Value} (hlen : ∀ sig, parseMethodDescriptor y.desc = some sig → argsL.length = sig.parameters.length)
    (hstack : g.stack = argsL.reverse ++ .ref b :: rest) (hW : 2 * g.monitorRoom + (rest.map fun v => v.category).sum ≤ W9) (hdg : decode c.code g.pc = .ok (.invokevirtual index, 3))
    (hpre : ∀ vm₁, s.WarmedH vm₁ → Pre ⟨T.setVm vm₁, locs, cells, slots⟩ (Value.ref b :: argsL).toArray) :
    (∃ (v : Option Value) (vm₁ : Vm) (B : Pt), s.WarmedH vm₁ ∧ Stand p l e R s m args below meth c B.U B.locs B.cells B.slots ∧ Post ⟨T.setVm vm₁, locs, cells, slots⟩ (Value.ref b :: argsL).toArray v B ∧
      ∀ target, Steps p.tables e below (B.U.setTop { g with pc := g.pc + 3, stack := v.toList ++ rest }) target → Steps p.tables e below (T.setTop g) target) ∨
    (∃ (q : Addr) (vm₁ : Vm) (B : Pt), s.WarmedH vm₁ ∧ Stand p l e R s m args below meth c B.U B.locs B.cells B.slots ∧ PostX ⟨T.setVm vm₁, locs, cells, slots⟩ (Value.ref b :: argsL).toArray q B ∧
      Steps p.tables e below (T.setTop g) ((B.U.setTop { g with stack := rest }).pushFrame (.throwing q))) := by
  obtain ⟨mk, methM, hnamed, hmethM, hstM, habM⟩ := Cond.instanceMethod_spec hinst
  obtain ⟨m8, methM', cM, hn8, hmethM', -, -, -, -, -, -, hsigM⟩ := Cond.codeWith_spec hcode
  cases Option.some.inj (hn8.symm.trans hnamed)
  cases hmethM.symm.trans hmethM'
  obtain ⟨c2, r2, m2, q1, q2, q3, q4, kP, hkP, hkPi⟩ := Cond.selects_spec hsel
  cases hcls.symm.trans q1
  cases (State.methodFound?_of_named hnamed hy).symm.trans q2
  cases hnamed.symm.trans q3
  have hselP : selectMethod e.platform s.vm cellB.cls mk = .method mk := by rw [Launch.admits_selectMethod X.admits]; exact q4
  obtain ⟨vm₁, X₁, hstep₁⟩ := X.invokevirtual hexec hown hlink hnamed hmethM hstM hkP hkPi hy (a := b) (cell := cellB) hcell
    (fun z h => by rw [h] at hobj; cases hobj) hselP hmethM habM hkP hkPi (g := g) hg (argsL := argsL) (rest := rest) (hlen _ hsigM) hstack hdg
  rcases hK m meth c ⟨T.setVm vm₁, locs, cells, slots⟩ { g with stack := rest } (.invokevirtual index) mk (Value.ref b :: argsL).toArray X₁ hg hsize hdg hW (X₁.named hnamed) (hpre vm₁ X₁.warmed) with ⟨v, B, X', hpost, hsteps⟩ | ⟨q, B, X', hpost, hsteps⟩
  · exact Or.inl ⟨v, vm₁, B, X₁.warmed, X', hpost, fun target h => hstep₁ _ fun acts => by rw [doInvoke_state]; exact hsteps.trans h⟩
  · exact Or.inr ⟨q, vm₁, B, X₁.warmed, X', hpost, hstep₁ _ fun acts => by rw [doInvoke_state]; exact hsteps⟩
theorem vx_callSX (X : Stand p l e R s m args below meth c T locs cells slots) (hexec : p.tables.exec = Jvm.exec) {own : String} {index : Nat} {y : MethodName} {bytes : ByteArray} {maxL : Nat} {ret : Option FieldType} {hh : List (Nat × Nat × Nat × Nat)}
    (hown : s.vm.findClass own = some m.cls) (hlink : (Cond.methodLink own index y).before args s = true) (hstat : (Cond.static y).before args s = true) (hinit : (Cond.initialized y.cls).before args s = true)
    (hcode : (Cond.codeWith y bytes maxL ret hh).before args s = true) (hy : y.cls ≠ "java/lang/invoke/MethodHandle" ∧ y.cls ≠ "java/lang/invoke/VarHandle")
    {W9 : Nat} {Pre : Pt → Array Value → Prop} {Post : Pt → Array Value → Option Value → Pt → Prop} {PostX : Pt → Array Value → Addr → Pt → Prop} (hK : vx_Back l R p e below s args y 3 W9 Pre Post PostX)
    {g : JFrame} (hg : g.method = m) (hsize : g.locals.size = c.maxLocals) {argsL rest : List Value} (hlen : ∀ sig, parseMethodDescriptor y.desc = some sig → argsL.length = sig.parameters.length)
    (hstack : g.stack = argsL.reverse ++ rest) (hW : 2 * g.monitorRoom + (rest.map fun v => v.category).sum ≤ W9) (hdg : decode c.code g.pc = .ok (.invokestatic index, 3))
    (hpre : ∀ vm₁, s.WarmedH vm₁ → Pre ⟨T.setVm vm₁, locs, cells, slots⟩ argsL.toArray) :
    (∃ (v : Option Value) (vm₁ : Vm) (B : Pt), s.WarmedH vm₁ ∧ Stand p l e R s m args below meth c B.U B.locs B.cells B.slots ∧ Post ⟨T.setVm vm₁, locs, cells, slots⟩ argsL.toArray v B ∧
      ∀ target, Steps p.tables e below (B.U.setTop { g with pc := g.pc + 3, stack := v.toList ++ rest }) target → Steps p.tables e below (T.setTop g) target) ∨
    (∃ (q : Addr) (vm₁ : Vm) (B : Pt), s.WarmedH vm₁ ∧ Stand p l e R s m args below meth c B.U B.locs B.cells B.slots ∧ PostX ⟨T.setVm vm₁, locs, cells, slots⟩ argsL.toArray q B ∧
      Steps p.tables e below (T.setTop g) ((B.U.setTop { g with stack := rest }).pushFrame (.throwing q))) := by
  obtain ⟨mk, methM, cM, hnamed, hmethM, -, -, -, -, -, -, hsigM⟩ := Cond.codeWith_spec hcode
  have hstatic : methM.isStatic = true := Cond.static_spec hnamed hmethM hstat
  obtain ⟨kP, hkP, -⟩ := className_of_methodNamed hnamed
  have hinitP : kP.init = .initialized := Cond.initialized_spec (findClass_of_methodNamed hnamed) hkP hinit
  obtain ⟨vm₁, X₁, hstep₁⟩ := X.invokestatic hexec hown hlink hnamed hmethM hstatic hkP hinitP hy (g := g) hg (argsL := argsL) (rest := rest) (hlen _ hsigM) hstack hdg
  rcases hK m meth c ⟨T.setVm vm₁, locs, cells, slots⟩ { g with stack := rest } (.invokestatic index) mk argsL.toArray X₁ hg hsize hdg hW (X₁.named hnamed) (hpre vm₁ X₁.warmed) with ⟨v, B, X', hpost, hsteps⟩ | ⟨q, B, X', hpost, hsteps⟩
  · exact Or.inl ⟨v, vm₁, B, X₁.warmed, X', hpost, fun target h => hstep₁ _ fun acts => by rw [doInvoke_state]; exact hsteps.trans h⟩
  · exact Or.inr ⟨q, vm₁, B, X₁.warmed, X', hpost, hstep₁ _ fun acts => by rw [doInvoke_state]; exact hsteps⟩
theorem vx_callVW (X : Stand p l e R s m args below meth c T locs cells slots) (hexec : p.tables.exec = Jvm.exec) {own C : String} {index : Nat} {y : MethodName} {bytes : ByteArray} {maxL : Nat} {ret : Option FieldType} {hh : List (Nat × Nat × Nat × Nat)}
    (hown : s.vm.findClass own = some m.cls) (hlink : (Cond.methodLink own index y).before args s = true) (hinst : (Cond.instanceMethod y).before args s = true) (hsel : (Cond.selects C y y).before args s = true)
    (hcode : (Cond.codeWith y bytes maxL ret hh).before args s = true) (hy : y.cls ≠ "java/lang/invoke/MethodHandle" ∧ y.cls ≠ "java/lang/invoke/VarHandle")
    {W9 : Nat} {Pre : Pt → Array Value → Prop} {Post : Pt → Array Value → Option Value → Pt → Prop} (hK : Back l R p e below s args y 3 W9 Pre Post)
    {b : Addr} {cellB : Cell} (hcell : T.heap[b]? = some cellB) (hobj : cellB.vm.isStatics = false) (hcls : s.vm.findClass C = some cellB.cls)
    {g : JFrame} (hg : g.method = m) (hsize : g.locals.size = c.maxLocals) {argsL rest : List Value} (hlen : ∀ sig, parseMethodDescriptor y.desc = some sig → argsL.length = sig.parameters.length)
    (hstack : g.stack = argsL.reverse ++ .ref b :: rest) (hW : 2 * g.monitorRoom + (rest.map fun v => v.category).sum ≤ W9) (hdg : decode c.code g.pc = .ok (.invokevirtual index, 3))
    (hpre : ∀ vm₁, s.WarmedH vm₁ → Pre ⟨T.setVm vm₁, locs, cells, slots⟩ (Value.ref b :: argsL).toArray) :
    ∃ (v : Option Value) (vm₁ : Vm) (B : Pt), s.WarmedH vm₁ ∧ Stand p l e R s m args below meth c B.U B.locs B.cells B.slots ∧ Post ⟨T.setVm vm₁, locs, cells, slots⟩ (Value.ref b :: argsL).toArray v B ∧
      ∀ target, Steps p.tables e below (B.U.setTop { g with pc := g.pc + 3, stack := v.toList ++ rest }) target → Steps p.tables e below (T.setTop g) target := by
  obtain ⟨mk, methM, hnamed, hmethM, hstM, habM⟩ := Cond.instanceMethod_spec hinst
  obtain ⟨m8, methM', cM, hn8, hmethM', -, -, -, -, -, -, hsigM⟩ := Cond.codeWith_spec hcode
  cases Option.some.inj (hn8.symm.trans hnamed)
  cases hmethM.symm.trans hmethM'
  obtain ⟨c2, r2, m2, q1, q2, q3, q4, kP, hkP, hkPi⟩ := Cond.selects_spec hsel
  cases hcls.symm.trans q1
  cases (State.methodFound?_of_named hnamed hy).symm.trans q2
  cases hnamed.symm.trans q3
  have hselP : selectMethod e.platform s.vm cellB.cls mk = .method mk := by rw [Launch.admits_selectMethod X.admits]; exact q4
  obtain ⟨vm₁, X₁, hstep₁⟩ := X.invokevirtual hexec hown hlink hnamed hmethM hstM hkP hkPi hy (a := b) (cell := cellB) hcell
    (fun z h => by rw [h] at hobj; cases hobj) hselP hmethM habM hkP hkPi (g := g) hg (argsL := argsL) (rest := rest) (hlen _ hsigM) hstack hdg
  obtain ⟨v, B, X', hpost, hsteps⟩ := hK m meth c ⟨T.setVm vm₁, locs, cells, slots⟩ { g with stack := rest } (.invokevirtual index) mk (Value.ref b :: argsL).toArray X₁ hg hsize hdg hW (X₁.named hnamed) (hpre vm₁ X₁.warmed)
  exact ⟨v, vm₁, B, X₁.warmed, X', hpost, fun target h => hstep₁ _ fun acts => by rw [doInvoke_state]; exact hsteps.trans h⟩
abbrev vx_CVW (R : Room) (s : State) (args : Array Value) (own C : String) (index : Nat) (y : MethodName) (bytes : ByteArray) (maxL : Nat) (ret : Option FieldType) (hh : List (Nat × Nat × Nat × Nat)) (ws : List Cond) (rm : Room) (mc ms n : Nat) : Prop :=
  (rm.cells = mc ∧ rm.slots = ms ∧ rm.frames + 1 ≤ R.frames ∧ 8 + (maxL + 11) + rm.locals ≤ R.locals ∧ (∀ w ∈ ws, ∀ (a' : Array Value) (U : State), s.WarmedH U.vm → w.before a' U = true) ∧ Cond.codeWith y bytes maxL ret hh ∈ ws) ∧
  (Cond.codeWith y bytes maxL ret hh).before args s = true ∧ (Cond.initialized y.cls).before args s = true ∧ (y.cls ≠ "java/lang/invoke/MethodHandle" ∧ y.cls ≠ "java/lang/invoke/VarHandle") ∧
  (∀ sig, parseMethodDescriptor y.desc = some sig → n = sig.parameters.length) ∧ (Cond.methodLink own index y).before args s = true ∧ (Cond.instanceMethod y).before args s = true ∧ (Cond.selects C y y).before args s = true
theorem vx_cwVW {own C : String} {index maxL mc ms : Nat} {y : MethodName} {bytes : ByteArray} {ret : Option FieldType} {hh : List (Nat × Nat × Nat × Nat)} {Ts ws ws' : List Cond} {rm : Room} (n : Nat) (ht : ∀ w ∈ Ts, w.before args s = true) (hT : GoodIn Ts (wsV own index C y ws)) (hw : ws = Cond.codeWith y bytes maxL ret hh :: ws') (hrc : rm.cells = mc) (hrs : rm.slots = ms)
    (hd : y.cls = C ∧ y.cls ≠ "java/lang/invoke/MethodHandle" ∧ y.cls ≠ "java/lang/invoke/VarHandle" ∧ (parseMethodDescriptor y.desc).map (fun d => d.parameters.length) = some n) (hR : rm.frames + 1 ≤ R.frames ∧ 8 + (maxL + 11) + rm.locals ≤ R.locals) :
    vx_CVW R s args own C index y bytes maxL ret hh ws rm mc ms n := by
  obtain ⟨hC, hd⟩ := hd
  subst hC
  have ok : ∀ w ∈ wsV own index y.cls y ws, w.before args s = true := fun w h => ht w (hT w h).1
  have hG : GoodIn Ts ws := fun w h => hT w (by unfold wsV; exact List.mem_append_right _ h)
  have hc : Cond.codeWith y bytes maxL ret hh ∈ ws := by rw [hw]; exact List.mem_cons_self
  refine ⟨⟨hrc, hrs, hR.1, hR.2, pay_in ht hG, hc⟩, ht _ (hG _ hc).1, ok _ (by simp [wsV]), ⟨hd.1, hd.2.1⟩, fun sig h => ?_, ok _ (by simp [wsV]), ok _ (by simp [wsV]), ok _ (by simp [wsV])⟩
  have h2 := hd.2.2
  rw [h] at h2
  exact (Option.some.inj h2).symm
theorem vx_runVW {y : MethodName} {bytes cc : ByteArray} {maxL nL mc ms n index : Nat} {ret : Option FieldType} {hh : List (Nat × Nat × Nat × Nat)} {ws : List Cond} {rm : Room} {Pc : Array Value → State → Prop} {Qc : Array Value → State → Outcome → State → Prop} {free : Addr → Prop} {Ts : List Cond} {own C : String} {b : Addr} {As rest : List Value} {g : JFrame}
    (S : CallFix p m c cc nL s args Ts own) (hM : Met l y ws rm Pc Qc mc ms free) (cw : vx_CVW R s args own C index y bytes maxL ret hh ws rm mc ms n) (hp : PreV s H C b Pc As)
    (hg : g.method = m) (hn : As.length = n) (hsize : g.locals.size = nL) (hstack : g.stack = As.reverse ++ .ref b :: rest) (hW : 2 * g.monitorRoom + (rest.map fun v => v.category).sum ≤ 8) (hdg : decode cc g.pc = .ok (.invokevirtual index, 3)) (hf : cells + mc ≤ R.cells ∧ slots + ms ≤ R.slots) :
    va_Run p l e R s m args below meth c H locs cells slots mc ms g rest (Qc (Value.ref b :: As).toArray) free := by
  obtain ⟨⟨hrc, hrs, hfr, hlo, hws, hcw⟩, hcode, hini, hy, hlen, hl, hin, hse⟩ := cw
  have hK : Back l R p e below s args y 3 8 (PreOf R mc ms Pc) (PostOf Qc mc ms free) := va_backW (hh := hh) (bytes := bytes) (maxL := maxL) (ret := ret) hM hp.1 hrc hrs hfr hlo hws hcw (fun a' U hW => word_at hW (Or.inl (by first | rfl | simp [Cond.onTables, Cond.keeps, Cond.steady])) hini)
  obtain ⟨hx, hb, hml, ho, -⟩ := S
  obtain ⟨-, ⟨cellB, hcB, hoB, hclB⟩, hPc⟩ := hp
  intro T hT X
  obtain ⟨v, vm₁, ⟨U', l2, c2, s2⟩, hW₁, X', ⟨g', mk, t, L, e1, e2, hq, h1, hL, h2, h3⟩, st⟩ := vx_callVW X hx (C := C) (hh := hh) (bytes := bytes) (maxL := maxL) (ret := ret) ho hl hin hse hcode hy hK (by rw [hT]; exact hcB) hoB hclB hg (hsize.trans hml.symm) (argsL := As) (rest := rest) (fun sig h => hn.trans (hlen sig h)) hstack hW (by rw [hb]; exact hdg)
    (fun vm₁ hW₁ => ⟨hf.1, hf.2, hPc (T.setVm vm₁) hT hW₁⟩)
  dsimp only [Pt.U, Pt.locs, Pt.cells, Pt.slots] at X' e1 e2 h1 h2 h3 st
  subst h1; subst h2; subst h3
  exact ⟨v, (T.setVm vm₁).calling g' mk (Value.ref b :: As).toArray, t, U', L, hT, X', hL, e1, e2, hq, st⟩
section
variable {y : MethodName} {bytes cc : ByteArray} {maxL nL mc ms n index : Nat} {ret : Option FieldType} {ws : List Cond} {rm : Room} {Pc : Array Value → State → Prop} {Qc : Array Value → State → Outcome → State → Prop} {XC : String → State → State → Prop} {free : Addr → Prop} {Ts : List Cond} {own C : String} {b : Addr} {As rest : List Value} {g : JFrame}
theorem vx_runVX {hh : List (Nat × Nat × Nat × Nat)} (S : CallFix p m c cc nL s args Ts own) (hM : vx_Met l y ws rm Pc Qc XC mc ms free) (cw : vx_CVW R s args own C index y bytes maxL ret hh ws rm mc ms n) (hp : PreV s H C b Pc As)
    (hg : g.method = m) (hn : As.length = n) (hsize : g.locals.size = nL) (hstack : g.stack = As.reverse ++ .ref b :: rest) (hW : 2 * g.monitorRoom + (rest.map fun v => v.category).sum ≤ 8) (hdg : decode cc g.pc = .ok (.invokevirtual index, 3)) (hf : cells + mc ≤ R.cells ∧ slots + ms ≤ R.slots) :
    vx_Run p l e R s m args below meth c H locs cells slots mc ms g rest (Qc (Value.ref b :: As).toArray) XC free := by
  obtain ⟨⟨hrc, hrs, hfr, hlo, hws, hcw⟩, hcode, hini, hy, hlen, hl, hin, hse⟩ := cw
  have hK : vx_Back l R p e below s args y 3 8 (PreOf R mc ms Pc) (PostOf Qc mc ms free) (vx_Post XC mc ms free) := vx_backW (hh := hh) (bytes := bytes) (maxL := maxL) (ret := ret) hM hp.1 hrc hrs hfr hlo hws hcw (fun a' U hW => word_at hW (Or.inl (by first | rfl | simp [Cond.onTables, Cond.keeps, Cond.steady])) hini)
  obtain ⟨hx, hb, hml, ho, -⟩ := S
  obtain ⟨-, ⟨cellB, hcB, hoB, hclB⟩, hPc⟩ := hp
  intro T hT X
  rcases vx_callVX X hx (C := C) (hh := hh) (bytes := bytes) (maxL := maxL) (ret := ret) ho hl hin hse hcode hy hK (by rw [hT]; exact hcB) hoB hclB hg (hsize.trans hml.symm) (argsL := As) (rest := rest) (fun sig h => hn.trans (hlen sig h)) hstack hW (by rw [hb]; exact hdg)
    (fun vm₁ hW₁ => ⟨hf.1, hf.2, hPc (T.setVm vm₁) hT hW₁⟩) with ⟨v, vm₁, ⟨U', l2, c2, s2⟩, hW₁, X', ⟨g', mk, t, L, e1, e2, hq, h1, hL, h2, h3⟩, st⟩ | ⟨q, vm₁, ⟨U', l2, c2, s2⟩, hW₁, X', ⟨g', mk, t, L, E, ce, e1, e2, hq, hce, hcv, hcl, h1, hL, h2, h3⟩, st⟩
  · dsimp only [Pt.U, Pt.locs, Pt.cells, Pt.slots] at X' e1 e2 h1 h2 h3 st
    subst h1; subst h2; subst h3
    exact Or.inl ⟨v, (T.setVm vm₁).calling g' mk (Value.ref b :: As).toArray, t, U', L, hT, X', hL, e1, e2, hq, st⟩
  · dsimp only [Pt.U, Pt.locs, Pt.cells, Pt.slots] at X' e1 e2 h1 h2 h3 st hcl
    subst h1; subst h2; subst h3
    exact Or.inr ⟨q, (T.setVm vm₁).calling g' mk (Value.ref b :: As).toArray, t, U', L, E, ce, hT, X', hL, e1, e2, hq, hce, hcv, vx_cls hW₁ hcl, st⟩
theorem vx_runSX {hh : List (Nat × Nat × Nat × Nat)} (S : CallFix p m c cc nL s args Ts own) (hM : vx_Met l y ws rm Pc Qc XC mc ms free) (cw : vx_CSW R s args own index y bytes maxL ret hh ws rm mc ms n) (hp : PreS s H Pc As)
    (hg : g.method = m) (hn : As.length = n) (hsize : g.locals.size = nL) (hstack : g.stack = As.reverse ++ rest) (hW : 2 * g.monitorRoom + (rest.map fun v => v.category).sum ≤ 8) (hdg : decode cc g.pc = .ok (.invokestatic index, 3)) (hf : cells + mc ≤ R.cells ∧ slots + ms ≤ R.slots) :
    vx_Run p l e R s m args below meth c H locs cells slots mc ms g rest (Qc As.toArray) XC free := by
  obtain ⟨⟨hrc, hrs, hfr, hlo, hws, hcw⟩, hcode, hini, hy, hlen, hl, hstt⟩ := cw
  have hK : vx_Back l R p e below s args y 3 8 (PreOf R mc ms Pc) (PostOf Qc mc ms free) (vx_Post XC mc ms free) := vx_backW (hh := hh) (bytes := bytes) (maxL := maxL) (ret := ret) hM hp.1 hrc hrs hfr hlo hws hcw (fun a' U hW => word_at hW (Or.inl (by first | rfl | simp [Cond.onTables, Cond.keeps, Cond.steady])) hini)
  obtain ⟨hx, hb, hml, ho, -⟩ := S
  intro T hT X
  rcases vx_callSX X hx (hh := hh) (bytes := bytes) (maxL := maxL) (ret := ret) ho hl hstt hini hcode hy hK hg (hsize.trans hml.symm) (argsL := As) (rest := rest) (fun sig h => hn.trans (hlen sig h)) hstack hW (by rw [hb]; exact hdg)
    (fun vm₁ hW₁ => ⟨hf.1, hf.2, hp.2 (T.setVm vm₁) hT hW₁⟩) with ⟨v, vm₁, ⟨U', l2, c2, s2⟩, hW₁, X', ⟨g', mk, t, L, e1, e2, hq, h1, hL, h2, h3⟩, st⟩ | ⟨q, vm₁, ⟨U', l2, c2, s2⟩, hW₁, X', ⟨g', mk, t, L, E, ce, e1, e2, hq, hce, hcv, hcl, h1, hL, h2, h3⟩, st⟩
  · dsimp only [Pt.U, Pt.locs, Pt.cells, Pt.slots] at X' e1 e2 h1 h2 h3 st
    subst h1; subst h2; subst h3
    exact Or.inl ⟨v, (T.setVm vm₁).calling g' mk As.toArray, t, U', L, hT, X', hL, e1, e2, hq, st⟩
  · dsimp only [Pt.U, Pt.locs, Pt.cells, Pt.slots] at X' e1 e2 h1 h2 h3 st hcl
    subst h1; subst h2; subst h3
    exact Or.inr ⟨q, (T.setVm vm₁).calling g' mk As.toArray, t, U', L, E, ce, hT, X', hL, e1, e2, hq, hce, hcv, vx_cls hW₁ hcl, st⟩
end
end VXH
theorem vx_ofWH {l : Launch} {y : MethodName} {ws ws' : List Cond} {rm : Room} {Pc : Array Value → State → Prop} {Qc : Array Value → State → Outcome → State → Prop} {XC : String → State → State → Prop} {mc ms : Nat} {free : Addr → Prop} {cc : ByteArray} {maxL : Nat} {ret : Option FieldType} {hh : List (Nat × Nat × Nat × Nat)}
    (hy : plainName y.cls = true) (hw : ws = Cond.codeWith y cc maxL ret hh :: ws')
    (body : ∀ p e s m args below meth c s₁, BodyLoose p l y (headSpec ws rm) cc maxL ret e s m args below meth c s₁ → c.maxLocals = maxL → Pc args s →
      W p l e (headSpec ws rm).room s m args below meth c s.heap [] 0 0 (vx_MQ below Qc XC args s mc ms free) (entryFrame m args maxL)) : vx_Met l y ws rm Pc Qc XC mc ms free := by
  refine MetFree.of_bodyS (code := cc) (maxLocals := maxL) (ret := ret) hy ?_ ?_
  · intro args s m h hn
    obtain ⟨m9, meth, c, hn9, h1, h2, h3, h4, -, h5, h6, -⟩ := Cond.codeWith_spec (atoms_spec (ws := ws) h _ (by rw [hw]; exact List.mem_cons_self))
    cases hn.symm.trans hn9
    exact ⟨meth, c, h1, h2, h3, h4, h5, h6⟩
  · intro p e s m args below meth c s₁ B hml hP _
    have hh0 : s₁.heap = s.heap := by rw [B.state]; rfl
    obtain ⟨t, a1, o, b1, b2, b3⟩ := body p e s m args below meth c s₁ B hml hP s₁ hh0 (Stand.of_body B)
    exact ⟨t, o, a1, b1, b2, b3⟩
/-! ===== END ===== -/

/-! ===== BEGIN what the machine throws by itself, no traces kept ===== -/
section VXM
set_option maxHeartbeats 1000000 in
/-- the machine throws cls with the message text, no traces kept: from its note over the frame g to 'throwing' over the same frame (follows the proofs of Stand.vmThrowsMessage, Shelf/KitTracedVmS.lean, and Stand.throwsMessageColdBareV, StandMessageColdV.lean, without the step out of the frame) -/
theorem vx_vmAt {p : Program} {l : Launch} {e : Env} {R : Room} {s : State} {m₀ : MethodId} {args : Array Value} {below : List Frame} {meth : Method} {c : Code} {W : State} {locs : List Loc} {cells slots : Nat}
    (X : Stand p l e R s m₀ args below meth c W locs cells slots) (hexec : p.tables.exec = Jvm.exec) (htr : e.platform.stackTraces = false) {cls : String} {names : List String} {text : String}
    (hcls : Bundle.fit cls = true) (hnames : ∀ n ∈ names, Bundle.fit n = true) (hsoe : (cls == "java/lang/StackOverflowError") = false) (hoom : (cls == "java/lang/OutOfMemoryError") = false)
    (h : ∀ a ∈ Bundle.messageArmAtoms cls names, a.before args s = true)
    (hlocs : ∀ x ∈ locs, ∀ cell, s.heap[x.base]? = some cell → cell.vm.isStatics = false)
    (htext : (text == notModelled) = false) (hlimit : ¬ (stringBytes (stringToUtf16 text)).size > e.platform.arrayLengthLimit) (hheap : ¬ (stringBytes (stringToUtf16 text)).size * componentBytes .byte > e.platform.maxHeapBytes)
    {g : JFrame} (hg : g.method = m₀) (hsize : g.locals.size = c.maxLocals)
    (hRframes : names.length + 4 < R.frames) (hRlocals : 2 * g.monitorRoom + (g.stack.map fun v => v.category).sum + 10240 ≤ R.locals) (hshort : 13 * names.length + 55 ≤ 10240)
    (hRcells : cells + 3 ≤ R.cells) (hRslots : slots + ((stringBytes (stringToUtf16 text)).size + 4 + 6) ≤ R.slots) (hlocks : meth.locks = false) :
    ∃ (S : State) (q : Addr) (ce : Cell), (∀ target, Steps p.tables e below ((S.setTop g).pushFrame (.throwing q)) target → Steps p.tables e below ((W.setTop g).pushFrame (.throwNew cls (some text) none)) target) ∧
      Stand p l e R s m₀ args below meth c S locs (cells + 3) (slots + ((stringBytes (stringToUtf16 text)).size + 4 + 6)) ∧ S.heap[q]? = some ce ∧ s.vm.findClass cls = some ce.cls ∧ ce.vm = .none := by
  have howns : e.platform.frameOwnsMonitors = true := by rw [X.admits.platform]
  have hfin : e.platform.finalization = false := by rw [X.admits.platform]
  have hpl : e.platform.magicAccessors = ({} : Platform).magicAccessors := by rw [X.admits.platform]
  have a : ∀ x, x ∈ Bundle.messageArmAtoms cls names → x.holds args s none s [] = true := fun x hx => h x hx
  obtain ⟨T, Z0, L, -, Y⟩ := ThrowableC.of_atoms (args := args) howns hfin hpl (fun x hx => h x (by simp [Bundle.messageArmAtoms, hx]))
  obtain ⟨Z, M, LZ, LM, hnZ⟩ := Init0T.ofS_atoms (args := args) hpl L Y (fun x hx => h x (by simp [Bundle.messageArmAtoms, hx]))
  obtain ⟨P1, Ps, hlen, L1, hL, hP1m, hlink1, hlink⟩ := Bundle.chainS (args := args) hpl hnZ names cls hcls hnames (fun x hx => h x (by simp [Bundle.messageArmAtoms, hx]))
  obtain ⟨Zs, LZs, hn4, hfitv, hfitc⟩ := StringT.of_atoms (args := args) (fun x hx => h x (by simp [Bundle.messageArmAtoms, hx]))
  have hfound : s.vm.findClass cls = some P1.m.cls := findClass_of_methodNamed hP1m
  obtain ⟨c1, kX, hc1, hk, hord, -, -, hn6⟩ := Cond.instantiable_spec (a (.instantiable cls 6) (by simp [Bundle.messageArmAtoms]))
  cases Option.some.inj (hc1.symm.trans hfound)
  have hinit := Cond.initialized_spec hfound hk (a (.initialized cls) (by simp [Bundle.messageArmAtoms]))
  have hctor : kX.findMethod "<init>" "(Ljava/lang/String;)V" = some P1.m.idx := findMethod_of_methodNamed hP1m hk
  have hsel0 : selectMethod e.platform s.vm P1.m.cls T.fill0 = .method T.fill0 := by
    obtain ⟨c2, r2, m2, q1, q2, q3, q4, -⟩ := Cond.selects_spec (a (.selects cls Bundle.tFill0 Bundle.tFill0) (by simp [Bundle.messageArmAtoms]))
    cases Option.some.inj (q1.symm.trans hfound)
    cases Option.some.inj (q2.symm.trans (State.methodFound?_of_named Y.fill0 (by decide)))
    cases Option.some.inj (q3.symm.trans Y.fill0)
    rw [Launch.admits_selectMethod X.admits]; exact q4
  have hselF : selectMethod e.platform s.vm P1.m.cls T.fill = .method T.fill := by
    obtain ⟨c2, r2, m2, q1, q2, q3, q4, -⟩ := Cond.selects_spec (a (.selects cls Bundle.tFill Bundle.tFill) (by simp [Bundle.messageArmAtoms]))
    cases Option.some.inj (q1.symm.trans hfound)
    cases Option.some.inj (q2.symm.trans (State.methodFound?_of_named Y.fill (by decide)))
    cases Option.some.inj (q3.symm.trans Y.fill)
    rw [Launch.admits_selectMethod X.admits]; exact q4
  obtain ⟨cellS0, hcS0, hiss⟩ := Y.statics
  obtain ⟨u0, hu0⟩ := Cond.staticRefV Y.unassigned L.unassignedStatic L.statics hcS0 hiss (a (.isRef (.static Bundle.tN "UNASSIGNED_STACK" Bundle.steD)) (by simp [Bundle.messageArmAtoms]))
  obtain ⟨sen, hsen⟩ := Cond.staticRefV Y.sentinel L.sentinelStatic L.statics hcS0 hiss (a (.isRef (.static Bundle.tN "SUPPRESSED_SENTINEL" Bundle.listD)) (by simp [Bundle.messageArmAtoms]))
  obtain ⟨ci198, i198, fB, hk198, hg198, ha198, hsB, -, hnB, htB, hffB⟩ := Cond.ownField (t := .object "java/lang/Object") Y.found L.cls (by decide +kernel) (a (.fieldLink Bundle.tN 198 Bundle.tN "backtrace" "Ljava/lang/Object;") (by simp [Bundle.messageArmAtoms])) (a (.lays Bundle.tN Bundle.tN "backtrace" "Ljava/lang/Object;") (by simp [Bundle.messageArmAtoms])) e.platform hpl
  obtain ⟨cellS, hcS', heS, -, hkeep⟩ := X.same.2.2.2.2.2 T.aS cellS0 hcS0
  have hcellS : W.heap[T.aS]? = some cellS := hcS'
  have hout' : ∀ i, (⟨T.aS, i⟩ : Loc) ∉ locs := fun i hmem => by
    have := hlocs _ hmem cellS0 hcS0
    rw [hiss] at this; cases this
  have hknownS : cellS.vm ≠ .unknown := by
    rw [heS]; intro hu
    rw [show cellS0.vm = .unknown from hu] at hiss
    cases hiss
  have hvU : cellS.slots[T.fUnassigned.slot]? = some u0.v := by rw [hkeep _ (hout' _)]; exact hu0
  have hvSen : cellS.slots[T.fSentinel.slot]? = some sen.v := by rw [hkeep _ (hout' _)]; exact hsen
  obtain ⟨iM, hffM⟩ := Y.msg
  obtain ⟨tyC, dC, hdC, hdnC⟩ := Cond.laysAt hfound hk Y.cause (a (.lays cls Bundle.tN "cause" "Ljava/lang/Throwable;") (by simp [Bundle.messageArmAtoms]))
  obtain ⟨tyS, dS, hdS, hdnS⟩ := Cond.laysAt hfound hk Y.stack (a (.lays cls Bundle.tN "stackTrace" Bundle.steD) (by simp [Bundle.messageArmAtoms]))
  obtain ⟨tyP, dP, hdP, hdnP⟩ := Cond.laysAt hfound hk Y.supp (a (.lays cls Bundle.tN "suppressedExceptions" Bundle.listD) (by simp [Bundle.messageArmAtoms]))
  obtain ⟨tyM, dM, hdM, hdnM⟩ := Cond.laysAt hfound hk hffM (a (.lays cls Bundle.tN "detailMessage" "Ljava/lang/String;") (by simp [Bundle.messageArmAtoms]))
  obtain ⟨tyB, dB, hdB, hdnB⟩ := Cond.laysAt hfound hk hffB (a (.lays cls Bundle.tN "backtrace" "Ljava/lang/Object;") (by simp [Bundle.messageArmAtoms]))
  have bC := Cond.laysApart hdB hdC hdnB hdnC (by rw [hnB, Y.causeName]; decide)
  have bS := Cond.laysApart hdB hdS hdnB hdnS (by rw [hnB, Y.stackName]; decide)
  have bP := Cond.laysApart hdB hdP hdnB hdnP (by rw [hnB, Y.suppName]; decide)
  have hbk : ((preparedCellV T.toThrowableT (freshCell P1.m.cls kX) (W.heap.size + 2) u0 sen).withEntry W.cur).slots[fB.slot]? = some .null := by
    have := fresh_default (c := P1.m.cls) tyB
    rw [htB] at this
    simpa [preparedCellV, Cell.setSlot, Cell.withEntry, Array.getElem?_setIfInBounds, bC, bS, bP, bC.symm, bS.symm, bP.symm, defaultValue] using this
  have tkC := Takes.of_laid (v := .ref (W.heap.size + 2)) hk hord tyC (by rw [Y.causeType]; rfl)
  have tkS := Takes.of_laid (v := u0.v) hk hord tyS (by rw [Y.stackType]; exact fits_refV_array _ u0)
  have tkP := Takes.of_laid (v := sen.v) hk hord tyP (by rw [Y.suppType]; exact fits_refV_object _ sen)
  have tkM := Takes.of_laid (v := .ref (W.heap.size + 1)) hk hord tyM (by rw [Y.msgType]; rfl)
  have hskip : SkipFacts T e.platform s (fun u => u) u0 ((preparedCellV T.toThrowableT (freshCell P1.m.cls kX) (W.heap.size + 2) u0 sen).withEntry W.cur) := ⟨{ ci198 := ci198, i198 := i198, fBack := fB }, ⟨hk198, hg198, ha198, hsB⟩, hbk, fun _ _ => rfl⟩
  have h0 : At W g.method c below := by rw [hg]; exact X.here
  obtain ⟨hbeyond, hfreeW⟩ := X.vmMayThrow hsize (.throwNew cls (some text) none) (fun f hf => by cases hf) rfl hRlocals
  have hfr' : W.frames.length + Ps.length + 4 < (e.platform.stackLimits W.me).1 := by have := X.framesAbove hRframes; omega
  have hwd' : (stackUse (.java g :: W.frames.tail)).2 + 13 * Ps.length + 55 ≤ (e.platform.stackLimits W.me).2 := by have := X.stackAbove hsize (K := 13 * Ps.length + 55) (by omega); omega
  have hslots : W.slotsUsed + (stringBytes (stringToUtf16 text)).size + Zs.kS.instanceTypes.size + kX.instanceTypes.size ≤ e.platform.maxSlots := by
    have := X.slotsAbove hRslots
    rw [hn4, hn6]
    omega
  obtain ⟨vm', hW', st⟩ := Steps.vmThrowsMessageColdByV p (s₀ := s) (S := W) (g := g) h0 hexec T L Z LZ M LM X.warmed (t := W.cur) rfl Zs LZs P1 L1 Ps hL hlink1 hlink hsoe hoom hfound hk hinit hord hctor
    (Launch.admits_hotImplicitExceptions X.admits) hbeyond hfreeW htext hlimit hheap (X.cellsAbove hRcells) hslots (hfitv _) (hfitc _)
    (Nn := fun u => u) heapOnly_id (fun _ _ => rfl) (fun _ => rfl) (fun u x y => setCell_twice _ _ _ _) (fun _ => Nat.le_refl _) (cN := ((preparedCellV T.toThrowableT (freshCell P1.m.cls kX) (W.heap.size + 2) u0 sen).withEntry W.cur))
    hsel0 hcellS hknownS hvU tkS (fun _ hu => hu) (fun _ hu => hu) rfl rfl rfl (by simp [preparedCellV, Cell.setSlot, Cell.withEntry]) hskip (fun _ _ hA hW _ hroom _ hrest => L.nativeOff p htr hA hW hroom hrest) hselF hvSen tkC tkP tkM Y.objLocals rfl hfr' hwd'
  rw [plainBareV_eq T.toThrowableT (W.heap.size + 2) u0 sen (.ref (W.heap.size + 1)) W.cur rfl rfl] at st
  obtain ⟨-, -, w3, w4, -, -, -⟩ := withThrown_facts e.platform W Zs text P1.m.cls kX
  have X3 := ((X.pushed (bytesOf Zs.cB (stringToUtf16 text))).pushed (stringAt Zs.cS Zs.kS Zs.fv Zs.fc (stringToUtf16 text) W.heap.size)).pushed (freshCell P1.m.cls kX)
  rw [← withString_eq] at X3
  have X4 := X3.noted hW'
  have ha : (W.heap.size + 2) < ((withThrown W Zs text P1.m.cls kX).setVm vm').heap.size := by show _ < (withThrown W Zs text P1.m.cls kX).heap.size; rw [w3]; omega
  have hcell : ((withThrown W Zs text P1.m.cls kX).setVm vm').heap[(W.heap.size + 2)]? = some (freshCell P1.m.cls kX) := w4
  have X5 := ((((X4.stored hcell T.fCause.slot (.ref (W.heap.size + 2))).storedAgain ha T.fStack.slot u0.v).storedAgain ha T.fSupp.slot sen.v).storedAgain ha T.fStack.slot u0.v).storedAgain ha T.fMsg.slot (.ref (W.heap.size + 1))
  obtain ⟨g₁, hfrM⟩ := X5.frames_eq
  have hU : ((((withThrown W Zs text P1.m.cls kX).setVm vm').setCell (W.heap.size + 2) (plainBareV T.toThrowableT (freshCell P1.m.cls kX) (W.heap.size + 2) u0 sen (.ref (W.heap.size + 1)))).setTop g).pushFrame (.throwing (W.heap.size + 2)) = (((withThrown W Zs text P1.m.cls kX).setVm vm').setCell (W.heap.size + 2) (plainBareV T.toThrowableT (freshCell P1.m.cls kX) (W.heap.size + 2) u0 sen (.ref (W.heap.size + 1)))).setFrames (.throwing (W.heap.size + 2) :: .java g :: below) := by
    rw [State.pushFrame, State.frames_setTop _ hfrM, State.setTop_of_frames _ hfrM, State.setFrames_setFrames]
  have b1 : (bytesOf Zs.cB (stringToUtf16 text)).slots.size = (stringBytes (stringToUtf16 text)).size := by
    rw [(Cell.writeAll_facts _ _).2.2]; simp [bytes0]
  have b2 : (stringAt Zs.cS Zs.kS Zs.fv Zs.fc (stringToUtf16 text) W.heap.size).slots.size = 4 := by simp [string0, Cell.setSlot, hn4]
  have b3 : (freshCell P1.m.cls kX).slots.size = 6 := by simp [hn6]
  rw [b1, b2, b3] at X5
  have e9 : slots + (stringBytes (stringToUtf16 text)).size + 4 + 6 = slots + ((stringBytes (stringToUtf16 text)).size + 4 + 6) := by omega
  rw [e9] at X5
  simp only [List.append_assoc, List.cons_append, List.nil_append] at X5
  refine ⟨((withThrown W Zs text P1.m.cls kX).setVm vm').setCell (W.heap.size + 2) (plainBareV T.toThrowableT (freshCell P1.m.cls kX) (W.heap.size + 2) u0 sen (.ref (W.heap.size + 1))), W.heap.size + 2, _, fun target ht => st _ (by rw [X.tail, ← hU]; exact ht),
    X5.forget (fun y hy => ?_), heapAt_setCell_self _ ha, hfound, rfl⟩
  simp only [List.mem_cons, List.not_mem_nil, or_false] at hy
  have hge : s.heap.size ≤ W.heap.size := X.same.2.1
  rcases hy with rfl | rfl | rfl | rfl | rfl <;> exact Nat.le_trans hge (Nat.le_add_right _ 2)
set_option maxHeartbeats 1000000 in
/-- the machine throws NullPointerException, no traces kept: from its note over the frame g to 'throwing' over the same frame (follows the proof of Stand.vmThrowsNpe, Shelf42/KT2.lean; throwsNpeColdBareVAt, Shelf42/NT91.lean, called) -/
theorem vx_npeAt {p : Program} {l : Launch} {e : Env} {R : Room} {s : State} {m₀ : MethodId} {args : Array Value} {below : List Frame} {meth : Method} {c : Code} {W : State} {locs : List Loc} {cells slots : Nat}
    (X : Stand p l e R s m₀ args below meth c W locs cells slots) (hexec : p.tables.exec = Jvm.exec) (htr : e.platform.stackTraces = false) {n : Nat}
    (h : ∀ a ∈ Bundle.npeArmAtoms n, a.before args s = true)
    (hlocs : ∀ x ∈ locs, ∀ cell, s.heap[x.base]? = some cell → cell.vm.isStatics = false)
    {g : JFrame} (hg : g.method = m₀) (hsize : g.locals.size = c.maxLocals)
    (hRframes : 7 < R.frames) (hRlocals : 2 * g.monitorRoom + (g.stack.map fun v => v.category).sum + 10240 ≤ R.locals)
    (hRcells : cells + 1 ≤ R.cells) (hRslots : slots + n ≤ R.slots) (hlocks : meth.locks = false) :
    ∃ (S : State) (q : Addr) (ce : Cell), (∀ target, Steps p.tables e below ((S.setTop g).pushFrame (.throwing q)) target → Steps p.tables e below ((W.setTop g).pushFrame (.throwNew "java/lang/NullPointerException" none none)) target) ∧
      Stand p l e R s m₀ args below meth c S locs (cells + 1) (slots + n) ∧ S.heap[q]? = some ce ∧ s.vm.findClass "java/lang/NullPointerException" = some ce.cls ∧ ce.vm = .none := by
  have howns : e.platform.frameOwnsMonitors = true := by rw [X.admits.platform]
  have hfin : e.platform.finalization = false := by rw [X.admits.platform]
  have hpl : e.platform.magicAccessors = ({} : Platform).magicAccessors := by rw [X.admits.platform]
  have hpl2 : e.platform.arrayCloneIsPublic = true := by rw [X.admits.platform]
  have a' : ∀ x, x ∈ Bundle.npeArmAtoms n → x.holds args s none s [] = true := fun x hx => h x hx
  obtain ⟨T, Z, L, LZ, Y⟩ := ThrowableC.of_atoms (args := args) howns hfin hpl (fun x hx => h x (by simp [Bundle.npeArmAtoms, hx]))
  obtain ⟨N, LN, hcN, hnNF, hordN, hffS⟩ := NpeC.of_atoms (args := args) hpl hpl2 L Y (fun x hx => h x (by simp [Bundle.npeArmAtoms, hx]))
  obtain ⟨P1, L1, hP1m, hP1s⟩ := PassC.of_atoms (args := args) (s := s) hpl (X := Bundle.nN) (Y := Bundle.rN) (by decide) (by decide) LibCode.NullPointerException.Init0.at_0 LibCode.NullPointerException.Init0.at_1 LibCode.NullPointerException.Init0.at_4 (fun x hx => h x (by simp [Bundle.npeArmAtoms, hx]))
  obtain ⟨PR, LR, hPRm, hPRs⟩ := PassC.of_atoms (args := args) (s := s) hpl (X := Bundle.rN) (Y := Bundle.eN) (by decide) (by decide) LibCode.RuntimeException.Init0.at_0 LibCode.RuntimeException.Init0.at_1 LibCode.RuntimeException.Init0.at_4 (fun x hx => h x (by simp [Bundle.npeArmAtoms, hx]))
  obtain ⟨PE, LEx, hPEm, hPEs⟩ := PassC.of_atoms (args := args) (s := s) hpl (X := Bundle.eN) (Y := Bundle.tN) (by decide) (by decide) LibCode.Exception.Init0.at_0 LibCode.Exception.Init0.at_1 LibCode.Exception.Init0.at_4 (fun x hx => h x (by simp [Bundle.npeArmAtoms, hx]))
  have hfound : s.vm.findClass Bundle.nN = some P1.m.cls := findClass_of_methodNamed hP1m
  have ecls : N.cN = P1.m.cls := Option.some.inj (hcN.symm.trans hfound)
  have hk : s.vm.classes[P1.m.cls]? = some N.kN := by rw [← ecls]; exact LN.cls
  have hinit := Cond.initialized_spec hfound hk (a' (.initialized Bundle.nN) (by simp [Bundle.npeArmAtoms]))
  have hctor : N.kN.findMethod "<init>" "()V" = some P1.m.idx := findMethod_of_methodNamed hP1m hk
  obtain ⟨c1, k1, hc1, hk1, -, -, -, hn⟩ := Cond.instantiable_spec (a' (.instantiable Bundle.nN n) (by simp [Bundle.npeArmAtoms]))
  cases Option.some.inj (hc1.symm.trans hfound)
  cases Option.some.inj (hk1.symm.trans hk)
  have hfsz : (freshCell P1.m.cls N.kN).slots.size = n := by simp [hn]
  have hlink1 : P1.sup = PR.m := Option.some.inj (hP1s.symm.trans hPRm)
  have hlinkR : PR.sup = PE.m := Option.some.inj (hPRs.symm.trans hPEm)
  have hlinkE : PE.sup = Z.m T.toThrowableT := Option.some.inj (hPEs.symm.trans Y.init0)
  have hLs : ∀ P, P ∈ [PR, PE] → P.Links0 e.platform s := fun P hP => by
    simp only [List.mem_cons, List.not_mem_nil, or_false] at hP
    rcases hP with rfl | rfl
    · exact LR
    · exact LEx
  have hsel0 : selectMethod e.platform s.vm P1.m.cls T.fill0 = .method T.fill0 := by
    obtain ⟨c2, r2, m2, q1, q2, q3, q4, -⟩ := Cond.selects_spec (a' (.selects Bundle.nN Bundle.tFill0 Bundle.tFill0) (by simp [Bundle.npeArmAtoms]))
    cases Option.some.inj (q1.symm.trans hfound)
    cases Option.some.inj (q2.symm.trans (State.methodFound?_of_named Y.fill0 (by decide)))
    cases Option.some.inj (q3.symm.trans Y.fill0)
    rw [Launch.admits_selectMethod X.admits]; exact q4
  have hselF : selectMethod e.platform s.vm P1.m.cls T.fill = .method N.fill := by
    obtain ⟨c2, r2, m2, q1, q2, q3, q4, -⟩ := Cond.selects_spec (a' (.selects Bundle.nN Bundle.tFill Bundle.nFill) (by simp [Bundle.npeArmAtoms]))
    cases Option.some.inj (q1.symm.trans hfound)
    cases Option.some.inj (q2.symm.trans (State.methodFound?_of_named Y.fill (by decide)))
    cases Option.some.inj (q3.symm.trans hnNF)
    rw [Launch.admits_selectMethod X.admits]; exact q4
  obtain ⟨cellS0, hcS0, hiss⟩ := Y.statics
  obtain ⟨u0, hu0⟩ := Cond.staticRefV Y.unassigned L.unassignedStatic L.statics hcS0 hiss (a' (.isRef (.static Bundle.tN "UNASSIGNED_STACK" Bundle.steD)) (by simp [Bundle.npeArmAtoms]))
  obtain ⟨sen, hsen⟩ := Cond.staticRefV Y.sentinel L.sentinelStatic L.statics hcS0 hiss (a' (.isRef (.static Bundle.tN "SUPPRESSED_SENTINEL" Bundle.listD)) (by simp [Bundle.npeArmAtoms]))
  obtain ⟨ci198, i198, fB, hk198, hg198, ha198, hsB, -, hnB, htB, hffB⟩ := Cond.ownField (t := .object "java/lang/Object") Y.found L.cls (by decide +kernel) (a' (.fieldLink Bundle.tN 198 Bundle.tN "backtrace" Bundle.objD) (by simp [Bundle.npeArmAtoms])) (a' (.lays Bundle.tN Bundle.tN "backtrace" Bundle.objD) (by simp [Bundle.npeArmAtoms])) e.platform hpl
  obtain ⟨cellS, hcS', heS, -, hkeep⟩ := X.same.2.2.2.2.2 T.aS cellS0 hcS0
  have hcellS : W.heap[T.aS]? = some cellS := hcS'
  have hout' : ∀ i, (⟨T.aS, i⟩ : Loc) ∉ locs := fun i hmem => by
    have := hlocs _ hmem cellS0 hcS0
    rw [hiss] at this; cases this
  have hknownS : cellS.vm ≠ .unknown := by
    rw [heS]; intro hu
    rw [show cellS0.vm = .unknown from hu] at hiss
    cases hiss
  have hvU : cellS.slots[T.fUnassigned.slot]? = some u0.v := by rw [hkeep _ (hout' _)]; exact hu0
  have hvSen : cellS.slots[T.fSentinel.slot]? = some sen.v := by rw [hkeep _ (hout' _)]; exact hsen
  obtain ⟨tyC, dC, hdC, hdnC⟩ := Cond.laysAt hfound hk Y.cause (a' (.lays Bundle.nN Bundle.tN "cause" "Ljava/lang/Throwable;") (by simp [Bundle.npeArmAtoms]))
  obtain ⟨tyS, dS, hdS, hdnS⟩ := Cond.laysAt hfound hk Y.stack (a' (.lays Bundle.nN Bundle.tN "stackTrace" Bundle.steD) (by simp [Bundle.npeArmAtoms]))
  obtain ⟨tyP, dP, hdP, hdnP⟩ := Cond.laysAt hfound hk Y.supp (a' (.lays Bundle.nN Bundle.tN "suppressedExceptions" Bundle.listD) (by simp [Bundle.npeArmAtoms]))
  obtain ⟨tyX, dX, hdX, hdnX⟩ := Cond.laysAt hfound hk hffS (a' (.lays Bundle.nN Bundle.nN "extendedMessageState" "I") (by simp [Bundle.npeArmAtoms, Bundle.npeAtoms]))
  obtain ⟨hnX, htX⟩ := State.fieldFound?_type hffS (t := .int) (by decide +kernel)
  have xC := Cond.laysApart hdC hdX hdnC hdnX (by rw [hnX, Y.causeName]; decide)
  have xS := Cond.laysApart hdS hdX hdnS hdnX (by rw [hnX, Y.stackName]; decide)
  have xP := Cond.laysApart hdP hdX hdnP hdnX (by rw [hnX, Y.suppName]; decide)
  have hv0 : (freshCell P1.m.cls N.kN).slots[N.fState.slot]? = some (.int 0) := by
    have := fresh_default (c := P1.m.cls) tyX
    rw [htX] at this; exact this
  obtain ⟨tyB, dB, hdB, hdnB⟩ := Cond.laysAt hfound hk hffB (a' (.lays Bundle.nN Bundle.tN "backtrace" Bundle.objD) (by simp [Bundle.npeArmAtoms]))
  have bC := Cond.laysApart hdB hdC hdnB hdnC (by rw [hnB, Y.causeName]; decide)
  have bS := Cond.laysApart hdB hdS hdnB hdnS (by rw [hnB, Y.stackName]; decide)
  have bP := Cond.laysApart hdB hdP hdnB hdnP (by rw [hnB, Y.suppName]; decide)
  have bX := Cond.laysApart hdB hdX hdnB hdnX (by rw [hnB, hnX]; decide)
  have hbk : ((npeCell N.toNpeT (preparedCellV T.toThrowableT (freshCell P1.m.cls N.kN) W.heap.size u0 sen) W.cur).withEntry W.cur).slots[fB.slot]? = some .null := by
    have := fresh_default (c := P1.m.cls) tyB
    rw [htB] at this
    simpa [npeCell, preparedCellV, Cell.setSlot, Cell.withEntry, Array.getElem?_setIfInBounds, bC, bS, bP, bX, bC.symm, bS.symm, bP.symm, bX.symm, defaultValue] using this
  have tkC := Takes.of_laid (v := .ref W.heap.size) hk hordN tyC (by rw [Y.causeType]; rfl)
  have tkS := Takes.of_laid (v := u0.v) hk hordN tyS (by rw [Y.stackType]; exact fits_refV_array _ u0)
  have tkP := Takes.of_laid (v := sen.v) hk hordN tyP (by rw [Y.suppType]; exact fits_refV_object _ sen)
  have tkX := Takes.of_laid (v := .int 1) hk hordN tyX (by rw [htX]; rfl)
  have hskip : SkipFacts T e.platform s (fun u => u) u0 ((npeCell N.toNpeT (preparedCellV T.toThrowableT (freshCell P1.m.cls N.kN) W.heap.size u0 sen) W.cur).withEntry W.cur) := ⟨{ ci198 := ci198, i198 := i198, fBack := fB }, ⟨hk198, hg198, ha198, hsB⟩, hbk, fun _ _ => rfl⟩
  obtain ⟨vm', X3, st, -⟩ := X.throwsNpeColdBareVAt hexec hg hsize T L Z LZ N LN P1 L1 [PR, PE] hLs hlink1 ⟨hlinkR, hlinkE, trivial⟩ hfound hk hinit hordN hctor hsel0 hselF hcellS hknownS hvU hvSen
    hv0 xC xS xP tkC tkS tkP tkX Y.objLocals hskip (fun _ _ hA hW _ hroom _ hrest => L.nativeOff p htr hA hW hroom hrest) (by simpa using hRframes) hRlocals (by simp) hRcells (by rw [hn]; exact hRslots)
  have hlt : W.heap.size < ((W.pushCell (freshCell P1.m.cls N.kN)).setVm vm').heap.size := by
    show W.heap.size < (W.pushCell (freshCell P1.m.cls N.kN)).heap.size
    rw [State.heap_size_pushCell]; omega
  rw [hfsz] at X3
  obtain ⟨g₁, hfrM⟩ := X3.frames_eq
  have hU : ((((W.pushCell (freshCell P1.m.cls N.kN)).setVm vm').setCell W.heap.size (npeBareV T.toThrowableT N.toNpeT (freshCell P1.m.cls N.kN) W.heap.size u0 sen)).setTop g).pushFrame (.throwing W.heap.size) = (((W.pushCell (freshCell P1.m.cls N.kN)).setVm vm').setCell W.heap.size (npeBareV T.toThrowableT N.toNpeT (freshCell P1.m.cls N.kN) W.heap.size u0 sen)).setFrames (.throwing W.heap.size :: .java g :: below) := by
    rw [State.pushFrame, State.frames_setTop _ hfrM, State.setTop_of_frames _ hfrM, State.setFrames_setFrames]
  refine ⟨_, W.heap.size, _, fun target ht => st.trans (by rw [← hU]; exact ht), X3.forget (fun y hy => ?_), heapAt_setCell_self _ hlt, hfound, rfl⟩
  simp only [List.mem_cons, List.not_mem_nil, or_false] at hy
  have hge : s.heap.size ≤ W.heap.size := X.same.2.1
  rcases hy with rfl | rfl | rfl | rfl | rfl <;> exact hge
/-- the words of a machine's NullPointerException, but the four that speak of the heap -/
def vx_atN (n : Nat) : List Cond := (Bundle.npeArmAtoms n).filter vx_no
/-- the words of a machine's throw with a message, but the four that speak of the heap -/
def vx_atM (X : String) (names : List String) : List Cond := (Bundle.messageArmAtoms X names).filter vx_no
section
variable {p : Program} {l : Launch} {e : Env} {R : Room} {s : State} {m : MethodId} {args : Array Value} {below : List Frame} {meth : Method} {c : Code} {H : Heap} {locs : List Loc} {cells slots : Nat}
/-- a frame seen from a rebased start, seen from the first start again -/
theorem vx_back9 {T S : State} {R' : Room} {k n : Nat} (X : Stand p l e R s m args below meth c T locs cells slots) (Y : Stand p l e R' ((T.setVm s.vm).setFrames (.invoking m args :: below)) m args below meth c T [] 0 0) (Z : Stand p l e R' ((T.setVm s.vm).setFrames (.invoking m args :: below)) m args below meth c S [] k n) :
    Stand p l e R s m args below meth c S locs (cells + k) (slots + n) := by
  have hW0 : s.WarmedH ((T.setVm s.vm).setFrames (.invoking m args :: below)).vm := State.WarmedH.refl s
  refine { admits := X.admits, cas := X.cas, clock := X.clock, frames := X.frames, room := X.room, hears := X.hears, method := X.method, code := X.code, here := Z.here, tail := Z.tail, warmed := State.WarmedH.trans hW0 Z.warmed, limits := Z.limits.trans (Y.limits.symm.trans X.limits), bytes := Z.bytes.trans (Y.bytes.symm.trans X.bytes), same := ?_ }
  obtain ⟨e1, e2⟩ := Z.same
  rw [State.setFrames_setFrames] at e1
  have h2 : (T.setVm s.vm).sameButNew (S.setVm s.vm) [] k n := ⟨e1, e2⟩
  have h3 := X.same.trans h2
  rw [List.append_nil] at h3
  exact h3
/-- from the machine's note that E is thrown here with this text -/
def vx_Note (p : Program) (l : Launch) (e : Env) (R : Room) (s : State) (m : MethodId) (args : Array Value) (below : List Frame) (meth : Method) (c : Code) (H : Heap) (locs : List Loc) (cells slots : Nat) (Q : State → Prop) (g : JFrame) (E text : String) : Prop :=
  ∀ T : State, T.heap = H → Stand p l e R s m args below meth c T locs cells slots → ∃ t, Steps p.tables e below ((T.setTop g).pushFrame (.throwNew E (some text) none)) t ∧ Q t
theorem vx_vm {pc : Nat} {ls : Array Slot} {rest : List Value} {Q : State → Prop} (hexec : p.tables.exec = Jvm.exec) (hl : l.stackTraces = false) {cls text : String} {names : List String} {nb : Nat} {A : Nat → Prop}
    (hcls : Bundle.fit cls = true) (hnames : ∀ n ∈ names, Bundle.fit n = true) (hsoe : (cls == "java/lang/StackOverflowError") = false) (hoom : (cls == "java/lang/OutOfMemoryError") = false)
    (hat : ∀ w ∈ vx_atM cls names, w.before args s = true) (hgood : ∀ w ∈ vx_atM cls names, vx_ot w = true)
    (hU : vx_Zq Bundle.tN "UNASSIGNED_STACK" Bundle.steD A s s.heap) (hN : vx_Zq Bundle.tN "SUPPRESSED_SENTINEL" Bundle.listD A s s.heap) (hS : va_S A s.heap H locs) (hsize : ls.size = c.maxLocals)
    (htext : (text == notModelled) = false) (hnb : (stringBytes (stringToUtf16 text)).size ≤ nb) (hnb1 : nb ≤ 1000)
    (hRframes : names.length + 4 < R.frames) (hRlocals : (rest.map fun v => v.category).sum + 10240 ≤ R.locals) (hshort : 13 * names.length + 55 ≤ 10240) (hRcells : cells + 3 ≤ R.cells) (hRslots : slots + (nb + 10) ≤ R.slots) (hlocks : meth.locks = false)
    (k : ∀ (H1 : Heap) (q9 : Addr) (ce : Cell), H.size ≤ H1.size → (∀ q : Nat, q < H.size → H1[q]? = H[q]?) → va_S A s.heap H1 locs → H1[q9]? = some ce → ce.vm = .none → s.vm.findClass cls = some ce.cls → vx_W p l e R s m args below meth c H1 locs (cells + 3) (slots + (nb + 10)) Q (F0 m pc ls rest) q9) :
    vx_Note p l e R s m args below meth c H locs cells slots Q (F0 m pc ls rest) cls text := by
  intro T hT X
  have htr : e.platform.stackTraces = false := (show e.platform.stackTraces = l.stackTraces by rw [X.admits.platform]).trans hl
  have Y := vx_rebase X (R' := { frames := R.frames, locals := R.locals, cells := 3, slots := nb + 10 }) (Nat.le_refl _) (Nat.le_refl _) hRcells hRslots
  have hhp : ((T.setVm s.vm).setFrames (.invoking m args :: below)).heap = H := hT
  have hW0 : s.WarmedH ((T.setVm s.vm).setFrames (.invoking m args :: below)).vm := State.WarmedH.refl s
  have hat' : ∀ w ∈ vx_atM cls names, w.before args ((T.setVm s.vm).setFrames (.invoking m args :: below)) = true := fun w hw => vx_ot_at hW0 rfl (hgood w hw) (hat w hw)
  have hU' : vx_Zq Bundle.tN "UNASSIGNED_STACK" Bundle.steD A ((T.setVm s.vm).setFrames (.invoking m args :: below)) ((T.setVm s.vm).setFrames (.invoking m args :: below)).heap := by rw [hhp]; exact vx_Zq.moved hW0.alike (hU.kept hS.2.1)
  have hN' : vx_Zq Bundle.tN "SUPPRESSED_SENTINEL" Bundle.listD A ((T.setVm s.vm).setFrames (.invoking m args :: below)) ((T.setVm s.vm).setFrames (.invoking m args :: below)).heap := by rw [hhp]; exact vx_Zq.moved hW0.alike (hN.kept hS.2.1)
  obtain ⟨S, q, ce, st, Z, hce, hcl', hv⟩ := vx_vmAt Y hexec htr (cls := cls) (names := names) (text := text) hcls hnames hsoe hoom (vx_own hat' (vx_isRefq hU'.1) (vx_isRefq hN'.1) hU'.2.word hN'.2.word) (fun x hx => nomatch hx) htext
    (by rw [Launch.admits_arrayLengthLimit X.admits]; omega) (by rw [Launch.admits_maxHeapBytes X.admits]; simp only [componentBytes]; omega)
    (g := F0 m pc ls rest) rfl hsize hRframes (by show 2 * 0 + (rest.map fun v => v.category).sum + 10240 ≤ R.locals; omega) hshort (by show 0 + 3 ≤ 3; omega) (by show 0 + (_ + 4 + 6) ≤ nb + 10; omega) hlocks
  obtain ⟨f1, f2⟩ := vx_frame Z.same
  have f1' : H.size ≤ S.heap.size := by rw [← hT]; exact f1
  have f2' : ∀ q : Nat, q < H.size → S.heap[q]? = H[q]? := fun q hq => by
    rw [← hT]
    exact f2 q (by rw [← hT] at hq; exact hq) (fun z hz => nomatch hz)
  have X5 := vx_back9 X Y Z
  have X6 : Stand p l e R s m args below meth c S locs (cells + 3) (slots + (nb + 10)) := { X5 with same := X5.same.mono (by omega) (by omega) }
  obtain ⟨t, a1, b1⟩ := k S.heap q ce f1' f2' ⟨Nat.le_trans hS.1 f1', fun q h1 h2 => (f2' q (Nat.lt_of_lt_of_le h1 hS.1)).trans (hS.2.1 q h1 h2), hS.2.2⟩ hce hv hcl' S rfl X6
  exact ⟨t, st t a1, b1⟩
/-- from the machine's note that NullPointerException is thrown here -/
def vx_NoteN (p : Program) (l : Launch) (e : Env) (R : Room) (s : State) (m : MethodId) (args : Array Value) (below : List Frame) (meth : Method) (c : Code) (H : Heap) (locs : List Loc) (cells slots : Nat) (Q : State → Prop) (g : JFrame) : Prop :=
  ∀ T : State, T.heap = H → Stand p l e R s m args below meth c T locs cells slots → ∃ t, Steps p.tables e below ((T.setTop g).pushFrame (.throwNew "java/lang/NullPointerException" none none)) t ∧ Q t
theorem vx_npe {pc : Nat} {ls : Array Slot} {rest : List Value} {Q : State → Prop} (hexec : p.tables.exec = Jvm.exec) (hl : l.stackTraces = false) {nb : Nat} {A : Nat → Prop}
    (hat : ∀ w ∈ vx_atN nb, w.before args s = true) (hgood : ∀ w ∈ vx_atN nb, vx_ot w = true)
    (hU : vx_Zq Bundle.tN "UNASSIGNED_STACK" Bundle.steD A s s.heap) (hN : vx_Zq Bundle.tN "SUPPRESSED_SENTINEL" Bundle.listD A s s.heap) (hS : va_S A s.heap H locs) (hsize : ls.size = c.maxLocals)
    (hRframes : 7 < R.frames) (hRlocals : (rest.map fun v => v.category).sum + 10240 ≤ R.locals) (hRcells : cells + 1 ≤ R.cells) (hRslots : slots + nb ≤ R.slots) (hlocks : meth.locks = false)
    (k : ∀ (H1 : Heap) (q9 : Addr) (ce : Cell), H.size ≤ H1.size → (∀ q : Nat, q < H.size → H1[q]? = H[q]?) → va_S A s.heap H1 locs → H1[q9]? = some ce → ce.vm = .none → s.vm.findClass "java/lang/NullPointerException" = some ce.cls → vx_W p l e R s m args below meth c H1 locs (cells + 1) (slots + nb) Q (F0 m pc ls rest) q9) :
    vx_NoteN p l e R s m args below meth c H locs cells slots Q (F0 m pc ls rest) := by
  intro T hT X
  have htr : e.platform.stackTraces = false := (show e.platform.stackTraces = l.stackTraces by rw [X.admits.platform]).trans hl
  have Y := vx_rebase X (R' := { frames := R.frames, locals := R.locals, cells := 1, slots := nb }) (Nat.le_refl _) (Nat.le_refl _) hRcells hRslots
  have hhp : ((T.setVm s.vm).setFrames (.invoking m args :: below)).heap = H := hT
  have hW0 : s.WarmedH ((T.setVm s.vm).setFrames (.invoking m args :: below)).vm := State.WarmedH.refl s
  have hat' : ∀ w ∈ vx_atN nb, w.before args ((T.setVm s.vm).setFrames (.invoking m args :: below)) = true := fun w hw => vx_ot_at hW0 rfl (hgood w hw) (hat w hw)
  have hU' : vx_Zq Bundle.tN "UNASSIGNED_STACK" Bundle.steD A ((T.setVm s.vm).setFrames (.invoking m args :: below)) ((T.setVm s.vm).setFrames (.invoking m args :: below)).heap := by rw [hhp]; exact vx_Zq.moved hW0.alike (hU.kept hS.2.1)
  have hN' : vx_Zq Bundle.tN "SUPPRESSED_SENTINEL" Bundle.listD A ((T.setVm s.vm).setFrames (.invoking m args :: below)) ((T.setVm s.vm).setFrames (.invoking m args :: below)).heap := by rw [hhp]; exact vx_Zq.moved hW0.alike (hN.kept hS.2.1)
  obtain ⟨S, q, ce, st, Z, hce, hcl', hv⟩ := vx_npeAt Y hexec htr (n := nb) (vx_own hat' (vx_isRefq hU'.1) (vx_isRefq hN'.1) hU'.2.word hN'.2.word) (fun x hx => nomatch hx)
    (g := F0 m pc ls rest) rfl hsize hRframes (by show 2 * 0 + (rest.map fun v => v.category).sum + 10240 ≤ R.locals; omega) (by show 0 + 1 ≤ 1; omega) (by show 0 + nb ≤ nb; omega) hlocks
  obtain ⟨f1, f2⟩ := vx_frame Z.same
  have f1' : H.size ≤ S.heap.size := by rw [← hT]; exact f1
  have f2' : ∀ q : Nat, q < H.size → S.heap[q]? = H[q]? := fun q hq => by
    rw [← hT]
    exact f2 q (by rw [← hT] at hq; exact hq) (fun z hz => nomatch hz)
  have X5 := vx_back9 X Y Z
  have X6 : Stand p l e R s m args below meth c S locs (cells + 1) (slots + nb) := { X5 with same := X5.same.mono (by omega) (by omega) }
  obtain ⟨t, a1, b1⟩ := k S.heap q ce f1' f2' ⟨Nat.le_trans hS.1 f1', fun q h1 h2 => (f2' q (Nat.lt_of_lt_of_le h1 hS.1)).trans (hS.2.1 q h1 h2), hS.2.2⟩ hce hv hcl' S rfl X6
  exact ⟨t, st t a1, b1⟩
variable {Q : State → Prop} {cc : ByteArray} {pc : Nat} {ls : Array Slot} {rest : List Value}
theorem vx_idivZ (hexec : p.tables.exec = Jvm.exec) (hb : c.code = cc) {a b : Int32} (h0 : b = 0) (d : decode cc pc = .ok (.idiv, 1)) (k : vx_Note p l e R s m args below meth c H locs cells slots Q (F0 m pc ls rest) "java/lang/ArithmeticException" "/ by zero") :
    W p l e R s m args below meth c H locs cells slots Q (F0 m pc ls (.int b :: .int a :: rest)) := by
  intro T hT X
  obtain ⟨t, st, q⟩ := k T hT X
  exact ⟨t, X.idivZero hexec (g := F0 m pc ls (.int b :: .int a :: rest)) rfl (a := a) (rest := rest) (by rw [h0]) (by rw [hb]; exact d) t st, q⟩
theorem vx_iremZ (hexec : p.tables.exec = Jvm.exec) (hb : c.code = cc) {a b : Int32} (h0 : b = 0) (d : decode cc pc = .ok (.irem, 1)) (k : vx_Note p l e R s m args below meth c H locs cells slots Q (F0 m pc ls rest) "java/lang/ArithmeticException" "/ by zero") :
    W p l e R s m args below meth c H locs cells slots Q (F0 m pc ls (.int b :: .int a :: rest)) := by
  intro T hT X
  obtain ⟨t, st, q⟩ := k T hT X
  exact ⟨t, X.iremZero hexec (g := F0 m pc ls (.int b :: .int a :: rest)) rfl (a := a) (rest := rest) (by rw [h0]) (by rw [hb]; exact d) t st, q⟩
theorem vx_ldivZ (hexec : p.tables.exec = Jvm.exec) (hb : c.code = cc) {a b : Int64} (h0 : b = 0) (d : decode cc pc = .ok (.ldiv, 1)) (k : vx_Note p l e R s m args below meth c H locs cells slots Q (F0 m pc ls rest) "java/lang/ArithmeticException" "/ by zero") :
    W p l e R s m args below meth c H locs cells slots Q (F0 m pc ls (.long b :: .long a :: rest)) := by
  intro T hT X
  obtain ⟨t, st, q⟩ := k T hT X
  exact ⟨t, X.ldivZero hexec (g := F0 m pc ls (.long b :: .long a :: rest)) rfl (a := a) (rest := rest) (by rw [h0]) (by rw [hb]; exact d) t st, q⟩
theorem vx_lremZ (hexec : p.tables.exec = Jvm.exec) (hb : c.code = cc) {a b : Int64} (h0 : b = 0) (d : decode cc pc = .ok (.lrem, 1)) (k : vx_Note p l e R s m args below meth c H locs cells slots Q (F0 m pc ls rest) "java/lang/ArithmeticException" "/ by zero") :
    W p l e R s m args below meth c H locs cells slots Q (F0 m pc ls (.long b :: .long a :: rest)) := by
  intro T hT X
  obtain ⟨t, st, q⟩ := k T hT X
  exact ⟨t, X.lremZero hexec (g := F0 m pc ls (.long b :: .long a :: rest)) rfl (a := a) (rest := rest) (by rw [h0]) (by rw [hb]; exact d) t st, q⟩
theorem vx_ialdZ {D : va_G} {cl : List vw_C} {ws : va_W} {tys : List (ClassId × FieldType)} {a : Nat} (hexec : p.tables.exec = Jvm.exec) (hb : c.code = cc) (hK : va_K D cl tys s) (hP : va_P D cl ws H) (q0 t0 : Nat) {cA : ClassId} {n : Nat} {f : Nat → Int32} (ha : ws[q0]? = some (a, .inl (cA, n, .inl f))) (ht : tys[t0]? = some (cA, .int)) {i : Int32} (hout : ¬ vp_in i n) (hdg : decode cc pc = .ok (.iaload, 1))
    (k : ∀ tx : String, tx = (toString "Index " ++ toString i ++ toString " out of bounds for length " ++ toString n : String) → vx_Note p l e R s m args below meth c H locs cells slots Q (F0 m pc ls rest) "java/lang/ArrayIndexOutOfBoundsException" tx) : W p l e R s m args below meth c H locs cells slots Q (F0 m pc ls (.int i :: .ref a :: rest)) := by
  intro T hT X
  obtain ⟨t, st, q⟩ := k _ rfl T hT X
  refine ⟨t, ?_, q⟩
  have h1 := X.ialoadOut hexec (by rw [hT]; exact hP q0 _ ha) ((hK.2 t0 _ ht).1 n (fun j => .int (f j))) (j := i) (by show (i < 0 ∨ (arrV _ _ _).slots.size ≤ _); rw [arrV_size]; exact Classical.byContradiction hout) (g := F0 m pc ls (.int i :: .ref a :: rest)) rfl (rest := rest) rfl (by rw [hb]; exact hdg) t
  simp only [arrV_size] at h1
  exact h1 st
theorem vx_iastZ {D : va_G} {cl : List vw_C} {ws : va_W} {tys : List (ClassId × FieldType)} {a : Nat} (hexec : p.tables.exec = Jvm.exec) (hb : c.code = cc) (hK : va_K D cl tys s) (hP : va_P D cl ws H) (q0 t0 : Nat) {cA : ClassId} {n : Nat} {f : Nat → Int32} (ha : ws[q0]? = some (a, .inl (cA, n, .inl f))) (ht : tys[t0]? = some (cA, .int)) {i : Int32} {x : Int32} (hout : ¬ vp_in i n) (hdg : decode cc pc = .ok (.iastore, 1))
    (k : ∀ tx : String, tx = (toString "Index " ++ toString i ++ toString " out of bounds for length " ++ toString n : String) → vx_Note p l e R s m args below meth c H locs cells slots Q (F0 m pc ls rest) "java/lang/ArrayIndexOutOfBoundsException" tx) : W p l e R s m args below meth c H locs cells slots Q (F0 m pc ls (.int x :: .int i :: .ref a :: rest)) := by
  intro T hT X
  obtain ⟨t, st, q⟩ := k _ rfl T hT X
  refine ⟨t, ?_, q⟩
  have h1 := X.iastoreOut hexec (by rw [hT]; exact hP q0 _ ha) ((hK.2 t0 _ ht).1 n (fun j => .int (f j))) (j := i) (by show (i < 0 ∨ (arrV _ _ _).slots.size ≤ _); rw [arrV_size]; exact Classical.byContradiction hout) (g := F0 m pc ls (.int x :: .int i :: .ref a :: rest)) rfl (rest := rest) rfl (by rw [hb]; exact hdg) t
  simp only [arrV_size] at h1
  exact h1 st
theorem vx_baldZ {D : va_G} {cl : List vw_C} {ws : va_W} {tys : List (ClassId × FieldType)} {a : Nat} (hexec : p.tables.exec = Jvm.exec) (hb : c.code = cc) (hK : va_K D cl tys s) (hP : va_P D cl ws H) (q0 t0 : Nat) {cA : ClassId} {n : Nat} {f : Nat → Int32} (ha : ws[q0]? = some (a, .inl (cA, n, .inl f))) (ht : tys[t0]? = some (cA, .byte)) {i : Int32} (hout : ¬ vp_in i n) (hdg : decode cc pc = .ok (.baload, 1))
    (k : ∀ tx : String, tx = (toString "Index " ++ toString i ++ toString " out of bounds for length " ++ toString n : String) → vx_Note p l e R s m args below meth c H locs cells slots Q (F0 m pc ls rest) "java/lang/ArrayIndexOutOfBoundsException" tx) : W p l e R s m args below meth c H locs cells slots Q (F0 m pc ls (.int i :: .ref a :: rest)) := by
  intro T hT X
  obtain ⟨t, st, q⟩ := k _ rfl T hT X
  refine ⟨t, ?_, q⟩
  have h1 := X.baloadOut hexec (by rw [hT]; exact hP q0 _ ha) ((hK.2 t0 _ ht).1 n (fun j => .int (f j))) (j := i) (by show (i < 0 ∨ (arrV _ _ _).slots.size ≤ _); rw [arrV_size]; exact Classical.byContradiction hout) (g := F0 m pc ls (.int i :: .ref a :: rest)) rfl (rest := rest) rfl (by rw [hb]; exact hdg) t
  simp only [arrV_size] at h1
  exact h1 st
theorem vx_bastZ {D : va_G} {cl : List vw_C} {ws : va_W} {tys : List (ClassId × FieldType)} {a : Nat} (hexec : p.tables.exec = Jvm.exec) (hb : c.code = cc) (hK : va_K D cl tys s) (hP : va_P D cl ws H) (q0 t0 : Nat) {cA : ClassId} {n : Nat} {f : Nat → Int32} (ha : ws[q0]? = some (a, .inl (cA, n, .inl f))) (ht : tys[t0]? = some (cA, .byte)) {i : Int32} {x : Int32} (hout : ¬ vp_in i n) (hdg : decode cc pc = .ok (.bastore, 1))
    (k : ∀ tx : String, tx = (toString "Index " ++ toString i ++ toString " out of bounds for length " ++ toString n : String) → vx_Note p l e R s m args below meth c H locs cells slots Q (F0 m pc ls rest) "java/lang/ArrayIndexOutOfBoundsException" tx) : W p l e R s m args below meth c H locs cells slots Q (F0 m pc ls (.int x :: .int i :: .ref a :: rest)) := by
  intro T hT X
  obtain ⟨t, st, q⟩ := k _ rfl T hT X
  refine ⟨t, ?_, q⟩
  have h1 := X.bastoreOut hexec (by rw [hT]; exact hP q0 _ ha) ((hK.2 t0 _ ht).1 n (fun j => .int (f j))) (j := i) (by show (i < 0 ∨ (arrV _ _ _).slots.size ≤ _); rw [arrV_size]; exact Classical.byContradiction hout) (g := F0 m pc ls (.int x :: .int i :: .ref a :: rest)) rfl (rest := rest) rfl (by rw [hb]; exact hdg) t
  simp only [arrV_size] at h1
  exact h1 st
theorem vx_zaldZ {D : va_G} {cl : List vw_C} {ws : va_W} {tys : List (ClassId × FieldType)} {a : Nat} (hexec : p.tables.exec = Jvm.exec) (hb : c.code = cc) (hK : va_K D cl tys s) (hP : va_P D cl ws H) (q0 t0 : Nat) {cA : ClassId} {n : Nat} {f : Nat → Int32} (ha : ws[q0]? = some (a, .inl (cA, n, .inl f))) (ht : tys[t0]? = some (cA, .boolean)) {i : Int32} (hout : ¬ vp_in i n) (hdg : decode cc pc = .ok (.baload, 1))
    (k : ∀ tx : String, tx = (toString "Index " ++ toString i ++ toString " out of bounds for length " ++ toString n : String) → vx_Note p l e R s m args below meth c H locs cells slots Q (F0 m pc ls rest) "java/lang/ArrayIndexOutOfBoundsException" tx) : W p l e R s m args below meth c H locs cells slots Q (F0 m pc ls (.int i :: .ref a :: rest)) := by
  intro T hT X
  obtain ⟨t, st, q⟩ := k _ rfl T hT X
  refine ⟨t, ?_, q⟩
  have h1 := X.baloadOut hexec (by rw [hT]; exact hP q0 _ ha) ((hK.2 t0 _ ht).1 n (fun j => .int (f j))) (j := i) (by show (i < 0 ∨ (arrV _ _ _).slots.size ≤ _); rw [arrV_size]; exact Classical.byContradiction hout) (g := F0 m pc ls (.int i :: .ref a :: rest)) rfl (rest := rest) rfl (by rw [hb]; exact hdg) t
  simp only [arrV_size] at h1
  exact h1 st
theorem vx_zastZ {D : va_G} {cl : List vw_C} {ws : va_W} {tys : List (ClassId × FieldType)} {a : Nat} (hexec : p.tables.exec = Jvm.exec) (hb : c.code = cc) (hK : va_K D cl tys s) (hP : va_P D cl ws H) (q0 t0 : Nat) {cA : ClassId} {n : Nat} {f : Nat → Int32} (ha : ws[q0]? = some (a, .inl (cA, n, .inl f))) (ht : tys[t0]? = some (cA, .boolean)) {i : Int32} {x : Int32} (hout : ¬ vp_in i n) (hdg : decode cc pc = .ok (.bastore, 1))
    (k : ∀ tx : String, tx = (toString "Index " ++ toString i ++ toString " out of bounds for length " ++ toString n : String) → vx_Note p l e R s m args below meth c H locs cells slots Q (F0 m pc ls rest) "java/lang/ArrayIndexOutOfBoundsException" tx) : W p l e R s m args below meth c H locs cells slots Q (F0 m pc ls (.int x :: .int i :: .ref a :: rest)) := by
  intro T hT X
  obtain ⟨t, st, q⟩ := k _ rfl T hT X
  refine ⟨t, ?_, q⟩
  have h1 := X.bastoreOut hexec (by rw [hT]; exact hP q0 _ ha) ((hK.2 t0 _ ht).1 n (fun j => .int (f j))) (j := i) (by show (i < 0 ∨ (arrV _ _ _).slots.size ≤ _); rw [arrV_size]; exact Classical.byContradiction hout) (g := F0 m pc ls (.int x :: .int i :: .ref a :: rest)) rfl (rest := rest) rfl (by rw [hb]; exact hdg) t
  simp only [arrV_size] at h1
  exact h1 st
theorem vx_caldZ {D : va_G} {cl : List vw_C} {ws : va_W} {tys : List (ClassId × FieldType)} {a : Nat} (hexec : p.tables.exec = Jvm.exec) (hb : c.code = cc) (hK : va_K D cl tys s) (hP : va_P D cl ws H) (q0 t0 : Nat) {cA : ClassId} {n : Nat} {f : Nat → Int32} (ha : ws[q0]? = some (a, .inl (cA, n, .inl f))) (ht : tys[t0]? = some (cA, .char)) {i : Int32} (hout : ¬ vp_in i n) (hdg : decode cc pc = .ok (.caload, 1))
    (k : ∀ tx : String, tx = (toString "Index " ++ toString i ++ toString " out of bounds for length " ++ toString n : String) → vx_Note p l e R s m args below meth c H locs cells slots Q (F0 m pc ls rest) "java/lang/ArrayIndexOutOfBoundsException" tx) : W p l e R s m args below meth c H locs cells slots Q (F0 m pc ls (.int i :: .ref a :: rest)) := by
  intro T hT X
  obtain ⟨t, st, q⟩ := k _ rfl T hT X
  refine ⟨t, ?_, q⟩
  have h1 := X.caloadOut hexec (by rw [hT]; exact hP q0 _ ha) ((hK.2 t0 _ ht).1 n (fun j => .int (f j))) (j := i) (by show (i < 0 ∨ (arrV _ _ _).slots.size ≤ _); rw [arrV_size]; exact Classical.byContradiction hout) (g := F0 m pc ls (.int i :: .ref a :: rest)) rfl (rest := rest) rfl (by rw [hb]; exact hdg) t
  simp only [arrV_size] at h1
  exact h1 st
theorem vx_castZ {D : va_G} {cl : List vw_C} {ws : va_W} {tys : List (ClassId × FieldType)} {a : Nat} (hexec : p.tables.exec = Jvm.exec) (hb : c.code = cc) (hK : va_K D cl tys s) (hP : va_P D cl ws H) (q0 t0 : Nat) {cA : ClassId} {n : Nat} {f : Nat → Int32} (ha : ws[q0]? = some (a, .inl (cA, n, .inl f))) (ht : tys[t0]? = some (cA, .char)) {i : Int32} {x : Int32} (hout : ¬ vp_in i n) (hdg : decode cc pc = .ok (.castore, 1))
    (k : ∀ tx : String, tx = (toString "Index " ++ toString i ++ toString " out of bounds for length " ++ toString n : String) → vx_Note p l e R s m args below meth c H locs cells slots Q (F0 m pc ls rest) "java/lang/ArrayIndexOutOfBoundsException" tx) : W p l e R s m args below meth c H locs cells slots Q (F0 m pc ls (.int x :: .int i :: .ref a :: rest)) := by
  intro T hT X
  obtain ⟨t, st, q⟩ := k _ rfl T hT X
  refine ⟨t, ?_, q⟩
  have h1 := X.castoreOut hexec (by rw [hT]; exact hP q0 _ ha) ((hK.2 t0 _ ht).1 n (fun j => .int (f j))) (j := i) (by show (i < 0 ∨ (arrV _ _ _).slots.size ≤ _); rw [arrV_size]; exact Classical.byContradiction hout) (g := F0 m pc ls (.int x :: .int i :: .ref a :: rest)) rfl (rest := rest) rfl (by rw [hb]; exact hdg) t
  simp only [arrV_size] at h1
  exact h1 st
theorem vx_saldZ {D : va_G} {cl : List vw_C} {ws : va_W} {tys : List (ClassId × FieldType)} {a : Nat} (hexec : p.tables.exec = Jvm.exec) (hb : c.code = cc) (hK : va_K D cl tys s) (hP : va_P D cl ws H) (q0 t0 : Nat) {cA : ClassId} {n : Nat} {f : Nat → Int32} (ha : ws[q0]? = some (a, .inl (cA, n, .inl f))) (ht : tys[t0]? = some (cA, .short)) {i : Int32} (hout : ¬ vp_in i n) (hdg : decode cc pc = .ok (.saload, 1))
    (k : ∀ tx : String, tx = (toString "Index " ++ toString i ++ toString " out of bounds for length " ++ toString n : String) → vx_Note p l e R s m args below meth c H locs cells slots Q (F0 m pc ls rest) "java/lang/ArrayIndexOutOfBoundsException" tx) : W p l e R s m args below meth c H locs cells slots Q (F0 m pc ls (.int i :: .ref a :: rest)) := by
  intro T hT X
  obtain ⟨t, st, q⟩ := k _ rfl T hT X
  refine ⟨t, ?_, q⟩
  have h1 := X.saloadOut hexec (by rw [hT]; exact hP q0 _ ha) ((hK.2 t0 _ ht).1 n (fun j => .int (f j))) (j := i) (by show (i < 0 ∨ (arrV _ _ _).slots.size ≤ _); rw [arrV_size]; exact Classical.byContradiction hout) (g := F0 m pc ls (.int i :: .ref a :: rest)) rfl (rest := rest) rfl (by rw [hb]; exact hdg) t
  simp only [arrV_size] at h1
  exact h1 st
theorem vx_sastZ {D : va_G} {cl : List vw_C} {ws : va_W} {tys : List (ClassId × FieldType)} {a : Nat} (hexec : p.tables.exec = Jvm.exec) (hb : c.code = cc) (hK : va_K D cl tys s) (hP : va_P D cl ws H) (q0 t0 : Nat) {cA : ClassId} {n : Nat} {f : Nat → Int32} (ha : ws[q0]? = some (a, .inl (cA, n, .inl f))) (ht : tys[t0]? = some (cA, .short)) {i : Int32} {x : Int32} (hout : ¬ vp_in i n) (hdg : decode cc pc = .ok (.sastore, 1))
    (k : ∀ tx : String, tx = (toString "Index " ++ toString i ++ toString " out of bounds for length " ++ toString n : String) → vx_Note p l e R s m args below meth c H locs cells slots Q (F0 m pc ls rest) "java/lang/ArrayIndexOutOfBoundsException" tx) : W p l e R s m args below meth c H locs cells slots Q (F0 m pc ls (.int x :: .int i :: .ref a :: rest)) := by
  intro T hT X
  obtain ⟨t, st, q⟩ := k _ rfl T hT X
  refine ⟨t, ?_, q⟩
  have h1 := X.sastoreOut hexec (by rw [hT]; exact hP q0 _ ha) ((hK.2 t0 _ ht).1 n (fun j => .int (f j))) (j := i) (by show (i < 0 ∨ (arrV _ _ _).slots.size ≤ _); rw [arrV_size]; exact Classical.byContradiction hout) (g := F0 m pc ls (.int x :: .int i :: .ref a :: rest)) rfl (rest := rest) rfl (by rw [hb]; exact hdg) t
  simp only [arrV_size] at h1
  exact h1 st
theorem vx_laldZ {D : va_G} {cl : List vw_C} {ws : va_W} {tys : List (ClassId × FieldType)} {a : Nat} (hexec : p.tables.exec = Jvm.exec) (hb : c.code = cc) (hK : va_K D cl tys s) (hP : va_P D cl ws H) (q0 t0 : Nat) {cA : ClassId} {n : Nat} {f : Nat → Int64} (ha : ws[q0]? = some (a, .inl (cA, n, .inr (.inl f)))) (ht : tys[t0]? = some (cA, .long)) {i : Int32} (hout : ¬ vp_in i n) (hdg : decode cc pc = .ok (.laload, 1))
    (k : ∀ tx : String, tx = (toString "Index " ++ toString i ++ toString " out of bounds for length " ++ toString n : String) → vx_Note p l e R s m args below meth c H locs cells slots Q (F0 m pc ls rest) "java/lang/ArrayIndexOutOfBoundsException" tx) : W p l e R s m args below meth c H locs cells slots Q (F0 m pc ls (.int i :: .ref a :: rest)) := by
  intro T hT X
  obtain ⟨t, st, q⟩ := k _ rfl T hT X
  refine ⟨t, ?_, q⟩
  have h1 := X.laloadOut hexec (by rw [hT]; exact hP q0 _ ha) ((hK.2 t0 _ ht).1 n (fun j => .long (f j))) (j := i) (by show (i < 0 ∨ (arrV _ _ _).slots.size ≤ _); rw [arrV_size]; exact Classical.byContradiction hout) (g := F0 m pc ls (.int i :: .ref a :: rest)) rfl (rest := rest) rfl (by rw [hb]; exact hdg) t
  simp only [arrV_size] at h1
  exact h1 st
theorem vx_lastZ {D : va_G} {cl : List vw_C} {ws : va_W} {tys : List (ClassId × FieldType)} {a : Nat} (hexec : p.tables.exec = Jvm.exec) (hb : c.code = cc) (hK : va_K D cl tys s) (hP : va_P D cl ws H) (q0 t0 : Nat) {cA : ClassId} {n : Nat} {f : Nat → Int64} (ha : ws[q0]? = some (a, .inl (cA, n, .inr (.inl f)))) (ht : tys[t0]? = some (cA, .long)) {i : Int32} {x : Int64} (hout : ¬ vp_in i n) (hdg : decode cc pc = .ok (.lastore, 1))
    (k : ∀ tx : String, tx = (toString "Index " ++ toString i ++ toString " out of bounds for length " ++ toString n : String) → vx_Note p l e R s m args below meth c H locs cells slots Q (F0 m pc ls rest) "java/lang/ArrayIndexOutOfBoundsException" tx) : W p l e R s m args below meth c H locs cells slots Q (F0 m pc ls (.long x :: .int i :: .ref a :: rest)) := by
  intro T hT X
  obtain ⟨t, st, q⟩ := k _ rfl T hT X
  refine ⟨t, ?_, q⟩
  have h1 := X.lastoreOut hexec (by rw [hT]; exact hP q0 _ ha) ((hK.2 t0 _ ht).1 n (fun j => .long (f j))) (j := i) (by show (i < 0 ∨ (arrV _ _ _).slots.size ≤ _); rw [arrV_size]; exact Classical.byContradiction hout) (g := F0 m pc ls (.long x :: .int i :: .ref a :: rest)) rfl (rest := rest) rfl (by rw [hb]; exact hdg) t
  simp only [arrV_size] at h1
  exact h1 st
theorem vx_faldZ {D : va_G} {cl : List vw_C} {ws : va_W} {tys : List (ClassId × FieldType)} {a : Nat} (hexec : p.tables.exec = Jvm.exec) (hb : c.code = cc) (hK : va_K D cl tys s) (hP : va_P D cl ws H) (q0 t0 : Nat) {cA : ClassId} {n : Nat} {f : Nat → UInt32} (ha : ws[q0]? = some (a, .inl (cA, n, .inr (.inr (.inl f))))) (ht : tys[t0]? = some (cA, .float)) {i : Int32} (hout : ¬ vp_in i n) (hdg : decode cc pc = .ok (.faload, 1))
    (k : ∀ tx : String, tx = (toString "Index " ++ toString i ++ toString " out of bounds for length " ++ toString n : String) → vx_Note p l e R s m args below meth c H locs cells slots Q (F0 m pc ls rest) "java/lang/ArrayIndexOutOfBoundsException" tx) : W p l e R s m args below meth c H locs cells slots Q (F0 m pc ls (.int i :: .ref a :: rest)) := by
  intro T hT X
  obtain ⟨t, st, q⟩ := k _ rfl T hT X
  refine ⟨t, ?_, q⟩
  have h1 := X.faloadOut hexec (by rw [hT]; exact hP q0 _ ha) ((hK.2 t0 _ ht).1 n (fun j => .float (f j))) (j := i) (by show (i < 0 ∨ (arrV _ _ _).slots.size ≤ _); rw [arrV_size]; exact Classical.byContradiction hout) (g := F0 m pc ls (.int i :: .ref a :: rest)) rfl (rest := rest) rfl (by rw [hb]; exact hdg) t
  simp only [arrV_size] at h1
  exact h1 st
theorem vx_fastZ {D : va_G} {cl : List vw_C} {ws : va_W} {tys : List (ClassId × FieldType)} {a : Nat} (hexec : p.tables.exec = Jvm.exec) (hb : c.code = cc) (hK : va_K D cl tys s) (hP : va_P D cl ws H) (q0 t0 : Nat) {cA : ClassId} {n : Nat} {f : Nat → UInt32} (ha : ws[q0]? = some (a, .inl (cA, n, .inr (.inr (.inl f))))) (ht : tys[t0]? = some (cA, .float)) {i : Int32} {x : UInt32} (hout : ¬ vp_in i n) (hdg : decode cc pc = .ok (.fastore, 1))
    (k : ∀ tx : String, tx = (toString "Index " ++ toString i ++ toString " out of bounds for length " ++ toString n : String) → vx_Note p l e R s m args below meth c H locs cells slots Q (F0 m pc ls rest) "java/lang/ArrayIndexOutOfBoundsException" tx) : W p l e R s m args below meth c H locs cells slots Q (F0 m pc ls (.float x :: .int i :: .ref a :: rest)) := by
  intro T hT X
  obtain ⟨t, st, q⟩ := k _ rfl T hT X
  refine ⟨t, ?_, q⟩
  have h1 := X.fastoreOut hexec (by rw [hT]; exact hP q0 _ ha) ((hK.2 t0 _ ht).1 n (fun j => .float (f j))) (j := i) (by show (i < 0 ∨ (arrV _ _ _).slots.size ≤ _); rw [arrV_size]; exact Classical.byContradiction hout) (g := F0 m pc ls (.float x :: .int i :: .ref a :: rest)) rfl (rest := rest) rfl (by rw [hb]; exact hdg) t
  simp only [arrV_size] at h1
  exact h1 st
theorem vx_daldZ {D : va_G} {cl : List vw_C} {ws : va_W} {tys : List (ClassId × FieldType)} {a : Nat} (hexec : p.tables.exec = Jvm.exec) (hb : c.code = cc) (hK : va_K D cl tys s) (hP : va_P D cl ws H) (q0 t0 : Nat) {cA : ClassId} {n : Nat} {f : Nat → UInt64} (ha : ws[q0]? = some (a, .inl (cA, n, .inr (.inr (.inr (.inl f)))))) (ht : tys[t0]? = some (cA, .double)) {i : Int32} (hout : ¬ vp_in i n) (hdg : decode cc pc = .ok (.daload, 1))
    (k : ∀ tx : String, tx = (toString "Index " ++ toString i ++ toString " out of bounds for length " ++ toString n : String) → vx_Note p l e R s m args below meth c H locs cells slots Q (F0 m pc ls rest) "java/lang/ArrayIndexOutOfBoundsException" tx) : W p l e R s m args below meth c H locs cells slots Q (F0 m pc ls (.int i :: .ref a :: rest)) := by
  intro T hT X
  obtain ⟨t, st, q⟩ := k _ rfl T hT X
  refine ⟨t, ?_, q⟩
  have h1 := X.daloadOut hexec (by rw [hT]; exact hP q0 _ ha) ((hK.2 t0 _ ht).1 n (fun j => .double (f j))) (j := i) (by show (i < 0 ∨ (arrV _ _ _).slots.size ≤ _); rw [arrV_size]; exact Classical.byContradiction hout) (g := F0 m pc ls (.int i :: .ref a :: rest)) rfl (rest := rest) rfl (by rw [hb]; exact hdg) t
  simp only [arrV_size] at h1
  exact h1 st
theorem vx_dastZ {D : va_G} {cl : List vw_C} {ws : va_W} {tys : List (ClassId × FieldType)} {a : Nat} (hexec : p.tables.exec = Jvm.exec) (hb : c.code = cc) (hK : va_K D cl tys s) (hP : va_P D cl ws H) (q0 t0 : Nat) {cA : ClassId} {n : Nat} {f : Nat → UInt64} (ha : ws[q0]? = some (a, .inl (cA, n, .inr (.inr (.inr (.inl f)))))) (ht : tys[t0]? = some (cA, .double)) {i : Int32} {x : UInt64} (hout : ¬ vp_in i n) (hdg : decode cc pc = .ok (.dastore, 1))
    (k : ∀ tx : String, tx = (toString "Index " ++ toString i ++ toString " out of bounds for length " ++ toString n : String) → vx_Note p l e R s m args below meth c H locs cells slots Q (F0 m pc ls rest) "java/lang/ArrayIndexOutOfBoundsException" tx) : W p l e R s m args below meth c H locs cells slots Q (F0 m pc ls (.double x :: .int i :: .ref a :: rest)) := by
  intro T hT X
  obtain ⟨t, st, q⟩ := k _ rfl T hT X
  refine ⟨t, ?_, q⟩
  have h1 := X.dastoreOut hexec (by rw [hT]; exact hP q0 _ ha) ((hK.2 t0 _ ht).1 n (fun j => .double (f j))) (j := i) (by show (i < 0 ∨ (arrV _ _ _).slots.size ≤ _); rw [arrV_size]; exact Classical.byContradiction hout) (g := F0 m pc ls (.double x :: .int i :: .ref a :: rest)) rfl (rest := rest) rfl (by rw [hb]; exact hdg) t
  simp only [arrV_size] at h1
  exact h1 st
theorem vx_arraylengthN (hexec : p.tables.exec = Jvm.exec) (hb : c.code = cc) (hdg : decode cc pc = .ok (.arraylength, 1)) (k : vx_NoteN p l e R s m args below meth c H locs cells slots Q (F0 m pc ls rest)) : W p l e R s m args below meth c H locs cells slots Q (F0 m pc ls (.null :: rest)) := by
  intro T hT X
  obtain ⟨t, st, q⟩ := k T hT X
  exact ⟨t, X.arraylengthNull hexec (g := F0 m pc ls (.null :: rest)) rfl (rest := rest) rfl (by rw [hb]; exact hdg) t st, q⟩
theorem vx_ialoadN (hexec : p.tables.exec = Jvm.exec) (hb : c.code = cc) {i : Int32} (hdg : decode cc pc = .ok (.iaload, 1)) (k : vx_NoteN p l e R s m args below meth c H locs cells slots Q (F0 m pc ls rest)) : W p l e R s m args below meth c H locs cells slots Q (F0 m pc ls (.int i :: .null :: rest)) := by
  intro T hT X
  obtain ⟨t, st, q⟩ := k T hT X
  exact ⟨t, X.ialoadNull hexec (g := F0 m pc ls (.int i :: .null :: rest)) rfl (rest := rest) rfl (by rw [hb]; exact hdg) t st, q⟩
theorem vx_laloadN (hexec : p.tables.exec = Jvm.exec) (hb : c.code = cc) {i : Int32} (hdg : decode cc pc = .ok (.laload, 1)) (k : vx_NoteN p l e R s m args below meth c H locs cells slots Q (F0 m pc ls rest)) : W p l e R s m args below meth c H locs cells slots Q (F0 m pc ls (.int i :: .null :: rest)) := by
  intro T hT X
  obtain ⟨t, st, q⟩ := k T hT X
  exact ⟨t, X.laloadNull hexec (g := F0 m pc ls (.int i :: .null :: rest)) rfl (rest := rest) rfl (by rw [hb]; exact hdg) t st, q⟩
theorem vx_faloadN (hexec : p.tables.exec = Jvm.exec) (hb : c.code = cc) {i : Int32} (hdg : decode cc pc = .ok (.faload, 1)) (k : vx_NoteN p l e R s m args below meth c H locs cells slots Q (F0 m pc ls rest)) : W p l e R s m args below meth c H locs cells slots Q (F0 m pc ls (.int i :: .null :: rest)) := by
  intro T hT X
  obtain ⟨t, st, q⟩ := k T hT X
  exact ⟨t, X.faloadNull hexec (g := F0 m pc ls (.int i :: .null :: rest)) rfl (rest := rest) rfl (by rw [hb]; exact hdg) t st, q⟩
theorem vx_daloadN (hexec : p.tables.exec = Jvm.exec) (hb : c.code = cc) {i : Int32} (hdg : decode cc pc = .ok (.daload, 1)) (k : vx_NoteN p l e R s m args below meth c H locs cells slots Q (F0 m pc ls rest)) : W p l e R s m args below meth c H locs cells slots Q (F0 m pc ls (.int i :: .null :: rest)) := by
  intro T hT X
  obtain ⟨t, st, q⟩ := k T hT X
  exact ⟨t, X.daloadNull hexec (g := F0 m pc ls (.int i :: .null :: rest)) rfl (rest := rest) rfl (by rw [hb]; exact hdg) t st, q⟩
theorem vx_aaloadN (hexec : p.tables.exec = Jvm.exec) (hb : c.code = cc) {i : Int32} (hdg : decode cc pc = .ok (.aaload, 1)) (k : vx_NoteN p l e R s m args below meth c H locs cells slots Q (F0 m pc ls rest)) : W p l e R s m args below meth c H locs cells slots Q (F0 m pc ls (.int i :: .null :: rest)) := by
  intro T hT X
  obtain ⟨t, st, q⟩ := k T hT X
  exact ⟨t, X.aaloadNull hexec (g := F0 m pc ls (.int i :: .null :: rest)) rfl (rest := rest) rfl (by rw [hb]; exact hdg) t st, q⟩
theorem vx_baloadN (hexec : p.tables.exec = Jvm.exec) (hb : c.code = cc) {i : Int32} (hdg : decode cc pc = .ok (.baload, 1)) (k : vx_NoteN p l e R s m args below meth c H locs cells slots Q (F0 m pc ls rest)) : W p l e R s m args below meth c H locs cells slots Q (F0 m pc ls (.int i :: .null :: rest)) := by
  intro T hT X
  obtain ⟨t, st, q⟩ := k T hT X
  exact ⟨t, X.baloadNull hexec (g := F0 m pc ls (.int i :: .null :: rest)) rfl (rest := rest) rfl (by rw [hb]; exact hdg) t st, q⟩
theorem vx_caloadN (hexec : p.tables.exec = Jvm.exec) (hb : c.code = cc) {i : Int32} (hdg : decode cc pc = .ok (.caload, 1)) (k : vx_NoteN p l e R s m args below meth c H locs cells slots Q (F0 m pc ls rest)) : W p l e R s m args below meth c H locs cells slots Q (F0 m pc ls (.int i :: .null :: rest)) := by
  intro T hT X
  obtain ⟨t, st, q⟩ := k T hT X
  exact ⟨t, X.caloadNull hexec (g := F0 m pc ls (.int i :: .null :: rest)) rfl (rest := rest) rfl (by rw [hb]; exact hdg) t st, q⟩
theorem vx_saloadN (hexec : p.tables.exec = Jvm.exec) (hb : c.code = cc) {i : Int32} (hdg : decode cc pc = .ok (.saload, 1)) (k : vx_NoteN p l e R s m args below meth c H locs cells slots Q (F0 m pc ls rest)) : W p l e R s m args below meth c H locs cells slots Q (F0 m pc ls (.int i :: .null :: rest)) := by
  intro T hT X
  obtain ⟨t, st, q⟩ := k T hT X
  exact ⟨t, X.saloadNull hexec (g := F0 m pc ls (.int i :: .null :: rest)) rfl (rest := rest) rfl (by rw [hb]; exact hdg) t st, q⟩
theorem vx_iastoreN (hexec : p.tables.exec = Jvm.exec) (hb : c.code = cc) {x : Int32} {i : Int32} (hdg : decode cc pc = .ok (.iastore, 1)) (k : vx_NoteN p l e R s m args below meth c H locs cells slots Q (F0 m pc ls rest)) : W p l e R s m args below meth c H locs cells slots Q (F0 m pc ls (.int x :: .int i :: .null :: rest)) := by
  intro T hT X
  obtain ⟨t, st, q⟩ := k T hT X
  exact ⟨t, X.iastoreNull hexec (g := F0 m pc ls (.int x :: .int i :: .null :: rest)) rfl (rest := rest) rfl (by rw [hb]; exact hdg) t st, q⟩
theorem vx_lastoreN (hexec : p.tables.exec = Jvm.exec) (hb : c.code = cc) {x : Int64} {i : Int32} (hdg : decode cc pc = .ok (.lastore, 1)) (k : vx_NoteN p l e R s m args below meth c H locs cells slots Q (F0 m pc ls rest)) : W p l e R s m args below meth c H locs cells slots Q (F0 m pc ls (.long x :: .int i :: .null :: rest)) := by
  intro T hT X
  obtain ⟨t, st, q⟩ := k T hT X
  exact ⟨t, X.lastoreNull hexec (g := F0 m pc ls (.long x :: .int i :: .null :: rest)) rfl (rest := rest) rfl (by rw [hb]; exact hdg) t st, q⟩
theorem vx_fastoreN (hexec : p.tables.exec = Jvm.exec) (hb : c.code = cc) {x : UInt32} {i : Int32} (hdg : decode cc pc = .ok (.fastore, 1)) (k : vx_NoteN p l e R s m args below meth c H locs cells slots Q (F0 m pc ls rest)) : W p l e R s m args below meth c H locs cells slots Q (F0 m pc ls (.float x :: .int i :: .null :: rest)) := by
  intro T hT X
  obtain ⟨t, st, q⟩ := k T hT X
  exact ⟨t, X.fastoreNull hexec (g := F0 m pc ls (.float x :: .int i :: .null :: rest)) rfl (rest := rest) rfl (by rw [hb]; exact hdg) t st, q⟩
theorem vx_dastoreN (hexec : p.tables.exec = Jvm.exec) (hb : c.code = cc) {x : UInt64} {i : Int32} (hdg : decode cc pc = .ok (.dastore, 1)) (k : vx_NoteN p l e R s m args below meth c H locs cells slots Q (F0 m pc ls rest)) : W p l e R s m args below meth c H locs cells slots Q (F0 m pc ls (.double x :: .int i :: .null :: rest)) := by
  intro T hT X
  obtain ⟨t, st, q⟩ := k T hT X
  exact ⟨t, X.dastoreNull hexec (g := F0 m pc ls (.double x :: .int i :: .null :: rest)) rfl (rest := rest) rfl (by rw [hb]; exact hdg) t st, q⟩
theorem vx_bastoreN (hexec : p.tables.exec = Jvm.exec) (hb : c.code = cc) {x : Int32} {i : Int32} (hdg : decode cc pc = .ok (.bastore, 1)) (k : vx_NoteN p l e R s m args below meth c H locs cells slots Q (F0 m pc ls rest)) : W p l e R s m args below meth c H locs cells slots Q (F0 m pc ls (.int x :: .int i :: .null :: rest)) := by
  intro T hT X
  obtain ⟨t, st, q⟩ := k T hT X
  exact ⟨t, X.bastoreNull hexec (g := F0 m pc ls (.int x :: .int i :: .null :: rest)) rfl (rest := rest) rfl (by rw [hb]; exact hdg) t st, q⟩
theorem vx_castoreN (hexec : p.tables.exec = Jvm.exec) (hb : c.code = cc) {x : Int32} {i : Int32} (hdg : decode cc pc = .ok (.castore, 1)) (k : vx_NoteN p l e R s m args below meth c H locs cells slots Q (F0 m pc ls rest)) : W p l e R s m args below meth c H locs cells slots Q (F0 m pc ls (.int x :: .int i :: .null :: rest)) := by
  intro T hT X
  obtain ⟨t, st, q⟩ := k T hT X
  exact ⟨t, X.castoreNull hexec (g := F0 m pc ls (.int x :: .int i :: .null :: rest)) rfl (rest := rest) rfl (by rw [hb]; exact hdg) t st, q⟩
theorem vx_sastoreN (hexec : p.tables.exec = Jvm.exec) (hb : c.code = cc) {x : Int32} {i : Int32} (hdg : decode cc pc = .ok (.sastore, 1)) (k : vx_NoteN p l e R s m args below meth c H locs cells slots Q (F0 m pc ls rest)) : W p l e R s m args below meth c H locs cells slots Q (F0 m pc ls (.int x :: .int i :: .null :: rest)) := by
  intro T hT X
  obtain ⟨t, st, q⟩ := k T hT X
  exact ⟨t, X.sastoreNull hexec (g := F0 m pc ls (.int x :: .int i :: .null :: rest)) rfl (rest := rest) rfl (by rw [hb]; exact hdg) t st, q⟩
theorem vx_invokeN {own C : String} {index maxL : Nat} {y : MethodName} {bytes : ByteArray} {ret : Option FieldType} (hexec : p.tables.exec = Jvm.exec) (hb : c.code = cc) (hown : s.vm.findClass own = some m.cls) (hlink : (Cond.methodLink own index y).before args s = true) (hinst : (Cond.instanceMethod y).before args s = true) (hcode : (Cond.code y bytes maxL ret).before args s = true) (hsel : (Cond.selects C y y).before args s = true)
    (hx : y.cls ≠ "java/lang/invoke/MethodHandle" ∧ y.cls ≠ "java/lang/invoke/VarHandle") {As : List Value} (hlen : (parseMethodDescriptor y.desc).map (fun d => d.parameters.length) = some As.length) (hdg : decode cc pc = .ok (.invokevirtual index, 3))
    (k : vx_NoteN p l e R s m args below meth c H locs cells slots Q (F0 m pc ls rest)) {st0 : List Value} (hst : st0 = As.reverse ++ .null :: rest) : W p l e R s m args below meth c H locs cells slots Q (F0 m pc ls st0) := by
  intro T hT X
  obtain ⟨r0, r, hn, hrm, hstR, hsigR⟩ := va_Decl.of hinst hcode
  obtain ⟨c2, r2, m2, q1, q2, q3, q4, kP, hkP, hkPi⟩ := Cond.selects_spec hsel
  cases hn.symm.trans q3
  have hl9 : As.length = r.sig.parameters.length := by
    rw [hsigR] at hlen
    exact (Option.some.inj hlen).symm
  obtain ⟨vm', X1, st1⟩ := X.invokevirtualNull hexec hown hlink hn hrm hstR hkP hkPi hx (g := F0 m pc ls st0) rfl (argsL := As) (rest := rest) hl9 hst (by rw [hb]; exact hdg)
  obtain ⟨t, st, q⟩ := k (T.setVm vm') hT X1
  exact ⟨t, st1 t st, q⟩
theorem vx_newarrayZ {atype : ArrayType} (hexec : p.tables.exec = Jvm.exec) (hb : c.code = cc) {n : Int32} (h0 : n < 0) (hdg : decode cc pc = .ok (.newarray atype, 2)) (k : ∀ tx : String, tx = toString n → vx_Note p l e R s m args below meth c H locs cells slots Q (F0 m pc ls rest) "java/lang/NegativeArraySizeException" tx) : W p l e R s m args below meth c H locs cells slots Q (F0 m pc ls (.int n :: rest)) := by
  intro T hT X
  obtain ⟨t, st, q⟩ := k _ rfl T hT X
  exact ⟨t, X.newarrayNegative hexec (g := F0 m pc ls (.int n :: rest)) rfl h0 (rest := rest) rfl (by rw [hb]; exact hdg) t st, q⟩
end
end VXM
/-! ===== END ===== -/
end
section
def RX0 : String := "LeaseServer$Addresses"
def TX0 : u_T := fun k => match k with
  | 0 => ("LeaseServer$Addresses", "excluded", "[Z", true)
  | 1 => ("LeaseServer$Addresses", "stranger", "[Z", true)
  | 2 => ("LeaseServer$Addresses", "state", "[I", true)
  | 3 => ("LeaseServer$Addresses", "holder", "[I", true)
  | 4 => ("LeaseServer$Addresses", "end", "[I", true)
  | _ => ("LeaseServer$Addresses", "freed", "[I", true)
def tyX0 : Nat → FieldType := fun k => match k with
  | 0 => .array .boolean
  | 1 => .array .boolean
  | 2 => .array .int
  | 3 => .array .int
  | 4 => .array .int
  | _ => .array .int
abbrev wsX00 : List Cond := u_ws RX0 TX0 6
theorem nmX0 : ∀ a, a < 6 → ∀ b, b < 6 → a ≠ b → (TX0 a).2.1 ≠ (TX0 b).2.1 := by decide +kernel
theorem tyX0_ok : ∀ k, k < 6 → parseFieldDescriptor (TX0 k).2.2.1 = some (tyX0 k) := by decide +kernel
abbrev cX0_init : ByteArray := prog_2_method_1_code
def yX0_init : MethodName := ⟨RX0, "<init>", "()V"⟩
abbrev cX0_makeFresh : ByteArray := prog_2_method_2_code
def yX0_makeFresh : MethodName := ⟨RX0, "makeFresh", "(II)V"⟩
abbrev cX0_becomeFree : ByteArray := prog_2_method_3_code
def yX0_becomeFree : MethodName := ⟨RX0, "becomeFree", "(II)V"⟩
abbrev cX0_becomeHeld : ByteArray := prog_2_method_4_code
def yX0_becomeHeld : MethodName := ⟨RX0, "becomeHeld", "(IIII)V"⟩
abbrev cX0_becomeDeclined : ByteArray := prog_2_method_5_code
def yX0_becomeDeclined : MethodName := ⟨RX0, "becomeDeclined", "(II)V"⟩
abbrev cX0_isOfferable : ByteArray := prog_2_method_6_code
def yX0_isOfferable : MethodName := ⟨RX0, "isOfferable", "(I)Z"⟩
abbrev cX0_isFreeLonger : ByteArray := prog_2_method_7_code
def yX0_isFreeLonger : MethodName := ⟨RX0, "isFreeLonger", "(II)Z"⟩
abbrev cX0_countIn : ByteArray := prog_2_method_8_code
def yX0_countIn : MethodName := ⟨RX0, "countIn", "(III)I"⟩
abbrev cX0_countOfferable : ByteArray := prog_2_method_9_code
def yX0_countOfferable : MethodName := ⟨RX0, "countOfferable", "(II)I"⟩
abbrev cX0_earliestQuarantineEnd : ByteArray := prog_2_method_10_code
def yX0_earliestQuarantineEnd : MethodName := ⟨RX0, "earliestQuarantineEnd", "()I"⟩
abbrev cX0_copyFrom : ByteArray := prog_2_method_11_code
def yX0_copyFrom : MethodName := ⟨RX0, "copyFrom", "(LLeaseServer$Addresses;)V"⟩
def RX1 : String := "LeaseServer$Clients"
def TX1 : u_T := fun k => match k with
  | 0 => ("LeaseServer$Clients", "state", "[I", true)
  | 1 => ("LeaseServer$Clients", "address", "[I", true)
  | 2 => ("LeaseServer$Clients", "lastLeased", "[I", true)
  | 3 => ("LeaseServer$Clients", "renewal", "[I", true)
  | _ => ("LeaseServer$Clients", "rebinding", "[I", true)
def tyX1 : Nat → FieldType := fun k => match k with
  | 0 => .array .int
  | 1 => .array .int
  | 2 => .array .int
  | 3 => .array .int
  | _ => .array .int
abbrev wsX10 : List Cond := u_ws RX1 TX1 5
theorem nmX1 : ∀ a, a < 5 → ∀ b, b < 5 → a ≠ b → (TX1 a).2.1 ≠ (TX1 b).2.1 := by decide +kernel
theorem tyX1_ok : ∀ k, k < 5 → parseFieldDescriptor (TX1 k).2.2.1 = some (tyX1 k) := by decide +kernel
abbrev cX1_init : ByteArray := prog_3_method_1_code
def yX1_init : MethodName := ⟨RX1, "<init>", "()V"⟩
abbrev cX1_isBound : ByteArray := prog_3_method_2_code
def yX1_isBound : MethodName := ⟨RX1, "isBound", "(I)Z"⟩
abbrev cX1_countBound : ByteArray := prog_3_method_3_code
def yX1_countBound : MethodName := ⟨RX1, "countBound", "()I"⟩
abbrev cX1_becomeIdle : ByteArray := prog_3_method_4_code
def yX1_becomeIdle : MethodName := ⟨RX1, "becomeIdle", "(I)V"⟩
abbrev cX1_takeOffer : ByteArray := prog_3_method_5_code
def yX1_takeOffer : MethodName := ⟨RX1, "takeOffer", "(II)V"⟩
abbrev cX1_takeLease : ByteArray := prog_3_method_6_code
def yX1_takeLease : MethodName := ⟨RX1, "takeLease", "(III)V"⟩
abbrev cX1_copyFrom : ByteArray := prog_3_method_7_code
def yX1_copyFrom : MethodName := ⟨RX1, "copyFrom", "(LLeaseServer$Clients;)V"⟩
def RX2 : String := "LeaseServer$Log"
def TX2 : u_T := fun k => match k with
  | 0 => ("LeaseServer$Log", "ring", "[I", true)
  | 1 => ("LeaseServer$Log", "size", "I", false)
  | _ => ("LeaseServer$Log", "next", "I", false)
def tyX2 : Nat → FieldType := fun k => match k with
  | 0 => .array .int
  | 1 => .int
  | _ => .int
abbrev wsX20 : List Cond := u_ws RX2 TX2 3
theorem nmX2 : ∀ a, a < 3 → ∀ b, b < 3 → a ≠ b → (TX2 a).2.1 ≠ (TX2 b).2.1 := by decide +kernel
theorem tyX2_ok : ∀ k, k < 3 → parseFieldDescriptor (TX2 k).2.2.1 = some (tyX2 k) := by decide +kernel
abbrev cX2_init : ByteArray := prog_4_method_1_code
def yX2_init : MethodName := ⟨RX2, "<init>", "()V"⟩
abbrev cX2_write : ByteArray := prog_4_method_2_code
def yX2_write : MethodName := ⟨RX2, "write", "(II)V"⟩
abbrev cX2_read : ByteArray := prog_4_method_3_code
def yX2_read : MethodName := ⟨RX2, "read", "(I)I"⟩
def RX3 : String := "LeaseServer$Pools"
def TX3 : u_T := fun k => match k with
  | 0 => ("LeaseServer$Pools", "count", "I", false)
  | 1 => ("LeaseServer$Pools", "group", "[I", true)
  | 2 => ("LeaseServer$Pools", "first", "[I", true)
  | 3 => ("LeaseServer$Pools", "last", "[I", true)
  | _ => ("LeaseServer$Pools", "lease", "[I", true)
def tyX3 : Nat → FieldType := fun k => match k with
  | 0 => .int
  | 1 => .array .int
  | 2 => .array .int
  | 3 => .array .int
  | _ => .array .int
abbrev wsX30 : List Cond := u_ws RX3 TX3 5
theorem nmX3 : ∀ a, a < 5 → ∀ b, b < 5 → a ≠ b → (TX3 a).2.1 ≠ (TX3 b).2.1 := by decide +kernel
theorem tyX3_ok : ∀ k, k < 5 → parseFieldDescriptor (TX3 k).2.2.1 = some (tyX3 k) := by decide +kernel
abbrev cX3_init : ByteArray := prog_5_method_1_code
def yX3_init : MethodName := ⟨RX3, "<init>", "()V"⟩
abbrev cX3_isPool : ByteArray := prog_5_method_2_code
def yX3_isPool : MethodName := ⟨RX3, "isPool", "(I)Z"⟩
abbrev cX3_numberAt : ByteArray := prog_5_method_3_code
def yX3_numberAt : MethodName := ⟨RX3, "numberAt", "(I)I"⟩
abbrev cX3_groupAt : ByteArray := prog_5_method_4_code
def yX3_groupAt : MethodName := ⟨RX3, "groupAt", "(I)I"⟩
abbrev cX3_leaseAt : ByteArray := prog_5_method_5_code
def yX3_leaseAt : MethodName := ⟨RX3, "leaseAt", "(I)I"⟩
abbrev cX3_overlap : ByteArray := prog_5_method_6_code
def yX3_overlap : MethodName := ⟨RX3, "overlap", "(II)Z"⟩
abbrev cX3_countAddresses : ByteArray := prog_5_method_7_code
def yX3_countAddresses : MethodName := ⟨RX3, "countAddresses", "(I)I"⟩
abbrev cX3_append : ByteArray := prog_5_method_8_code
def yX3_append : MethodName := ⟨RX3, "append", "(IIII)I"⟩
abbrev cX3_drop : ByteArray := prog_5_method_9_code
def yX3_drop : MethodName := ⟨RX3, "drop", "(I)I"⟩
abbrev cX3_copyFrom : ByteArray := prog_5_method_10_code
def yX3_copyFrom : MethodName := ⟨RX3, "copyFrom", "(LLeaseServer$Pools;)V"⟩
def RX4 : String := "LeaseServer$Settings"
def TX4 : u_T := fun k => match k with
  | 0 => ("LeaseServer$Settings", "time", "I", false)
  | 1 => ("LeaseServer$Settings", "hold", "I", false)
  | 2 => ("LeaseServer$Settings", "quarantine", "I", false)
  | 3 => ("LeaseServer$Settings", "conflicts", "I", false)
  | 4 => ("LeaseServer$Settings", "direct", "[Z", true)
  | _ => ("LeaseServer$Settings", "relay", "[Z", true)
def tyX4 : Nat → FieldType := fun k => match k with
  | 0 => .int
  | 1 => .int
  | 2 => .int
  | 3 => .int
  | 4 => .array .boolean
  | _ => .array .boolean
abbrev wsX40 : List Cond := u_ws RX4 TX4 6
theorem nmX4 : ∀ a, a < 6 → ∀ b, b < 6 → a ≠ b → (TX4 a).2.1 ≠ (TX4 b).2.1 := by decide +kernel
theorem tyX4_ok : ∀ k, k < 6 → parseFieldDescriptor (TX4 k).2.2.1 = some (tyX4 k) := by decide +kernel
abbrev cX4_init : ByteArray := prog_6_method_1_code
def yX4_init : MethodName := ⟨RX4, "<init>", "()V"⟩
abbrev cX4_copyFrom : ByteArray := prog_6_method_2_code
def yX4_copyFrom : MethodName := ⟨RX4, "copyFrom", "(LLeaseServer$Settings;)V"⟩
def RX5 : String := "LeaseServer$State"
def TX5 : u_T := fun k => match k with
  | 0 => ("LeaseServer$State", "pools", "LLeaseServer$Pools;", true)
  | 1 => ("LeaseServer$State", "addresses", "LLeaseServer$Addresses;", true)
  | 2 => ("LeaseServer$State", "clients", "LLeaseServer$Clients;", true)
  | 3 => ("LeaseServer$State", "settings", "LLeaseServer$Settings;", true)
  | _ => ("LeaseServer$State", "log", "LLeaseServer$Log;", true)
def tyX5 : Nat → FieldType := fun k => match k with
  | 0 => .object "LeaseServer$Pools"
  | 1 => .object "LeaseServer$Addresses"
  | 2 => .object "LeaseServer$Clients"
  | 3 => .object "LeaseServer$Settings"
  | _ => .object "LeaseServer$Log"
abbrev wsX50 : List Cond := u_ws RX5 TX5 5
theorem nmX5 : ∀ a, a < 5 → ∀ b, b < 5 → a ≠ b → (TX5 a).2.1 ≠ (TX5 b).2.1 := by decide +kernel
theorem tyX5_ok : ∀ k, k < 5 → parseFieldDescriptor (TX5 k).2.2.1 = some (tyX5 k) := by decide +kernel
abbrev cX5_init : ByteArray := prog_7_method_1_code
def yX5_init : MethodName := ⟨RX5, "<init>", "(LLeaseServer$Log;)V"⟩
abbrev cX5_copyFrom : ByteArray := prog_7_method_2_code
def yX5_copyFrom : MethodName := ⟨RX5, "copyFrom", "(LLeaseServer$State;)V"⟩
abbrev cX5_directUpFor : ByteArray := prog_7_method_3_code
def yX5_directUpFor : MethodName := ⟨RX5, "directUpFor", "(I)Z"⟩
abbrev cX5_relayUpFor : ByteArray := prog_7_method_4_code
def yX5_relayUpFor : MethodName := ⟨RX5, "relayUpFor", "(I)Z"⟩
abbrev cX5_groupOfClient : ByteArray := prog_7_method_5_code
def yX5_groupOfClient : MethodName := ⟨RX5, "groupOfClient", "(I)I"⟩
abbrev cX5_leaseEnd : ByteArray := prog_7_method_6_code
def yX5_leaseEnd : MethodName := ⟨RX5, "leaseEnd", "(I)I"⟩
abbrev cX5_countInGroup : ByteArray := prog_7_method_7_code
def yX5_countInGroup : MethodName := ⟨RX5, "countInGroup", "(II)I"⟩
abbrev cX5_sumOfRests : ByteArray := prog_7_method_8_code
def yX5_sumOfRests : MethodName := ⟨RX5, "sumOfRests", "()I"⟩
abbrev cX5_firstCandidate : ByteArray := prog_7_method_9_code
def yX5_firstCandidate : MethodName := ⟨RX5, "firstCandidate", "(III)I"⟩
abbrev cX5_isCandidate : ByteArray := prog_7_method_10_code
def yX5_isCandidate : MethodName := ⟨RX5, "isCandidate", "(II)Z"⟩
abbrev cX5_longestFree : ByteArray := prog_7_method_11_code
def yX5_longestFree : MethodName := ⟨RX5, "longestFree", "(I)I"⟩
abbrev cX5_longestFreeIn : ByteArray := prog_7_method_12_code
def yX5_longestFreeIn : MethodName := ⟨RX5, "longestFreeIn", "(III)I"⟩
abbrev cX5_makeOffer : ByteArray := prog_7_method_13_code
def yX5_makeOffer : MethodName := ⟨RX5, "makeOffer", "(III)I"⟩
abbrev cX5_holdFor : ByteArray := prog_7_method_14_code
def yX5_holdFor : MethodName := ⟨RX5, "holdFor", "(II)V"⟩
abbrev cX5_findConflict : ByteArray := prog_7_method_15_code
def yX5_findConflict : MethodName := ⟨RX5, "findConflict", "(I)V"⟩
abbrev cX5_beginLease : ByteArray := prog_7_method_16_code
def yX5_beginLease : MethodName := ⟨RX5, "beginLease", "(I)V"⟩
abbrev cX5_startTerm : ByteArray := prog_7_method_17_code
def yX5_startTerm : MethodName := ⟨RX5, "startTerm", "(I)V"⟩
abbrev cX5_endHolding : ByteArray := prog_7_method_18_code
def yX5_endHolding : MethodName := ⟨RX5, "endHolding", "(I)V"⟩
abbrev cX5_declineLease : ByteArray := prog_7_method_19_code
def yX5_declineLease : MethodName := ⟨RX5, "declineLease", "(I)V"⟩
abbrev cX5_renewOrRefuse : ByteArray := prog_7_method_20_code
def yX5_renewOrRefuse : MethodName := ⟨RX5, "renewOrRefuse", "(I)Z"⟩
abbrev cX5_earliestEvent : ByteArray := prog_7_method_21_code
def yX5_earliestEvent : MethodName := ⟨RX5, "earliestEvent", "()I"⟩
abbrev cX5_earliestEventOfClients : ByteArray := prog_7_method_22_code
def yX5_earliestEventOfClients : MethodName := ⟨RX5, "earliestEventOfClients", "()I"⟩
abbrev cX5_eventOfClient : ByteArray := prog_7_method_23_code
def yX5_eventOfClient : MethodName := ⟨RX5, "eventOfClient", "(I)I"⟩
abbrev cX5_passTimeTo : ByteArray := prog_7_method_24_code
def yX5_passTimeTo : MethodName := ⟨RX5, "passTimeTo", "(I)I"⟩
abbrev cX5_carryOut : ByteArray := prog_7_method_25_code
def yX5_carryOut : MethodName := ⟨RX5, "carryOut", "(I)V"⟩
abbrev cX5_carryOutForHolder : ByteArray := prog_7_method_26_code
def yX5_carryOutForHolder : MethodName := ⟨RX5, "carryOutForHolder", "(III)V"⟩
abbrev cX5_renewOrTurn : ByteArray := prog_7_method_27_code
def yX5_renewOrTurn : MethodName := ⟨RX5, "renewOrTurn", "(IZI)V"⟩
def RX6 : String := "LeaseServer"
def TX6 : u_T := fun k => match k with
  | 0 => ("LeaseServer", "entries", "LLeaseServer$Log;", true)
  | 1 => ("LeaseServer", "state", "LLeaseServer$State;", true)
  | 2 => ("LeaseServer", "saved", "LLeaseServer$State;", true)
  | _ => ("LeaseServer", "somethingSaved", "Z", false)
def tyX6 : Nat → FieldType := fun k => match k with
  | 0 => .object "LeaseServer$Log"
  | 1 => .object "LeaseServer$State"
  | 2 => .object "LeaseServer$State"
  | _ => .boolean
abbrev wsX60 : List Cond := u_ws RX6 TX6 4
theorem nmX6 : ∀ a, a < 4 → ∀ b, b < 4 → a ≠ b → (TX6 a).2.1 ≠ (TX6 b).2.1 := by decide +kernel
theorem tyX6_ok : ∀ k, k < 4 → parseFieldDescriptor (TX6 k).2.2.1 = some (tyX6 k) := by decide +kernel
abbrev cX6_init : ByteArray := prog_1_method_1_code
def yX6_init : MethodName := ⟨RX6, "<init>", "()V"⟩
abbrev cX6_addPool : ByteArray := prog_1_method_2_code
def yX6_addPool : MethodName := ⟨RX6, "addPool", "(IIII)I"⟩
abbrev cX6_removePool : ByteArray := prog_1_method_3_code
def yX6_removePool : MethodName := ⟨RX6, "removePool", "(I)I"⟩
abbrev cX6_poolCount : ByteArray := prog_1_method_4_code
def yX6_poolCount : MethodName := ⟨RX6, "poolCount", "()I"⟩
abbrev cX6_pool : ByteArray := prog_1_method_5_code
def yX6_pool : MethodName := ⟨RX6, "pool", "(II)I"⟩
abbrev cX6_poolOf : ByteArray := prog_1_method_6_code
def yX6_poolOf : MethodName := ⟨RX6, "poolOf", "(I)I"⟩
abbrev cX6_exclude : ByteArray := prog_1_method_7_code
def yX6_exclude : MethodName := ⟨RX6, "exclude", "(IZ)Z"⟩
abbrev cX6_setStranger : ByteArray := prog_1_method_8_code
def yX6_setStranger : MethodName := ⟨RX6, "setStranger", "(IZ)Z"⟩
abbrev cX6_setHold : ByteArray := prog_1_method_9_code
def yX6_setHold : MethodName := ⟨RX6, "setHold", "(I)I"⟩
abbrev cX6_setQuarantine : ByteArray := prog_1_method_10_code
def yX6_setQuarantine : MethodName := ⟨RX6, "setQuarantine", "(I)I"⟩
abbrev cX6_setDirect : ByteArray := prog_1_method_11_code
def yX6_setDirect : MethodName := ⟨RX6, "setDirect", "(IZ)Z"⟩
abbrev cX6_setRelay : ByteArray := prog_1_method_12_code
def yX6_setRelay : MethodName := ⟨RX6, "setRelay", "(IZ)Z"⟩
abbrev cX6_discover : ByteArray := prog_1_method_13_code
def yX6_discover : MethodName := ⟨RX6, "discover", "(III)I"⟩
abbrev cX6_accept : ByteArray := prog_1_method_14_code
def yX6_accept : MethodName := ⟨RX6, "accept", "(I)I"⟩
abbrev cX6_release : ByteArray := prog_1_method_15_code
def yX6_release : MethodName := ⟨RX6, "release", "(I)I"⟩
abbrev cX6_decline : ByteArray := prog_1_method_16_code
def yX6_decline : MethodName := ⟨RX6, "decline", "(I)I"⟩
abbrev cX6_renew : ByteArray := prog_1_method_17_code
def yX6_renew : MethodName := ⟨RX6, "renew", "(I)Z"⟩
abbrev cX6_advance : ByteArray := prog_1_method_18_code
def yX6_advance : MethodName := ⟨RX6, "advance", "(I)I"⟩
abbrev cX6_advanceToEvent : ByteArray := prog_1_method_19_code
def yX6_advanceToEvent : MethodName := ⟨RX6, "advanceToEvent", "()I"⟩
abbrev cX6_time : ByteArray := prog_1_method_20_code
def yX6_time : MethodName := ⟨RX6, "time", "()I"⟩
abbrev cX6_clientState : ByteArray := prog_1_method_21_code
def yX6_clientState : MethodName := ⟨RX6, "clientState", "(I)I"⟩
abbrev cX6_addressOf : ByteArray := prog_1_method_22_code
def yX6_addressOf : MethodName := ⟨RX6, "addressOf", "(I)I"⟩
abbrev cX6_remembered : ByteArray := prog_1_method_23_code
def yX6_remembered : MethodName := ⟨RX6, "remembered", "(I)I"⟩
abbrev cX6_timer : ByteArray := prog_1_method_24_code
def yX6_timer : MethodName := ⟨RX6, "timer", "(II)I"⟩
abbrev cX6_addressState : ByteArray := prog_1_method_25_code
def yX6_addressState : MethodName := ⟨RX6, "addressState", "(I)I"⟩
abbrev cX6_holder : ByteArray := prog_1_method_26_code
def yX6_holder : MethodName := ⟨RX6, "holder", "(I)I"⟩
abbrev cX6_until : ByteArray := prog_1_method_27_code
def yX6_until : MethodName := ⟨RX6, "until", "(I)I"⟩
abbrev cX6_freeSince : ByteArray := prog_1_method_28_code
def yX6_freeSince : MethodName := ⟨RX6, "freeSince", "(I)I"⟩
abbrev cX6_nextCandidate : ByteArray := prog_1_method_29_code
def yX6_nextCandidate : MethodName := ⟨RX6, "nextCandidate", "(II)I"⟩
abbrev cX6_countState : ByteArray := prog_1_method_30_code
def yX6_countState : MethodName := ⟨RX6, "countState", "(II)I"⟩
abbrev cX6_bound : ByteArray := prog_1_method_31_code
def yX6_bound : MethodName := ⟨RX6, "bound", "()I"⟩
abbrev cX6_conflicts : ByteArray := prog_1_method_32_code
def yX6_conflicts : MethodName := ⟨RX6, "conflicts", "()I"⟩
abbrev cX6_logSize : ByteArray := prog_1_method_33_code
def yX6_logSize : MethodName := ⟨RX6, "logSize", "()I"⟩
abbrev cX6_log : ByteArray := prog_1_method_34_code
def yX6_log : MethodName := ⟨RX6, "log", "(I)I"⟩
abbrev cX6_utilization : ByteArray := prog_1_method_35_code
def yX6_utilization : MethodName := ⟨RX6, "utilization", "(I)D"⟩
abbrev cX6_averageRest : ByteArray := prog_1_method_36_code
def yX6_averageRest : MethodName := ⟨RX6, "averageRest", "()F"⟩
abbrev cX6_save : ByteArray := prog_1_method_37_code
def yX6_save : MethodName := ⟨RX6, "save", "()I"⟩
abbrev cX6_restore : ByteArray := prog_1_method_38_code
def yX6_restore : MethodName := ⟨RX6, "restore", "()I"⟩
abbrev cX6_isAddress : ByteArray := prog_1_method_39_code
def yX6_isAddress : MethodName := ⟨RX6, "isAddress", "(I)Z"⟩
abbrev cX6_isClient : ByteArray := prog_1_method_40_code
def yX6_isClient : MethodName := ⟨RX6, "isClient", "(I)Z"⟩
abbrev cX6_isGroup : ByteArray := prog_1_method_41_code
def yX6_isGroup : MethodName := ⟨RX6, "isGroup", "(I)Z"⟩
abbrev cX6_requireAddress : ByteArray := prog_1_method_42_code
def yX6_requireAddress : MethodName := ⟨RX6, "requireAddress", "(I)V"⟩
abbrev cX6_requireClient : ByteArray := prog_1_method_43_code
def yX6_requireClient : MethodName := ⟨RX6, "requireClient", "(I)V"⟩
abbrev cX6_requireGroup : ByteArray := prog_1_method_44_code
def yX6_requireGroup : MethodName := ⟨RX6, "requireGroup", "(I)V"⟩
abbrev cX6_requirePool : ByteArray := prog_1_method_45_code
def yX6_requirePool : MethodName := ⟨RX6, "requirePool", "(I)V"⟩
abbrev cX6_requireInPool : ByteArray := prog_1_method_46_code
def yX6_requireInPool : MethodName := ⟨RX6, "requireInPool", "(I)V"⟩
abbrev cX6_requireBound : ByteArray := prog_1_method_47_code
def yX6_requireBound : MethodName := ⟨RX6, "requireBound", "(I)V"⟩
abbrev cX6_eventAt : ByteArray := prog_1_method_48_code
def yX6_eventAt : MethodName := ⟨RX6, "eventAt", "(III)I"⟩
abbrev cX6_timeOfEvent : ByteArray := prog_1_method_49_code
def yX6_timeOfEvent : MethodName := ⟨RX6, "timeOfEvent", "(I)I"⟩
abbrev cX6_kindOfEvent : ByteArray := prog_1_method_50_code
def yX6_kindOfEvent : MethodName := ⟨RX6, "kindOfEvent", "(I)I"⟩
abbrev cX6_addressOfEvent : ByteArray := prog_1_method_51_code
def yX6_addressOfEvent : MethodName := ⟨RX6, "addressOfEvent", "(I)I"⟩
abbrev cX6_copyNumbers : ByteArray := prog_1_method_52_code
def yX6_copyNumbers : MethodName := ⟨RX6, "copyNumbers", "([I[I)V"⟩
abbrev cX6_copyFlags : ByteArray := prog_1_method_53_code
def yX6_copyFlags : MethodName := ⟨RX6, "copyFlags", "([Z[Z)V"⟩
def RX7 : String := "LeaseServerModel"
def TX7 : u_T := fun k => match k with
  | 0 => ("LeaseServerModel", "thrown", "I", false)
  | 1 => ("LeaseServerModel", "now", "[I", true)
  | 2 => ("LeaseServerModel", "saved", "[I", true)
  | 3 => ("LeaseServerModel", "isSaved", "Z", false)
  | 4 => ("LeaseServerModel", "log", "[I", true)
  | _ => ("LeaseServerModel", "logged", "I", false)
def tyX7 : Nat → FieldType := fun k => match k with
  | 0 => .int
  | 1 => .array .int
  | 2 => .array .int
  | 3 => .boolean
  | 4 => .array .int
  | _ => .int
abbrev wsX70 : List Cond := u_ws RX7 TX7 6
theorem nmX7 : ∀ a, a < 6 → ∀ b, b < 6 → a ≠ b → (TX7 a).2.1 ≠ (TX7 b).2.1 := by decide +kernel
theorem tyX7_ok : ∀ k, k < 6 → parseFieldDescriptor (TX7 k).2.2.1 = some (tyX7 k) := by decide +kernel
abbrev cX7_init : ByteArray := prog_9_method_1_code
def yX7_init : MethodName := ⟨RX7, "<init>", "()V"⟩
abbrev cX7_thrown : ByteArray := prog_9_method_2_code
def yX7_thrown : MethodName := ⟨RX7, "thrown", "()I"⟩
abbrev cX7_in : ByteArray := prog_9_method_3_code
def yX7_in : MethodName := ⟨RX7, "in", "(III)Z"⟩
abbrev cX7_raises : ByteArray := prog_9_method_4_code
def yX7_raises : MethodName := ⟨RX7, "raises", "(I)I"⟩
abbrev cX7_isAddress : ByteArray := prog_9_method_5_code
def yX7_isAddress : MethodName := ⟨RX7, "isAddress", "(I)Z"⟩
abbrev cX7_isClient : ByteArray := prog_9_method_6_code
def yX7_isClient : MethodName := ⟨RX7, "isClient", "(I)Z"⟩
abbrev cX7_isGroup : ByteArray := prog_9_method_7_code
def yX7_isGroup : MethodName := ⟨RX7, "isGroup", "(I)Z"⟩
abbrev cX7_sets : ByteArray := prog_9_method_8_code
def yX7_sets : MethodName := ⟨RX7, "sets", "(II)I"⟩
abbrev cX7_logs : ByteArray := prog_9_method_9_code
def yX7_logs : MethodName := ⟨RX7, "logs", "(II)V"⟩
abbrev cX7_pool : ByteArray := prog_9_method_10_code
def yX7_pool : MethodName := ⟨RX7, "pool", "(I)I"⟩
abbrev cX7_owner : ByteArray := prog_9_method_11_code
def yX7_owner : MethodName := ⟨RX7, "owner", "(I)I"⟩
abbrev cX7_groupOf : ByteArray := prog_9_method_12_code
def yX7_groupOf : MethodName := ⟨RX7, "groupOf", "(I)I"⟩
abbrev cX7_addPool : ByteArray := prog_9_method_13_code
def yX7_addPool : MethodName := ⟨RX7, "addPool", "(IIII)I"⟩
abbrev cX7_isPool : ByteArray := prog_9_method_14_code
def yX7_isPool : MethodName := ⟨RX7, "isPool", "(I)Z"⟩
abbrev cX7_removePool : ByteArray := prog_9_method_15_code
def yX7_removePool : MethodName := ⟨RX7, "removePool", "(I)I"⟩
abbrev cX7_poolCount : ByteArray := prog_9_method_16_code
def yX7_poolCount : MethodName := ⟨RX7, "poolCount", "()I"⟩
abbrev cX7_isCandidate : ByteArray := prog_9_method_17_code
def yX7_isCandidate : MethodName := ⟨RX7, "isCandidate", "(II)Z"⟩
abbrev cX7_pool_ : ByteArray := prog_9_method_18_code
def yX7_pool_ : MethodName := ⟨RX7, "pool", "(II)I"⟩
abbrev cX7_poolOf : ByteArray := prog_9_method_19_code
def yX7_poolOf : MethodName := ⟨RX7, "poolOf", "(I)I"⟩
abbrev cX7_flips : ByteArray := prog_9_method_20_code
def yX7_flips : MethodName := ⟨RX7, "flips", "(ZIZ)Z"⟩
abbrev cX7_exclude : ByteArray := prog_9_method_21_code
def yX7_exclude : MethodName := ⟨RX7, "exclude", "(IZ)Z"⟩
abbrev cX7_setStranger : ByteArray := prog_9_method_22_code
def yX7_setStranger : MethodName := ⟨RX7, "setStranger", "(IZ)Z"⟩
abbrev cX7_setHold : ByteArray := prog_9_method_23_code
def yX7_setHold : MethodName := ⟨RX7, "setHold", "(I)I"⟩
abbrev cX7_setQuarantine : ByteArray := prog_9_method_24_code
def yX7_setQuarantine : MethodName := ⟨RX7, "setQuarantine", "(I)I"⟩
abbrev cX7_setDirect : ByteArray := prog_9_method_25_code
def yX7_setDirect : MethodName := ⟨RX7, "setDirect", "(IZ)Z"⟩
abbrev cX7_setRelay : ByteArray := prog_9_method_26_code
def yX7_setRelay : MethodName := ⟨RX7, "setRelay", "(IZ)Z"⟩
abbrev cX7_frees : ByteArray := prog_9_method_27_code
def yX7_frees : MethodName := ⟨RX7, "frees", "(II)V"⟩
abbrev cX7_declines : ByteArray := prog_9_method_28_code
def yX7_declines : MethodName := ⟨RX7, "declines", "(I)V"⟩
abbrev cX7_isBound : ByteArray := prog_9_method_29_code
def yX7_isBound : MethodName := ⟨RX7, "isBound", "(I)Z"⟩
abbrev cX7_candidate : ByteArray := prog_9_method_30_code
def yX7_candidate : MethodName := ⟨RX7, "candidate", "(III)I"⟩
abbrev cX7_discover : ByteArray := prog_9_method_31_code
def yX7_discover : MethodName := ⟨RX7, "discover", "(III)I"⟩
abbrev cX7_lasts : ByteArray := prog_9_method_32_code
def yX7_lasts : MethodName := ⟨RX7, "lasts", "(II)V"⟩
abbrev cX7_accept : ByteArray := prog_9_method_33_code
def yX7_accept : MethodName := ⟨RX7, "accept", "(I)I"⟩
abbrev cX7_lacksLease : ByteArray := prog_9_method_34_code
def yX7_lacksLease : MethodName := ⟨RX7, "lacksLease", "(I)I"⟩
abbrev cX7_release : ByteArray := prog_9_method_35_code
def yX7_release : MethodName := ⟨RX7, "release", "(I)I"⟩
abbrev cX7_decline : ByteArray := prog_9_method_36_code
def yX7_decline : MethodName := ⟨RX7, "decline", "(I)I"⟩
abbrev cX7_renews : ByteArray := prog_9_method_37_code
def yX7_renews : MethodName := ⟨RX7, "renews", "(II)Z"⟩
abbrev cX7_renew : ByteArray := prog_9_method_38_code
def yX7_renew : MethodName := ⟨RX7, "renew", "(I)Z"⟩
abbrev cX7_stateOf : ByteArray := prog_9_method_39_code
def yX7_stateOf : MethodName := ⟨RX7, "stateOf", "(I)I"⟩
abbrev cX7_due : ByteArray := prog_9_method_40_code
def yX7_due : MethodName := ⟨RX7, "due", "(I)I"⟩
abbrev cX7_kind : ByteArray := prog_9_method_41_code
def yX7_kind : MethodName := ⟨RX7, "kind", "(I)I"⟩
abbrev cX7_earliest : ByteArray := prog_9_method_42_code
def yX7_earliest : MethodName := ⟨RX7, "earliest", "()I"⟩
abbrev cX7_happens : ByteArray := prog_9_method_43_code
def yX7_happens : MethodName := ⟨RX7, "happens", "(II)V"⟩
abbrev cX7_happen : ByteArray := prog_9_method_44_code
def yX7_happen : MethodName := ⟨RX7, "happen", "(I)I"⟩
abbrev cX7_advance : ByteArray := prog_9_method_45_code
def yX7_advance : MethodName := ⟨RX7, "advance", "(I)I"⟩
abbrev cX7_advanceToEvent : ByteArray := prog_9_method_46_code
def yX7_advanceToEvent : MethodName := ⟨RX7, "advanceToEvent", "()I"⟩
abbrev cX7_time : ByteArray := prog_9_method_47_code
def yX7_time : MethodName := ⟨RX7, "time", "()I"⟩
abbrev cX7_clientState : ByteArray := prog_9_method_48_code
def yX7_clientState : MethodName := ⟨RX7, "clientState", "(I)I"⟩
abbrev cX7_addressOf : ByteArray := prog_9_method_49_code
def yX7_addressOf : MethodName := ⟨RX7, "addressOf", "(I)I"⟩
abbrev cX7_remembered : ByteArray := prog_9_method_50_code
def yX7_remembered : MethodName := ⟨RX7, "remembered", "(I)I"⟩
abbrev cX7_timer : ByteArray := prog_9_method_51_code
def yX7_timer : MethodName := ⟨RX7, "timer", "(II)I"⟩
abbrev cX7_lacks : ByteArray := prog_9_method_52_code
def yX7_lacks : MethodName := ⟨RX7, "lacks", "(I)I"⟩
abbrev cX7_addressState : ByteArray := prog_9_method_53_code
def yX7_addressState : MethodName := ⟨RX7, "addressState", "(I)I"⟩
abbrev cX7_holder : ByteArray := prog_9_method_54_code
def yX7_holder : MethodName := ⟨RX7, "holder", "(I)I"⟩
abbrev cX7_until : ByteArray := prog_9_method_55_code
def yX7_until : MethodName := ⟨RX7, "until", "(I)I"⟩
abbrev cX7_freeSince : ByteArray := prog_9_method_56_code
def yX7_freeSince : MethodName := ⟨RX7, "freeSince", "(I)I"⟩
abbrev cX7_nextCandidate : ByteArray := prog_9_method_57_code
def yX7_nextCandidate : MethodName := ⟨RX7, "nextCandidate", "(II)I"⟩
abbrev cX7_count : ByteArray := prog_9_method_58_code
def yX7_count : MethodName := ⟨RX7, "count", "(II)I"⟩
abbrev cX7_countState : ByteArray := prog_9_method_59_code
def yX7_countState : MethodName := ⟨RX7, "countState", "(II)I"⟩
abbrev cX7_boundOnes : ByteArray := prog_9_method_60_code
def yX7_boundOnes : MethodName := ⟨RX7, "boundOnes", "()I"⟩
abbrev cX7_bound : ByteArray := prog_9_method_61_code
def yX7_bound : MethodName := ⟨RX7, "bound", "()I"⟩
abbrev cX7_conflicts : ByteArray := prog_9_method_62_code
def yX7_conflicts : MethodName := ⟨RX7, "conflicts", "()I"⟩
abbrev cX7_logSize : ByteArray := prog_9_method_63_code
def yX7_logSize : MethodName := ⟨RX7, "logSize", "()I"⟩
abbrev cX7_log : ByteArray := prog_9_method_64_code
def yX7_log : MethodName := ⟨RX7, "log", "(I)I"⟩
abbrev cX7_utilization : ByteArray := prog_9_method_65_code
def yX7_utilization : MethodName := ⟨RX7, "utilization", "(I)D"⟩
abbrev cX7_averageRest : ByteArray := prog_9_method_66_code
def yX7_averageRest : MethodName := ⟨RX7, "averageRest", "()F"⟩
abbrev cX7_save : ByteArray := prog_9_method_67_code
def yX7_save : MethodName := ⟨RX7, "save", "()I"⟩
abbrev cX7_restore : ByteArray := prog_9_method_68_code
def yX7_restore : MethodName := ⟨RX7, "restore", "()I"⟩
def RJx145de : String := "java/io/Serializable"
def TJx145de : u_T := fun k => match k with
  | _ => ("", "", "", false)
def tyJx145de : Nat → FieldType := fun k => match k with
  | _ => .int
abbrev wsJx145de0 : List Cond := u_ws RJx145de TJx145de 0
theorem nmJx145de : ∀ a, a < 0 → ∀ b, b < 0 → a ≠ b → (TJx145de a).2.1 ≠ (TJx145de b).2.1 := by decide +kernel
theorem tyJx145de_ok : ∀ k, k < 0 → parseFieldDescriptor (TJx145de k).2.2.1 = some (tyJx145de k) := by decide +kernel
def RJx00060 : String := "java/lang/ArrayIndexOutOfBoundsException"
def TJx00060 : u_T := fun k => match k with
  | 0 => ("java/lang/Throwable", "backtrace", "Ljava/lang/Object;", false)
  | 1 => ("java/lang/Throwable", "detailMessage", "Ljava/lang/String;", false)
  | 2 => ("java/lang/Throwable", "cause", "Ljava/lang/Throwable;", false)
  | 3 => ("java/lang/Throwable", "stackTrace", "[Ljava/lang/StackTraceElement;", false)
  | 4 => ("java/lang/Throwable", "depth", "I", false)
  | _ => ("java/lang/Throwable", "suppressedExceptions", "Ljava/util/List;", false)
def tyJx00060 : Nat → FieldType := fun k => match k with
  | 0 => .object "java/lang/Object"
  | 1 => .object "java/lang/String"
  | 2 => .object "java/lang/Throwable"
  | 3 => .array (.object "java/lang/StackTraceElement")
  | 4 => .int
  | _ => .object "java/util/List"
abbrev wsJx000600 : List Cond := u_ws RJx00060 TJx00060 6
theorem nmJx00060 : ∀ a, a < 6 → ∀ b, b < 6 → a ≠ b → (TJx00060 a).2.1 ≠ (TJx00060 b).2.1 := by decide +kernel
theorem tyJx00060_ok : ∀ k, k < 6 → parseFieldDescriptor (TJx00060 k).2.2.1 = some (tyJx00060 k) := by decide +kernel
abbrev cJx00060_init_a7421 : ByteArray := prog_12_method_2_code
def yJx00060_init_a7421 : MethodName := ⟨RJx00060, "<init>", "(Ljava/lang/String;)V"⟩
def RJ9 : String := "java/lang/Math"
def TJ9 : u_T := fun k => match k with
  | _ => ("", "", "", false)
def tyJ9 : Nat → FieldType := fun k => match k with
  | _ => .int
abbrev wsJ90 : List Cond := u_ws RJ9 TJ9 0
theorem nmJ9 : ∀ a, a < 0 → ∀ b, b < 0 → a ≠ b → (TJ9 a).2.1 ≠ (TJ9 b).2.1 := by decide +kernel
theorem tyJ9_ok : ∀ k, k < 0 → parseFieldDescriptor (TJ9 k).2.2.1 = some (tyJ9 k) := by decide +kernel
abbrev cJ9_floorMod_7cf53 : ByteArray := prog_17_method_50_code
def yJ9_floorMod_7cf53 : MethodName := ⟨RJ9, "floorMod", "(II)I"⟩
abbrev cJ9_max_7cf53 : ByteArray := prog_17_method_65_code
def yJ9_max_7cf53 : MethodName := ⟨RJ9, "max", "(II)I"⟩
abbrev cJ9_min_7cf53 : ByteArray := prog_17_method_69_code
def yJ9_min_7cf53 : MethodName := ⟨RJ9, "min", "(II)I"⟩
def RJ0 : String := "java/lang/String"
def TJ0 : u_T := fun k => match k with
  | 0 => ("java/lang/String", "value", "[B", true)
  | _ => ("java/lang/String", "coder", "B", true)
def tyJ0 : Nat → FieldType := fun k => match k with
  | 0 => .array .byte
  | _ => .byte
abbrev wsJ00 : List Cond := u_ws RJ0 TJ0 2
theorem nmJ0 : ∀ a, a < 2 → ∀ b, b < 2 → a ≠ b → (TJ0 a).2.1 ≠ (TJ0 b).2.1 := by decide +kernel
theorem tyJ0_ok : ∀ k, k < 2 → parseFieldDescriptor (TJ0 k).2.2.1 = some (tyJ0 k) := by decide +kernel
def RJ10 : String := "java/lang/System"
def TJ10 : u_T := fun k => match k with
  | _ => ("", "", "", false)
def tyJ10 : Nat → FieldType := fun k => match k with
  | _ => .int
abbrev wsJ100 : List Cond := u_ws RJ10 TJ10 0
theorem nmJ10 : ∀ a, a < 0 → ∀ b, b < 0 → a ≠ b → (TJ10 a).2.1 ≠ (TJ10 b).2.1 := by decide +kernel
theorem tyJ10_ok : ∀ k, k < 0 → parseFieldDescriptor (TJ10 k).2.2.1 = some (tyJ10 k) := by decide +kernel
def RJ7 : String := "java/util/Arrays"
def TJ7 : u_T := fun k => match k with
  | _ => ("", "", "", false)
def tyJ7 : Nat → FieldType := fun k => match k with
  | _ => .int
abbrev wsJ70 : List Cond := u_ws RJ7 TJ7 0
theorem nmJ7 : ∀ a, a < 0 → ∀ b, b < 0 → a ≠ b → (TJ7 a).2.1 ≠ (TJ7 b).2.1 := by decide +kernel
theorem tyJ7_ok : ∀ k, k < 0 → parseFieldDescriptor (TJ7 k).2.2.1 = some (tyJ7 k) := by decide +kernel
abbrev cJ7_fill_53178 : ByteArray := prog_22_method_103_code
def yJ7_fill_53178 : MethodName := ⟨RJ7, "fill", "([II)V"⟩
def RL : String := "LeaseServerLaw"
abbrev cL_addPool : ByteArray := method_3_code
def yL_addPool : MethodName := ⟨RL, "addPool", "(LLeaseServer;IIII[J)I"⟩
abbrev cL_removePool : ByteArray := method_4_code
def yL_removePool : MethodName := ⟨RL, "removePool", "(LLeaseServer;I[J)I"⟩
abbrev cL_pool : ByteArray := method_5_code
def yL_pool : MethodName := ⟨RL, "pool", "(LLeaseServer;II[J)I"⟩
abbrev cL_poolOf : ByteArray := method_6_code
def yL_poolOf : MethodName := ⟨RL, "poolOf", "(LLeaseServer;I[J)I"⟩
abbrev cL_exclude : ByteArray := method_7_code
def yL_exclude : MethodName := ⟨RL, "exclude", "(LLeaseServer;IZ[J)I"⟩
abbrev cL_setStranger : ByteArray := method_8_code
def yL_setStranger : MethodName := ⟨RL, "setStranger", "(LLeaseServer;IZ[J)I"⟩
abbrev cL_setHold : ByteArray := method_9_code
def yL_setHold : MethodName := ⟨RL, "setHold", "(LLeaseServer;I[J)I"⟩
abbrev cL_setQuarantine : ByteArray := method_10_code
def yL_setQuarantine : MethodName := ⟨RL, "setQuarantine", "(LLeaseServer;I[J)I"⟩
abbrev cL_setDirect : ByteArray := method_11_code
def yL_setDirect : MethodName := ⟨RL, "setDirect", "(LLeaseServer;IZ[J)I"⟩
abbrev cL_setRelay : ByteArray := method_12_code
def yL_setRelay : MethodName := ⟨RL, "setRelay", "(LLeaseServer;IZ[J)I"⟩
abbrev cL_discover : ByteArray := method_13_code
def yL_discover : MethodName := ⟨RL, "discover", "(LLeaseServer;III[J)I"⟩
abbrev cL_accept : ByteArray := method_14_code
def yL_accept : MethodName := ⟨RL, "accept", "(LLeaseServer;I[J)I"⟩
abbrev cL_release : ByteArray := method_15_code
def yL_release : MethodName := ⟨RL, "release", "(LLeaseServer;I[J)I"⟩
abbrev cL_decline : ByteArray := method_16_code
def yL_decline : MethodName := ⟨RL, "decline", "(LLeaseServer;I[J)I"⟩
abbrev cL_renew : ByteArray := method_17_code
def yL_renew : MethodName := ⟨RL, "renew", "(LLeaseServer;I[J)I"⟩
abbrev cL_advance : ByteArray := method_18_code
def yL_advance : MethodName := ⟨RL, "advance", "(LLeaseServer;I[J)I"⟩
abbrev cL_advanceToEvent : ByteArray := method_19_code
def yL_advanceToEvent : MethodName := ⟨RL, "advanceToEvent", "(LLeaseServer;[J)I"⟩
abbrev cL_clientState : ByteArray := method_20_code
def yL_clientState : MethodName := ⟨RL, "clientState", "(LLeaseServer;I[J)I"⟩
abbrev cL_addressOf : ByteArray := method_21_code
def yL_addressOf : MethodName := ⟨RL, "addressOf", "(LLeaseServer;I[J)I"⟩
abbrev cL_remembered : ByteArray := method_22_code
def yL_remembered : MethodName := ⟨RL, "remembered", "(LLeaseServer;I[J)I"⟩
abbrev cL_timer : ByteArray := method_23_code
def yL_timer : MethodName := ⟨RL, "timer", "(LLeaseServer;II[J)I"⟩
abbrev cL_addressState : ByteArray := method_24_code
def yL_addressState : MethodName := ⟨RL, "addressState", "(LLeaseServer;I[J)I"⟩
abbrev cL_holder : ByteArray := method_25_code
def yL_holder : MethodName := ⟨RL, "holder", "(LLeaseServer;I[J)I"⟩
abbrev cL_until : ByteArray := method_26_code
def yL_until : MethodName := ⟨RL, "until", "(LLeaseServer;I[J)I"⟩
abbrev cL_freeSince : ByteArray := method_27_code
def yL_freeSince : MethodName := ⟨RL, "freeSince", "(LLeaseServer;I[J)I"⟩
abbrev cL_nextCandidate : ByteArray := method_28_code
def yL_nextCandidate : MethodName := ⟨RL, "nextCandidate", "(LLeaseServer;II[J)I"⟩
abbrev cL_countState : ByteArray := method_29_code
def yL_countState : MethodName := ⟨RL, "countState", "(LLeaseServer;II[J)I"⟩
abbrev cL_log : ByteArray := method_30_code
def yL_log : MethodName := ⟨RL, "log", "(LLeaseServer;I[J)I"⟩
abbrev cL_utilization : ByteArray := method_31_code
def yL_utilization : MethodName := ⟨RL, "utilization", "(LLeaseServer;I[D)I"⟩
abbrev cL_averageRest : ByteArray := method_32_code
def yL_averageRest : MethodName := ⟨RL, "averageRest", "(LLeaseServer;[D)I"⟩
abbrev cL_restore : ByteArray := method_33_code
def yL_restore : MethodName := ⟨RL, "restore", "(LLeaseServer;[J)I"⟩
abbrev cL_law : ByteArray := code
def yL_law : MethodName := ⟨RL, "law", "([I)Z"⟩
end
section
theorem dX0_init_0 : decode cX0_init 0 = .ok (.aload_n 0, 1) := by decide +kernel
theorem dX0_init_1 : decode cX0_init 1 = .ok (.invokespecial 3, 3) := by decide +kernel
theorem dX0_init_4 : decode cX0_init 4 = .ok (.aload_n 0, 1) := by decide +kernel
theorem dX0_init_5 : decode cX0_init 5 = .ok (.bipush 100, 2) := by decide +kernel
theorem dX0_init_7 : decode cX0_init 7 = .ok (.newarray .boolean, 2) := by decide +kernel
theorem dX0_init_9 : decode cX0_init 9 = .ok (.putfield 9, 3) := by decide +kernel
theorem dX0_init_12 : decode cX0_init 12 = .ok (.aload_n 0, 1) := by decide +kernel
theorem dX0_init_13 : decode cX0_init 13 = .ok (.bipush 100, 2) := by decide +kernel
theorem dX0_init_15 : decode cX0_init 15 = .ok (.newarray .boolean, 2) := by decide +kernel
theorem dX0_init_17 : decode cX0_init 17 = .ok (.putfield 15, 3) := by decide +kernel
theorem dX0_init_20 : decode cX0_init 20 = .ok (.aload_n 0, 1) := by decide +kernel
theorem dX0_init_21 : decode cX0_init 21 = .ok (.bipush 100, 2) := by decide +kernel
theorem dX0_init_23 : decode cX0_init 23 = .ok (.newarray .int, 2) := by decide +kernel
theorem dX0_init_25 : decode cX0_init 25 = .ok (.putfield 18, 3) := by decide +kernel
theorem dX0_init_28 : decode cX0_init 28 = .ok (.aload_n 0, 1) := by decide +kernel
theorem dX0_init_29 : decode cX0_init 29 = .ok (.bipush 100, 2) := by decide +kernel
theorem dX0_init_31 : decode cX0_init 31 = .ok (.newarray .int, 2) := by decide +kernel
theorem dX0_init_33 : decode cX0_init 33 = .ok (.putfield 22, 3) := by decide +kernel
theorem dX0_init_36 : decode cX0_init 36 = .ok (.aload_n 0, 1) := by decide +kernel
theorem dX0_init_37 : decode cX0_init 37 = .ok (.bipush 100, 2) := by decide +kernel
theorem dX0_init_39 : decode cX0_init 39 = .ok (.newarray .int, 2) := by decide +kernel
theorem dX0_init_41 : decode cX0_init 41 = .ok (.putfield 25, 3) := by decide +kernel
theorem dX0_init_44 : decode cX0_init 44 = .ok (.aload_n 0, 1) := by decide +kernel
theorem dX0_init_45 : decode cX0_init 45 = .ok (.bipush 100, 2) := by decide +kernel
theorem dX0_init_47 : decode cX0_init 47 = .ok (.newarray .int, 2) := by decide +kernel
theorem dX0_init_49 : decode cX0_init 49 = .ok (.putfield 28, 3) := by decide +kernel
theorem dX0_init_52 : decode cX0_init 52 = .ok (.aload_n 0, 1) := by decide +kernel
theorem dX0_init_53 : decode cX0_init 53 = .ok (.getfield 22, 3) := by decide +kernel
theorem dX0_init_56 : decode cX0_init 56 = .ok (.iconst (-1), 1) := by decide +kernel
theorem dX0_init_57 : decode cX0_init 57 = .ok (.invokestatic 31, 3) := by decide +kernel
theorem dX0_init_60 : decode cX0_init 60 = .ok (.aload_n 0, 1) := by decide +kernel
theorem dX0_init_61 : decode cX0_init 61 = .ok (.getfield 28, 3) := by decide +kernel
theorem dX0_init_64 : decode cX0_init 64 = .ok (.iconst (-1), 1) := by decide +kernel
theorem dX0_init_65 : decode cX0_init 65 = .ok (.invokestatic 31, 3) := by decide +kernel
theorem dX0_init_68 : decode cX0_init 68 = .ok (.return_, 1) := by decide +kernel
theorem dX0_makeFresh_0 : decode cX0_makeFresh 0 = .ok (.iload_n 1, 1) := by decide +kernel
theorem dX0_makeFresh_1 : decode cX0_makeFresh 1 = .ok (.iconst 0, 1) := by decide +kernel
theorem dX0_makeFresh_2 : decode cX0_makeFresh 2 = .ok (.invokestatic 37, 3) := by decide +kernel
theorem dX0_makeFresh_5 : decode cX0_makeFresh 5 = .ok (.istore_n 3, 1) := by decide +kernel
theorem dX0_makeFresh_6 : decode cX0_makeFresh 6 = .ok (.iload_n 3, 1) := by decide +kernel
theorem dX0_makeFresh_7 : decode cX0_makeFresh 7 = .ok (.bipush 100, 2) := by decide +kernel
theorem dX0_makeFresh_9 : decode cX0_makeFresh 9 = .ok (.if_icmp .ge 20, 3) := by decide +kernel
theorem dX0_makeFresh_12 : decode cX0_makeFresh 12 = .ok (.iload_n 3, 1) := by decide +kernel
theorem dX0_makeFresh_13 : decode cX0_makeFresh 13 = .ok (.iload_n 2, 1) := by decide +kernel
theorem dX0_makeFresh_14 : decode cX0_makeFresh 14 = .ok (.if_icmp .gt 15, 3) := by decide +kernel
theorem dX0_makeFresh_17 : decode cX0_makeFresh 17 = .ok (.aload_n 0, 1) := by decide +kernel
theorem dX0_makeFresh_18 : decode cX0_makeFresh 18 = .ok (.iload_n 3, 1) := by decide +kernel
theorem dX0_makeFresh_19 : decode cX0_makeFresh 19 = .ok (.iconst (-1), 1) := by decide +kernel
theorem dX0_makeFresh_20 : decode cX0_makeFresh 20 = .ok (.invokevirtual 43, 3) := by decide +kernel
theorem dX0_makeFresh_23 : decode cX0_makeFresh 23 = .ok (.iinc 3 1, 3) := by decide +kernel
theorem dX0_makeFresh_26 : decode cX0_makeFresh 26 = .ok (.goto (-20), 3) := by decide +kernel
theorem dX0_makeFresh_29 : decode cX0_makeFresh 29 = .ok (.return_, 1) := by decide +kernel
theorem dX0_becomeFree_0 : decode cX0_becomeFree 0 = .ok (.iload_n 1, 1) := by decide +kernel
theorem dX0_becomeFree_1 : decode cX0_becomeFree 1 = .ok (.invokestatic 47, 3) := by decide +kernel
theorem dX0_becomeFree_4 : decode cX0_becomeFree 4 = .ok (.ifCond .eq 24, 3) := by decide +kernel
theorem dX0_becomeFree_7 : decode cX0_becomeFree 7 = .ok (.aload_n 0, 1) := by decide +kernel
theorem dX0_becomeFree_8 : decode cX0_becomeFree 8 = .ok (.getfield 18, 3) := by decide +kernel
theorem dX0_becomeFree_11 : decode cX0_becomeFree 11 = .ok (.iload_n 1, 1) := by decide +kernel
theorem dX0_becomeFree_12 : decode cX0_becomeFree 12 = .ok (.iconst 0, 1) := by decide +kernel
theorem dX0_becomeFree_13 : decode cX0_becomeFree 13 = .ok (.iastore, 1) := by decide +kernel
theorem dX0_becomeFree_14 : decode cX0_becomeFree 14 = .ok (.aload_n 0, 1) := by decide +kernel
theorem dX0_becomeFree_15 : decode cX0_becomeFree 15 = .ok (.getfield 22, 3) := by decide +kernel
theorem dX0_becomeFree_18 : decode cX0_becomeFree 18 = .ok (.iload_n 1, 1) := by decide +kernel
theorem dX0_becomeFree_19 : decode cX0_becomeFree 19 = .ok (.iconst (-1), 1) := by decide +kernel
theorem dX0_becomeFree_20 : decode cX0_becomeFree 20 = .ok (.iastore, 1) := by decide +kernel
theorem dX0_becomeFree_21 : decode cX0_becomeFree 21 = .ok (.aload_n 0, 1) := by decide +kernel
theorem dX0_becomeFree_22 : decode cX0_becomeFree 22 = .ok (.getfield 28, 3) := by decide +kernel
theorem dX0_becomeFree_25 : decode cX0_becomeFree 25 = .ok (.iload_n 1, 1) := by decide +kernel
theorem dX0_becomeFree_26 : decode cX0_becomeFree 26 = .ok (.iload_n 2, 1) := by decide +kernel
theorem dX0_becomeFree_27 : decode cX0_becomeFree 27 = .ok (.iastore, 1) := by decide +kernel
theorem dX0_becomeFree_28 : decode cX0_becomeFree 28 = .ok (.return_, 1) := by decide +kernel
theorem dX0_becomeHeld_0 : decode cX0_becomeHeld 0 = .ok (.iload_n 1, 1) := by decide +kernel
theorem dX0_becomeHeld_1 : decode cX0_becomeHeld 1 = .ok (.invokestatic 47, 3) := by decide +kernel
theorem dX0_becomeHeld_4 : decode cX0_becomeHeld 4 = .ok (.ifCond .eq 25, 3) := by decide +kernel
theorem dX0_becomeHeld_7 : decode cX0_becomeHeld 7 = .ok (.aload_n 0, 1) := by decide +kernel
theorem dX0_becomeHeld_8 : decode cX0_becomeHeld 8 = .ok (.getfield 18, 3) := by decide +kernel
theorem dX0_becomeHeld_11 : decode cX0_becomeHeld 11 = .ok (.iload_n 1, 1) := by decide +kernel
theorem dX0_becomeHeld_12 : decode cX0_becomeHeld 12 = .ok (.iload_n 2, 1) := by decide +kernel
theorem dX0_becomeHeld_13 : decode cX0_becomeHeld 13 = .ok (.iastore, 1) := by decide +kernel
theorem dX0_becomeHeld_14 : decode cX0_becomeHeld 14 = .ok (.aload_n 0, 1) := by decide +kernel
theorem dX0_becomeHeld_15 : decode cX0_becomeHeld 15 = .ok (.getfield 22, 3) := by decide +kernel
theorem dX0_becomeHeld_18 : decode cX0_becomeHeld 18 = .ok (.iload_n 1, 1) := by decide +kernel
theorem dX0_becomeHeld_19 : decode cX0_becomeHeld 19 = .ok (.iload_n 3, 1) := by decide +kernel
theorem dX0_becomeHeld_20 : decode cX0_becomeHeld 20 = .ok (.iastore, 1) := by decide +kernel
theorem dX0_becomeHeld_21 : decode cX0_becomeHeld 21 = .ok (.aload_n 0, 1) := by decide +kernel
theorem dX0_becomeHeld_22 : decode cX0_becomeHeld 22 = .ok (.getfield 25, 3) := by decide +kernel
theorem dX0_becomeHeld_25 : decode cX0_becomeHeld 25 = .ok (.iload_n 1, 1) := by decide +kernel
theorem dX0_becomeHeld_26 : decode cX0_becomeHeld 26 = .ok (.iload 4, 2) := by decide +kernel
theorem dX0_becomeHeld_28 : decode cX0_becomeHeld 28 = .ok (.iastore, 1) := by decide +kernel
theorem dX0_becomeHeld_29 : decode cX0_becomeHeld 29 = .ok (.return_, 1) := by decide +kernel
theorem dX0_becomeDeclined_0 : decode cX0_becomeDeclined 0 = .ok (.aload_n 0, 1) := by decide +kernel
theorem dX0_becomeDeclined_1 : decode cX0_becomeDeclined 1 = .ok (.iload_n 1, 1) := by decide +kernel
theorem dX0_becomeDeclined_2 : decode cX0_becomeDeclined 2 = .ok (.iconst 3, 1) := by decide +kernel
theorem dX0_becomeDeclined_3 : decode cX0_becomeDeclined 3 = .ok (.iconst (-1), 1) := by decide +kernel
theorem dX0_becomeDeclined_4 : decode cX0_becomeDeclined 4 = .ok (.iload_n 2, 1) := by decide +kernel
theorem dX0_becomeDeclined_5 : decode cX0_becomeDeclined 5 = .ok (.invokevirtual 51, 3) := by decide +kernel
theorem dX0_becomeDeclined_8 : decode cX0_becomeDeclined 8 = .ok (.return_, 1) := by decide +kernel
theorem dX0_isOfferable_0 : decode cX0_isOfferable 0 = .ok (.iload_n 1, 1) := by decide +kernel
theorem dX0_isOfferable_1 : decode cX0_isOfferable 1 = .ok (.invokestatic 47, 3) := by decide +kernel
theorem dX0_isOfferable_4 : decode cX0_isOfferable 4 = .ok (.ifCond .eq 25, 3) := by decide +kernel
theorem dX0_isOfferable_7 : decode cX0_isOfferable 7 = .ok (.aload_n 0, 1) := by decide +kernel
theorem dX0_isOfferable_8 : decode cX0_isOfferable 8 = .ok (.getfield 18, 3) := by decide +kernel
theorem dX0_isOfferable_11 : decode cX0_isOfferable 11 = .ok (.iload_n 1, 1) := by decide +kernel
theorem dX0_isOfferable_12 : decode cX0_isOfferable 12 = .ok (.iaload, 1) := by decide +kernel
theorem dX0_isOfferable_13 : decode cX0_isOfferable 13 = .ok (.ifCond .ne 16, 3) := by decide +kernel
theorem dX0_isOfferable_16 : decode cX0_isOfferable 16 = .ok (.aload_n 0, 1) := by decide +kernel
theorem dX0_isOfferable_17 : decode cX0_isOfferable 17 = .ok (.getfield 9, 3) := by decide +kernel
theorem dX0_isOfferable_20 : decode cX0_isOfferable 20 = .ok (.iload_n 1, 1) := by decide +kernel
theorem dX0_isOfferable_21 : decode cX0_isOfferable 21 = .ok (.baload, 1) := by decide +kernel
theorem dX0_isOfferable_22 : decode cX0_isOfferable 22 = .ok (.ifCond .ne 7, 3) := by decide +kernel
theorem dX0_isOfferable_25 : decode cX0_isOfferable 25 = .ok (.iconst 1, 1) := by decide +kernel
theorem dX0_isOfferable_26 : decode cX0_isOfferable 26 = .ok (.goto 4, 3) := by decide +kernel
theorem dX0_isOfferable_29 : decode cX0_isOfferable 29 = .ok (.iconst 0, 1) := by decide +kernel
theorem dX0_isOfferable_30 : decode cX0_isOfferable 30 = .ok (.ireturn, 1) := by decide +kernel
theorem dX0_isFreeLonger_0 : decode cX0_isFreeLonger 0 = .ok (.iload_n 1, 1) := by decide +kernel
theorem dX0_isFreeLonger_1 : decode cX0_isFreeLonger 1 = .ok (.invokestatic 47, 3) := by decide +kernel
theorem dX0_isFreeLonger_4 : decode cX0_isFreeLonger 4 = .ok (.ifCond .eq 10, 3) := by decide +kernel
theorem dX0_isFreeLonger_7 : decode cX0_isFreeLonger 7 = .ok (.iload_n 2, 1) := by decide +kernel
theorem dX0_isFreeLonger_8 : decode cX0_isFreeLonger 8 = .ok (.invokestatic 47, 3) := by decide +kernel
theorem dX0_isFreeLonger_11 : decode cX0_isFreeLonger 11 = .ok (.ifCond .ne 5, 3) := by decide +kernel
theorem dX0_isFreeLonger_14 : decode cX0_isFreeLonger 14 = .ok (.iconst 0, 1) := by decide +kernel
theorem dX0_isFreeLonger_15 : decode cX0_isFreeLonger 15 = .ok (.ireturn, 1) := by decide +kernel
theorem dX0_isFreeLonger_16 : decode cX0_isFreeLonger 16 = .ok (.aload_n 0, 1) := by decide +kernel
theorem dX0_isFreeLonger_17 : decode cX0_isFreeLonger 17 = .ok (.getfield 28, 3) := by decide +kernel
theorem dX0_isFreeLonger_20 : decode cX0_isFreeLonger 20 = .ok (.iload_n 1, 1) := by decide +kernel
theorem dX0_isFreeLonger_21 : decode cX0_isFreeLonger 21 = .ok (.iaload, 1) := by decide +kernel
theorem dX0_isFreeLonger_22 : decode cX0_isFreeLonger 22 = .ok (.aload_n 0, 1) := by decide +kernel
theorem dX0_isFreeLonger_23 : decode cX0_isFreeLonger 23 = .ok (.getfield 28, 3) := by decide +kernel
theorem dX0_isFreeLonger_26 : decode cX0_isFreeLonger 26 = .ok (.iload_n 2, 1) := by decide +kernel
theorem dX0_isFreeLonger_27 : decode cX0_isFreeLonger 27 = .ok (.iaload, 1) := by decide +kernel
theorem dX0_isFreeLonger_28 : decode cX0_isFreeLonger 28 = .ok (.if_icmp .lt 23, 3) := by decide +kernel
theorem dX0_isFreeLonger_31 : decode cX0_isFreeLonger 31 = .ok (.aload_n 0, 1) := by decide +kernel
theorem dX0_isFreeLonger_32 : decode cX0_isFreeLonger 32 = .ok (.getfield 28, 3) := by decide +kernel
theorem dX0_isFreeLonger_35 : decode cX0_isFreeLonger 35 = .ok (.iload_n 1, 1) := by decide +kernel
theorem dX0_isFreeLonger_36 : decode cX0_isFreeLonger 36 = .ok (.iaload, 1) := by decide +kernel
theorem dX0_isFreeLonger_37 : decode cX0_isFreeLonger 37 = .ok (.aload_n 0, 1) := by decide +kernel
theorem dX0_isFreeLonger_38 : decode cX0_isFreeLonger 38 = .ok (.getfield 28, 3) := by decide +kernel
theorem dX0_isFreeLonger_41 : decode cX0_isFreeLonger 41 = .ok (.iload_n 2, 1) := by decide +kernel
theorem dX0_isFreeLonger_42 : decode cX0_isFreeLonger 42 = .ok (.iaload, 1) := by decide +kernel
theorem dX0_isFreeLonger_43 : decode cX0_isFreeLonger 43 = .ok (.if_icmp .ne 12, 3) := by decide +kernel
theorem dX0_isFreeLonger_46 : decode cX0_isFreeLonger 46 = .ok (.iload_n 1, 1) := by decide +kernel
theorem dX0_isFreeLonger_47 : decode cX0_isFreeLonger 47 = .ok (.iload_n 2, 1) := by decide +kernel
theorem dX0_isFreeLonger_48 : decode cX0_isFreeLonger 48 = .ok (.if_icmp .ge 7, 3) := by decide +kernel
theorem dX0_isFreeLonger_51 : decode cX0_isFreeLonger 51 = .ok (.iconst 1, 1) := by decide +kernel
theorem dX0_isFreeLonger_52 : decode cX0_isFreeLonger 52 = .ok (.goto 4, 3) := by decide +kernel
theorem dX0_isFreeLonger_55 : decode cX0_isFreeLonger 55 = .ok (.iconst 0, 1) := by decide +kernel
theorem dX0_isFreeLonger_56 : decode cX0_isFreeLonger 56 = .ok (.ireturn, 1) := by decide +kernel
theorem dX0_countIn_0 : decode cX0_countIn 0 = .ok (.iconst 0, 1) := by decide +kernel
theorem dX0_countIn_1 : decode cX0_countIn 1 = .ok (.istore 4, 2) := by decide +kernel
theorem dX0_countIn_3 : decode cX0_countIn 3 = .ok (.iload_n 1, 1) := by decide +kernel
theorem dX0_countIn_4 : decode cX0_countIn 4 = .ok (.iconst 0, 1) := by decide +kernel
theorem dX0_countIn_5 : decode cX0_countIn 5 = .ok (.invokestatic 37, 3) := by decide +kernel
theorem dX0_countIn_8 : decode cX0_countIn 8 = .ok (.istore 5, 2) := by decide +kernel
theorem dX0_countIn_10 : decode cX0_countIn 10 = .ok (.iload 5, 2) := by decide +kernel
theorem dX0_countIn_12 : decode cX0_countIn 12 = .ok (.bipush 100, 2) := by decide +kernel
theorem dX0_countIn_14 : decode cX0_countIn 14 = .ok (.if_icmp .ge 29, 3) := by decide +kernel
theorem dX0_countIn_17 : decode cX0_countIn 17 = .ok (.iload 5, 2) := by decide +kernel
theorem dX0_countIn_19 : decode cX0_countIn 19 = .ok (.iload_n 2, 1) := by decide +kernel
theorem dX0_countIn_20 : decode cX0_countIn 20 = .ok (.if_icmp .gt 23, 3) := by decide +kernel
theorem dX0_countIn_23 : decode cX0_countIn 23 = .ok (.aload_n 0, 1) := by decide +kernel
theorem dX0_countIn_24 : decode cX0_countIn 24 = .ok (.getfield 18, 3) := by decide +kernel
theorem dX0_countIn_27 : decode cX0_countIn 27 = .ok (.iload 5, 2) := by decide +kernel
theorem dX0_countIn_29 : decode cX0_countIn 29 = .ok (.iaload, 1) := by decide +kernel
theorem dX0_countIn_30 : decode cX0_countIn 30 = .ok (.iload_n 3, 1) := by decide +kernel
theorem dX0_countIn_31 : decode cX0_countIn 31 = .ok (.if_icmp .ne 6, 3) := by decide +kernel
theorem dX0_countIn_34 : decode cX0_countIn 34 = .ok (.iinc 4 1, 3) := by decide +kernel
theorem dX0_countIn_37 : decode cX0_countIn 37 = .ok (.iinc 5 1, 3) := by decide +kernel
theorem dX0_countIn_40 : decode cX0_countIn 40 = .ok (.goto (-30), 3) := by decide +kernel
theorem dX0_countIn_43 : decode cX0_countIn 43 = .ok (.iload 4, 2) := by decide +kernel
theorem dX0_countIn_45 : decode cX0_countIn 45 = .ok (.ireturn, 1) := by decide +kernel
theorem dX0_countOfferable_0 : decode cX0_countOfferable 0 = .ok (.iconst 0, 1) := by decide +kernel
theorem dX0_countOfferable_1 : decode cX0_countOfferable 1 = .ok (.istore_n 3, 1) := by decide +kernel
theorem dX0_countOfferable_2 : decode cX0_countOfferable 2 = .ok (.iload_n 1, 1) := by decide +kernel
theorem dX0_countOfferable_3 : decode cX0_countOfferable 3 = .ok (.iconst 0, 1) := by decide +kernel
theorem dX0_countOfferable_4 : decode cX0_countOfferable 4 = .ok (.invokestatic 37, 3) := by decide +kernel
theorem dX0_countOfferable_7 : decode cX0_countOfferable 7 = .ok (.istore 4, 2) := by decide +kernel
theorem dX0_countOfferable_9 : decode cX0_countOfferable 9 = .ok (.iload 4, 2) := by decide +kernel
theorem dX0_countOfferable_11 : decode cX0_countOfferable 11 = .ok (.bipush 100, 2) := by decide +kernel
theorem dX0_countOfferable_13 : decode cX0_countOfferable 13 = .ok (.if_icmp .ge 27, 3) := by decide +kernel
theorem dX0_countOfferable_16 : decode cX0_countOfferable 16 = .ok (.iload 4, 2) := by decide +kernel
theorem dX0_countOfferable_18 : decode cX0_countOfferable 18 = .ok (.iload_n 2, 1) := by decide +kernel
theorem dX0_countOfferable_19 : decode cX0_countOfferable 19 = .ok (.if_icmp .gt 21, 3) := by decide +kernel
theorem dX0_countOfferable_22 : decode cX0_countOfferable 22 = .ok (.aload_n 0, 1) := by decide +kernel
theorem dX0_countOfferable_23 : decode cX0_countOfferable 23 = .ok (.iload 4, 2) := by decide +kernel
theorem dX0_countOfferable_25 : decode cX0_countOfferable 25 = .ok (.invokevirtual 55, 3) := by decide +kernel
theorem dX0_countOfferable_28 : decode cX0_countOfferable 28 = .ok (.ifCond .eq 6, 3) := by decide +kernel
theorem dX0_countOfferable_31 : decode cX0_countOfferable 31 = .ok (.iinc 3 1, 3) := by decide +kernel
theorem dX0_countOfferable_34 : decode cX0_countOfferable 34 = .ok (.iinc 4 1, 3) := by decide +kernel
theorem dX0_countOfferable_37 : decode cX0_countOfferable 37 = .ok (.goto (-28), 3) := by decide +kernel
theorem dX0_countOfferable_40 : decode cX0_countOfferable 40 = .ok (.iload_n 3, 1) := by decide +kernel
theorem dX0_countOfferable_41 : decode cX0_countOfferable 41 = .ok (.ireturn, 1) := by decide +kernel
theorem dX0_earliestQuarantineEnd_0 : decode cX0_earliestQuarantineEnd 0 = .ok (.ldc 58, 2) := by decide +kernel
theorem dX0_earliestQuarantineEnd_2 : decode cX0_earliestQuarantineEnd 2 = .ok (.istore_n 1, 1) := by decide +kernel
theorem dX0_earliestQuarantineEnd_3 : decode cX0_earliestQuarantineEnd 3 = .ok (.iconst 0, 1) := by decide +kernel
theorem dX0_earliestQuarantineEnd_4 : decode cX0_earliestQuarantineEnd 4 = .ok (.istore_n 2, 1) := by decide +kernel
theorem dX0_earliestQuarantineEnd_5 : decode cX0_earliestQuarantineEnd 5 = .ok (.iload_n 2, 1) := by decide +kernel
theorem dX0_earliestQuarantineEnd_6 : decode cX0_earliestQuarantineEnd 6 = .ok (.bipush 100, 2) := by decide +kernel
theorem dX0_earliestQuarantineEnd_8 : decode cX0_earliestQuarantineEnd 8 = .ok (.if_icmp .ge 35, 3) := by decide +kernel
theorem dX0_earliestQuarantineEnd_11 : decode cX0_earliestQuarantineEnd 11 = .ok (.aload_n 0, 1) := by decide +kernel
theorem dX0_earliestQuarantineEnd_12 : decode cX0_earliestQuarantineEnd 12 = .ok (.getfield 18, 3) := by decide +kernel
theorem dX0_earliestQuarantineEnd_15 : decode cX0_earliestQuarantineEnd 15 = .ok (.iload_n 2, 1) := by decide +kernel
theorem dX0_earliestQuarantineEnd_16 : decode cX0_earliestQuarantineEnd 16 = .ok (.iaload, 1) := by decide +kernel
theorem dX0_earliestQuarantineEnd_17 : decode cX0_earliestQuarantineEnd 17 = .ok (.iconst 3, 1) := by decide +kernel
theorem dX0_earliestQuarantineEnd_18 : decode cX0_earliestQuarantineEnd 18 = .ok (.if_icmp .ne 19, 3) := by decide +kernel
theorem dX0_earliestQuarantineEnd_21 : decode cX0_earliestQuarantineEnd 21 = .ok (.iload_n 1, 1) := by decide +kernel
theorem dX0_earliestQuarantineEnd_22 : decode cX0_earliestQuarantineEnd 22 = .ok (.aload_n 0, 1) := by decide +kernel
theorem dX0_earliestQuarantineEnd_23 : decode cX0_earliestQuarantineEnd 23 = .ok (.getfield 25, 3) := by decide +kernel
theorem dX0_earliestQuarantineEnd_26 : decode cX0_earliestQuarantineEnd 26 = .ok (.iload_n 2, 1) := by decide +kernel
theorem dX0_earliestQuarantineEnd_27 : decode cX0_earliestQuarantineEnd 27 = .ok (.iaload, 1) := by decide +kernel
theorem dX0_earliestQuarantineEnd_28 : decode cX0_earliestQuarantineEnd 28 = .ok (.iconst 1, 1) := by decide +kernel
theorem dX0_earliestQuarantineEnd_29 : decode cX0_earliestQuarantineEnd 29 = .ok (.iload_n 2, 1) := by decide +kernel
theorem dX0_earliestQuarantineEnd_30 : decode cX0_earliestQuarantineEnd 30 = .ok (.invokestatic 59, 3) := by decide +kernel
theorem dX0_earliestQuarantineEnd_33 : decode cX0_earliestQuarantineEnd 33 = .ok (.invokestatic 63, 3) := by decide +kernel
theorem dX0_earliestQuarantineEnd_36 : decode cX0_earliestQuarantineEnd 36 = .ok (.istore_n 1, 1) := by decide +kernel
theorem dX0_earliestQuarantineEnd_37 : decode cX0_earliestQuarantineEnd 37 = .ok (.iinc 2 1, 3) := by decide +kernel
theorem dX0_earliestQuarantineEnd_40 : decode cX0_earliestQuarantineEnd 40 = .ok (.goto (-35), 3) := by decide +kernel
theorem dX0_earliestQuarantineEnd_43 : decode cX0_earliestQuarantineEnd 43 = .ok (.iload_n 1, 1) := by decide +kernel
theorem dX0_earliestQuarantineEnd_44 : decode cX0_earliestQuarantineEnd 44 = .ok (.ireturn, 1) := by decide +kernel
theorem dX0_copyFrom_0 : decode cX0_copyFrom 0 = .ok (.aload_n 1, 1) := by decide +kernel
theorem dX0_copyFrom_1 : decode cX0_copyFrom 1 = .ok (.getfield 9, 3) := by decide +kernel
theorem dX0_copyFrom_4 : decode cX0_copyFrom 4 = .ok (.aload_n 0, 1) := by decide +kernel
theorem dX0_copyFrom_5 : decode cX0_copyFrom 5 = .ok (.getfield 9, 3) := by decide +kernel
theorem dX0_copyFrom_8 : decode cX0_copyFrom 8 = .ok (.invokestatic 66, 3) := by decide +kernel
theorem dX0_copyFrom_11 : decode cX0_copyFrom 11 = .ok (.aload_n 1, 1) := by decide +kernel
theorem dX0_copyFrom_12 : decode cX0_copyFrom 12 = .ok (.getfield 15, 3) := by decide +kernel
theorem dX0_copyFrom_15 : decode cX0_copyFrom 15 = .ok (.aload_n 0, 1) := by decide +kernel
theorem dX0_copyFrom_16 : decode cX0_copyFrom 16 = .ok (.getfield 15, 3) := by decide +kernel
theorem dX0_copyFrom_19 : decode cX0_copyFrom 19 = .ok (.invokestatic 66, 3) := by decide +kernel
theorem dX0_copyFrom_22 : decode cX0_copyFrom 22 = .ok (.aload_n 1, 1) := by decide +kernel
theorem dX0_copyFrom_23 : decode cX0_copyFrom 23 = .ok (.getfield 18, 3) := by decide +kernel
theorem dX0_copyFrom_26 : decode cX0_copyFrom 26 = .ok (.aload_n 0, 1) := by decide +kernel
theorem dX0_copyFrom_27 : decode cX0_copyFrom 27 = .ok (.getfield 18, 3) := by decide +kernel
theorem dX0_copyFrom_30 : decode cX0_copyFrom 30 = .ok (.invokestatic 70, 3) := by decide +kernel
theorem dX0_copyFrom_33 : decode cX0_copyFrom 33 = .ok (.aload_n 1, 1) := by decide +kernel
theorem dX0_copyFrom_34 : decode cX0_copyFrom 34 = .ok (.getfield 22, 3) := by decide +kernel
theorem dX0_copyFrom_37 : decode cX0_copyFrom 37 = .ok (.aload_n 0, 1) := by decide +kernel
theorem dX0_copyFrom_38 : decode cX0_copyFrom 38 = .ok (.getfield 22, 3) := by decide +kernel
theorem dX0_copyFrom_41 : decode cX0_copyFrom 41 = .ok (.invokestatic 70, 3) := by decide +kernel
theorem dX0_copyFrom_44 : decode cX0_copyFrom 44 = .ok (.aload_n 1, 1) := by decide +kernel
theorem dX0_copyFrom_45 : decode cX0_copyFrom 45 = .ok (.getfield 25, 3) := by decide +kernel
theorem dX0_copyFrom_48 : decode cX0_copyFrom 48 = .ok (.aload_n 0, 1) := by decide +kernel
theorem dX0_copyFrom_49 : decode cX0_copyFrom 49 = .ok (.getfield 25, 3) := by decide +kernel
theorem dX0_copyFrom_52 : decode cX0_copyFrom 52 = .ok (.invokestatic 70, 3) := by decide +kernel
theorem dX0_copyFrom_55 : decode cX0_copyFrom 55 = .ok (.aload_n 1, 1) := by decide +kernel
theorem dX0_copyFrom_56 : decode cX0_copyFrom 56 = .ok (.getfield 28, 3) := by decide +kernel
theorem dX0_copyFrom_59 : decode cX0_copyFrom 59 = .ok (.aload_n 0, 1) := by decide +kernel
theorem dX0_copyFrom_60 : decode cX0_copyFrom 60 = .ok (.getfield 28, 3) := by decide +kernel
theorem dX0_copyFrom_63 : decode cX0_copyFrom 63 = .ok (.invokestatic 70, 3) := by decide +kernel
theorem dX0_copyFrom_66 : decode cX0_copyFrom 66 = .ok (.return_, 1) := by decide +kernel
theorem dX1_init_0 : decode cX1_init 0 = .ok (.aload_n 0, 1) := by decide +kernel
theorem dX1_init_1 : decode cX1_init 1 = .ok (.invokespecial 3, 3) := by decide +kernel
theorem dX1_init_4 : decode cX1_init 4 = .ok (.aload_n 0, 1) := by decide +kernel
theorem dX1_init_5 : decode cX1_init 5 = .ok (.bipush 20, 2) := by decide +kernel
theorem dX1_init_7 : decode cX1_init 7 = .ok (.newarray .int, 2) := by decide +kernel
theorem dX1_init_9 : decode cX1_init 9 = .ok (.putfield 9, 3) := by decide +kernel
theorem dX1_init_12 : decode cX1_init 12 = .ok (.aload_n 0, 1) := by decide +kernel
theorem dX1_init_13 : decode cX1_init 13 = .ok (.bipush 20, 2) := by decide +kernel
theorem dX1_init_15 : decode cX1_init 15 = .ok (.newarray .int, 2) := by decide +kernel
theorem dX1_init_17 : decode cX1_init 17 = .ok (.putfield 15, 3) := by decide +kernel
theorem dX1_init_20 : decode cX1_init 20 = .ok (.aload_n 0, 1) := by decide +kernel
theorem dX1_init_21 : decode cX1_init 21 = .ok (.bipush 20, 2) := by decide +kernel
theorem dX1_init_23 : decode cX1_init 23 = .ok (.newarray .int, 2) := by decide +kernel
theorem dX1_init_25 : decode cX1_init 25 = .ok (.putfield 18, 3) := by decide +kernel
theorem dX1_init_28 : decode cX1_init 28 = .ok (.aload_n 0, 1) := by decide +kernel
theorem dX1_init_29 : decode cX1_init 29 = .ok (.bipush 20, 2) := by decide +kernel
theorem dX1_init_31 : decode cX1_init 31 = .ok (.newarray .int, 2) := by decide +kernel
theorem dX1_init_33 : decode cX1_init 33 = .ok (.putfield 21, 3) := by decide +kernel
theorem dX1_init_36 : decode cX1_init 36 = .ok (.aload_n 0, 1) := by decide +kernel
theorem dX1_init_37 : decode cX1_init 37 = .ok (.bipush 20, 2) := by decide +kernel
theorem dX1_init_39 : decode cX1_init 39 = .ok (.newarray .int, 2) := by decide +kernel
theorem dX1_init_41 : decode cX1_init 41 = .ok (.putfield 24, 3) := by decide +kernel
theorem dX1_init_44 : decode cX1_init 44 = .ok (.aload_n 0, 1) := by decide +kernel
theorem dX1_init_45 : decode cX1_init 45 = .ok (.getfield 15, 3) := by decide +kernel
theorem dX1_init_48 : decode cX1_init 48 = .ok (.iconst (-1), 1) := by decide +kernel
theorem dX1_init_49 : decode cX1_init 49 = .ok (.invokestatic 27, 3) := by decide +kernel
theorem dX1_init_52 : decode cX1_init 52 = .ok (.aload_n 0, 1) := by decide +kernel
theorem dX1_init_53 : decode cX1_init 53 = .ok (.getfield 18, 3) := by decide +kernel
theorem dX1_init_56 : decode cX1_init 56 = .ok (.iconst (-1), 1) := by decide +kernel
theorem dX1_init_57 : decode cX1_init 57 = .ok (.invokestatic 27, 3) := by decide +kernel
theorem dX1_init_60 : decode cX1_init 60 = .ok (.return_, 1) := by decide +kernel
theorem dX1_isBound_0 : decode cX1_isBound 0 = .ok (.iload_n 1, 1) := by decide +kernel
theorem dX1_isBound_1 : decode cX1_isBound 1 = .ok (.invokestatic 33, 3) := by decide +kernel
theorem dX1_isBound_4 : decode cX1_isBound 4 = .ok (.ifCond .eq 17, 3) := by decide +kernel
theorem dX1_isBound_7 : decode cX1_isBound 7 = .ok (.aload_n 0, 1) := by decide +kernel
theorem dX1_isBound_8 : decode cX1_isBound 8 = .ok (.getfield 9, 3) := by decide +kernel
theorem dX1_isBound_11 : decode cX1_isBound 11 = .ok (.iload_n 1, 1) := by decide +kernel
theorem dX1_isBound_12 : decode cX1_isBound 12 = .ok (.iaload, 1) := by decide +kernel
theorem dX1_isBound_13 : decode cX1_isBound 13 = .ok (.iconst 2, 1) := by decide +kernel
theorem dX1_isBound_14 : decode cX1_isBound 14 = .ok (.if_icmp .lt 7, 3) := by decide +kernel
theorem dX1_isBound_17 : decode cX1_isBound 17 = .ok (.iconst 1, 1) := by decide +kernel
theorem dX1_isBound_18 : decode cX1_isBound 18 = .ok (.goto 4, 3) := by decide +kernel
theorem dX1_isBound_21 : decode cX1_isBound 21 = .ok (.iconst 0, 1) := by decide +kernel
theorem dX1_isBound_22 : decode cX1_isBound 22 = .ok (.ireturn, 1) := by decide +kernel
theorem dX1_countBound_0 : decode cX1_countBound 0 = .ok (.iconst 0, 1) := by decide +kernel
theorem dX1_countBound_1 : decode cX1_countBound 1 = .ok (.istore_n 1, 1) := by decide +kernel
theorem dX1_countBound_2 : decode cX1_countBound 2 = .ok (.iconst 0, 1) := by decide +kernel
theorem dX1_countBound_3 : decode cX1_countBound 3 = .ok (.istore_n 2, 1) := by decide +kernel
theorem dX1_countBound_4 : decode cX1_countBound 4 = .ok (.iload_n 2, 1) := by decide +kernel
theorem dX1_countBound_5 : decode cX1_countBound 5 = .ok (.bipush 20, 2) := by decide +kernel
theorem dX1_countBound_7 : decode cX1_countBound 7 = .ok (.if_icmp .ge 20, 3) := by decide +kernel
theorem dX1_countBound_10 : decode cX1_countBound 10 = .ok (.aload_n 0, 1) := by decide +kernel
theorem dX1_countBound_11 : decode cX1_countBound 11 = .ok (.iload_n 2, 1) := by decide +kernel
theorem dX1_countBound_12 : decode cX1_countBound 12 = .ok (.invokevirtual 37, 3) := by decide +kernel
theorem dX1_countBound_15 : decode cX1_countBound 15 = .ok (.ifCond .eq 6, 3) := by decide +kernel
theorem dX1_countBound_18 : decode cX1_countBound 18 = .ok (.iinc 1 1, 3) := by decide +kernel
theorem dX1_countBound_21 : decode cX1_countBound 21 = .ok (.iinc 2 1, 3) := by decide +kernel
theorem dX1_countBound_24 : decode cX1_countBound 24 = .ok (.goto (-20), 3) := by decide +kernel
theorem dX1_countBound_27 : decode cX1_countBound 27 = .ok (.iload_n 1, 1) := by decide +kernel
theorem dX1_countBound_28 : decode cX1_countBound 28 = .ok (.ireturn, 1) := by decide +kernel
theorem dX1_becomeIdle_0 : decode cX1_becomeIdle 0 = .ok (.iload_n 1, 1) := by decide +kernel
theorem dX1_becomeIdle_1 : decode cX1_becomeIdle 1 = .ok (.invokestatic 33, 3) := by decide +kernel
theorem dX1_becomeIdle_4 : decode cX1_becomeIdle 4 = .ok (.ifCond .eq 17, 3) := by decide +kernel
theorem dX1_becomeIdle_7 : decode cX1_becomeIdle 7 = .ok (.aload_n 0, 1) := by decide +kernel
theorem dX1_becomeIdle_8 : decode cX1_becomeIdle 8 = .ok (.getfield 9, 3) := by decide +kernel
theorem dX1_becomeIdle_11 : decode cX1_becomeIdle 11 = .ok (.iload_n 1, 1) := by decide +kernel
theorem dX1_becomeIdle_12 : decode cX1_becomeIdle 12 = .ok (.iconst 0, 1) := by decide +kernel
theorem dX1_becomeIdle_13 : decode cX1_becomeIdle 13 = .ok (.iastore, 1) := by decide +kernel
theorem dX1_becomeIdle_14 : decode cX1_becomeIdle 14 = .ok (.aload_n 0, 1) := by decide +kernel
theorem dX1_becomeIdle_15 : decode cX1_becomeIdle 15 = .ok (.getfield 15, 3) := by decide +kernel
theorem dX1_becomeIdle_18 : decode cX1_becomeIdle 18 = .ok (.iload_n 1, 1) := by decide +kernel
theorem dX1_becomeIdle_19 : decode cX1_becomeIdle 19 = .ok (.iconst (-1), 1) := by decide +kernel
theorem dX1_becomeIdle_20 : decode cX1_becomeIdle 20 = .ok (.iastore, 1) := by decide +kernel
theorem dX1_becomeIdle_21 : decode cX1_becomeIdle 21 = .ok (.return_, 1) := by decide +kernel
theorem dX1_takeOffer_0 : decode cX1_takeOffer 0 = .ok (.iload_n 1, 1) := by decide +kernel
theorem dX1_takeOffer_1 : decode cX1_takeOffer 1 = .ok (.invokestatic 33, 3) := by decide +kernel
theorem dX1_takeOffer_4 : decode cX1_takeOffer 4 = .ok (.ifCond .eq 17, 3) := by decide +kernel
theorem dX1_takeOffer_7 : decode cX1_takeOffer 7 = .ok (.aload_n 0, 1) := by decide +kernel
theorem dX1_takeOffer_8 : decode cX1_takeOffer 8 = .ok (.getfield 9, 3) := by decide +kernel
theorem dX1_takeOffer_11 : decode cX1_takeOffer 11 = .ok (.iload_n 1, 1) := by decide +kernel
theorem dX1_takeOffer_12 : decode cX1_takeOffer 12 = .ok (.iconst 1, 1) := by decide +kernel
theorem dX1_takeOffer_13 : decode cX1_takeOffer 13 = .ok (.iastore, 1) := by decide +kernel
theorem dX1_takeOffer_14 : decode cX1_takeOffer 14 = .ok (.aload_n 0, 1) := by decide +kernel
theorem dX1_takeOffer_15 : decode cX1_takeOffer 15 = .ok (.getfield 15, 3) := by decide +kernel
theorem dX1_takeOffer_18 : decode cX1_takeOffer 18 = .ok (.iload_n 1, 1) := by decide +kernel
theorem dX1_takeOffer_19 : decode cX1_takeOffer 19 = .ok (.iload_n 2, 1) := by decide +kernel
theorem dX1_takeOffer_20 : decode cX1_takeOffer 20 = .ok (.iastore, 1) := by decide +kernel
theorem dX1_takeOffer_21 : decode cX1_takeOffer 21 = .ok (.return_, 1) := by decide +kernel
theorem dX1_takeLease_0 : decode cX1_takeLease 0 = .ok (.iload_n 1, 1) := by decide +kernel
theorem dX1_takeLease_1 : decode cX1_takeLease 1 = .ok (.invokestatic 33, 3) := by decide +kernel
theorem dX1_takeLease_4 : decode cX1_takeLease 4 = .ok (.ifCond .eq 48, 3) := by decide +kernel
theorem dX1_takeLease_7 : decode cX1_takeLease 7 = .ok (.aload_n 0, 1) := by decide +kernel
theorem dX1_takeLease_8 : decode cX1_takeLease 8 = .ok (.getfield 9, 3) := by decide +kernel
theorem dX1_takeLease_11 : decode cX1_takeLease 11 = .ok (.iload_n 1, 1) := by decide +kernel
theorem dX1_takeLease_12 : decode cX1_takeLease 12 = .ok (.iconst 2, 1) := by decide +kernel
theorem dX1_takeLease_13 : decode cX1_takeLease 13 = .ok (.iastore, 1) := by decide +kernel
theorem dX1_takeLease_14 : decode cX1_takeLease 14 = .ok (.aload_n 0, 1) := by decide +kernel
theorem dX1_takeLease_15 : decode cX1_takeLease 15 = .ok (.getfield 18, 3) := by decide +kernel
theorem dX1_takeLease_18 : decode cX1_takeLease 18 = .ok (.iload_n 1, 1) := by decide +kernel
theorem dX1_takeLease_19 : decode cX1_takeLease 19 = .ok (.aload_n 0, 1) := by decide +kernel
theorem dX1_takeLease_20 : decode cX1_takeLease 20 = .ok (.getfield 15, 3) := by decide +kernel
theorem dX1_takeLease_23 : decode cX1_takeLease 23 = .ok (.iload_n 1, 1) := by decide +kernel
theorem dX1_takeLease_24 : decode cX1_takeLease 24 = .ok (.iaload, 1) := by decide +kernel
theorem dX1_takeLease_25 : decode cX1_takeLease 25 = .ok (.iastore, 1) := by decide +kernel
theorem dX1_takeLease_26 : decode cX1_takeLease 26 = .ok (.aload_n 0, 1) := by decide +kernel
theorem dX1_takeLease_27 : decode cX1_takeLease 27 = .ok (.getfield 21, 3) := by decide +kernel
theorem dX1_takeLease_30 : decode cX1_takeLease 30 = .ok (.iload_n 1, 1) := by decide +kernel
theorem dX1_takeLease_31 : decode cX1_takeLease 31 = .ok (.iload_n 2, 1) := by decide +kernel
theorem dX1_takeLease_32 : decode cX1_takeLease 32 = .ok (.iload_n 3, 1) := by decide +kernel
theorem dX1_takeLease_33 : decode cX1_takeLease 33 = .ok (.iconst 2, 1) := by decide +kernel
theorem dX1_takeLease_34 : decode cX1_takeLease 34 = .ok (.idiv, 1) := by decide +kernel
theorem dX1_takeLease_35 : decode cX1_takeLease 35 = .ok (.iadd, 1) := by decide +kernel
theorem dX1_takeLease_36 : decode cX1_takeLease 36 = .ok (.iastore, 1) := by decide +kernel
theorem dX1_takeLease_37 : decode cX1_takeLease 37 = .ok (.aload_n 0, 1) := by decide +kernel
theorem dX1_takeLease_38 : decode cX1_takeLease 38 = .ok (.getfield 24, 3) := by decide +kernel
theorem dX1_takeLease_41 : decode cX1_takeLease 41 = .ok (.iload_n 1, 1) := by decide +kernel
theorem dX1_takeLease_42 : decode cX1_takeLease 42 = .ok (.iload_n 2, 1) := by decide +kernel
theorem dX1_takeLease_43 : decode cX1_takeLease 43 = .ok (.iload_n 3, 1) := by decide +kernel
theorem dX1_takeLease_44 : decode cX1_takeLease 44 = .ok (.bipush 7, 2) := by decide +kernel
theorem dX1_takeLease_46 : decode cX1_takeLease 46 = .ok (.imul, 1) := by decide +kernel
theorem dX1_takeLease_47 : decode cX1_takeLease 47 = .ok (.bipush 8, 2) := by decide +kernel
theorem dX1_takeLease_49 : decode cX1_takeLease 49 = .ok (.idiv, 1) := by decide +kernel
theorem dX1_takeLease_50 : decode cX1_takeLease 50 = .ok (.iadd, 1) := by decide +kernel
theorem dX1_takeLease_51 : decode cX1_takeLease 51 = .ok (.iastore, 1) := by decide +kernel
theorem dX1_takeLease_52 : decode cX1_takeLease 52 = .ok (.return_, 1) := by decide +kernel
theorem dX1_copyFrom_0 : decode cX1_copyFrom 0 = .ok (.aload_n 1, 1) := by decide +kernel
theorem dX1_copyFrom_1 : decode cX1_copyFrom 1 = .ok (.getfield 9, 3) := by decide +kernel
theorem dX1_copyFrom_4 : decode cX1_copyFrom 4 = .ok (.aload_n 0, 1) := by decide +kernel
theorem dX1_copyFrom_5 : decode cX1_copyFrom 5 = .ok (.getfield 9, 3) := by decide +kernel
theorem dX1_copyFrom_8 : decode cX1_copyFrom 8 = .ok (.invokestatic 40, 3) := by decide +kernel
theorem dX1_copyFrom_11 : decode cX1_copyFrom 11 = .ok (.aload_n 1, 1) := by decide +kernel
theorem dX1_copyFrom_12 : decode cX1_copyFrom 12 = .ok (.getfield 15, 3) := by decide +kernel
theorem dX1_copyFrom_15 : decode cX1_copyFrom 15 = .ok (.aload_n 0, 1) := by decide +kernel
theorem dX1_copyFrom_16 : decode cX1_copyFrom 16 = .ok (.getfield 15, 3) := by decide +kernel
theorem dX1_copyFrom_19 : decode cX1_copyFrom 19 = .ok (.invokestatic 40, 3) := by decide +kernel
theorem dX1_copyFrom_22 : decode cX1_copyFrom 22 = .ok (.aload_n 1, 1) := by decide +kernel
theorem dX1_copyFrom_23 : decode cX1_copyFrom 23 = .ok (.getfield 18, 3) := by decide +kernel
theorem dX1_copyFrom_26 : decode cX1_copyFrom 26 = .ok (.aload_n 0, 1) := by decide +kernel
theorem dX1_copyFrom_27 : decode cX1_copyFrom 27 = .ok (.getfield 18, 3) := by decide +kernel
theorem dX1_copyFrom_30 : decode cX1_copyFrom 30 = .ok (.invokestatic 40, 3) := by decide +kernel
theorem dX1_copyFrom_33 : decode cX1_copyFrom 33 = .ok (.aload_n 1, 1) := by decide +kernel
theorem dX1_copyFrom_34 : decode cX1_copyFrom 34 = .ok (.getfield 21, 3) := by decide +kernel
theorem dX1_copyFrom_37 : decode cX1_copyFrom 37 = .ok (.aload_n 0, 1) := by decide +kernel
theorem dX1_copyFrom_38 : decode cX1_copyFrom 38 = .ok (.getfield 21, 3) := by decide +kernel
theorem dX1_copyFrom_41 : decode cX1_copyFrom 41 = .ok (.invokestatic 40, 3) := by decide +kernel
theorem dX1_copyFrom_44 : decode cX1_copyFrom 44 = .ok (.aload_n 1, 1) := by decide +kernel
theorem dX1_copyFrom_45 : decode cX1_copyFrom 45 = .ok (.getfield 24, 3) := by decide +kernel
theorem dX1_copyFrom_48 : decode cX1_copyFrom 48 = .ok (.aload_n 0, 1) := by decide +kernel
theorem dX1_copyFrom_49 : decode cX1_copyFrom 49 = .ok (.getfield 24, 3) := by decide +kernel
theorem dX1_copyFrom_52 : decode cX1_copyFrom 52 = .ok (.invokestatic 40, 3) := by decide +kernel
theorem dX1_copyFrom_55 : decode cX1_copyFrom 55 = .ok (.return_, 1) := by decide +kernel
theorem dX2_init_0 : decode cX2_init 0 = .ok (.aload_n 0, 1) := by decide +kernel
theorem dX2_init_1 : decode cX2_init 1 = .ok (.invokespecial 3, 3) := by decide +kernel
theorem dX2_init_4 : decode cX2_init 4 = .ok (.aload_n 0, 1) := by decide +kernel
theorem dX2_init_5 : decode cX2_init 5 = .ok (.bipush 30, 2) := by decide +kernel
theorem dX2_init_7 : decode cX2_init 7 = .ok (.newarray .int, 2) := by decide +kernel
theorem dX2_init_9 : decode cX2_init 9 = .ok (.putfield 9, 3) := by decide +kernel
theorem dX2_init_12 : decode cX2_init 12 = .ok (.return_, 1) := by decide +kernel
theorem dX2_write_0 : decode cX2_write 0 = .ok (.aload_n 0, 1) := by decide +kernel
theorem dX2_write_1 : decode cX2_write 1 = .ok (.getfield 15, 3) := by decide +kernel
theorem dX2_write_4 : decode cX2_write 4 = .ok (.ifCond .lt 28, 3) := by decide +kernel
theorem dX2_write_7 : decode cX2_write 7 = .ok (.aload_n 0, 1) := by decide +kernel
theorem dX2_write_8 : decode cX2_write 8 = .ok (.getfield 15, 3) := by decide +kernel
theorem dX2_write_11 : decode cX2_write 11 = .ok (.bipush 30, 2) := by decide +kernel
theorem dX2_write_13 : decode cX2_write 13 = .ok (.if_icmp .ge 19, 3) := by decide +kernel
theorem dX2_write_16 : decode cX2_write 16 = .ok (.aload_n 0, 1) := by decide +kernel
theorem dX2_write_17 : decode cX2_write 17 = .ok (.getfield 9, 3) := by decide +kernel
theorem dX2_write_20 : decode cX2_write 20 = .ok (.aload_n 0, 1) := by decide +kernel
theorem dX2_write_21 : decode cX2_write 21 = .ok (.getfield 15, 3) := by decide +kernel
theorem dX2_write_24 : decode cX2_write 24 = .ok (.iload_n 1, 1) := by decide +kernel
theorem dX2_write_25 : decode cX2_write 25 = .ok (.sipush 1000, 3) := by decide +kernel
theorem dX2_write_28 : decode cX2_write 28 = .ok (.imul, 1) := by decide +kernel
theorem dX2_write_29 : decode cX2_write 29 = .ok (.iload_n 2, 1) := by decide +kernel
theorem dX2_write_30 : decode cX2_write 30 = .ok (.iadd, 1) := by decide +kernel
theorem dX2_write_31 : decode cX2_write 31 = .ok (.iastore, 1) := by decide +kernel
theorem dX2_write_32 : decode cX2_write 32 = .ok (.aload_n 0, 1) := by decide +kernel
theorem dX2_write_33 : decode cX2_write 33 = .ok (.aload_n 0, 1) := by decide +kernel
theorem dX2_write_34 : decode cX2_write 34 = .ok (.getfield 15, 3) := by decide +kernel
theorem dX2_write_37 : decode cX2_write 37 = .ok (.iconst 1, 1) := by decide +kernel
theorem dX2_write_38 : decode cX2_write 38 = .ok (.iadd, 1) := by decide +kernel
theorem dX2_write_39 : decode cX2_write 39 = .ok (.bipush 30, 2) := by decide +kernel
theorem dX2_write_41 : decode cX2_write 41 = .ok (.irem, 1) := by decide +kernel
theorem dX2_write_42 : decode cX2_write 42 = .ok (.putfield 15, 3) := by decide +kernel
theorem dX2_write_45 : decode cX2_write 45 = .ok (.aload_n 0, 1) := by decide +kernel
theorem dX2_write_46 : decode cX2_write 46 = .ok (.aload_n 0, 1) := by decide +kernel
theorem dX2_write_47 : decode cX2_write 47 = .ok (.getfield 19, 3) := by decide +kernel
theorem dX2_write_50 : decode cX2_write 50 = .ok (.iconst 1, 1) := by decide +kernel
theorem dX2_write_51 : decode cX2_write 51 = .ok (.iadd, 1) := by decide +kernel
theorem dX2_write_52 : decode cX2_write 52 = .ok (.bipush 30, 2) := by decide +kernel
theorem dX2_write_54 : decode cX2_write 54 = .ok (.invokestatic 22, 3) := by decide +kernel
theorem dX2_write_57 : decode cX2_write 57 = .ok (.putfield 19, 3) := by decide +kernel
theorem dX2_write_60 : decode cX2_write 60 = .ok (.return_, 1) := by decide +kernel
theorem dX2_read_0 : decode cX2_read 0 = .ok (.aload_n 0, 1) := by decide +kernel
theorem dX2_read_1 : decode cX2_read 1 = .ok (.getfield 9, 3) := by decide +kernel
theorem dX2_read_4 : decode cX2_read 4 = .ok (.aload_n 0, 1) := by decide +kernel
theorem dX2_read_5 : decode cX2_read 5 = .ok (.getfield 15, 3) := by decide +kernel
theorem dX2_read_8 : decode cX2_read 8 = .ok (.iconst 1, 1) := by decide +kernel
theorem dX2_read_9 : decode cX2_read 9 = .ok (.isub, 1) := by decide +kernel
theorem dX2_read_10 : decode cX2_read 10 = .ok (.iload_n 1, 1) := by decide +kernel
theorem dX2_read_11 : decode cX2_read 11 = .ok (.isub, 1) := by decide +kernel
theorem dX2_read_12 : decode cX2_read 12 = .ok (.bipush 30, 2) := by decide +kernel
theorem dX2_read_14 : decode cX2_read 14 = .ok (.invokestatic 28, 3) := by decide +kernel
theorem dX2_read_17 : decode cX2_read 17 = .ok (.iaload, 1) := by decide +kernel
theorem dX2_read_18 : decode cX2_read 18 = .ok (.ireturn, 1) := by decide +kernel
theorem dX3_init_0 : decode cX3_init 0 = .ok (.aload_n 0, 1) := by decide +kernel
theorem dX3_init_1 : decode cX3_init 1 = .ok (.invokespecial 3, 3) := by decide +kernel
theorem dX3_init_4 : decode cX3_init 4 = .ok (.aload_n 0, 1) := by decide +kernel
theorem dX3_init_5 : decode cX3_init 5 = .ok (.iconst 5, 1) := by decide +kernel
theorem dX3_init_6 : decode cX3_init 6 = .ok (.newarray .int, 2) := by decide +kernel
theorem dX3_init_8 : decode cX3_init 8 = .ok (.putfield 9, 3) := by decide +kernel
theorem dX3_init_11 : decode cX3_init 11 = .ok (.aload_n 0, 1) := by decide +kernel
theorem dX3_init_12 : decode cX3_init 12 = .ok (.iconst 5, 1) := by decide +kernel
theorem dX3_init_13 : decode cX3_init 13 = .ok (.newarray .int, 2) := by decide +kernel
theorem dX3_init_15 : decode cX3_init 15 = .ok (.putfield 15, 3) := by decide +kernel
theorem dX3_init_18 : decode cX3_init 18 = .ok (.aload_n 0, 1) := by decide +kernel
theorem dX3_init_19 : decode cX3_init 19 = .ok (.iconst 5, 1) := by decide +kernel
theorem dX3_init_20 : decode cX3_init 20 = .ok (.newarray .int, 2) := by decide +kernel
theorem dX3_init_22 : decode cX3_init 22 = .ok (.putfield 18, 3) := by decide +kernel
theorem dX3_init_25 : decode cX3_init 25 = .ok (.aload_n 0, 1) := by decide +kernel
theorem dX3_init_26 : decode cX3_init 26 = .ok (.iconst 5, 1) := by decide +kernel
theorem dX3_init_27 : decode cX3_init 27 = .ok (.newarray .int, 2) := by decide +kernel
theorem dX3_init_29 : decode cX3_init 29 = .ok (.putfield 21, 3) := by decide +kernel
theorem dX3_init_32 : decode cX3_init 32 = .ok (.return_, 1) := by decide +kernel
theorem dX3_isPool_0 : decode cX3_isPool 0 = .ok (.iload_n 1, 1) := by decide +kernel
theorem dX3_isPool_1 : decode cX3_isPool 1 = .ok (.ifCond .lt 20, 3) := by decide +kernel
theorem dX3_isPool_4 : decode cX3_isPool 4 = .ok (.iload_n 1, 1) := by decide +kernel
theorem dX3_isPool_5 : decode cX3_isPool 5 = .ok (.aload_n 0, 1) := by decide +kernel
theorem dX3_isPool_6 : decode cX3_isPool 6 = .ok (.getfield 24, 3) := by decide +kernel
theorem dX3_isPool_9 : decode cX3_isPool 9 = .ok (.if_icmp .ge 12, 3) := by decide +kernel
theorem dX3_isPool_12 : decode cX3_isPool 12 = .ok (.iload_n 1, 1) := by decide +kernel
theorem dX3_isPool_13 : decode cX3_isPool 13 = .ok (.iconst 5, 1) := by decide +kernel
theorem dX3_isPool_14 : decode cX3_isPool 14 = .ok (.if_icmp .ge 7, 3) := by decide +kernel
theorem dX3_isPool_17 : decode cX3_isPool 17 = .ok (.iconst 1, 1) := by decide +kernel
theorem dX3_isPool_18 : decode cX3_isPool 18 = .ok (.goto 4, 3) := by decide +kernel
theorem dX3_isPool_21 : decode cX3_isPool 21 = .ok (.iconst 0, 1) := by decide +kernel
theorem dX3_isPool_22 : decode cX3_isPool 22 = .ok (.ireturn, 1) := by decide +kernel
theorem dX3_numberAt_0 : decode cX3_numberAt 0 = .ok (.iconst 0, 1) := by decide +kernel
theorem dX3_numberAt_1 : decode cX3_numberAt 1 = .ok (.istore_n 2, 1) := by decide +kernel
theorem dX3_numberAt_2 : decode cX3_numberAt 2 = .ok (.iload_n 2, 1) := by decide +kernel
theorem dX3_numberAt_3 : decode cX3_numberAt 3 = .ok (.iconst 5, 1) := by decide +kernel
theorem dX3_numberAt_4 : decode cX3_numberAt 4 = .ok (.if_icmp .ge 39, 3) := by decide +kernel
theorem dX3_numberAt_7 : decode cX3_numberAt 7 = .ok (.iload_n 2, 1) := by decide +kernel
theorem dX3_numberAt_8 : decode cX3_numberAt 8 = .ok (.aload_n 0, 1) := by decide +kernel
theorem dX3_numberAt_9 : decode cX3_numberAt 9 = .ok (.getfield 24, 3) := by decide +kernel
theorem dX3_numberAt_12 : decode cX3_numberAt 12 = .ok (.if_icmp .ge 31, 3) := by decide +kernel
theorem dX3_numberAt_15 : decode cX3_numberAt 15 = .ok (.aload_n 0, 1) := by decide +kernel
theorem dX3_numberAt_16 : decode cX3_numberAt 16 = .ok (.getfield 15, 3) := by decide +kernel
theorem dX3_numberAt_19 : decode cX3_numberAt 19 = .ok (.iload_n 2, 1) := by decide +kernel
theorem dX3_numberAt_20 : decode cX3_numberAt 20 = .ok (.iaload, 1) := by decide +kernel
theorem dX3_numberAt_21 : decode cX3_numberAt 21 = .ok (.iload_n 1, 1) := by decide +kernel
theorem dX3_numberAt_22 : decode cX3_numberAt 22 = .ok (.if_icmp .gt 15, 3) := by decide +kernel
theorem dX3_numberAt_25 : decode cX3_numberAt 25 = .ok (.iload_n 1, 1) := by decide +kernel
theorem dX3_numberAt_26 : decode cX3_numberAt 26 = .ok (.aload_n 0, 1) := by decide +kernel
theorem dX3_numberAt_27 : decode cX3_numberAt 27 = .ok (.getfield 18, 3) := by decide +kernel
theorem dX3_numberAt_30 : decode cX3_numberAt 30 = .ok (.iload_n 2, 1) := by decide +kernel
theorem dX3_numberAt_31 : decode cX3_numberAt 31 = .ok (.iaload, 1) := by decide +kernel
theorem dX3_numberAt_32 : decode cX3_numberAt 32 = .ok (.if_icmp .gt 5, 3) := by decide +kernel
theorem dX3_numberAt_35 : decode cX3_numberAt 35 = .ok (.iload_n 2, 1) := by decide +kernel
theorem dX3_numberAt_36 : decode cX3_numberAt 36 = .ok (.ireturn, 1) := by decide +kernel
theorem dX3_numberAt_37 : decode cX3_numberAt 37 = .ok (.iinc 2 1, 3) := by decide +kernel
theorem dX3_numberAt_40 : decode cX3_numberAt 40 = .ok (.goto (-38), 3) := by decide +kernel
theorem dX3_numberAt_43 : decode cX3_numberAt 43 = .ok (.iconst (-1), 1) := by decide +kernel
theorem dX3_numberAt_44 : decode cX3_numberAt 44 = .ok (.ireturn, 1) := by decide +kernel
theorem dX3_groupAt_0 : decode cX3_groupAt 0 = .ok (.aload_n 0, 1) := by decide +kernel
theorem dX3_groupAt_1 : decode cX3_groupAt 1 = .ok (.iload_n 1, 1) := by decide +kernel
theorem dX3_groupAt_2 : decode cX3_groupAt 2 = .ok (.invokevirtual 28, 3) := by decide +kernel
theorem dX3_groupAt_5 : decode cX3_groupAt 5 = .ok (.istore_n 2, 1) := by decide +kernel
theorem dX3_groupAt_6 : decode cX3_groupAt 6 = .ok (.aload_n 0, 1) := by decide +kernel
theorem dX3_groupAt_7 : decode cX3_groupAt 7 = .ok (.iload_n 2, 1) := by decide +kernel
theorem dX3_groupAt_8 : decode cX3_groupAt 8 = .ok (.invokevirtual 32, 3) := by decide +kernel
theorem dX3_groupAt_11 : decode cX3_groupAt 11 = .ok (.ifCond .eq 12, 3) := by decide +kernel
theorem dX3_groupAt_14 : decode cX3_groupAt 14 = .ok (.aload_n 0, 1) := by decide +kernel
theorem dX3_groupAt_15 : decode cX3_groupAt 15 = .ok (.getfield 9, 3) := by decide +kernel
theorem dX3_groupAt_18 : decode cX3_groupAt 18 = .ok (.iload_n 2, 1) := by decide +kernel
theorem dX3_groupAt_19 : decode cX3_groupAt 19 = .ok (.iaload, 1) := by decide +kernel
theorem dX3_groupAt_20 : decode cX3_groupAt 20 = .ok (.goto 4, 3) := by decide +kernel
theorem dX3_groupAt_23 : decode cX3_groupAt 23 = .ok (.iconst (-1), 1) := by decide +kernel
theorem dX3_groupAt_24 : decode cX3_groupAt 24 = .ok (.ireturn, 1) := by decide +kernel
theorem dX3_leaseAt_0 : decode cX3_leaseAt 0 = .ok (.aload_n 0, 1) := by decide +kernel
theorem dX3_leaseAt_1 : decode cX3_leaseAt 1 = .ok (.iload_n 1, 1) := by decide +kernel
theorem dX3_leaseAt_2 : decode cX3_leaseAt 2 = .ok (.invokevirtual 28, 3) := by decide +kernel
theorem dX3_leaseAt_5 : decode cX3_leaseAt 5 = .ok (.istore_n 2, 1) := by decide +kernel
theorem dX3_leaseAt_6 : decode cX3_leaseAt 6 = .ok (.aload_n 0, 1) := by decide +kernel
theorem dX3_leaseAt_7 : decode cX3_leaseAt 7 = .ok (.iload_n 2, 1) := by decide +kernel
theorem dX3_leaseAt_8 : decode cX3_leaseAt 8 = .ok (.invokevirtual 32, 3) := by decide +kernel
theorem dX3_leaseAt_11 : decode cX3_leaseAt 11 = .ok (.ifCond .eq 12, 3) := by decide +kernel
theorem dX3_leaseAt_14 : decode cX3_leaseAt 14 = .ok (.aload_n 0, 1) := by decide +kernel
theorem dX3_leaseAt_15 : decode cX3_leaseAt 15 = .ok (.getfield 21, 3) := by decide +kernel
theorem dX3_leaseAt_18 : decode cX3_leaseAt 18 = .ok (.iload_n 2, 1) := by decide +kernel
theorem dX3_leaseAt_19 : decode cX3_leaseAt 19 = .ok (.iaload, 1) := by decide +kernel
theorem dX3_leaseAt_20 : decode cX3_leaseAt 20 = .ok (.goto 4, 3) := by decide +kernel
theorem dX3_leaseAt_23 : decode cX3_leaseAt 23 = .ok (.iconst 0, 1) := by decide +kernel
theorem dX3_leaseAt_24 : decode cX3_leaseAt 24 = .ok (.ireturn, 1) := by decide +kernel
theorem dX3_overlap_0 : decode cX3_overlap 0 = .ok (.iconst 0, 1) := by decide +kernel
theorem dX3_overlap_1 : decode cX3_overlap 1 = .ok (.istore_n 3, 1) := by decide +kernel
theorem dX3_overlap_2 : decode cX3_overlap 2 = .ok (.iload_n 3, 1) := by decide +kernel
theorem dX3_overlap_3 : decode cX3_overlap 3 = .ok (.iconst 5, 1) := by decide +kernel
theorem dX3_overlap_4 : decode cX3_overlap 4 = .ok (.if_icmp .ge 39, 3) := by decide +kernel
theorem dX3_overlap_7 : decode cX3_overlap 7 = .ok (.iload_n 3, 1) := by decide +kernel
theorem dX3_overlap_8 : decode cX3_overlap 8 = .ok (.aload_n 0, 1) := by decide +kernel
theorem dX3_overlap_9 : decode cX3_overlap 9 = .ok (.getfield 24, 3) := by decide +kernel
theorem dX3_overlap_12 : decode cX3_overlap 12 = .ok (.if_icmp .ge 31, 3) := by decide +kernel
theorem dX3_overlap_15 : decode cX3_overlap 15 = .ok (.aload_n 0, 1) := by decide +kernel
theorem dX3_overlap_16 : decode cX3_overlap 16 = .ok (.getfield 15, 3) := by decide +kernel
theorem dX3_overlap_19 : decode cX3_overlap 19 = .ok (.iload_n 3, 1) := by decide +kernel
theorem dX3_overlap_20 : decode cX3_overlap 20 = .ok (.iaload, 1) := by decide +kernel
theorem dX3_overlap_21 : decode cX3_overlap 21 = .ok (.iload_n 2, 1) := by decide +kernel
theorem dX3_overlap_22 : decode cX3_overlap 22 = .ok (.if_icmp .gt 15, 3) := by decide +kernel
theorem dX3_overlap_25 : decode cX3_overlap 25 = .ok (.iload_n 1, 1) := by decide +kernel
theorem dX3_overlap_26 : decode cX3_overlap 26 = .ok (.aload_n 0, 1) := by decide +kernel
theorem dX3_overlap_27 : decode cX3_overlap 27 = .ok (.getfield 18, 3) := by decide +kernel
theorem dX3_overlap_30 : decode cX3_overlap 30 = .ok (.iload_n 3, 1) := by decide +kernel
theorem dX3_overlap_31 : decode cX3_overlap 31 = .ok (.iaload, 1) := by decide +kernel
theorem dX3_overlap_32 : decode cX3_overlap 32 = .ok (.if_icmp .gt 5, 3) := by decide +kernel
theorem dX3_overlap_35 : decode cX3_overlap 35 = .ok (.iconst 1, 1) := by decide +kernel
theorem dX3_overlap_36 : decode cX3_overlap 36 = .ok (.ireturn, 1) := by decide +kernel
theorem dX3_overlap_37 : decode cX3_overlap 37 = .ok (.iinc 3 1, 3) := by decide +kernel
theorem dX3_overlap_40 : decode cX3_overlap 40 = .ok (.goto (-38), 3) := by decide +kernel
theorem dX3_overlap_43 : decode cX3_overlap 43 = .ok (.iconst 0, 1) := by decide +kernel
theorem dX3_overlap_44 : decode cX3_overlap 44 = .ok (.ireturn, 1) := by decide +kernel
theorem dX3_countAddresses_0 : decode cX3_countAddresses 0 = .ok (.iconst 0, 1) := by decide +kernel
theorem dX3_countAddresses_1 : decode cX3_countAddresses 1 = .ok (.istore_n 2, 1) := by decide +kernel
theorem dX3_countAddresses_2 : decode cX3_countAddresses 2 = .ok (.iconst 0, 1) := by decide +kernel
theorem dX3_countAddresses_3 : decode cX3_countAddresses 3 = .ok (.istore_n 3, 1) := by decide +kernel
theorem dX3_countAddresses_4 : decode cX3_countAddresses 4 = .ok (.iload_n 3, 1) := by decide +kernel
theorem dX3_countAddresses_5 : decode cX3_countAddresses 5 = .ok (.iconst 5, 1) := by decide +kernel
theorem dX3_countAddresses_6 : decode cX3_countAddresses 6 = .ok (.if_icmp .ge 45, 3) := by decide +kernel
theorem dX3_countAddresses_9 : decode cX3_countAddresses 9 = .ok (.iload_n 3, 1) := by decide +kernel
theorem dX3_countAddresses_10 : decode cX3_countAddresses 10 = .ok (.aload_n 0, 1) := by decide +kernel
theorem dX3_countAddresses_11 : decode cX3_countAddresses 11 = .ok (.getfield 24, 3) := by decide +kernel
theorem dX3_countAddresses_14 : decode cX3_countAddresses 14 = .ok (.if_icmp .ge 37, 3) := by decide +kernel
theorem dX3_countAddresses_17 : decode cX3_countAddresses 17 = .ok (.aload_n 0, 1) := by decide +kernel
theorem dX3_countAddresses_18 : decode cX3_countAddresses 18 = .ok (.getfield 9, 3) := by decide +kernel
theorem dX3_countAddresses_21 : decode cX3_countAddresses 21 = .ok (.iload_n 3, 1) := by decide +kernel
theorem dX3_countAddresses_22 : decode cX3_countAddresses 22 = .ok (.iaload, 1) := by decide +kernel
theorem dX3_countAddresses_23 : decode cX3_countAddresses 23 = .ok (.iload_n 1, 1) := by decide +kernel
theorem dX3_countAddresses_24 : decode cX3_countAddresses 24 = .ok (.if_icmp .ne 21, 3) := by decide +kernel
theorem dX3_countAddresses_27 : decode cX3_countAddresses 27 = .ok (.iload_n 2, 1) := by decide +kernel
theorem dX3_countAddresses_28 : decode cX3_countAddresses 28 = .ok (.aload_n 0, 1) := by decide +kernel
theorem dX3_countAddresses_29 : decode cX3_countAddresses 29 = .ok (.getfield 18, 3) := by decide +kernel
theorem dX3_countAddresses_32 : decode cX3_countAddresses 32 = .ok (.iload_n 3, 1) := by decide +kernel
theorem dX3_countAddresses_33 : decode cX3_countAddresses 33 = .ok (.iaload, 1) := by decide +kernel
theorem dX3_countAddresses_34 : decode cX3_countAddresses 34 = .ok (.aload_n 0, 1) := by decide +kernel
theorem dX3_countAddresses_35 : decode cX3_countAddresses 35 = .ok (.getfield 15, 3) := by decide +kernel
theorem dX3_countAddresses_38 : decode cX3_countAddresses 38 = .ok (.iload_n 3, 1) := by decide +kernel
theorem dX3_countAddresses_39 : decode cX3_countAddresses 39 = .ok (.iaload, 1) := by decide +kernel
theorem dX3_countAddresses_40 : decode cX3_countAddresses 40 = .ok (.isub, 1) := by decide +kernel
theorem dX3_countAddresses_41 : decode cX3_countAddresses 41 = .ok (.iconst 1, 1) := by decide +kernel
theorem dX3_countAddresses_42 : decode cX3_countAddresses 42 = .ok (.iadd, 1) := by decide +kernel
theorem dX3_countAddresses_43 : decode cX3_countAddresses 43 = .ok (.iadd, 1) := by decide +kernel
theorem dX3_countAddresses_44 : decode cX3_countAddresses 44 = .ok (.istore_n 2, 1) := by decide +kernel
theorem dX3_countAddresses_45 : decode cX3_countAddresses 45 = .ok (.iinc 3 1, 3) := by decide +kernel
theorem dX3_countAddresses_48 : decode cX3_countAddresses 48 = .ok (.goto (-44), 3) := by decide +kernel
theorem dX3_countAddresses_51 : decode cX3_countAddresses 51 = .ok (.iload_n 2, 1) := by decide +kernel
theorem dX3_countAddresses_52 : decode cX3_countAddresses 52 = .ok (.ireturn, 1) := by decide +kernel
theorem dX3_append_0 : decode cX3_append 0 = .ok (.aload_n 0, 1) := by decide +kernel
theorem dX3_append_1 : decode cX3_append 1 = .ok (.getfield 24, 3) := by decide +kernel
theorem dX3_append_4 : decode cX3_append 4 = .ok (.istore 5, 2) := by decide +kernel
theorem dX3_append_6 : decode cX3_append 6 = .ok (.iload 5, 2) := by decide +kernel
theorem dX3_append_8 : decode cX3_append 8 = .ok (.ifCond .lt 9, 3) := by decide +kernel
theorem dX3_append_11 : decode cX3_append 11 = .ok (.iload 5, 2) := by decide +kernel
theorem dX3_append_13 : decode cX3_append 13 = .ok (.iconst 5, 1) := by decide +kernel
theorem dX3_append_14 : decode cX3_append 14 = .ok (.if_icmp .lt 5, 3) := by decide +kernel
theorem dX3_append_17 : decode cX3_append 17 = .ok (.iconst (-1), 1) := by decide +kernel
theorem dX3_append_18 : decode cX3_append 18 = .ok (.ireturn, 1) := by decide +kernel
theorem dX3_append_19 : decode cX3_append 19 = .ok (.aload_n 0, 1) := by decide +kernel
theorem dX3_append_20 : decode cX3_append 20 = .ok (.getfield 9, 3) := by decide +kernel
theorem dX3_append_23 : decode cX3_append 23 = .ok (.iload 5, 2) := by decide +kernel
theorem dX3_append_25 : decode cX3_append 25 = .ok (.iload_n 1, 1) := by decide +kernel
theorem dX3_append_26 : decode cX3_append 26 = .ok (.iastore, 1) := by decide +kernel
theorem dX3_append_27 : decode cX3_append 27 = .ok (.aload_n 0, 1) := by decide +kernel
theorem dX3_append_28 : decode cX3_append 28 = .ok (.getfield 15, 3) := by decide +kernel
theorem dX3_append_31 : decode cX3_append 31 = .ok (.iload 5, 2) := by decide +kernel
theorem dX3_append_33 : decode cX3_append 33 = .ok (.iload_n 2, 1) := by decide +kernel
theorem dX3_append_34 : decode cX3_append 34 = .ok (.iastore, 1) := by decide +kernel
theorem dX3_append_35 : decode cX3_append 35 = .ok (.aload_n 0, 1) := by decide +kernel
theorem dX3_append_36 : decode cX3_append 36 = .ok (.getfield 18, 3) := by decide +kernel
theorem dX3_append_39 : decode cX3_append 39 = .ok (.iload 5, 2) := by decide +kernel
theorem dX3_append_41 : decode cX3_append 41 = .ok (.iload_n 3, 1) := by decide +kernel
theorem dX3_append_42 : decode cX3_append 42 = .ok (.iastore, 1) := by decide +kernel
theorem dX3_append_43 : decode cX3_append 43 = .ok (.aload_n 0, 1) := by decide +kernel
theorem dX3_append_44 : decode cX3_append 44 = .ok (.getfield 21, 3) := by decide +kernel
theorem dX3_append_47 : decode cX3_append 47 = .ok (.iload 5, 2) := by decide +kernel
theorem dX3_append_49 : decode cX3_append 49 = .ok (.iload 4, 2) := by decide +kernel
theorem dX3_append_51 : decode cX3_append 51 = .ok (.iastore, 1) := by decide +kernel
theorem dX3_append_52 : decode cX3_append 52 = .ok (.aload_n 0, 1) := by decide +kernel
theorem dX3_append_53 : decode cX3_append 53 = .ok (.iload 5, 2) := by decide +kernel
theorem dX3_append_55 : decode cX3_append 55 = .ok (.iconst 1, 1) := by decide +kernel
theorem dX3_append_56 : decode cX3_append 56 = .ok (.iadd, 1) := by decide +kernel
theorem dX3_append_57 : decode cX3_append 57 = .ok (.putfield 24, 3) := by decide +kernel
theorem dX3_append_60 : decode cX3_append 60 = .ok (.iload 5, 2) := by decide +kernel
theorem dX3_append_62 : decode cX3_append 62 = .ok (.ireturn, 1) := by decide +kernel
theorem dX3_drop_0 : decode cX3_drop 0 = .ok (.aload_n 0, 1) := by decide +kernel
theorem dX3_drop_1 : decode cX3_drop 1 = .ok (.iload_n 1, 1) := by decide +kernel
theorem dX3_drop_2 : decode cX3_drop 2 = .ok (.invokevirtual 32, 3) := by decide +kernel
theorem dX3_drop_5 : decode cX3_drop 5 = .ok (.ifCond .ne 8, 3) := by decide +kernel
theorem dX3_drop_8 : decode cX3_drop 8 = .ok (.aload_n 0, 1) := by decide +kernel
theorem dX3_drop_9 : decode cX3_drop 9 = .ok (.getfield 24, 3) := by decide +kernel
theorem dX3_drop_12 : decode cX3_drop 12 = .ok (.ireturn, 1) := by decide +kernel
theorem dX3_drop_13 : decode cX3_drop 13 = .ok (.iload_n 1, 1) := by decide +kernel
theorem dX3_drop_14 : decode cX3_drop 14 = .ok (.istore_n 2, 1) := by decide +kernel
theorem dX3_drop_15 : decode cX3_drop 15 = .ok (.iload_n 2, 1) := by decide +kernel
theorem dX3_drop_16 : decode cX3_drop 16 = .ok (.iconst 1, 1) := by decide +kernel
theorem dX3_drop_17 : decode cX3_drop 17 = .ok (.iadd, 1) := by decide +kernel
theorem dX3_drop_18 : decode cX3_drop 18 = .ok (.iconst 5, 1) := by decide +kernel
theorem dX3_drop_19 : decode cX3_drop 19 = .ok (.if_icmp .ge 75, 3) := by decide +kernel
theorem dX3_drop_22 : decode cX3_drop 22 = .ok (.iload_n 2, 1) := by decide +kernel
theorem dX3_drop_23 : decode cX3_drop 23 = .ok (.iconst 1, 1) := by decide +kernel
theorem dX3_drop_24 : decode cX3_drop 24 = .ok (.iadd, 1) := by decide +kernel
theorem dX3_drop_25 : decode cX3_drop 25 = .ok (.aload_n 0, 1) := by decide +kernel
theorem dX3_drop_26 : decode cX3_drop 26 = .ok (.getfield 24, 3) := by decide +kernel
theorem dX3_drop_29 : decode cX3_drop 29 = .ok (.if_icmp .ge 65, 3) := by decide +kernel
theorem dX3_drop_32 : decode cX3_drop 32 = .ok (.aload_n 0, 1) := by decide +kernel
theorem dX3_drop_33 : decode cX3_drop 33 = .ok (.getfield 9, 3) := by decide +kernel
theorem dX3_drop_36 : decode cX3_drop 36 = .ok (.iload_n 2, 1) := by decide +kernel
theorem dX3_drop_37 : decode cX3_drop 37 = .ok (.aload_n 0, 1) := by decide +kernel
theorem dX3_drop_38 : decode cX3_drop 38 = .ok (.getfield 9, 3) := by decide +kernel
theorem dX3_drop_41 : decode cX3_drop 41 = .ok (.iload_n 2, 1) := by decide +kernel
theorem dX3_drop_42 : decode cX3_drop 42 = .ok (.iconst 1, 1) := by decide +kernel
theorem dX3_drop_43 : decode cX3_drop 43 = .ok (.iadd, 1) := by decide +kernel
theorem dX3_drop_44 : decode cX3_drop 44 = .ok (.iaload, 1) := by decide +kernel
theorem dX3_drop_45 : decode cX3_drop 45 = .ok (.iastore, 1) := by decide +kernel
theorem dX3_drop_46 : decode cX3_drop 46 = .ok (.aload_n 0, 1) := by decide +kernel
theorem dX3_drop_47 : decode cX3_drop 47 = .ok (.getfield 15, 3) := by decide +kernel
theorem dX3_drop_50 : decode cX3_drop 50 = .ok (.iload_n 2, 1) := by decide +kernel
theorem dX3_drop_51 : decode cX3_drop 51 = .ok (.aload_n 0, 1) := by decide +kernel
theorem dX3_drop_52 : decode cX3_drop 52 = .ok (.getfield 15, 3) := by decide +kernel
theorem dX3_drop_55 : decode cX3_drop 55 = .ok (.iload_n 2, 1) := by decide +kernel
theorem dX3_drop_56 : decode cX3_drop 56 = .ok (.iconst 1, 1) := by decide +kernel
theorem dX3_drop_57 : decode cX3_drop 57 = .ok (.iadd, 1) := by decide +kernel
theorem dX3_drop_58 : decode cX3_drop 58 = .ok (.iaload, 1) := by decide +kernel
theorem dX3_drop_59 : decode cX3_drop 59 = .ok (.iastore, 1) := by decide +kernel
theorem dX3_drop_60 : decode cX3_drop 60 = .ok (.aload_n 0, 1) := by decide +kernel
theorem dX3_drop_61 : decode cX3_drop 61 = .ok (.getfield 18, 3) := by decide +kernel
theorem dX3_drop_64 : decode cX3_drop 64 = .ok (.iload_n 2, 1) := by decide +kernel
theorem dX3_drop_65 : decode cX3_drop 65 = .ok (.aload_n 0, 1) := by decide +kernel
theorem dX3_drop_66 : decode cX3_drop 66 = .ok (.getfield 18, 3) := by decide +kernel
theorem dX3_drop_69 : decode cX3_drop 69 = .ok (.iload_n 2, 1) := by decide +kernel
theorem dX3_drop_70 : decode cX3_drop 70 = .ok (.iconst 1, 1) := by decide +kernel
theorem dX3_drop_71 : decode cX3_drop 71 = .ok (.iadd, 1) := by decide +kernel
theorem dX3_drop_72 : decode cX3_drop 72 = .ok (.iaload, 1) := by decide +kernel
theorem dX3_drop_73 : decode cX3_drop 73 = .ok (.iastore, 1) := by decide +kernel
theorem dX3_drop_74 : decode cX3_drop 74 = .ok (.aload_n 0, 1) := by decide +kernel
theorem dX3_drop_75 : decode cX3_drop 75 = .ok (.getfield 21, 3) := by decide +kernel
theorem dX3_drop_78 : decode cX3_drop 78 = .ok (.iload_n 2, 1) := by decide +kernel
theorem dX3_drop_79 : decode cX3_drop 79 = .ok (.aload_n 0, 1) := by decide +kernel
theorem dX3_drop_80 : decode cX3_drop 80 = .ok (.getfield 21, 3) := by decide +kernel
theorem dX3_drop_83 : decode cX3_drop 83 = .ok (.iload_n 2, 1) := by decide +kernel
theorem dX3_drop_84 : decode cX3_drop 84 = .ok (.iconst 1, 1) := by decide +kernel
theorem dX3_drop_85 : decode cX3_drop 85 = .ok (.iadd, 1) := by decide +kernel
theorem dX3_drop_86 : decode cX3_drop 86 = .ok (.iaload, 1) := by decide +kernel
theorem dX3_drop_87 : decode cX3_drop 87 = .ok (.iastore, 1) := by decide +kernel
theorem dX3_drop_88 : decode cX3_drop 88 = .ok (.iinc 2 1, 3) := by decide +kernel
theorem dX3_drop_91 : decode cX3_drop 91 = .ok (.goto (-76), 3) := by decide +kernel
theorem dX3_drop_94 : decode cX3_drop 94 = .ok (.aload_n 0, 1) := by decide +kernel
theorem dX3_drop_95 : decode cX3_drop 95 = .ok (.dup, 1) := by decide +kernel
theorem dX3_drop_96 : decode cX3_drop 96 = .ok (.getfield 24, 3) := by decide +kernel
theorem dX3_drop_99 : decode cX3_drop 99 = .ok (.iconst 1, 1) := by decide +kernel
theorem dX3_drop_100 : decode cX3_drop 100 = .ok (.isub, 1) := by decide +kernel
theorem dX3_drop_101 : decode cX3_drop 101 = .ok (.putfield 24, 3) := by decide +kernel
theorem dX3_drop_104 : decode cX3_drop 104 = .ok (.aload_n 0, 1) := by decide +kernel
theorem dX3_drop_105 : decode cX3_drop 105 = .ok (.getfield 24, 3) := by decide +kernel
theorem dX3_drop_108 : decode cX3_drop 108 = .ok (.ireturn, 1) := by decide +kernel
theorem dX3_copyFrom_0 : decode cX3_copyFrom 0 = .ok (.aload_n 0, 1) := by decide +kernel
theorem dX3_copyFrom_1 : decode cX3_copyFrom 1 = .ok (.aload_n 1, 1) := by decide +kernel
theorem dX3_copyFrom_2 : decode cX3_copyFrom 2 = .ok (.getfield 24, 3) := by decide +kernel
theorem dX3_copyFrom_5 : decode cX3_copyFrom 5 = .ok (.putfield 24, 3) := by decide +kernel
theorem dX3_copyFrom_8 : decode cX3_copyFrom 8 = .ok (.aload_n 1, 1) := by decide +kernel
theorem dX3_copyFrom_9 : decode cX3_copyFrom 9 = .ok (.getfield 9, 3) := by decide +kernel
theorem dX3_copyFrom_12 : decode cX3_copyFrom 12 = .ok (.aload_n 0, 1) := by decide +kernel
theorem dX3_copyFrom_13 : decode cX3_copyFrom 13 = .ok (.getfield 9, 3) := by decide +kernel
theorem dX3_copyFrom_16 : decode cX3_copyFrom 16 = .ok (.invokestatic 36, 3) := by decide +kernel
theorem dX3_copyFrom_19 : decode cX3_copyFrom 19 = .ok (.aload_n 1, 1) := by decide +kernel
theorem dX3_copyFrom_20 : decode cX3_copyFrom 20 = .ok (.getfield 15, 3) := by decide +kernel
theorem dX3_copyFrom_23 : decode cX3_copyFrom 23 = .ok (.aload_n 0, 1) := by decide +kernel
theorem dX3_copyFrom_24 : decode cX3_copyFrom 24 = .ok (.getfield 15, 3) := by decide +kernel
theorem dX3_copyFrom_27 : decode cX3_copyFrom 27 = .ok (.invokestatic 36, 3) := by decide +kernel
theorem dX3_copyFrom_30 : decode cX3_copyFrom 30 = .ok (.aload_n 1, 1) := by decide +kernel
theorem dX3_copyFrom_31 : decode cX3_copyFrom 31 = .ok (.getfield 18, 3) := by decide +kernel
theorem dX3_copyFrom_34 : decode cX3_copyFrom 34 = .ok (.aload_n 0, 1) := by decide +kernel
theorem dX3_copyFrom_35 : decode cX3_copyFrom 35 = .ok (.getfield 18, 3) := by decide +kernel
theorem dX3_copyFrom_38 : decode cX3_copyFrom 38 = .ok (.invokestatic 36, 3) := by decide +kernel
theorem dX3_copyFrom_41 : decode cX3_copyFrom 41 = .ok (.aload_n 1, 1) := by decide +kernel
theorem dX3_copyFrom_42 : decode cX3_copyFrom 42 = .ok (.getfield 21, 3) := by decide +kernel
theorem dX3_copyFrom_45 : decode cX3_copyFrom 45 = .ok (.aload_n 0, 1) := by decide +kernel
theorem dX3_copyFrom_46 : decode cX3_copyFrom 46 = .ok (.getfield 21, 3) := by decide +kernel
theorem dX3_copyFrom_49 : decode cX3_copyFrom 49 = .ok (.invokestatic 36, 3) := by decide +kernel
theorem dX3_copyFrom_52 : decode cX3_copyFrom 52 = .ok (.return_, 1) := by decide +kernel
theorem dX4_init_0 : decode cX4_init 0 = .ok (.aload_n 0, 1) := by decide +kernel
theorem dX4_init_1 : decode cX4_init 1 = .ok (.invokespecial 3, 3) := by decide +kernel
theorem dX4_init_4 : decode cX4_init 4 = .ok (.aload_n 0, 1) := by decide +kernel
theorem dX4_init_5 : decode cX4_init 5 = .ok (.bipush 10, 2) := by decide +kernel
theorem dX4_init_7 : decode cX4_init 7 = .ok (.putfield 9, 3) := by decide +kernel
theorem dX4_init_10 : decode cX4_init 10 = .ok (.aload_n 0, 1) := by decide +kernel
theorem dX4_init_11 : decode cX4_init 11 = .ok (.bipush 100, 2) := by decide +kernel
theorem dX4_init_13 : decode cX4_init 13 = .ok (.putfield 15, 3) := by decide +kernel
theorem dX4_init_16 : decode cX4_init 16 = .ok (.aload_n 0, 1) := by decide +kernel
theorem dX4_init_17 : decode cX4_init 17 = .ok (.iconst 3, 1) := by decide +kernel
theorem dX4_init_18 : decode cX4_init 18 = .ok (.newarray .boolean, 2) := by decide +kernel
theorem dX4_init_20 : decode cX4_init 20 = .ok (.putfield 18, 3) := by decide +kernel
theorem dX4_init_23 : decode cX4_init 23 = .ok (.aload_n 0, 1) := by decide +kernel
theorem dX4_init_24 : decode cX4_init 24 = .ok (.iconst 3, 1) := by decide +kernel
theorem dX4_init_25 : decode cX4_init 25 = .ok (.newarray .boolean, 2) := by decide +kernel
theorem dX4_init_27 : decode cX4_init 27 = .ok (.putfield 22, 3) := by decide +kernel
theorem dX4_init_30 : decode cX4_init 30 = .ok (.iconst 0, 1) := by decide +kernel
theorem dX4_init_31 : decode cX4_init 31 = .ok (.istore_n 1, 1) := by decide +kernel
theorem dX4_init_32 : decode cX4_init 32 = .ok (.iload_n 1, 1) := by decide +kernel
theorem dX4_init_33 : decode cX4_init 33 = .ok (.iconst 3, 1) := by decide +kernel
theorem dX4_init_34 : decode cX4_init 34 = .ok (.if_icmp .ge 23, 3) := by decide +kernel
theorem dX4_init_37 : decode cX4_init 37 = .ok (.aload_n 0, 1) := by decide +kernel
theorem dX4_init_38 : decode cX4_init 38 = .ok (.getfield 18, 3) := by decide +kernel
theorem dX4_init_41 : decode cX4_init 41 = .ok (.iload_n 1, 1) := by decide +kernel
theorem dX4_init_42 : decode cX4_init 42 = .ok (.iconst 1, 1) := by decide +kernel
theorem dX4_init_43 : decode cX4_init 43 = .ok (.bastore, 1) := by decide +kernel
theorem dX4_init_44 : decode cX4_init 44 = .ok (.aload_n 0, 1) := by decide +kernel
theorem dX4_init_45 : decode cX4_init 45 = .ok (.getfield 22, 3) := by decide +kernel
theorem dX4_init_48 : decode cX4_init 48 = .ok (.iload_n 1, 1) := by decide +kernel
theorem dX4_init_49 : decode cX4_init 49 = .ok (.iconst 1, 1) := by decide +kernel
theorem dX4_init_50 : decode cX4_init 50 = .ok (.bastore, 1) := by decide +kernel
theorem dX4_init_51 : decode cX4_init 51 = .ok (.iinc 1 1, 3) := by decide +kernel
theorem dX4_init_54 : decode cX4_init 54 = .ok (.goto (-22), 3) := by decide +kernel
theorem dX4_init_57 : decode cX4_init 57 = .ok (.return_, 1) := by decide +kernel
theorem dX4_copyFrom_0 : decode cX4_copyFrom 0 = .ok (.aload_n 0, 1) := by decide +kernel
theorem dX4_copyFrom_1 : decode cX4_copyFrom 1 = .ok (.aload_n 1, 1) := by decide +kernel
theorem dX4_copyFrom_2 : decode cX4_copyFrom 2 = .ok (.getfield 25, 3) := by decide +kernel
theorem dX4_copyFrom_5 : decode cX4_copyFrom 5 = .ok (.putfield 25, 3) := by decide +kernel
theorem dX4_copyFrom_8 : decode cX4_copyFrom 8 = .ok (.aload_n 0, 1) := by decide +kernel
theorem dX4_copyFrom_9 : decode cX4_copyFrom 9 = .ok (.aload_n 1, 1) := by decide +kernel
theorem dX4_copyFrom_10 : decode cX4_copyFrom 10 = .ok (.getfield 9, 3) := by decide +kernel
theorem dX4_copyFrom_13 : decode cX4_copyFrom 13 = .ok (.putfield 9, 3) := by decide +kernel
theorem dX4_copyFrom_16 : decode cX4_copyFrom 16 = .ok (.aload_n 0, 1) := by decide +kernel
theorem dX4_copyFrom_17 : decode cX4_copyFrom 17 = .ok (.aload_n 1, 1) := by decide +kernel
theorem dX4_copyFrom_18 : decode cX4_copyFrom 18 = .ok (.getfield 15, 3) := by decide +kernel
theorem dX4_copyFrom_21 : decode cX4_copyFrom 21 = .ok (.putfield 15, 3) := by decide +kernel
theorem dX4_copyFrom_24 : decode cX4_copyFrom 24 = .ok (.aload_n 0, 1) := by decide +kernel
theorem dX4_copyFrom_25 : decode cX4_copyFrom 25 = .ok (.aload_n 1, 1) := by decide +kernel
theorem dX4_copyFrom_26 : decode cX4_copyFrom 26 = .ok (.getfield 28, 3) := by decide +kernel
theorem dX4_copyFrom_29 : decode cX4_copyFrom 29 = .ok (.putfield 28, 3) := by decide +kernel
theorem dX4_copyFrom_32 : decode cX4_copyFrom 32 = .ok (.aload_n 1, 1) := by decide +kernel
theorem dX4_copyFrom_33 : decode cX4_copyFrom 33 = .ok (.getfield 18, 3) := by decide +kernel
theorem dX4_copyFrom_36 : decode cX4_copyFrom 36 = .ok (.aload_n 0, 1) := by decide +kernel
theorem dX4_copyFrom_37 : decode cX4_copyFrom 37 = .ok (.getfield 18, 3) := by decide +kernel
theorem dX4_copyFrom_40 : decode cX4_copyFrom 40 = .ok (.invokestatic 31, 3) := by decide +kernel
theorem dX4_copyFrom_43 : decode cX4_copyFrom 43 = .ok (.aload_n 1, 1) := by decide +kernel
theorem dX4_copyFrom_44 : decode cX4_copyFrom 44 = .ok (.getfield 22, 3) := by decide +kernel
theorem dX4_copyFrom_47 : decode cX4_copyFrom 47 = .ok (.aload_n 0, 1) := by decide +kernel
theorem dX4_copyFrom_48 : decode cX4_copyFrom 48 = .ok (.getfield 22, 3) := by decide +kernel
theorem dX4_copyFrom_51 : decode cX4_copyFrom 51 = .ok (.invokestatic 31, 3) := by decide +kernel
theorem dX4_copyFrom_54 : decode cX4_copyFrom 54 = .ok (.return_, 1) := by decide +kernel
theorem dX5_init_0 : decode cX5_init 0 = .ok (.aload_n 0, 1) := by decide +kernel
theorem dX5_init_1 : decode cX5_init 1 = .ok (.invokespecial 3, 3) := by decide +kernel
theorem dX5_init_4 : decode cX5_init 4 = .ok (.aload_n 0, 1) := by decide +kernel
theorem dX5_init_5 : decode cX5_init 5 = .ok (.new 9, 3) := by decide +kernel
theorem dX5_init_8 : decode cX5_init 8 = .ok (.dup, 1) := by decide +kernel
theorem dX5_init_9 : decode cX5_init 9 = .ok (.invokespecial 11, 3) := by decide +kernel
theorem dX5_init_12 : decode cX5_init 12 = .ok (.putfield 12, 3) := by decide +kernel
theorem dX5_init_15 : decode cX5_init 15 = .ok (.aload_n 0, 1) := by decide +kernel
theorem dX5_init_16 : decode cX5_init 16 = .ok (.new 18, 3) := by decide +kernel
theorem dX5_init_19 : decode cX5_init 19 = .ok (.dup, 1) := by decide +kernel
theorem dX5_init_20 : decode cX5_init 20 = .ok (.invokespecial 20, 3) := by decide +kernel
theorem dX5_init_23 : decode cX5_init 23 = .ok (.putfield 21, 3) := by decide +kernel
theorem dX5_init_26 : decode cX5_init 26 = .ok (.aload_n 0, 1) := by decide +kernel
theorem dX5_init_27 : decode cX5_init 27 = .ok (.new 25, 3) := by decide +kernel
theorem dX5_init_30 : decode cX5_init 30 = .ok (.dup, 1) := by decide +kernel
theorem dX5_init_31 : decode cX5_init 31 = .ok (.invokespecial 27, 3) := by decide +kernel
theorem dX5_init_34 : decode cX5_init 34 = .ok (.putfield 28, 3) := by decide +kernel
theorem dX5_init_37 : decode cX5_init 37 = .ok (.aload_n 0, 1) := by decide +kernel
theorem dX5_init_38 : decode cX5_init 38 = .ok (.new 32, 3) := by decide +kernel
theorem dX5_init_41 : decode cX5_init 41 = .ok (.dup, 1) := by decide +kernel
theorem dX5_init_42 : decode cX5_init 42 = .ok (.invokespecial 34, 3) := by decide +kernel
theorem dX5_init_45 : decode cX5_init 45 = .ok (.putfield 35, 3) := by decide +kernel
theorem dX5_init_48 : decode cX5_init 48 = .ok (.aload_n 0, 1) := by decide +kernel
theorem dX5_init_49 : decode cX5_init 49 = .ok (.aload_n 1, 1) := by decide +kernel
theorem dX5_init_50 : decode cX5_init 50 = .ok (.putfield 39, 3) := by decide +kernel
theorem dX5_init_53 : decode cX5_init 53 = .ok (.return_, 1) := by decide +kernel
theorem dX5_copyFrom_0 : decode cX5_copyFrom 0 = .ok (.aload_n 0, 1) := by decide +kernel
theorem dX5_copyFrom_1 : decode cX5_copyFrom 1 = .ok (.getfield 12, 3) := by decide +kernel
theorem dX5_copyFrom_4 : decode cX5_copyFrom 4 = .ok (.aload_n 1, 1) := by decide +kernel
theorem dX5_copyFrom_5 : decode cX5_copyFrom 5 = .ok (.getfield 12, 3) := by decide +kernel
theorem dX5_copyFrom_8 : decode cX5_copyFrom 8 = .ok (.invokevirtual 43, 3) := by decide +kernel
theorem dX5_copyFrom_11 : decode cX5_copyFrom 11 = .ok (.aload_n 0, 1) := by decide +kernel
theorem dX5_copyFrom_12 : decode cX5_copyFrom 12 = .ok (.getfield 21, 3) := by decide +kernel
theorem dX5_copyFrom_15 : decode cX5_copyFrom 15 = .ok (.aload_n 1, 1) := by decide +kernel
theorem dX5_copyFrom_16 : decode cX5_copyFrom 16 = .ok (.getfield 21, 3) := by decide +kernel
theorem dX5_copyFrom_19 : decode cX5_copyFrom 19 = .ok (.invokevirtual 47, 3) := by decide +kernel
theorem dX5_copyFrom_22 : decode cX5_copyFrom 22 = .ok (.aload_n 0, 1) := by decide +kernel
theorem dX5_copyFrom_23 : decode cX5_copyFrom 23 = .ok (.getfield 28, 3) := by decide +kernel
theorem dX5_copyFrom_26 : decode cX5_copyFrom 26 = .ok (.aload_n 1, 1) := by decide +kernel
theorem dX5_copyFrom_27 : decode cX5_copyFrom 27 = .ok (.getfield 28, 3) := by decide +kernel
theorem dX5_copyFrom_30 : decode cX5_copyFrom 30 = .ok (.invokevirtual 50, 3) := by decide +kernel
theorem dX5_copyFrom_33 : decode cX5_copyFrom 33 = .ok (.aload_n 0, 1) := by decide +kernel
theorem dX5_copyFrom_34 : decode cX5_copyFrom 34 = .ok (.getfield 35, 3) := by decide +kernel
theorem dX5_copyFrom_37 : decode cX5_copyFrom 37 = .ok (.aload_n 1, 1) := by decide +kernel
theorem dX5_copyFrom_38 : decode cX5_copyFrom 38 = .ok (.getfield 35, 3) := by decide +kernel
theorem dX5_copyFrom_41 : decode cX5_copyFrom 41 = .ok (.invokevirtual 53, 3) := by decide +kernel
theorem dX5_copyFrom_44 : decode cX5_copyFrom 44 = .ok (.return_, 1) := by decide +kernel
theorem dX5_directUpFor_0 : decode cX5_directUpFor 0 = .ok (.aload_n 0, 1) := by decide +kernel
theorem dX5_directUpFor_1 : decode cX5_directUpFor 1 = .ok (.iload_n 1, 1) := by decide +kernel
theorem dX5_directUpFor_2 : decode cX5_directUpFor 2 = .ok (.invokevirtual 56, 3) := by decide +kernel
theorem dX5_directUpFor_5 : decode cX5_directUpFor 5 = .ok (.istore_n 2, 1) := by decide +kernel
theorem dX5_directUpFor_6 : decode cX5_directUpFor 6 = .ok (.iload_n 2, 1) := by decide +kernel
theorem dX5_directUpFor_7 : decode cX5_directUpFor 7 = .ok (.invokestatic 60, 3) := by decide +kernel
theorem dX5_directUpFor_10 : decode cX5_directUpFor 10 = .ok (.ifCond .eq 19, 3) := by decide +kernel
theorem dX5_directUpFor_13 : decode cX5_directUpFor 13 = .ok (.aload_n 0, 1) := by decide +kernel
theorem dX5_directUpFor_14 : decode cX5_directUpFor 14 = .ok (.getfield 35, 3) := by decide +kernel
theorem dX5_directUpFor_17 : decode cX5_directUpFor 17 = .ok (.getfield 64, 3) := by decide +kernel
theorem dX5_directUpFor_20 : decode cX5_directUpFor 20 = .ok (.iload_n 2, 1) := by decide +kernel
theorem dX5_directUpFor_21 : decode cX5_directUpFor 21 = .ok (.baload, 1) := by decide +kernel
theorem dX5_directUpFor_22 : decode cX5_directUpFor 22 = .ok (.ifCond .eq 7, 3) := by decide +kernel
theorem dX5_directUpFor_25 : decode cX5_directUpFor 25 = .ok (.iconst 1, 1) := by decide +kernel
theorem dX5_directUpFor_26 : decode cX5_directUpFor 26 = .ok (.goto 4, 3) := by decide +kernel
theorem dX5_directUpFor_29 : decode cX5_directUpFor 29 = .ok (.iconst 0, 1) := by decide +kernel
theorem dX5_directUpFor_30 : decode cX5_directUpFor 30 = .ok (.ireturn, 1) := by decide +kernel
theorem dX5_relayUpFor_0 : decode cX5_relayUpFor 0 = .ok (.aload_n 0, 1) := by decide +kernel
theorem dX5_relayUpFor_1 : decode cX5_relayUpFor 1 = .ok (.iload_n 1, 1) := by decide +kernel
theorem dX5_relayUpFor_2 : decode cX5_relayUpFor 2 = .ok (.invokevirtual 56, 3) := by decide +kernel
theorem dX5_relayUpFor_5 : decode cX5_relayUpFor 5 = .ok (.istore_n 2, 1) := by decide +kernel
theorem dX5_relayUpFor_6 : decode cX5_relayUpFor 6 = .ok (.iload_n 2, 1) := by decide +kernel
theorem dX5_relayUpFor_7 : decode cX5_relayUpFor 7 = .ok (.invokestatic 60, 3) := by decide +kernel
theorem dX5_relayUpFor_10 : decode cX5_relayUpFor 10 = .ok (.ifCond .eq 19, 3) := by decide +kernel
theorem dX5_relayUpFor_13 : decode cX5_relayUpFor 13 = .ok (.aload_n 0, 1) := by decide +kernel
theorem dX5_relayUpFor_14 : decode cX5_relayUpFor 14 = .ok (.getfield 35, 3) := by decide +kernel
theorem dX5_relayUpFor_17 : decode cX5_relayUpFor 17 = .ok (.getfield 68, 3) := by decide +kernel
theorem dX5_relayUpFor_20 : decode cX5_relayUpFor 20 = .ok (.iload_n 2, 1) := by decide +kernel
theorem dX5_relayUpFor_21 : decode cX5_relayUpFor 21 = .ok (.baload, 1) := by decide +kernel
theorem dX5_relayUpFor_22 : decode cX5_relayUpFor 22 = .ok (.ifCond .eq 7, 3) := by decide +kernel
theorem dX5_relayUpFor_25 : decode cX5_relayUpFor 25 = .ok (.iconst 1, 1) := by decide +kernel
theorem dX5_relayUpFor_26 : decode cX5_relayUpFor 26 = .ok (.goto 4, 3) := by decide +kernel
theorem dX5_relayUpFor_29 : decode cX5_relayUpFor 29 = .ok (.iconst 0, 1) := by decide +kernel
theorem dX5_relayUpFor_30 : decode cX5_relayUpFor 30 = .ok (.ireturn, 1) := by decide +kernel
theorem dX5_groupOfClient_0 : decode cX5_groupOfClient 0 = .ok (.iload_n 1, 1) := by decide +kernel
theorem dX5_groupOfClient_1 : decode cX5_groupOfClient 1 = .ok (.invokestatic 71, 3) := by decide +kernel
theorem dX5_groupOfClient_4 : decode cX5_groupOfClient 4 = .ok (.ifCond .eq 22, 3) := by decide +kernel
theorem dX5_groupOfClient_7 : decode cX5_groupOfClient 7 = .ok (.aload_n 0, 1) := by decide +kernel
theorem dX5_groupOfClient_8 : decode cX5_groupOfClient 8 = .ok (.getfield 12, 3) := by decide +kernel
theorem dX5_groupOfClient_11 : decode cX5_groupOfClient 11 = .ok (.aload_n 0, 1) := by decide +kernel
theorem dX5_groupOfClient_12 : decode cX5_groupOfClient 12 = .ok (.getfield 28, 3) := by decide +kernel
theorem dX5_groupOfClient_15 : decode cX5_groupOfClient 15 = .ok (.getfield 74, 3) := by decide +kernel
theorem dX5_groupOfClient_18 : decode cX5_groupOfClient 18 = .ok (.iload_n 1, 1) := by decide +kernel
theorem dX5_groupOfClient_19 : decode cX5_groupOfClient 19 = .ok (.iaload, 1) := by decide +kernel
theorem dX5_groupOfClient_20 : decode cX5_groupOfClient 20 = .ok (.invokevirtual 78, 3) := by decide +kernel
theorem dX5_groupOfClient_23 : decode cX5_groupOfClient 23 = .ok (.goto 4, 3) := by decide +kernel
theorem dX5_groupOfClient_26 : decode cX5_groupOfClient 26 = .ok (.iconst (-1), 1) := by decide +kernel
theorem dX5_groupOfClient_27 : decode cX5_groupOfClient 27 = .ok (.ireturn, 1) := by decide +kernel
theorem dX5_leaseEnd_0 : decode cX5_leaseEnd 0 = .ok (.iload_n 1, 1) := by decide +kernel
theorem dX5_leaseEnd_1 : decode cX5_leaseEnd 1 = .ok (.invokestatic 71, 3) := by decide +kernel
theorem dX5_leaseEnd_4 : decode cX5_leaseEnd 4 = .ok (.ifCond .eq 15, 3) := by decide +kernel
theorem dX5_leaseEnd_7 : decode cX5_leaseEnd 7 = .ok (.aload_n 0, 1) := by decide +kernel
theorem dX5_leaseEnd_8 : decode cX5_leaseEnd 8 = .ok (.getfield 28, 3) := by decide +kernel
theorem dX5_leaseEnd_11 : decode cX5_leaseEnd 11 = .ok (.getfield 74, 3) := by decide +kernel
theorem dX5_leaseEnd_14 : decode cX5_leaseEnd 14 = .ok (.iload_n 1, 1) := by decide +kernel
theorem dX5_leaseEnd_15 : decode cX5_leaseEnd 15 = .ok (.iaload, 1) := by decide +kernel
theorem dX5_leaseEnd_16 : decode cX5_leaseEnd 16 = .ok (.goto 4, 3) := by decide +kernel
theorem dX5_leaseEnd_19 : decode cX5_leaseEnd 19 = .ok (.iconst (-1), 1) := by decide +kernel
theorem dX5_leaseEnd_20 : decode cX5_leaseEnd 20 = .ok (.istore_n 2, 1) := by decide +kernel
theorem dX5_leaseEnd_21 : decode cX5_leaseEnd 21 = .ok (.iload_n 2, 1) := by decide +kernel
theorem dX5_leaseEnd_22 : decode cX5_leaseEnd 22 = .ok (.invokestatic 81, 3) := by decide +kernel
theorem dX5_leaseEnd_25 : decode cX5_leaseEnd 25 = .ok (.ifCond .eq 15, 3) := by decide +kernel
theorem dX5_leaseEnd_28 : decode cX5_leaseEnd 28 = .ok (.aload_n 0, 1) := by decide +kernel
theorem dX5_leaseEnd_29 : decode cX5_leaseEnd 29 = .ok (.getfield 21, 3) := by decide +kernel
theorem dX5_leaseEnd_32 : decode cX5_leaseEnd 32 = .ok (.getfield 84, 3) := by decide +kernel
theorem dX5_leaseEnd_35 : decode cX5_leaseEnd 35 = .ok (.iload_n 2, 1) := by decide +kernel
theorem dX5_leaseEnd_36 : decode cX5_leaseEnd 36 = .ok (.iaload, 1) := by decide +kernel
theorem dX5_leaseEnd_37 : decode cX5_leaseEnd 37 = .ok (.goto 4, 3) := by decide +kernel
theorem dX5_leaseEnd_40 : decode cX5_leaseEnd 40 = .ok (.iconst (-1), 1) := by decide +kernel
theorem dX5_leaseEnd_41 : decode cX5_leaseEnd 41 = .ok (.ireturn, 1) := by decide +kernel
theorem dX5_countInGroup_0 : decode cX5_countInGroup 0 = .ok (.iconst 0, 1) := by decide +kernel
theorem dX5_countInGroup_1 : decode cX5_countInGroup 1 = .ok (.istore_n 3, 1) := by decide +kernel
theorem dX5_countInGroup_2 : decode cX5_countInGroup 2 = .ok (.iconst 0, 1) := by decide +kernel
theorem dX5_countInGroup_3 : decode cX5_countInGroup 3 = .ok (.istore 4, 2) := by decide +kernel
theorem dX5_countInGroup_5 : decode cX5_countInGroup 5 = .ok (.iload 4, 2) := by decide +kernel
theorem dX5_countInGroup_7 : decode cX5_countInGroup 7 = .ok (.iconst 5, 1) := by decide +kernel
theorem dX5_countInGroup_8 : decode cX5_countInGroup 8 = .ok (.if_icmp .ge 66, 3) := by decide +kernel
theorem dX5_countInGroup_11 : decode cX5_countInGroup 11 = .ok (.iload 4, 2) := by decide +kernel
theorem dX5_countInGroup_13 : decode cX5_countInGroup 13 = .ok (.aload_n 0, 1) := by decide +kernel
theorem dX5_countInGroup_14 : decode cX5_countInGroup 14 = .ok (.getfield 12, 3) := by decide +kernel
theorem dX5_countInGroup_17 : decode cX5_countInGroup 17 = .ok (.getfield 87, 3) := by decide +kernel
theorem dX5_countInGroup_20 : decode cX5_countInGroup 20 = .ok (.if_icmp .ge 54, 3) := by decide +kernel
theorem dX5_countInGroup_23 : decode cX5_countInGroup 23 = .ok (.aload_n 0, 1) := by decide +kernel
theorem dX5_countInGroup_24 : decode cX5_countInGroup 24 = .ok (.getfield 12, 3) := by decide +kernel
theorem dX5_countInGroup_27 : decode cX5_countInGroup 27 = .ok (.getfield 91, 3) := by decide +kernel
theorem dX5_countInGroup_30 : decode cX5_countInGroup 30 = .ok (.iload 4, 2) := by decide +kernel
theorem dX5_countInGroup_32 : decode cX5_countInGroup 32 = .ok (.iaload, 1) := by decide +kernel
theorem dX5_countInGroup_33 : decode cX5_countInGroup 33 = .ok (.iload_n 1, 1) := by decide +kernel
theorem dX5_countInGroup_34 : decode cX5_countInGroup 34 = .ok (.if_icmp .ne 34, 3) := by decide +kernel
theorem dX5_countInGroup_37 : decode cX5_countInGroup 37 = .ok (.iload_n 3, 1) := by decide +kernel
theorem dX5_countInGroup_38 : decode cX5_countInGroup 38 = .ok (.aload_n 0, 1) := by decide +kernel
theorem dX5_countInGroup_39 : decode cX5_countInGroup 39 = .ok (.getfield 21, 3) := by decide +kernel
theorem dX5_countInGroup_42 : decode cX5_countInGroup 42 = .ok (.aload_n 0, 1) := by decide +kernel
theorem dX5_countInGroup_43 : decode cX5_countInGroup 43 = .ok (.getfield 12, 3) := by decide +kernel
theorem dX5_countInGroup_46 : decode cX5_countInGroup 46 = .ok (.getfield 94, 3) := by decide +kernel
theorem dX5_countInGroup_49 : decode cX5_countInGroup 49 = .ok (.iload 4, 2) := by decide +kernel
theorem dX5_countInGroup_51 : decode cX5_countInGroup 51 = .ok (.iaload, 1) := by decide +kernel
theorem dX5_countInGroup_52 : decode cX5_countInGroup 52 = .ok (.aload_n 0, 1) := by decide +kernel
theorem dX5_countInGroup_53 : decode cX5_countInGroup 53 = .ok (.getfield 12, 3) := by decide +kernel
theorem dX5_countInGroup_56 : decode cX5_countInGroup 56 = .ok (.getfield 97, 3) := by decide +kernel
theorem dX5_countInGroup_59 : decode cX5_countInGroup 59 = .ok (.iload 4, 2) := by decide +kernel
theorem dX5_countInGroup_61 : decode cX5_countInGroup 61 = .ok (.iaload, 1) := by decide +kernel
theorem dX5_countInGroup_62 : decode cX5_countInGroup 62 = .ok (.iload_n 2, 1) := by decide +kernel
theorem dX5_countInGroup_63 : decode cX5_countInGroup 63 = .ok (.invokevirtual 100, 3) := by decide +kernel
theorem dX5_countInGroup_66 : decode cX5_countInGroup 66 = .ok (.iadd, 1) := by decide +kernel
theorem dX5_countInGroup_67 : decode cX5_countInGroup 67 = .ok (.istore_n 3, 1) := by decide +kernel
theorem dX5_countInGroup_68 : decode cX5_countInGroup 68 = .ok (.iinc 4 1, 3) := by decide +kernel
theorem dX5_countInGroup_71 : decode cX5_countInGroup 71 = .ok (.goto (-66), 3) := by decide +kernel
theorem dX5_countInGroup_74 : decode cX5_countInGroup 74 = .ok (.iload_n 3, 1) := by decide +kernel
theorem dX5_countInGroup_75 : decode cX5_countInGroup 75 = .ok (.ireturn, 1) := by decide +kernel
theorem dX5_sumOfRests_0 : decode cX5_sumOfRests 0 = .ok (.iconst 0, 1) := by decide +kernel
theorem dX5_sumOfRests_1 : decode cX5_sumOfRests 1 = .ok (.istore_n 1, 1) := by decide +kernel
theorem dX5_sumOfRests_2 : decode cX5_sumOfRests 2 = .ok (.iconst 0, 1) := by decide +kernel
theorem dX5_sumOfRests_3 : decode cX5_sumOfRests 3 = .ok (.istore_n 2, 1) := by decide +kernel
theorem dX5_sumOfRests_4 : decode cX5_sumOfRests 4 = .ok (.iload_n 2, 1) := by decide +kernel
theorem dX5_sumOfRests_5 : decode cX5_sumOfRests 5 = .ok (.bipush 20, 2) := by decide +kernel
theorem dX5_sumOfRests_7 : decode cX5_sumOfRests 7 = .ok (.if_icmp .ge 36, 3) := by decide +kernel
theorem dX5_sumOfRests_10 : decode cX5_sumOfRests 10 = .ok (.aload_n 0, 1) := by decide +kernel
theorem dX5_sumOfRests_11 : decode cX5_sumOfRests 11 = .ok (.getfield 28, 3) := by decide +kernel
theorem dX5_sumOfRests_14 : decode cX5_sumOfRests 14 = .ok (.iload_n 2, 1) := by decide +kernel
theorem dX5_sumOfRests_15 : decode cX5_sumOfRests 15 = .ok (.invokevirtual 104, 3) := by decide +kernel
theorem dX5_sumOfRests_18 : decode cX5_sumOfRests 18 = .ok (.ifCond .eq 19, 3) := by decide +kernel
theorem dX5_sumOfRests_21 : decode cX5_sumOfRests 21 = .ok (.iload_n 1, 1) := by decide +kernel
theorem dX5_sumOfRests_22 : decode cX5_sumOfRests 22 = .ok (.aload_n 0, 1) := by decide +kernel
theorem dX5_sumOfRests_23 : decode cX5_sumOfRests 23 = .ok (.iload_n 2, 1) := by decide +kernel
theorem dX5_sumOfRests_24 : decode cX5_sumOfRests 24 = .ok (.invokevirtual 107, 3) := by decide +kernel
theorem dX5_sumOfRests_27 : decode cX5_sumOfRests 27 = .ok (.aload_n 0, 1) := by decide +kernel
theorem dX5_sumOfRests_28 : decode cX5_sumOfRests 28 = .ok (.getfield 35, 3) := by decide +kernel
theorem dX5_sumOfRests_31 : decode cX5_sumOfRests 31 = .ok (.getfield 110, 3) := by decide +kernel
theorem dX5_sumOfRests_34 : decode cX5_sumOfRests 34 = .ok (.isub, 1) := by decide +kernel
theorem dX5_sumOfRests_35 : decode cX5_sumOfRests 35 = .ok (.iadd, 1) := by decide +kernel
theorem dX5_sumOfRests_36 : decode cX5_sumOfRests 36 = .ok (.istore_n 1, 1) := by decide +kernel
theorem dX5_sumOfRests_37 : decode cX5_sumOfRests 37 = .ok (.iinc 2 1, 3) := by decide +kernel
theorem dX5_sumOfRests_40 : decode cX5_sumOfRests 40 = .ok (.goto (-36), 3) := by decide +kernel
theorem dX5_sumOfRests_43 : decode cX5_sumOfRests 43 = .ok (.iload_n 1, 1) := by decide +kernel
theorem dX5_sumOfRests_44 : decode cX5_sumOfRests 44 = .ok (.ireturn, 1) := by decide +kernel
theorem dX5_firstCandidate_0 : decode cX5_firstCandidate 0 = .ok (.iload_n 1, 1) := by decide +kernel
theorem dX5_firstCandidate_1 : decode cX5_firstCandidate 1 = .ok (.invokestatic 71, 3) := by decide +kernel
theorem dX5_firstCandidate_4 : decode cX5_firstCandidate 4 = .ok (.ifCond .eq 15, 3) := by decide +kernel
theorem dX5_firstCandidate_7 : decode cX5_firstCandidate 7 = .ok (.aload_n 0, 1) := by decide +kernel
theorem dX5_firstCandidate_8 : decode cX5_firstCandidate 8 = .ok (.getfield 28, 3) := by decide +kernel
theorem dX5_firstCandidate_11 : decode cX5_firstCandidate 11 = .ok (.getfield 113, 3) := by decide +kernel
theorem dX5_firstCandidate_14 : decode cX5_firstCandidate 14 = .ok (.iload_n 1, 1) := by decide +kernel
theorem dX5_firstCandidate_15 : decode cX5_firstCandidate 15 = .ok (.iaload, 1) := by decide +kernel
theorem dX5_firstCandidate_16 : decode cX5_firstCandidate 16 = .ok (.goto 4, 3) := by decide +kernel
theorem dX5_firstCandidate_19 : decode cX5_firstCandidate 19 = .ok (.iconst (-1), 1) := by decide +kernel
theorem dX5_firstCandidate_20 : decode cX5_firstCandidate 20 = .ok (.istore 4, 2) := by decide +kernel
theorem dX5_firstCandidate_22 : decode cX5_firstCandidate 22 = .ok (.aload_n 0, 1) := by decide +kernel
theorem dX5_firstCandidate_23 : decode cX5_firstCandidate 23 = .ok (.iload 4, 2) := by decide +kernel
theorem dX5_firstCandidate_25 : decode cX5_firstCandidate 25 = .ok (.iload_n 2, 1) := by decide +kernel
theorem dX5_firstCandidate_26 : decode cX5_firstCandidate 26 = .ok (.invokevirtual 116, 3) := by decide +kernel
theorem dX5_firstCandidate_29 : decode cX5_firstCandidate 29 = .ok (.ifCond .eq 6, 3) := by decide +kernel
theorem dX5_firstCandidate_32 : decode cX5_firstCandidate 32 = .ok (.iload 4, 2) := by decide +kernel
theorem dX5_firstCandidate_34 : decode cX5_firstCandidate 34 = .ok (.ireturn, 1) := by decide +kernel
theorem dX5_firstCandidate_35 : decode cX5_firstCandidate 35 = .ok (.aload_n 0, 1) := by decide +kernel
theorem dX5_firstCandidate_36 : decode cX5_firstCandidate 36 = .ok (.iload_n 3, 1) := by decide +kernel
theorem dX5_firstCandidate_37 : decode cX5_firstCandidate 37 = .ok (.iload_n 2, 1) := by decide +kernel
theorem dX5_firstCandidate_38 : decode cX5_firstCandidate 38 = .ok (.invokevirtual 116, 3) := by decide +kernel
theorem dX5_firstCandidate_41 : decode cX5_firstCandidate 41 = .ok (.ifCond .eq 5, 3) := by decide +kernel
theorem dX5_firstCandidate_44 : decode cX5_firstCandidate 44 = .ok (.iload_n 3, 1) := by decide +kernel
theorem dX5_firstCandidate_45 : decode cX5_firstCandidate 45 = .ok (.ireturn, 1) := by decide +kernel
theorem dX5_firstCandidate_46 : decode cX5_firstCandidate 46 = .ok (.aload_n 0, 1) := by decide +kernel
theorem dX5_firstCandidate_47 : decode cX5_firstCandidate 47 = .ok (.iload_n 2, 1) := by decide +kernel
theorem dX5_firstCandidate_48 : decode cX5_firstCandidate 48 = .ok (.invokevirtual 120, 3) := by decide +kernel
theorem dX5_firstCandidate_51 : decode cX5_firstCandidate 51 = .ok (.ireturn, 1) := by decide +kernel
theorem dX5_isCandidate_0 : decode cX5_isCandidate 0 = .ok (.aload_n 0, 1) := by decide +kernel
theorem dX5_isCandidate_1 : decode cX5_isCandidate 1 = .ok (.getfield 21, 3) := by decide +kernel
theorem dX5_isCandidate_4 : decode cX5_isCandidate 4 = .ok (.iload_n 1, 1) := by decide +kernel
theorem dX5_isCandidate_5 : decode cX5_isCandidate 5 = .ok (.invokevirtual 123, 3) := by decide +kernel
theorem dX5_isCandidate_8 : decode cX5_isCandidate 8 = .ok (.ifCond .eq 19, 3) := by decide +kernel
theorem dX5_isCandidate_11 : decode cX5_isCandidate 11 = .ok (.aload_n 0, 1) := by decide +kernel
theorem dX5_isCandidate_12 : decode cX5_isCandidate 12 = .ok (.getfield 12, 3) := by decide +kernel
theorem dX5_isCandidate_15 : decode cX5_isCandidate 15 = .ok (.iload_n 1, 1) := by decide +kernel
theorem dX5_isCandidate_16 : decode cX5_isCandidate 16 = .ok (.invokevirtual 78, 3) := by decide +kernel
theorem dX5_isCandidate_19 : decode cX5_isCandidate 19 = .ok (.iload_n 2, 1) := by decide +kernel
theorem dX5_isCandidate_20 : decode cX5_isCandidate 20 = .ok (.if_icmp .ne 7, 3) := by decide +kernel
theorem dX5_isCandidate_23 : decode cX5_isCandidate 23 = .ok (.iconst 1, 1) := by decide +kernel
theorem dX5_isCandidate_24 : decode cX5_isCandidate 24 = .ok (.goto 4, 3) := by decide +kernel
theorem dX5_isCandidate_27 : decode cX5_isCandidate 27 = .ok (.iconst 0, 1) := by decide +kernel
theorem dX5_isCandidate_28 : decode cX5_isCandidate 28 = .ok (.ireturn, 1) := by decide +kernel
theorem dX5_longestFree_0 : decode cX5_longestFree 0 = .ok (.iconst (-1), 1) := by decide +kernel
theorem dX5_longestFree_1 : decode cX5_longestFree 1 = .ok (.istore_n 2, 1) := by decide +kernel
theorem dX5_longestFree_2 : decode cX5_longestFree 2 = .ok (.iconst 0, 1) := by decide +kernel
theorem dX5_longestFree_3 : decode cX5_longestFree 3 = .ok (.istore_n 3, 1) := by decide +kernel
theorem dX5_longestFree_4 : decode cX5_longestFree 4 = .ok (.iload_n 3, 1) := by decide +kernel
theorem dX5_longestFree_5 : decode cX5_longestFree 5 = .ok (.iconst 5, 1) := by decide +kernel
theorem dX5_longestFree_6 : decode cX5_longestFree 6 = .ok (.if_icmp .ge 57, 3) := by decide +kernel
theorem dX5_longestFree_9 : decode cX5_longestFree 9 = .ok (.iload_n 3, 1) := by decide +kernel
theorem dX5_longestFree_10 : decode cX5_longestFree 10 = .ok (.aload_n 0, 1) := by decide +kernel
theorem dX5_longestFree_11 : decode cX5_longestFree 11 = .ok (.getfield 12, 3) := by decide +kernel
theorem dX5_longestFree_14 : decode cX5_longestFree 14 = .ok (.getfield 87, 3) := by decide +kernel
theorem dX5_longestFree_17 : decode cX5_longestFree 17 = .ok (.if_icmp .ge 46, 3) := by decide +kernel
theorem dX5_longestFree_20 : decode cX5_longestFree 20 = .ok (.aload_n 0, 1) := by decide +kernel
theorem dX5_longestFree_21 : decode cX5_longestFree 21 = .ok (.getfield 12, 3) := by decide +kernel
theorem dX5_longestFree_24 : decode cX5_longestFree 24 = .ok (.getfield 91, 3) := by decide +kernel
theorem dX5_longestFree_27 : decode cX5_longestFree 27 = .ok (.iload_n 3, 1) := by decide +kernel
theorem dX5_longestFree_28 : decode cX5_longestFree 28 = .ok (.iaload, 1) := by decide +kernel
theorem dX5_longestFree_29 : decode cX5_longestFree 29 = .ok (.iload_n 1, 1) := by decide +kernel
theorem dX5_longestFree_30 : decode cX5_longestFree 30 = .ok (.if_icmp .ne 27, 3) := by decide +kernel
theorem dX5_longestFree_33 : decode cX5_longestFree 33 = .ok (.aload_n 0, 1) := by decide +kernel
theorem dX5_longestFree_34 : decode cX5_longestFree 34 = .ok (.aload_n 0, 1) := by decide +kernel
theorem dX5_longestFree_35 : decode cX5_longestFree 35 = .ok (.getfield 12, 3) := by decide +kernel
theorem dX5_longestFree_38 : decode cX5_longestFree 38 = .ok (.getfield 94, 3) := by decide +kernel
theorem dX5_longestFree_41 : decode cX5_longestFree 41 = .ok (.iload_n 3, 1) := by decide +kernel
theorem dX5_longestFree_42 : decode cX5_longestFree 42 = .ok (.iaload, 1) := by decide +kernel
theorem dX5_longestFree_43 : decode cX5_longestFree 43 = .ok (.aload_n 0, 1) := by decide +kernel
theorem dX5_longestFree_44 : decode cX5_longestFree 44 = .ok (.getfield 12, 3) := by decide +kernel
theorem dX5_longestFree_47 : decode cX5_longestFree 47 = .ok (.getfield 97, 3) := by decide +kernel
theorem dX5_longestFree_50 : decode cX5_longestFree 50 = .ok (.iload_n 3, 1) := by decide +kernel
theorem dX5_longestFree_51 : decode cX5_longestFree 51 = .ok (.iaload, 1) := by decide +kernel
theorem dX5_longestFree_52 : decode cX5_longestFree 52 = .ok (.iload_n 2, 1) := by decide +kernel
theorem dX5_longestFree_53 : decode cX5_longestFree 53 = .ok (.invokevirtual 126, 3) := by decide +kernel
theorem dX5_longestFree_56 : decode cX5_longestFree 56 = .ok (.istore_n 2, 1) := by decide +kernel
theorem dX5_longestFree_57 : decode cX5_longestFree 57 = .ok (.iinc 3 1, 3) := by decide +kernel
theorem dX5_longestFree_60 : decode cX5_longestFree 60 = .ok (.goto (-56), 3) := by decide +kernel
theorem dX5_longestFree_63 : decode cX5_longestFree 63 = .ok (.iload_n 2, 1) := by decide +kernel
theorem dX5_longestFree_64 : decode cX5_longestFree 64 = .ok (.ireturn, 1) := by decide +kernel
theorem dX5_longestFreeIn_0 : decode cX5_longestFreeIn 0 = .ok (.iload_n 3, 1) := by decide +kernel
theorem dX5_longestFreeIn_1 : decode cX5_longestFreeIn 1 = .ok (.istore 4, 2) := by decide +kernel
theorem dX5_longestFreeIn_3 : decode cX5_longestFreeIn 3 = .ok (.iload_n 1, 1) := by decide +kernel
theorem dX5_longestFreeIn_4 : decode cX5_longestFreeIn 4 = .ok (.iconst 0, 1) := by decide +kernel
theorem dX5_longestFreeIn_5 : decode cX5_longestFreeIn 5 = .ok (.invokestatic 129, 3) := by decide +kernel
theorem dX5_longestFreeIn_8 : decode cX5_longestFreeIn 8 = .ok (.istore 5, 2) := by decide +kernel
theorem dX5_longestFreeIn_10 : decode cX5_longestFreeIn 10 = .ok (.iload 5, 2) := by decide +kernel
theorem dX5_longestFreeIn_12 : decode cX5_longestFreeIn 12 = .ok (.bipush 100, 2) := by decide +kernel
theorem dX5_longestFreeIn_14 : decode cX5_longestFreeIn 14 = .ok (.if_icmp .ge 51, 3) := by decide +kernel
theorem dX5_longestFreeIn_17 : decode cX5_longestFreeIn 17 = .ok (.iload 5, 2) := by decide +kernel
theorem dX5_longestFreeIn_19 : decode cX5_longestFreeIn 19 = .ok (.iload_n 2, 1) := by decide +kernel
theorem dX5_longestFreeIn_20 : decode cX5_longestFreeIn 20 = .ok (.if_icmp .gt 45, 3) := by decide +kernel
theorem dX5_longestFreeIn_23 : decode cX5_longestFreeIn 23 = .ok (.aload_n 0, 1) := by decide +kernel
theorem dX5_longestFreeIn_24 : decode cX5_longestFreeIn 24 = .ok (.getfield 21, 3) := by decide +kernel
theorem dX5_longestFreeIn_27 : decode cX5_longestFreeIn 27 = .ok (.iload 5, 2) := by decide +kernel
theorem dX5_longestFreeIn_29 : decode cX5_longestFreeIn 29 = .ok (.invokevirtual 123, 3) := by decide +kernel
theorem dX5_longestFreeIn_32 : decode cX5_longestFreeIn 32 = .ok (.ifCond .eq 27, 3) := by decide +kernel
theorem dX5_longestFreeIn_35 : decode cX5_longestFreeIn 35 = .ok (.iload 4, 2) := by decide +kernel
theorem dX5_longestFreeIn_37 : decode cX5_longestFreeIn 37 = .ok (.iconst (-1), 1) := by decide +kernel
theorem dX5_longestFreeIn_38 : decode cX5_longestFreeIn 38 = .ok (.if_icmp .eq 17, 3) := by decide +kernel
theorem dX5_longestFreeIn_41 : decode cX5_longestFreeIn 41 = .ok (.aload_n 0, 1) := by decide +kernel
theorem dX5_longestFreeIn_42 : decode cX5_longestFreeIn 42 = .ok (.getfield 21, 3) := by decide +kernel
theorem dX5_longestFreeIn_45 : decode cX5_longestFreeIn 45 = .ok (.iload 5, 2) := by decide +kernel
theorem dX5_longestFreeIn_47 : decode cX5_longestFreeIn 47 = .ok (.iload 4, 2) := by decide +kernel
theorem dX5_longestFreeIn_49 : decode cX5_longestFreeIn 49 = .ok (.invokevirtual 135, 3) := by decide +kernel
theorem dX5_longestFreeIn_52 : decode cX5_longestFreeIn 52 = .ok (.ifCond .eq 7, 3) := by decide +kernel
theorem dX5_longestFreeIn_55 : decode cX5_longestFreeIn 55 = .ok (.iload 5, 2) := by decide +kernel
theorem dX5_longestFreeIn_57 : decode cX5_longestFreeIn 57 = .ok (.istore 4, 2) := by decide +kernel
theorem dX5_longestFreeIn_59 : decode cX5_longestFreeIn 59 = .ok (.iinc 5 1, 3) := by decide +kernel
theorem dX5_longestFreeIn_62 : decode cX5_longestFreeIn 62 = .ok (.goto (-52), 3) := by decide +kernel
theorem dX5_longestFreeIn_65 : decode cX5_longestFreeIn 65 = .ok (.iload 4, 2) := by decide +kernel
theorem dX5_longestFreeIn_67 : decode cX5_longestFreeIn 67 = .ok (.ireturn, 1) := by decide +kernel
theorem dX5_makeOffer_0 : decode cX5_makeOffer 0 = .ok (.aload_n 0, 1) := by decide +kernel
theorem dX5_makeOffer_1 : decode cX5_makeOffer 1 = .ok (.iload_n 1, 1) := by decide +kernel
theorem dX5_makeOffer_2 : decode cX5_makeOffer 2 = .ok (.invokevirtual 138, 3) := by decide +kernel
theorem dX5_makeOffer_5 : decode cX5_makeOffer 5 = .ok (.iconst 0, 1) := by decide +kernel
theorem dX5_makeOffer_6 : decode cX5_makeOffer 6 = .ok (.istore 4, 2) := by decide +kernel
theorem dX5_makeOffer_8 : decode cX5_makeOffer 8 = .ok (.iload 4, 2) := by decide +kernel
theorem dX5_makeOffer_10 : decode cX5_makeOffer 10 = .ok (.bipush 100, 2) := by decide +kernel
theorem dX5_makeOffer_12 : decode cX5_makeOffer 12 = .ok (.if_icmp .ge 57, 3) := by decide +kernel
theorem dX5_makeOffer_15 : decode cX5_makeOffer 15 = .ok (.aload_n 0, 1) := by decide +kernel
theorem dX5_makeOffer_16 : decode cX5_makeOffer 16 = .ok (.iload_n 1, 1) := by decide +kernel
theorem dX5_makeOffer_17 : decode cX5_makeOffer 17 = .ok (.iload_n 2, 1) := by decide +kernel
theorem dX5_makeOffer_18 : decode cX5_makeOffer 18 = .ok (.iload_n 3, 1) := by decide +kernel
theorem dX5_makeOffer_19 : decode cX5_makeOffer 19 = .ok (.invokevirtual 142, 3) := by decide +kernel
theorem dX5_makeOffer_22 : decode cX5_makeOffer 22 = .ok (.istore 5, 2) := by decide +kernel
theorem dX5_makeOffer_24 : decode cX5_makeOffer 24 = .ok (.iload 5, 2) := by decide +kernel
theorem dX5_makeOffer_26 : decode cX5_makeOffer 26 = .ok (.invokestatic 81, 3) := by decide +kernel
theorem dX5_makeOffer_29 : decode cX5_makeOffer 29 = .ok (.ifCond .ne 5, 3) := by decide +kernel
theorem dX5_makeOffer_32 : decode cX5_makeOffer 32 = .ok (.iconst (-1), 1) := by decide +kernel
theorem dX5_makeOffer_33 : decode cX5_makeOffer 33 = .ok (.ireturn, 1) := by decide +kernel
theorem dX5_makeOffer_34 : decode cX5_makeOffer 34 = .ok (.aload_n 0, 1) := by decide +kernel
theorem dX5_makeOffer_35 : decode cX5_makeOffer 35 = .ok (.getfield 21, 3) := by decide +kernel
theorem dX5_makeOffer_38 : decode cX5_makeOffer 38 = .ok (.getfield 145, 3) := by decide +kernel
theorem dX5_makeOffer_41 : decode cX5_makeOffer 41 = .ok (.iload 5, 2) := by decide +kernel
theorem dX5_makeOffer_43 : decode cX5_makeOffer 43 = .ok (.baload, 1) := by decide +kernel
theorem dX5_makeOffer_44 : decode cX5_makeOffer 44 = .ok (.ifCond .ne 13, 3) := by decide +kernel
theorem dX5_makeOffer_47 : decode cX5_makeOffer 47 = .ok (.aload_n 0, 1) := by decide +kernel
theorem dX5_makeOffer_48 : decode cX5_makeOffer 48 = .ok (.iload_n 1, 1) := by decide +kernel
theorem dX5_makeOffer_49 : decode cX5_makeOffer 49 = .ok (.iload 5, 2) := by decide +kernel
theorem dX5_makeOffer_51 : decode cX5_makeOffer 51 = .ok (.invokevirtual 148, 3) := by decide +kernel
theorem dX5_makeOffer_54 : decode cX5_makeOffer 54 = .ok (.iload 5, 2) := by decide +kernel
theorem dX5_makeOffer_56 : decode cX5_makeOffer 56 = .ok (.ireturn, 1) := by decide +kernel
theorem dX5_makeOffer_57 : decode cX5_makeOffer 57 = .ok (.aload_n 0, 1) := by decide +kernel
theorem dX5_makeOffer_58 : decode cX5_makeOffer 58 = .ok (.iload 5, 2) := by decide +kernel
theorem dX5_makeOffer_60 : decode cX5_makeOffer 60 = .ok (.invokevirtual 152, 3) := by decide +kernel
theorem dX5_makeOffer_63 : decode cX5_makeOffer 63 = .ok (.iinc 4 1, 3) := by decide +kernel
theorem dX5_makeOffer_66 : decode cX5_makeOffer 66 = .ok (.goto (-58), 3) := by decide +kernel
theorem dX5_makeOffer_69 : decode cX5_makeOffer 69 = .ok (.iconst (-1), 1) := by decide +kernel
theorem dX5_makeOffer_70 : decode cX5_makeOffer 70 = .ok (.ireturn, 1) := by decide +kernel
theorem dX5_holdFor_0 : decode cX5_holdFor 0 = .ok (.aload_n 0, 1) := by decide +kernel
theorem dX5_holdFor_1 : decode cX5_holdFor 1 = .ok (.getfield 21, 3) := by decide +kernel
theorem dX5_holdFor_4 : decode cX5_holdFor 4 = .ok (.iload_n 2, 1) := by decide +kernel
theorem dX5_holdFor_5 : decode cX5_holdFor 5 = .ok (.iconst 1, 1) := by decide +kernel
theorem dX5_holdFor_6 : decode cX5_holdFor 6 = .ok (.iload_n 1, 1) := by decide +kernel
theorem dX5_holdFor_7 : decode cX5_holdFor 7 = .ok (.aload_n 0, 1) := by decide +kernel
theorem dX5_holdFor_8 : decode cX5_holdFor 8 = .ok (.getfield 35, 3) := by decide +kernel
theorem dX5_holdFor_11 : decode cX5_holdFor 11 = .ok (.getfield 110, 3) := by decide +kernel
theorem dX5_holdFor_14 : decode cX5_holdFor 14 = .ok (.aload_n 0, 1) := by decide +kernel
theorem dX5_holdFor_15 : decode cX5_holdFor 15 = .ok (.getfield 35, 3) := by decide +kernel
theorem dX5_holdFor_18 : decode cX5_holdFor 18 = .ok (.getfield 155, 3) := by decide +kernel
theorem dX5_holdFor_21 : decode cX5_holdFor 21 = .ok (.iadd, 1) := by decide +kernel
theorem dX5_holdFor_22 : decode cX5_holdFor 22 = .ok (.invokevirtual 158, 3) := by decide +kernel
theorem dX5_holdFor_25 : decode cX5_holdFor 25 = .ok (.aload_n 0, 1) := by decide +kernel
theorem dX5_holdFor_26 : decode cX5_holdFor 26 = .ok (.getfield 28, 3) := by decide +kernel
theorem dX5_holdFor_29 : decode cX5_holdFor 29 = .ok (.iload_n 1, 1) := by decide +kernel
theorem dX5_holdFor_30 : decode cX5_holdFor 30 = .ok (.iload_n 2, 1) := by decide +kernel
theorem dX5_holdFor_31 : decode cX5_holdFor 31 = .ok (.invokevirtual 162, 3) := by decide +kernel
theorem dX5_holdFor_34 : decode cX5_holdFor 34 = .ok (.aload_n 0, 1) := by decide +kernel
theorem dX5_holdFor_35 : decode cX5_holdFor 35 = .ok (.getfield 39, 3) := by decide +kernel
theorem dX5_holdFor_38 : decode cX5_holdFor 38 = .ok (.iconst 1, 1) := by decide +kernel
theorem dX5_holdFor_39 : decode cX5_holdFor 39 = .ok (.iload_n 2, 1) := by decide +kernel
theorem dX5_holdFor_40 : decode cX5_holdFor 40 = .ok (.invokevirtual 165, 3) := by decide +kernel
theorem dX5_holdFor_43 : decode cX5_holdFor 43 = .ok (.return_, 1) := by decide +kernel
theorem dX5_findConflict_0 : decode cX5_findConflict 0 = .ok (.aload_n 0, 1) := by decide +kernel
theorem dX5_findConflict_1 : decode cX5_findConflict 1 = .ok (.getfield 21, 3) := by decide +kernel
theorem dX5_findConflict_4 : decode cX5_findConflict 4 = .ok (.iload_n 1, 1) := by decide +kernel
theorem dX5_findConflict_5 : decode cX5_findConflict 5 = .ok (.aload_n 0, 1) := by decide +kernel
theorem dX5_findConflict_6 : decode cX5_findConflict 6 = .ok (.getfield 35, 3) := by decide +kernel
theorem dX5_findConflict_9 : decode cX5_findConflict 9 = .ok (.getfield 110, 3) := by decide +kernel
theorem dX5_findConflict_12 : decode cX5_findConflict 12 = .ok (.aload_n 0, 1) := by decide +kernel
theorem dX5_findConflict_13 : decode cX5_findConflict 13 = .ok (.getfield 35, 3) := by decide +kernel
theorem dX5_findConflict_16 : decode cX5_findConflict 16 = .ok (.getfield 170, 3) := by decide +kernel
theorem dX5_findConflict_19 : decode cX5_findConflict 19 = .ok (.iadd, 1) := by decide +kernel
theorem dX5_findConflict_20 : decode cX5_findConflict 20 = .ok (.invokevirtual 173, 3) := by decide +kernel
theorem dX5_findConflict_23 : decode cX5_findConflict 23 = .ok (.aload_n 0, 1) := by decide +kernel
theorem dX5_findConflict_24 : decode cX5_findConflict 24 = .ok (.getfield 35, 3) := by decide +kernel
theorem dX5_findConflict_27 : decode cX5_findConflict 27 = .ok (.dup, 1) := by decide +kernel
theorem dX5_findConflict_28 : decode cX5_findConflict 28 = .ok (.getfield 176, 3) := by decide +kernel
theorem dX5_findConflict_31 : decode cX5_findConflict 31 = .ok (.iconst 1, 1) := by decide +kernel
theorem dX5_findConflict_32 : decode cX5_findConflict 32 = .ok (.iadd, 1) := by decide +kernel
theorem dX5_findConflict_33 : decode cX5_findConflict 33 = .ok (.putfield 176, 3) := by decide +kernel
theorem dX5_findConflict_36 : decode cX5_findConflict 36 = .ok (.aload_n 0, 1) := by decide +kernel
theorem dX5_findConflict_37 : decode cX5_findConflict 37 = .ok (.getfield 39, 3) := by decide +kernel
theorem dX5_findConflict_40 : decode cX5_findConflict 40 = .ok (.bipush 8, 2) := by decide +kernel
theorem dX5_findConflict_42 : decode cX5_findConflict 42 = .ok (.iload_n 1, 1) := by decide +kernel
theorem dX5_findConflict_43 : decode cX5_findConflict 43 = .ok (.invokevirtual 165, 3) := by decide +kernel
theorem dX5_findConflict_46 : decode cX5_findConflict 46 = .ok (.return_, 1) := by decide +kernel
theorem dX5_beginLease_0 : decode cX5_beginLease 0 = .ok (.iload_n 1, 1) := by decide +kernel
theorem dX5_beginLease_1 : decode cX5_beginLease 1 = .ok (.invokestatic 71, 3) := by decide +kernel
theorem dX5_beginLease_4 : decode cX5_beginLease 4 = .ok (.ifCond .eq 25, 3) := by decide +kernel
theorem dX5_beginLease_7 : decode cX5_beginLease 7 = .ok (.aload_n 0, 1) := by decide +kernel
theorem dX5_beginLease_8 : decode cX5_beginLease 8 = .ok (.iload_n 1, 1) := by decide +kernel
theorem dX5_beginLease_9 : decode cX5_beginLease 9 = .ok (.invokevirtual 179, 3) := by decide +kernel
theorem dX5_beginLease_12 : decode cX5_beginLease 12 = .ok (.aload_n 0, 1) := by decide +kernel
theorem dX5_beginLease_13 : decode cX5_beginLease 13 = .ok (.getfield 39, 3) := by decide +kernel
theorem dX5_beginLease_16 : decode cX5_beginLease 16 = .ok (.iconst 2, 1) := by decide +kernel
theorem dX5_beginLease_17 : decode cX5_beginLease 17 = .ok (.aload_n 0, 1) := by decide +kernel
theorem dX5_beginLease_18 : decode cX5_beginLease 18 = .ok (.getfield 28, 3) := by decide +kernel
theorem dX5_beginLease_21 : decode cX5_beginLease 21 = .ok (.getfield 74, 3) := by decide +kernel
theorem dX5_beginLease_24 : decode cX5_beginLease 24 = .ok (.iload_n 1, 1) := by decide +kernel
theorem dX5_beginLease_25 : decode cX5_beginLease 25 = .ok (.iaload, 1) := by decide +kernel
theorem dX5_beginLease_26 : decode cX5_beginLease 26 = .ok (.invokevirtual 165, 3) := by decide +kernel
theorem dX5_beginLease_29 : decode cX5_beginLease 29 = .ok (.return_, 1) := by decide +kernel
theorem dX5_startTerm_0 : decode cX5_startTerm 0 = .ok (.aload_n 0, 1) := by decide +kernel
theorem dX5_startTerm_1 : decode cX5_startTerm 1 = .ok (.getfield 28, 3) := by decide +kernel
theorem dX5_startTerm_4 : decode cX5_startTerm 4 = .ok (.getfield 74, 3) := by decide +kernel
theorem dX5_startTerm_7 : decode cX5_startTerm 7 = .ok (.iload_n 1, 1) := by decide +kernel
theorem dX5_startTerm_8 : decode cX5_startTerm 8 = .ok (.iaload, 1) := by decide +kernel
theorem dX5_startTerm_9 : decode cX5_startTerm 9 = .ok (.istore_n 2, 1) := by decide +kernel
theorem dX5_startTerm_10 : decode cX5_startTerm 10 = .ok (.aload_n 0, 1) := by decide +kernel
theorem dX5_startTerm_11 : decode cX5_startTerm 11 = .ok (.getfield 12, 3) := by decide +kernel
theorem dX5_startTerm_14 : decode cX5_startTerm 14 = .ok (.iload_n 2, 1) := by decide +kernel
theorem dX5_startTerm_15 : decode cX5_startTerm 15 = .ok (.invokevirtual 182, 3) := by decide +kernel
theorem dX5_startTerm_18 : decode cX5_startTerm 18 = .ok (.istore_n 3, 1) := by decide +kernel
theorem dX5_startTerm_19 : decode cX5_startTerm 19 = .ok (.aload_n 0, 1) := by decide +kernel
theorem dX5_startTerm_20 : decode cX5_startTerm 20 = .ok (.getfield 21, 3) := by decide +kernel
theorem dX5_startTerm_23 : decode cX5_startTerm 23 = .ok (.iload_n 2, 1) := by decide +kernel
theorem dX5_startTerm_24 : decode cX5_startTerm 24 = .ok (.iconst 2, 1) := by decide +kernel
theorem dX5_startTerm_25 : decode cX5_startTerm 25 = .ok (.iload_n 1, 1) := by decide +kernel
theorem dX5_startTerm_26 : decode cX5_startTerm 26 = .ok (.aload_n 0, 1) := by decide +kernel
theorem dX5_startTerm_27 : decode cX5_startTerm 27 = .ok (.getfield 35, 3) := by decide +kernel
theorem dX5_startTerm_30 : decode cX5_startTerm 30 = .ok (.getfield 110, 3) := by decide +kernel
theorem dX5_startTerm_33 : decode cX5_startTerm 33 = .ok (.iload_n 3, 1) := by decide +kernel
theorem dX5_startTerm_34 : decode cX5_startTerm 34 = .ok (.iadd, 1) := by decide +kernel
theorem dX5_startTerm_35 : decode cX5_startTerm 35 = .ok (.invokevirtual 158, 3) := by decide +kernel
theorem dX5_startTerm_38 : decode cX5_startTerm 38 = .ok (.aload_n 0, 1) := by decide +kernel
theorem dX5_startTerm_39 : decode cX5_startTerm 39 = .ok (.getfield 28, 3) := by decide +kernel
theorem dX5_startTerm_42 : decode cX5_startTerm 42 = .ok (.iload_n 1, 1) := by decide +kernel
theorem dX5_startTerm_43 : decode cX5_startTerm 43 = .ok (.aload_n 0, 1) := by decide +kernel
theorem dX5_startTerm_44 : decode cX5_startTerm 44 = .ok (.getfield 35, 3) := by decide +kernel
theorem dX5_startTerm_47 : decode cX5_startTerm 47 = .ok (.getfield 110, 3) := by decide +kernel
theorem dX5_startTerm_50 : decode cX5_startTerm 50 = .ok (.iload_n 3, 1) := by decide +kernel
theorem dX5_startTerm_51 : decode cX5_startTerm 51 = .ok (.invokevirtual 185, 3) := by decide +kernel
theorem dX5_startTerm_54 : decode cX5_startTerm 54 = .ok (.return_, 1) := by decide +kernel
theorem dX5_endHolding_0 : decode cX5_endHolding 0 = .ok (.iload_n 1, 1) := by decide +kernel
theorem dX5_endHolding_1 : decode cX5_endHolding 1 = .ok (.invokestatic 71, 3) := by decide +kernel
theorem dX5_endHolding_4 : decode cX5_endHolding 4 = .ok (.ifCond .eq 34, 3) := by decide +kernel
theorem dX5_endHolding_7 : decode cX5_endHolding 7 = .ok (.aload_n 0, 1) := by decide +kernel
theorem dX5_endHolding_8 : decode cX5_endHolding 8 = .ok (.getfield 21, 3) := by decide +kernel
theorem dX5_endHolding_11 : decode cX5_endHolding 11 = .ok (.aload_n 0, 1) := by decide +kernel
theorem dX5_endHolding_12 : decode cX5_endHolding 12 = .ok (.getfield 28, 3) := by decide +kernel
theorem dX5_endHolding_15 : decode cX5_endHolding 15 = .ok (.getfield 74, 3) := by decide +kernel
theorem dX5_endHolding_18 : decode cX5_endHolding 18 = .ok (.iload_n 1, 1) := by decide +kernel
theorem dX5_endHolding_19 : decode cX5_endHolding 19 = .ok (.iaload, 1) := by decide +kernel
theorem dX5_endHolding_20 : decode cX5_endHolding 20 = .ok (.aload_n 0, 1) := by decide +kernel
theorem dX5_endHolding_21 : decode cX5_endHolding 21 = .ok (.getfield 35, 3) := by decide +kernel
theorem dX5_endHolding_24 : decode cX5_endHolding 24 = .ok (.getfield 110, 3) := by decide +kernel
theorem dX5_endHolding_27 : decode cX5_endHolding 27 = .ok (.invokevirtual 189, 3) := by decide +kernel
theorem dX5_endHolding_30 : decode cX5_endHolding 30 = .ok (.aload_n 0, 1) := by decide +kernel
theorem dX5_endHolding_31 : decode cX5_endHolding 31 = .ok (.getfield 28, 3) := by decide +kernel
theorem dX5_endHolding_34 : decode cX5_endHolding 34 = .ok (.iload_n 1, 1) := by decide +kernel
theorem dX5_endHolding_35 : decode cX5_endHolding 35 = .ok (.invokevirtual 192, 3) := by decide +kernel
theorem dX5_endHolding_38 : decode cX5_endHolding 38 = .ok (.return_, 1) := by decide +kernel
theorem dX5_declineLease_0 : decode cX5_declineLease 0 = .ok (.iload_n 1, 1) := by decide +kernel
theorem dX5_declineLease_1 : decode cX5_declineLease 1 = .ok (.invokestatic 71, 3) := by decide +kernel
theorem dX5_declineLease_4 : decode cX5_declineLease 4 = .ok (.ifCond .eq 64, 3) := by decide +kernel
theorem dX5_declineLease_7 : decode cX5_declineLease 7 = .ok (.aload_n 0, 1) := by decide +kernel
theorem dX5_declineLease_8 : decode cX5_declineLease 8 = .ok (.getfield 28, 3) := by decide +kernel
theorem dX5_declineLease_11 : decode cX5_declineLease 11 = .ok (.getfield 74, 3) := by decide +kernel
theorem dX5_declineLease_14 : decode cX5_declineLease 14 = .ok (.iload_n 1, 1) := by decide +kernel
theorem dX5_declineLease_15 : decode cX5_declineLease 15 = .ok (.iaload, 1) := by decide +kernel
theorem dX5_declineLease_16 : decode cX5_declineLease 16 = .ok (.istore_n 2, 1) := by decide +kernel
theorem dX5_declineLease_17 : decode cX5_declineLease 17 = .ok (.aload_n 0, 1) := by decide +kernel
theorem dX5_declineLease_18 : decode cX5_declineLease 18 = .ok (.getfield 21, 3) := by decide +kernel
theorem dX5_declineLease_21 : decode cX5_declineLease 21 = .ok (.iload_n 2, 1) := by decide +kernel
theorem dX5_declineLease_22 : decode cX5_declineLease 22 = .ok (.aload_n 0, 1) := by decide +kernel
theorem dX5_declineLease_23 : decode cX5_declineLease 23 = .ok (.getfield 35, 3) := by decide +kernel
theorem dX5_declineLease_26 : decode cX5_declineLease 26 = .ok (.getfield 110, 3) := by decide +kernel
theorem dX5_declineLease_29 : decode cX5_declineLease 29 = .ok (.aload_n 0, 1) := by decide +kernel
theorem dX5_declineLease_30 : decode cX5_declineLease 30 = .ok (.getfield 35, 3) := by decide +kernel
theorem dX5_declineLease_33 : decode cX5_declineLease 33 = .ok (.getfield 170, 3) := by decide +kernel
theorem dX5_declineLease_36 : decode cX5_declineLease 36 = .ok (.iadd, 1) := by decide +kernel
theorem dX5_declineLease_37 : decode cX5_declineLease 37 = .ok (.invokevirtual 173, 3) := by decide +kernel
theorem dX5_declineLease_40 : decode cX5_declineLease 40 = .ok (.aload_n 0, 1) := by decide +kernel
theorem dX5_declineLease_41 : decode cX5_declineLease 41 = .ok (.getfield 28, 3) := by decide +kernel
theorem dX5_declineLease_44 : decode cX5_declineLease 44 = .ok (.iload_n 1, 1) := by decide +kernel
theorem dX5_declineLease_45 : decode cX5_declineLease 45 = .ok (.invokevirtual 192, 3) := by decide +kernel
theorem dX5_declineLease_48 : decode cX5_declineLease 48 = .ok (.aload_n 0, 1) := by decide +kernel
theorem dX5_declineLease_49 : decode cX5_declineLease 49 = .ok (.getfield 28, 3) := by decide +kernel
theorem dX5_declineLease_52 : decode cX5_declineLease 52 = .ok (.getfield 113, 3) := by decide +kernel
theorem dX5_declineLease_55 : decode cX5_declineLease 55 = .ok (.iload_n 1, 1) := by decide +kernel
theorem dX5_declineLease_56 : decode cX5_declineLease 56 = .ok (.iconst (-1), 1) := by decide +kernel
theorem dX5_declineLease_57 : decode cX5_declineLease 57 = .ok (.iastore, 1) := by decide +kernel
theorem dX5_declineLease_58 : decode cX5_declineLease 58 = .ok (.aload_n 0, 1) := by decide +kernel
theorem dX5_declineLease_59 : decode cX5_declineLease 59 = .ok (.getfield 39, 3) := by decide +kernel
theorem dX5_declineLease_62 : decode cX5_declineLease 62 = .ok (.bipush 7, 2) := by decide +kernel
theorem dX5_declineLease_64 : decode cX5_declineLease 64 = .ok (.iload_n 2, 1) := by decide +kernel
theorem dX5_declineLease_65 : decode cX5_declineLease 65 = .ok (.invokevirtual 165, 3) := by decide +kernel
theorem dX5_declineLease_68 : decode cX5_declineLease 68 = .ok (.return_, 1) := by decide +kernel
theorem dX5_renewOrRefuse_0 : decode cX5_renewOrRefuse 0 = .ok (.iload_n 1, 1) := by decide +kernel
theorem dX5_renewOrRefuse_1 : decode cX5_renewOrRefuse 1 = .ok (.invokestatic 71, 3) := by decide +kernel
theorem dX5_renewOrRefuse_4 : decode cX5_renewOrRefuse 4 = .ok (.ifCond .eq 15, 3) := by decide +kernel
theorem dX5_renewOrRefuse_7 : decode cX5_renewOrRefuse 7 = .ok (.aload_n 0, 1) := by decide +kernel
theorem dX5_renewOrRefuse_8 : decode cX5_renewOrRefuse 8 = .ok (.getfield 28, 3) := by decide +kernel
theorem dX5_renewOrRefuse_11 : decode cX5_renewOrRefuse 11 = .ok (.getfield 74, 3) := by decide +kernel
theorem dX5_renewOrRefuse_14 : decode cX5_renewOrRefuse 14 = .ok (.iload_n 1, 1) := by decide +kernel
theorem dX5_renewOrRefuse_15 : decode cX5_renewOrRefuse 15 = .ok (.iaload, 1) := by decide +kernel
theorem dX5_renewOrRefuse_16 : decode cX5_renewOrRefuse 16 = .ok (.goto 4, 3) := by decide +kernel
theorem dX5_renewOrRefuse_19 : decode cX5_renewOrRefuse 19 = .ok (.iconst (-1), 1) := by decide +kernel
theorem dX5_renewOrRefuse_20 : decode cX5_renewOrRefuse 20 = .ok (.istore_n 2, 1) := by decide +kernel
theorem dX5_renewOrRefuse_21 : decode cX5_renewOrRefuse 21 = .ok (.iload_n 2, 1) := by decide +kernel
theorem dX5_renewOrRefuse_22 : decode cX5_renewOrRefuse 22 = .ok (.invokestatic 81, 3) := by decide +kernel
theorem dX5_renewOrRefuse_25 : decode cX5_renewOrRefuse 25 = .ok (.ifCond .ne 5, 3) := by decide +kernel
theorem dX5_renewOrRefuse_28 : decode cX5_renewOrRefuse 28 = .ok (.iconst 0, 1) := by decide +kernel
theorem dX5_renewOrRefuse_29 : decode cX5_renewOrRefuse 29 = .ok (.ireturn, 1) := by decide +kernel
theorem dX5_renewOrRefuse_30 : decode cX5_renewOrRefuse 30 = .ok (.aload_n 0, 1) := by decide +kernel
theorem dX5_renewOrRefuse_31 : decode cX5_renewOrRefuse 31 = .ok (.getfield 21, 3) := by decide +kernel
theorem dX5_renewOrRefuse_34 : decode cX5_renewOrRefuse 34 = .ok (.getfield 195, 3) := by decide +kernel
theorem dX5_renewOrRefuse_37 : decode cX5_renewOrRefuse 37 = .ok (.iload_n 2, 1) := by decide +kernel
theorem dX5_renewOrRefuse_38 : decode cX5_renewOrRefuse 38 = .ok (.baload, 1) := by decide +kernel
theorem dX5_renewOrRefuse_39 : decode cX5_renewOrRefuse 39 = .ok (.ifCond .eq 19, 3) := by decide +kernel
theorem dX5_renewOrRefuse_42 : decode cX5_renewOrRefuse 42 = .ok (.aload_n 0, 1) := by decide +kernel
theorem dX5_renewOrRefuse_43 : decode cX5_renewOrRefuse 43 = .ok (.iload_n 1, 1) := by decide +kernel
theorem dX5_renewOrRefuse_44 : decode cX5_renewOrRefuse 44 = .ok (.invokevirtual 138, 3) := by decide +kernel
theorem dX5_renewOrRefuse_47 : decode cX5_renewOrRefuse 47 = .ok (.aload_n 0, 1) := by decide +kernel
theorem dX5_renewOrRefuse_48 : decode cX5_renewOrRefuse 48 = .ok (.getfield 39, 3) := by decide +kernel
theorem dX5_renewOrRefuse_51 : decode cX5_renewOrRefuse 51 = .ok (.iconst 4, 1) := by decide +kernel
theorem dX5_renewOrRefuse_52 : decode cX5_renewOrRefuse 52 = .ok (.iload_n 2, 1) := by decide +kernel
theorem dX5_renewOrRefuse_53 : decode cX5_renewOrRefuse 53 = .ok (.invokevirtual 165, 3) := by decide +kernel
theorem dX5_renewOrRefuse_56 : decode cX5_renewOrRefuse 56 = .ok (.iconst 0, 1) := by decide +kernel
theorem dX5_renewOrRefuse_57 : decode cX5_renewOrRefuse 57 = .ok (.ireturn, 1) := by decide +kernel
theorem dX5_renewOrRefuse_58 : decode cX5_renewOrRefuse 58 = .ok (.aload_n 0, 1) := by decide +kernel
theorem dX5_renewOrRefuse_59 : decode cX5_renewOrRefuse 59 = .ok (.iload_n 1, 1) := by decide +kernel
theorem dX5_renewOrRefuse_60 : decode cX5_renewOrRefuse 60 = .ok (.invokevirtual 179, 3) := by decide +kernel
theorem dX5_renewOrRefuse_63 : decode cX5_renewOrRefuse 63 = .ok (.aload_n 0, 1) := by decide +kernel
theorem dX5_renewOrRefuse_64 : decode cX5_renewOrRefuse 64 = .ok (.getfield 39, 3) := by decide +kernel
theorem dX5_renewOrRefuse_67 : decode cX5_renewOrRefuse 67 = .ok (.iconst 3, 1) := by decide +kernel
theorem dX5_renewOrRefuse_68 : decode cX5_renewOrRefuse 68 = .ok (.iload_n 2, 1) := by decide +kernel
theorem dX5_renewOrRefuse_69 : decode cX5_renewOrRefuse 69 = .ok (.invokevirtual 165, 3) := by decide +kernel
theorem dX5_renewOrRefuse_72 : decode cX5_renewOrRefuse 72 = .ok (.iconst 1, 1) := by decide +kernel
theorem dX5_renewOrRefuse_73 : decode cX5_renewOrRefuse 73 = .ok (.ireturn, 1) := by decide +kernel
theorem dX5_earliestEvent_0 : decode cX5_earliestEvent 0 = .ok (.aload_n 0, 1) := by decide +kernel
theorem dX5_earliestEvent_1 : decode cX5_earliestEvent 1 = .ok (.invokevirtual 198, 3) := by decide +kernel
theorem dX5_earliestEvent_4 : decode cX5_earliestEvent 4 = .ok (.aload_n 0, 1) := by decide +kernel
theorem dX5_earliestEvent_5 : decode cX5_earliestEvent 5 = .ok (.getfield 21, 3) := by decide +kernel
theorem dX5_earliestEvent_8 : decode cX5_earliestEvent 8 = .ok (.invokevirtual 202, 3) := by decide +kernel
theorem dX5_earliestEvent_11 : decode cX5_earliestEvent 11 = .ok (.invokestatic 205, 3) := by decide +kernel
theorem dX5_earliestEvent_14 : decode cX5_earliestEvent 14 = .ok (.ireturn, 1) := by decide +kernel
theorem dX5_earliestEventOfClients_0 : decode cX5_earliestEventOfClients 0 = .ok (.ldc 208, 2) := by decide +kernel
theorem dX5_earliestEventOfClients_2 : decode cX5_earliestEventOfClients 2 = .ok (.istore_n 1, 1) := by decide +kernel
theorem dX5_earliestEventOfClients_3 : decode cX5_earliestEventOfClients 3 = .ok (.iconst 0, 1) := by decide +kernel
theorem dX5_earliestEventOfClients_4 : decode cX5_earliestEventOfClients 4 = .ok (.istore_n 2, 1) := by decide +kernel
theorem dX5_earliestEventOfClients_5 : decode cX5_earliestEventOfClients 5 = .ok (.iload_n 2, 1) := by decide +kernel
theorem dX5_earliestEventOfClients_6 : decode cX5_earliestEventOfClients 6 = .ok (.bipush 20, 2) := by decide +kernel
theorem dX5_earliestEventOfClients_8 : decode cX5_earliestEventOfClients 8 = .ok (.if_icmp .ge 31, 3) := by decide +kernel
theorem dX5_earliestEventOfClients_11 : decode cX5_earliestEventOfClients 11 = .ok (.aload_n 0, 1) := by decide +kernel
theorem dX5_earliestEventOfClients_12 : decode cX5_earliestEventOfClients 12 = .ok (.getfield 28, 3) := by decide +kernel
theorem dX5_earliestEventOfClients_15 : decode cX5_earliestEventOfClients 15 = .ok (.getfield 209, 3) := by decide +kernel
theorem dX5_earliestEventOfClients_18 : decode cX5_earliestEventOfClients 18 = .ok (.iload_n 2, 1) := by decide +kernel
theorem dX5_earliestEventOfClients_19 : decode cX5_earliestEventOfClients 19 = .ok (.iaload, 1) := by decide +kernel
theorem dX5_earliestEventOfClients_20 : decode cX5_earliestEventOfClients 20 = .ok (.ifCond .eq 13, 3) := by decide +kernel
theorem dX5_earliestEventOfClients_23 : decode cX5_earliestEventOfClients 23 = .ok (.iload_n 1, 1) := by decide +kernel
theorem dX5_earliestEventOfClients_24 : decode cX5_earliestEventOfClients 24 = .ok (.aload_n 0, 1) := by decide +kernel
theorem dX5_earliestEventOfClients_25 : decode cX5_earliestEventOfClients 25 = .ok (.iload_n 2, 1) := by decide +kernel
theorem dX5_earliestEventOfClients_26 : decode cX5_earliestEventOfClients 26 = .ok (.invokevirtual 212, 3) := by decide +kernel
theorem dX5_earliestEventOfClients_29 : decode cX5_earliestEventOfClients 29 = .ok (.invokestatic 205, 3) := by decide +kernel
theorem dX5_earliestEventOfClients_32 : decode cX5_earliestEventOfClients 32 = .ok (.istore_n 1, 1) := by decide +kernel
theorem dX5_earliestEventOfClients_33 : decode cX5_earliestEventOfClients 33 = .ok (.iinc 2 1, 3) := by decide +kernel
theorem dX5_earliestEventOfClients_36 : decode cX5_earliestEventOfClients 36 = .ok (.goto (-31), 3) := by decide +kernel
theorem dX5_earliestEventOfClients_39 : decode cX5_earliestEventOfClients 39 = .ok (.iload_n 1, 1) := by decide +kernel
theorem dX5_earliestEventOfClients_40 : decode cX5_earliestEventOfClients 40 = .ok (.ireturn, 1) := by decide +kernel
theorem dX5_eventOfClient_0 : decode cX5_eventOfClient 0 = .ok (.aload_n 0, 1) := by decide +kernel
theorem dX5_eventOfClient_1 : decode cX5_eventOfClient 1 = .ok (.getfield 28, 3) := by decide +kernel
theorem dX5_eventOfClient_4 : decode cX5_eventOfClient 4 = .ok (.getfield 74, 3) := by decide +kernel
theorem dX5_eventOfClient_7 : decode cX5_eventOfClient 7 = .ok (.iload_n 1, 1) := by decide +kernel
theorem dX5_eventOfClient_8 : decode cX5_eventOfClient 8 = .ok (.iaload, 1) := by decide +kernel
theorem dX5_eventOfClient_9 : decode cX5_eventOfClient 9 = .ok (.istore_n 2, 1) := by decide +kernel
theorem dX5_eventOfClient_10 : decode cX5_eventOfClient 10 = .ok (.iload_n 2, 1) := by decide +kernel
theorem dX5_eventOfClient_11 : decode cX5_eventOfClient 11 = .ok (.invokestatic 81, 3) := by decide +kernel
theorem dX5_eventOfClient_14 : decode cX5_eventOfClient 14 = .ok (.ifCond .ne 6, 3) := by decide +kernel
theorem dX5_eventOfClient_17 : decode cX5_eventOfClient 17 = .ok (.ldc 208, 2) := by decide +kernel
theorem dX5_eventOfClient_19 : decode cX5_eventOfClient 19 = .ok (.ireturn, 1) := by decide +kernel
theorem dX5_eventOfClient_20 : decode cX5_eventOfClient 20 = .ok (.aload_n 0, 1) := by decide +kernel
theorem dX5_eventOfClient_21 : decode cX5_eventOfClient 21 = .ok (.getfield 28, 3) := by decide +kernel
theorem dX5_eventOfClient_24 : decode cX5_eventOfClient 24 = .ok (.getfield 209, 3) := by decide +kernel
theorem dX5_eventOfClient_27 : decode cX5_eventOfClient 27 = .ok (.iload_n 1, 1) := by decide +kernel
theorem dX5_eventOfClient_28 : decode cX5_eventOfClient 28 = .ok (.iaload, 1) := by decide +kernel
theorem dX5_eventOfClient_29 : decode cX5_eventOfClient 29 = .ok (.tableswitch 91 1 4 #[31, 46, 61, 76], 31) := by decide +kernel
theorem dX5_eventOfClient_60 : decode cX5_eventOfClient 60 = .ok (.aload_n 0, 1) := by decide +kernel
theorem dX5_eventOfClient_61 : decode cX5_eventOfClient 61 = .ok (.getfield 21, 3) := by decide +kernel
theorem dX5_eventOfClient_64 : decode cX5_eventOfClient 64 = .ok (.getfield 84, 3) := by decide +kernel
theorem dX5_eventOfClient_67 : decode cX5_eventOfClient 67 = .ok (.iload_n 2, 1) := by decide +kernel
theorem dX5_eventOfClient_68 : decode cX5_eventOfClient 68 = .ok (.iaload, 1) := by decide +kernel
theorem dX5_eventOfClient_69 : decode cX5_eventOfClient 69 = .ok (.iconst 0, 1) := by decide +kernel
theorem dX5_eventOfClient_70 : decode cX5_eventOfClient 70 = .ok (.iload_n 2, 1) := by decide +kernel
theorem dX5_eventOfClient_71 : decode cX5_eventOfClient 71 = .ok (.invokestatic 215, 3) := by decide +kernel
theorem dX5_eventOfClient_74 : decode cX5_eventOfClient 74 = .ok (.ireturn, 1) := by decide +kernel
theorem dX5_eventOfClient_75 : decode cX5_eventOfClient 75 = .ok (.aload_n 0, 1) := by decide +kernel
theorem dX5_eventOfClient_76 : decode cX5_eventOfClient 76 = .ok (.getfield 28, 3) := by decide +kernel
theorem dX5_eventOfClient_79 : decode cX5_eventOfClient 79 = .ok (.getfield 218, 3) := by decide +kernel
theorem dX5_eventOfClient_82 : decode cX5_eventOfClient 82 = .ok (.iload_n 1, 1) := by decide +kernel
theorem dX5_eventOfClient_83 : decode cX5_eventOfClient 83 = .ok (.iaload, 1) := by decide +kernel
theorem dX5_eventOfClient_84 : decode cX5_eventOfClient 84 = .ok (.iconst 2, 1) := by decide +kernel
theorem dX5_eventOfClient_85 : decode cX5_eventOfClient 85 = .ok (.iload_n 2, 1) := by decide +kernel
theorem dX5_eventOfClient_86 : decode cX5_eventOfClient 86 = .ok (.invokestatic 215, 3) := by decide +kernel
theorem dX5_eventOfClient_89 : decode cX5_eventOfClient 89 = .ok (.ireturn, 1) := by decide +kernel
theorem dX5_eventOfClient_90 : decode cX5_eventOfClient 90 = .ok (.aload_n 0, 1) := by decide +kernel
theorem dX5_eventOfClient_91 : decode cX5_eventOfClient 91 = .ok (.getfield 28, 3) := by decide +kernel
theorem dX5_eventOfClient_94 : decode cX5_eventOfClient 94 = .ok (.getfield 221, 3) := by decide +kernel
theorem dX5_eventOfClient_97 : decode cX5_eventOfClient 97 = .ok (.iload_n 1, 1) := by decide +kernel
theorem dX5_eventOfClient_98 : decode cX5_eventOfClient 98 = .ok (.iaload, 1) := by decide +kernel
theorem dX5_eventOfClient_99 : decode cX5_eventOfClient 99 = .ok (.iconst 3, 1) := by decide +kernel
theorem dX5_eventOfClient_100 : decode cX5_eventOfClient 100 = .ok (.iload_n 2, 1) := by decide +kernel
theorem dX5_eventOfClient_101 : decode cX5_eventOfClient 101 = .ok (.invokestatic 215, 3) := by decide +kernel
theorem dX5_eventOfClient_104 : decode cX5_eventOfClient 104 = .ok (.ireturn, 1) := by decide +kernel
theorem dX5_eventOfClient_105 : decode cX5_eventOfClient 105 = .ok (.aload_n 0, 1) := by decide +kernel
theorem dX5_eventOfClient_106 : decode cX5_eventOfClient 106 = .ok (.getfield 21, 3) := by decide +kernel
theorem dX5_eventOfClient_109 : decode cX5_eventOfClient 109 = .ok (.getfield 84, 3) := by decide +kernel
theorem dX5_eventOfClient_112 : decode cX5_eventOfClient 112 = .ok (.iload_n 2, 1) := by decide +kernel
theorem dX5_eventOfClient_113 : decode cX5_eventOfClient 113 = .ok (.iaload, 1) := by decide +kernel
theorem dX5_eventOfClient_114 : decode cX5_eventOfClient 114 = .ok (.iconst 4, 1) := by decide +kernel
theorem dX5_eventOfClient_115 : decode cX5_eventOfClient 115 = .ok (.iload_n 2, 1) := by decide +kernel
theorem dX5_eventOfClient_116 : decode cX5_eventOfClient 116 = .ok (.invokestatic 215, 3) := by decide +kernel
theorem dX5_eventOfClient_119 : decode cX5_eventOfClient 119 = .ok (.ireturn, 1) := by decide +kernel
theorem dX5_eventOfClient_120 : decode cX5_eventOfClient 120 = .ok (.ldc 208, 2) := by decide +kernel
theorem dX5_eventOfClient_122 : decode cX5_eventOfClient 122 = .ok (.ireturn, 1) := by decide +kernel
theorem dX5_passTimeTo_0 : decode cX5_passTimeTo 0 = .ok (.iconst 0, 1) := by decide +kernel
theorem dX5_passTimeTo_1 : decode cX5_passTimeTo 1 = .ok (.istore_n 2, 1) := by decide +kernel
theorem dX5_passTimeTo_2 : decode cX5_passTimeTo 2 = .ok (.aload_n 0, 1) := by decide +kernel
theorem dX5_passTimeTo_3 : decode cX5_passTimeTo 3 = .ok (.getfield 21, 3) := by decide +kernel
theorem dX5_passTimeTo_6 : decode cX5_passTimeTo 6 = .ok (.invokevirtual 202, 3) := by decide +kernel
theorem dX5_passTimeTo_9 : decode cX5_passTimeTo 9 = .ok (.istore_n 3, 1) := by decide +kernel
theorem dX5_passTimeTo_10 : decode cX5_passTimeTo 10 = .ok (.iload_n 2, 1) := by decide +kernel
theorem dX5_passTimeTo_11 : decode cX5_passTimeTo 11 = .ok (.ldc 224, 2) := by decide +kernel
theorem dX5_passTimeTo_13 : decode cX5_passTimeTo 13 = .ok (.if_icmp .ge 61, 3) := by decide +kernel
theorem dX5_passTimeTo_16 : decode cX5_passTimeTo 16 = .ok (.iload_n 3, 1) := by decide +kernel
theorem dX5_passTimeTo_17 : decode cX5_passTimeTo 17 = .ok (.aload_n 0, 1) := by decide +kernel
theorem dX5_passTimeTo_18 : decode cX5_passTimeTo 18 = .ok (.invokevirtual 198, 3) := by decide +kernel
theorem dX5_passTimeTo_21 : decode cX5_passTimeTo 21 = .ok (.invokestatic 205, 3) := by decide +kernel
theorem dX5_passTimeTo_24 : decode cX5_passTimeTo 24 = .ok (.istore 4, 2) := by decide +kernel
theorem dX5_passTimeTo_26 : decode cX5_passTimeTo 26 = .ok (.iload 4, 2) := by decide +kernel
theorem dX5_passTimeTo_28 : decode cX5_passTimeTo 28 = .ok (.ldc 208, 2) := by decide +kernel
theorem dX5_passTimeTo_30 : decode cX5_passTimeTo 30 = .ok (.if_icmp .eq 44, 3) := by decide +kernel
theorem dX5_passTimeTo_33 : decode cX5_passTimeTo 33 = .ok (.iload 4, 2) := by decide +kernel
theorem dX5_passTimeTo_35 : decode cX5_passTimeTo 35 = .ok (.invokestatic 225, 3) := by decide +kernel
theorem dX5_passTimeTo_38 : decode cX5_passTimeTo 38 = .ok (.iload_n 1, 1) := by decide +kernel
theorem dX5_passTimeTo_39 : decode cX5_passTimeTo 39 = .ok (.if_icmp .le 6, 3) := by decide +kernel
theorem dX5_passTimeTo_42 : decode cX5_passTimeTo 42 = .ok (.goto 32, 3) := by decide +kernel
theorem dX5_passTimeTo_45 : decode cX5_passTimeTo 45 = .ok (.aload_n 0, 1) := by decide +kernel
theorem dX5_passTimeTo_46 : decode cX5_passTimeTo 46 = .ok (.iload 4, 2) := by decide +kernel
theorem dX5_passTimeTo_48 : decode cX5_passTimeTo 48 = .ok (.invokevirtual 228, 3) := by decide +kernel
theorem dX5_passTimeTo_51 : decode cX5_passTimeTo 51 = .ok (.iinc 2 1, 3) := by decide +kernel
theorem dX5_passTimeTo_54 : decode cX5_passTimeTo 54 = .ok (.iload 4, 2) := by decide +kernel
theorem dX5_passTimeTo_56 : decode cX5_passTimeTo 56 = .ok (.invokestatic 231, 3) := by decide +kernel
theorem dX5_passTimeTo_59 : decode cX5_passTimeTo 59 = .ok (.iconst 1, 1) := by decide +kernel
theorem dX5_passTimeTo_60 : decode cX5_passTimeTo 60 = .ok (.if_icmp .ne 11, 3) := by decide +kernel
theorem dX5_passTimeTo_63 : decode cX5_passTimeTo 63 = .ok (.aload_n 0, 1) := by decide +kernel
theorem dX5_passTimeTo_64 : decode cX5_passTimeTo 64 = .ok (.getfield 21, 3) := by decide +kernel
theorem dX5_passTimeTo_67 : decode cX5_passTimeTo 67 = .ok (.invokevirtual 202, 3) := by decide +kernel
theorem dX5_passTimeTo_70 : decode cX5_passTimeTo 70 = .ok (.istore_n 3, 1) := by decide +kernel
theorem dX5_passTimeTo_71 : decode cX5_passTimeTo 71 = .ok (.goto (-61), 3) := by decide +kernel
theorem dX5_passTimeTo_74 : decode cX5_passTimeTo 74 = .ok (.aload_n 0, 1) := by decide +kernel
theorem dX5_passTimeTo_75 : decode cX5_passTimeTo 75 = .ok (.getfield 35, 3) := by decide +kernel
theorem dX5_passTimeTo_78 : decode cX5_passTimeTo 78 = .ok (.iload_n 1, 1) := by decide +kernel
theorem dX5_passTimeTo_79 : decode cX5_passTimeTo 79 = .ok (.putfield 110, 3) := by decide +kernel
theorem dX5_passTimeTo_82 : decode cX5_passTimeTo 82 = .ok (.iload_n 2, 1) := by decide +kernel
theorem dX5_passTimeTo_83 : decode cX5_passTimeTo 83 = .ok (.ireturn, 1) := by decide +kernel
theorem dX5_carryOut_0 : decode cX5_carryOut 0 = .ok (.iload_n 1, 1) := by decide +kernel
theorem dX5_carryOut_1 : decode cX5_carryOut 1 = .ok (.invokestatic 234, 3) := by decide +kernel
theorem dX5_carryOut_4 : decode cX5_carryOut 4 = .ok (.istore_n 2, 1) := by decide +kernel
theorem dX5_carryOut_5 : decode cX5_carryOut 5 = .ok (.aload_n 0, 1) := by decide +kernel
theorem dX5_carryOut_6 : decode cX5_carryOut 6 = .ok (.getfield 35, 3) := by decide +kernel
theorem dX5_carryOut_9 : decode cX5_carryOut 9 = .ok (.iload_n 1, 1) := by decide +kernel
theorem dX5_carryOut_10 : decode cX5_carryOut 10 = .ok (.invokestatic 225, 3) := by decide +kernel
theorem dX5_carryOut_13 : decode cX5_carryOut 13 = .ok (.putfield 110, 3) := by decide +kernel
theorem dX5_carryOut_16 : decode cX5_carryOut 16 = .ok (.iload_n 1, 1) := by decide +kernel
theorem dX5_carryOut_17 : decode cX5_carryOut 17 = .ok (.invokestatic 231, 3) := by decide +kernel
theorem dX5_carryOut_20 : decode cX5_carryOut 20 = .ok (.iconst 1, 1) := by decide +kernel
theorem dX5_carryOut_21 : decode cX5_carryOut 21 = .ok (.if_icmp .ne 21, 3) := by decide +kernel
theorem dX5_carryOut_24 : decode cX5_carryOut 24 = .ok (.aload_n 0, 1) := by decide +kernel
theorem dX5_carryOut_25 : decode cX5_carryOut 25 = .ok (.getfield 21, 3) := by decide +kernel
theorem dX5_carryOut_28 : decode cX5_carryOut 28 = .ok (.iload_n 2, 1) := by decide +kernel
theorem dX5_carryOut_29 : decode cX5_carryOut 29 = .ok (.aload_n 0, 1) := by decide +kernel
theorem dX5_carryOut_30 : decode cX5_carryOut 30 = .ok (.getfield 35, 3) := by decide +kernel
theorem dX5_carryOut_33 : decode cX5_carryOut 33 = .ok (.getfield 110, 3) := by decide +kernel
theorem dX5_carryOut_36 : decode cX5_carryOut 36 = .ok (.invokevirtual 189, 3) := by decide +kernel
theorem dX5_carryOut_39 : decode cX5_carryOut 39 = .ok (.goto 28, 3) := by decide +kernel
theorem dX5_carryOut_42 : decode cX5_carryOut 42 = .ok (.iload_n 2, 1) := by decide +kernel
theorem dX5_carryOut_43 : decode cX5_carryOut 43 = .ok (.invokestatic 81, 3) := by decide +kernel
theorem dX5_carryOut_46 : decode cX5_carryOut 46 = .ok (.ifCond .eq 21, 3) := by decide +kernel
theorem dX5_carryOut_49 : decode cX5_carryOut 49 = .ok (.aload_n 0, 1) := by decide +kernel
theorem dX5_carryOut_50 : decode cX5_carryOut 50 = .ok (.iload_n 1, 1) := by decide +kernel
theorem dX5_carryOut_51 : decode cX5_carryOut 51 = .ok (.invokestatic 231, 3) := by decide +kernel
theorem dX5_carryOut_54 : decode cX5_carryOut 54 = .ok (.aload_n 0, 1) := by decide +kernel
theorem dX5_carryOut_55 : decode cX5_carryOut 55 = .ok (.getfield 21, 3) := by decide +kernel
theorem dX5_carryOut_58 : decode cX5_carryOut 58 = .ok (.getfield 237, 3) := by decide +kernel
theorem dX5_carryOut_61 : decode cX5_carryOut 61 = .ok (.iload_n 2, 1) := by decide +kernel
theorem dX5_carryOut_62 : decode cX5_carryOut 62 = .ok (.iaload, 1) := by decide +kernel
theorem dX5_carryOut_63 : decode cX5_carryOut 63 = .ok (.iload_n 2, 1) := by decide +kernel
theorem dX5_carryOut_64 : decode cX5_carryOut 64 = .ok (.invokevirtual 240, 3) := by decide +kernel
theorem dX5_carryOut_67 : decode cX5_carryOut 67 = .ok (.return_, 1) := by decide +kernel
theorem dX5_carryOutForHolder_0 : decode cX5_carryOutForHolder 0 = .ok (.iload_n 1, 1) := by decide +kernel
theorem dX5_carryOutForHolder_1 : decode cX5_carryOutForHolder 1 = .ok (.tableswitch 98 0 4 #[35, 98, 53, 67, 81], 35) := by decide +kernel
theorem dX5_carryOutForHolder_36 : decode cX5_carryOutForHolder 36 = .ok (.aload_n 0, 1) := by decide +kernel
theorem dX5_carryOutForHolder_37 : decode cX5_carryOutForHolder 37 = .ok (.iload_n 2, 1) := by decide +kernel
theorem dX5_carryOutForHolder_38 : decode cX5_carryOutForHolder 38 = .ok (.invokevirtual 138, 3) := by decide +kernel
theorem dX5_carryOutForHolder_41 : decode cX5_carryOutForHolder 41 = .ok (.aload_n 0, 1) := by decide +kernel
theorem dX5_carryOutForHolder_42 : decode cX5_carryOutForHolder 42 = .ok (.getfield 39, 3) := by decide +kernel
theorem dX5_carryOutForHolder_45 : decode cX5_carryOutForHolder 45 = .ok (.bipush 9, 2) := by decide +kernel
theorem dX5_carryOutForHolder_47 : decode cX5_carryOutForHolder 47 = .ok (.iload_n 3, 1) := by decide +kernel
theorem dX5_carryOutForHolder_48 : decode cX5_carryOutForHolder 48 = .ok (.invokevirtual 165, 3) := by decide +kernel
theorem dX5_carryOutForHolder_51 : decode cX5_carryOutForHolder 51 = .ok (.goto 48, 3) := by decide +kernel
theorem dX5_carryOutForHolder_54 : decode cX5_carryOutForHolder 54 = .ok (.aload_n 0, 1) := by decide +kernel
theorem dX5_carryOutForHolder_55 : decode cX5_carryOutForHolder 55 = .ok (.iload_n 2, 1) := by decide +kernel
theorem dX5_carryOutForHolder_56 : decode cX5_carryOutForHolder 56 = .ok (.aload_n 0, 1) := by decide +kernel
theorem dX5_carryOutForHolder_57 : decode cX5_carryOutForHolder 57 = .ok (.iload_n 2, 1) := by decide +kernel
theorem dX5_carryOutForHolder_58 : decode cX5_carryOutForHolder 58 = .ok (.invokevirtual 243, 3) := by decide +kernel
theorem dX5_carryOutForHolder_61 : decode cX5_carryOutForHolder 61 = .ok (.iconst 3, 1) := by decide +kernel
theorem dX5_carryOutForHolder_62 : decode cX5_carryOutForHolder 62 = .ok (.invokevirtual 246, 3) := by decide +kernel
theorem dX5_carryOutForHolder_65 : decode cX5_carryOutForHolder 65 = .ok (.goto 34, 3) := by decide +kernel
theorem dX5_carryOutForHolder_68 : decode cX5_carryOutForHolder 68 = .ok (.aload_n 0, 1) := by decide +kernel
theorem dX5_carryOutForHolder_69 : decode cX5_carryOutForHolder 69 = .ok (.iload_n 2, 1) := by decide +kernel
theorem dX5_carryOutForHolder_70 : decode cX5_carryOutForHolder 70 = .ok (.aload_n 0, 1) := by decide +kernel
theorem dX5_carryOutForHolder_71 : decode cX5_carryOutForHolder 71 = .ok (.iload_n 2, 1) := by decide +kernel
theorem dX5_carryOutForHolder_72 : decode cX5_carryOutForHolder 72 = .ok (.invokevirtual 250, 3) := by decide +kernel
theorem dX5_carryOutForHolder_75 : decode cX5_carryOutForHolder 75 = .ok (.iconst 4, 1) := by decide +kernel
theorem dX5_carryOutForHolder_76 : decode cX5_carryOutForHolder 76 = .ok (.invokevirtual 246, 3) := by decide +kernel
theorem dX5_carryOutForHolder_79 : decode cX5_carryOutForHolder 79 = .ok (.goto 20, 3) := by decide +kernel
theorem dX5_carryOutForHolder_82 : decode cX5_carryOutForHolder 82 = .ok (.aload_n 0, 1) := by decide +kernel
theorem dX5_carryOutForHolder_83 : decode cX5_carryOutForHolder 83 = .ok (.iload_n 2, 1) := by decide +kernel
theorem dX5_carryOutForHolder_84 : decode cX5_carryOutForHolder 84 = .ok (.invokevirtual 138, 3) := by decide +kernel
theorem dX5_carryOutForHolder_87 : decode cX5_carryOutForHolder 87 = .ok (.aload_n 0, 1) := by decide +kernel
theorem dX5_carryOutForHolder_88 : decode cX5_carryOutForHolder 88 = .ok (.getfield 39, 3) := by decide +kernel
theorem dX5_carryOutForHolder_91 : decode cX5_carryOutForHolder 91 = .ok (.iconst 5, 1) := by decide +kernel
theorem dX5_carryOutForHolder_92 : decode cX5_carryOutForHolder 92 = .ok (.iload_n 3, 1) := by decide +kernel
theorem dX5_carryOutForHolder_93 : decode cX5_carryOutForHolder 93 = .ok (.invokevirtual 165, 3) := by decide +kernel
theorem dX5_carryOutForHolder_96 : decode cX5_carryOutForHolder 96 = .ok (.goto 3, 3) := by decide +kernel
theorem dX5_carryOutForHolder_99 : decode cX5_carryOutForHolder 99 = .ok (.return_, 1) := by decide +kernel
theorem dX5_renewOrTurn_0 : decode cX5_renewOrTurn 0 = .ok (.iload_n 2, 1) := by decide +kernel
theorem dX5_renewOrTurn_1 : decode cX5_renewOrTurn 1 = .ok (.ifCond .eq 12, 3) := by decide +kernel
theorem dX5_renewOrTurn_4 : decode cX5_renewOrTurn 4 = .ok (.aload_n 0, 1) := by decide +kernel
theorem dX5_renewOrTurn_5 : decode cX5_renewOrTurn 5 = .ok (.iload_n 1, 1) := by decide +kernel
theorem dX5_renewOrTurn_6 : decode cX5_renewOrTurn 6 = .ok (.invokevirtual 253, 3) := by decide +kernel
theorem dX5_renewOrTurn_9 : decode cX5_renewOrTurn 9 = .ok (.pop, 1) := by decide +kernel
theorem dX5_renewOrTurn_10 : decode cX5_renewOrTurn 10 = .ok (.goto 20, 3) := by decide +kernel
theorem dX5_renewOrTurn_13 : decode cX5_renewOrTurn 13 = .ok (.iload_n 1, 1) := by decide +kernel
theorem dX5_renewOrTurn_14 : decode cX5_renewOrTurn 14 = .ok (.invokestatic 71, 3) := by decide +kernel
theorem dX5_renewOrTurn_17 : decode cX5_renewOrTurn 17 = .ok (.ifCond .eq 13, 3) := by decide +kernel
theorem dX5_renewOrTurn_20 : decode cX5_renewOrTurn 20 = .ok (.aload_n 0, 1) := by decide +kernel
theorem dX5_renewOrTurn_21 : decode cX5_renewOrTurn 21 = .ok (.getfield 28, 3) := by decide +kernel
theorem dX5_renewOrTurn_24 : decode cX5_renewOrTurn 24 = .ok (.getfield 209, 3) := by decide +kernel
theorem dX5_renewOrTurn_27 : decode cX5_renewOrTurn 27 = .ok (.iload_n 1, 1) := by decide +kernel
theorem dX5_renewOrTurn_28 : decode cX5_renewOrTurn 28 = .ok (.iload_n 3, 1) := by decide +kernel
theorem dX5_renewOrTurn_29 : decode cX5_renewOrTurn 29 = .ok (.iastore, 1) := by decide +kernel
theorem dX5_renewOrTurn_30 : decode cX5_renewOrTurn 30 = .ok (.return_, 1) := by decide +kernel
theorem dX6_init_0 : decode cX6_init 0 = .ok (.aload_n 0, 1) := by decide +kernel
theorem dX6_init_1 : decode cX6_init 1 = .ok (.invokespecial 1, 3) := by decide +kernel
theorem dX6_init_4 : decode cX6_init 4 = .ok (.aload_n 0, 1) := by decide +kernel
theorem dX6_init_5 : decode cX6_init 5 = .ok (.new 7, 3) := by decide +kernel
theorem dX6_init_8 : decode cX6_init 8 = .ok (.dup, 1) := by decide +kernel
theorem dX6_init_9 : decode cX6_init 9 = .ok (.invokespecial 9, 3) := by decide +kernel
theorem dX6_init_12 : decode cX6_init 12 = .ok (.putfield 10, 3) := by decide +kernel
theorem dX6_init_15 : decode cX6_init 15 = .ok (.aload_n 0, 1) := by decide +kernel
theorem dX6_init_16 : decode cX6_init 16 = .ok (.new 16, 3) := by decide +kernel
theorem dX6_init_19 : decode cX6_init 19 = .ok (.dup, 1) := by decide +kernel
theorem dX6_init_20 : decode cX6_init 20 = .ok (.aload_n 0, 1) := by decide +kernel
theorem dX6_init_21 : decode cX6_init 21 = .ok (.getfield 10, 3) := by decide +kernel
theorem dX6_init_24 : decode cX6_init 24 = .ok (.invokespecial 18, 3) := by decide +kernel
theorem dX6_init_27 : decode cX6_init 27 = .ok (.putfield 21, 3) := by decide +kernel
theorem dX6_init_30 : decode cX6_init 30 = .ok (.aload_n 0, 1) := by decide +kernel
theorem dX6_init_31 : decode cX6_init 31 = .ok (.new 16, 3) := by decide +kernel
theorem dX6_init_34 : decode cX6_init 34 = .ok (.dup, 1) := by decide +kernel
theorem dX6_init_35 : decode cX6_init 35 = .ok (.aload_n 0, 1) := by decide +kernel
theorem dX6_init_36 : decode cX6_init 36 = .ok (.getfield 10, 3) := by decide +kernel
theorem dX6_init_39 : decode cX6_init 39 = .ok (.invokespecial 18, 3) := by decide +kernel
theorem dX6_init_42 : decode cX6_init 42 = .ok (.putfield 25, 3) := by decide +kernel
theorem dX6_init_45 : decode cX6_init 45 = .ok (.return_, 1) := by decide +kernel
theorem dX6_addPool_0 : decode cX6_addPool 0 = .ok (.iload_n 1, 1) := by decide +kernel
theorem dX6_addPool_1 : decode cX6_addPool 1 = .ok (.invokestatic 28, 3) := by decide +kernel
theorem dX6_addPool_4 : decode cX6_addPool 4 = .ok (.iload_n 2, 1) := by decide +kernel
theorem dX6_addPool_5 : decode cX6_addPool 5 = .ok (.invokestatic 32, 3) := by decide +kernel
theorem dX6_addPool_8 : decode cX6_addPool 8 = .ok (.ifCond .eq 15, 3) := by decide +kernel
theorem dX6_addPool_11 : decode cX6_addPool 11 = .ok (.iload_n 3, 1) := by decide +kernel
theorem dX6_addPool_12 : decode cX6_addPool 12 = .ok (.invokestatic 32, 3) := by decide +kernel
theorem dX6_addPool_15 : decode cX6_addPool 15 = .ok (.ifCond .eq 8, 3) := by decide +kernel
theorem dX6_addPool_18 : decode cX6_addPool 18 = .ok (.iload_n 2, 1) := by decide +kernel
theorem dX6_addPool_19 : decode cX6_addPool 19 = .ok (.iload_n 3, 1) := by decide +kernel
theorem dX6_addPool_20 : decode cX6_addPool 20 = .ok (.if_icmp .le 13, 3) := by decide +kernel
theorem dX6_addPool_23 : decode cX6_addPool 23 = .ok (.new 36, 3) := by decide +kernel
theorem dX6_addPool_26 : decode cX6_addPool 26 = .ok (.dup, 1) := by decide +kernel
theorem dX6_addPool_27 : decode cX6_addPool 27 = .ok (.ldc 38, 2) := by decide +kernel
theorem dX6_addPool_29 : decode cX6_addPool 29 = .ok (.invokespecial 40, 3) := by decide +kernel
theorem dX6_addPool_32 : decode cX6_addPool 32 = .ok (.athrow, 1) := by decide +kernel
theorem dX6_addPool_33 : decode cX6_addPool 33 = .ok (.iload 4, 2) := by decide +kernel
theorem dX6_addPool_35 : decode cX6_addPool 35 = .ok (.bipush 8, 2) := by decide +kernel
theorem dX6_addPool_37 : decode cX6_addPool 37 = .ok (.if_icmp .lt 11, 3) := by decide +kernel
theorem dX6_addPool_40 : decode cX6_addPool 40 = .ok (.iload 4, 2) := by decide +kernel
theorem dX6_addPool_42 : decode cX6_addPool 42 = .ok (.sipush 800, 3) := by decide +kernel
theorem dX6_addPool_45 : decode cX6_addPool 45 = .ok (.if_icmp .le 13, 3) := by decide +kernel
theorem dX6_addPool_48 : decode cX6_addPool 48 = .ok (.new 36, 3) := by decide +kernel
theorem dX6_addPool_51 : decode cX6_addPool 51 = .ok (.dup, 1) := by decide +kernel
theorem dX6_addPool_52 : decode cX6_addPool 52 = .ok (.ldc 43, 2) := by decide +kernel
theorem dX6_addPool_54 : decode cX6_addPool 54 = .ok (.invokespecial 40, 3) := by decide +kernel
theorem dX6_addPool_57 : decode cX6_addPool 57 = .ok (.athrow, 1) := by decide +kernel
theorem dX6_addPool_58 : decode cX6_addPool 58 = .ok (.aload_n 0, 1) := by decide +kernel
theorem dX6_addPool_59 : decode cX6_addPool 59 = .ok (.getfield 21, 3) := by decide +kernel
theorem dX6_addPool_62 : decode cX6_addPool 62 = .ok (.getfield 45, 3) := by decide +kernel
theorem dX6_addPool_65 : decode cX6_addPool 65 = .ok (.getfield 49, 3) := by decide +kernel
theorem dX6_addPool_68 : decode cX6_addPool 68 = .ok (.iconst 5, 1) := by decide +kernel
theorem dX6_addPool_69 : decode cX6_addPool 69 = .ok (.if_icmp .lt 13, 3) := by decide +kernel
theorem dX6_addPool_72 : decode cX6_addPool 72 = .ok (.new 55, 3) := by decide +kernel
theorem dX6_addPool_75 : decode cX6_addPool 75 = .ok (.dup, 1) := by decide +kernel
theorem dX6_addPool_76 : decode cX6_addPool 76 = .ok (.ldc 57, 2) := by decide +kernel
theorem dX6_addPool_78 : decode cX6_addPool 78 = .ok (.invokespecial 59, 3) := by decide +kernel
theorem dX6_addPool_81 : decode cX6_addPool 81 = .ok (.athrow, 1) := by decide +kernel
theorem dX6_addPool_82 : decode cX6_addPool 82 = .ok (.aload_n 0, 1) := by decide +kernel
theorem dX6_addPool_83 : decode cX6_addPool 83 = .ok (.getfield 21, 3) := by decide +kernel
theorem dX6_addPool_86 : decode cX6_addPool 86 = .ok (.getfield 45, 3) := by decide +kernel
theorem dX6_addPool_89 : decode cX6_addPool 89 = .ok (.iload_n 2, 1) := by decide +kernel
theorem dX6_addPool_90 : decode cX6_addPool 90 = .ok (.iload_n 3, 1) := by decide +kernel
theorem dX6_addPool_91 : decode cX6_addPool 91 = .ok (.invokevirtual 60, 3) := by decide +kernel
theorem dX6_addPool_94 : decode cX6_addPool 94 = .ok (.ifCond .eq 13, 3) := by decide +kernel
theorem dX6_addPool_97 : decode cX6_addPool 97 = .ok (.new 55, 3) := by decide +kernel
theorem dX6_addPool_100 : decode cX6_addPool 100 = .ok (.dup, 1) := by decide +kernel
theorem dX6_addPool_101 : decode cX6_addPool 101 = .ok (.ldc 64, 2) := by decide +kernel
theorem dX6_addPool_103 : decode cX6_addPool 103 = .ok (.invokespecial 59, 3) := by decide +kernel
theorem dX6_addPool_106 : decode cX6_addPool 106 = .ok (.athrow, 1) := by decide +kernel
theorem dX6_addPool_107 : decode cX6_addPool 107 = .ok (.aload_n 0, 1) := by decide +kernel
theorem dX6_addPool_108 : decode cX6_addPool 108 = .ok (.getfield 21, 3) := by decide +kernel
theorem dX6_addPool_111 : decode cX6_addPool 111 = .ok (.getfield 66, 3) := by decide +kernel
theorem dX6_addPool_114 : decode cX6_addPool 114 = .ok (.iload_n 2, 1) := by decide +kernel
theorem dX6_addPool_115 : decode cX6_addPool 115 = .ok (.iload_n 3, 1) := by decide +kernel
theorem dX6_addPool_116 : decode cX6_addPool 116 = .ok (.invokevirtual 70, 3) := by decide +kernel
theorem dX6_addPool_119 : decode cX6_addPool 119 = .ok (.aload_n 0, 1) := by decide +kernel
theorem dX6_addPool_120 : decode cX6_addPool 120 = .ok (.getfield 21, 3) := by decide +kernel
theorem dX6_addPool_123 : decode cX6_addPool 123 = .ok (.getfield 45, 3) := by decide +kernel
theorem dX6_addPool_126 : decode cX6_addPool 126 = .ok (.iload_n 1, 1) := by decide +kernel
theorem dX6_addPool_127 : decode cX6_addPool 127 = .ok (.iload_n 2, 1) := by decide +kernel
theorem dX6_addPool_128 : decode cX6_addPool 128 = .ok (.iload_n 3, 1) := by decide +kernel
theorem dX6_addPool_129 : decode cX6_addPool 129 = .ok (.iload 4, 2) := by decide +kernel
theorem dX6_addPool_131 : decode cX6_addPool 131 = .ok (.invokevirtual 76, 3) := by decide +kernel
theorem dX6_addPool_134 : decode cX6_addPool 134 = .ok (.ireturn, 1) := by decide +kernel
theorem dX6_removePool_0 : decode cX6_removePool 0 = .ok (.aload_n 0, 1) := by decide +kernel
theorem dX6_removePool_1 : decode cX6_removePool 1 = .ok (.iload_n 1, 1) := by decide +kernel
theorem dX6_removePool_2 : decode cX6_removePool 2 = .ok (.invokevirtual 80, 3) := by decide +kernel
theorem dX6_removePool_5 : decode cX6_removePool 5 = .ok (.aload_n 0, 1) := by decide +kernel
theorem dX6_removePool_6 : decode cX6_removePool 6 = .ok (.getfield 21, 3) := by decide +kernel
theorem dX6_removePool_9 : decode cX6_removePool 9 = .ok (.getfield 45, 3) := by decide +kernel
theorem dX6_removePool_12 : decode cX6_removePool 12 = .ok (.getfield 83, 3) := by decide +kernel
theorem dX6_removePool_15 : decode cX6_removePool 15 = .ok (.iload_n 1, 1) := by decide +kernel
theorem dX6_removePool_16 : decode cX6_removePool 16 = .ok (.iaload, 1) := by decide +kernel
theorem dX6_removePool_17 : decode cX6_removePool 17 = .ok (.istore_n 2, 1) := by decide +kernel
theorem dX6_removePool_18 : decode cX6_removePool 18 = .ok (.aload_n 0, 1) := by decide +kernel
theorem dX6_removePool_19 : decode cX6_removePool 19 = .ok (.getfield 21, 3) := by decide +kernel
theorem dX6_removePool_22 : decode cX6_removePool 22 = .ok (.getfield 45, 3) := by decide +kernel
theorem dX6_removePool_25 : decode cX6_removePool 25 = .ok (.getfield 87, 3) := by decide +kernel
theorem dX6_removePool_28 : decode cX6_removePool 28 = .ok (.iload_n 1, 1) := by decide +kernel
theorem dX6_removePool_29 : decode cX6_removePool 29 = .ok (.iaload, 1) := by decide +kernel
theorem dX6_removePool_30 : decode cX6_removePool 30 = .ok (.istore_n 3, 1) := by decide +kernel
theorem dX6_removePool_31 : decode cX6_removePool 31 = .ok (.aload_n 0, 1) := by decide +kernel
theorem dX6_removePool_32 : decode cX6_removePool 32 = .ok (.getfield 21, 3) := by decide +kernel
theorem dX6_removePool_35 : decode cX6_removePool 35 = .ok (.getfield 66, 3) := by decide +kernel
theorem dX6_removePool_38 : decode cX6_removePool 38 = .ok (.iload_n 2, 1) := by decide +kernel
theorem dX6_removePool_39 : decode cX6_removePool 39 = .ok (.iload_n 3, 1) := by decide +kernel
theorem dX6_removePool_40 : decode cX6_removePool 40 = .ok (.iconst 0, 1) := by decide +kernel
theorem dX6_removePool_41 : decode cX6_removePool 41 = .ok (.invokevirtual 90, 3) := by decide +kernel
theorem dX6_removePool_44 : decode cX6_removePool 44 = .ok (.iload_n 3, 1) := by decide +kernel
theorem dX6_removePool_45 : decode cX6_removePool 45 = .ok (.iload_n 2, 1) := by decide +kernel
theorem dX6_removePool_46 : decode cX6_removePool 46 = .ok (.isub, 1) := by decide +kernel
theorem dX6_removePool_47 : decode cX6_removePool 47 = .ok (.iconst 1, 1) := by decide +kernel
theorem dX6_removePool_48 : decode cX6_removePool 48 = .ok (.iadd, 1) := by decide +kernel
theorem dX6_removePool_49 : decode cX6_removePool 49 = .ok (.if_icmp .eq 13, 3) := by decide +kernel
theorem dX6_removePool_52 : decode cX6_removePool 52 = .ok (.new 55, 3) := by decide +kernel
theorem dX6_removePool_55 : decode cX6_removePool 55 = .ok (.dup, 1) := by decide +kernel
theorem dX6_removePool_56 : decode cX6_removePool 56 = .ok (.ldc 94, 2) := by decide +kernel
theorem dX6_removePool_58 : decode cX6_removePool 58 = .ok (.invokespecial 59, 3) := by decide +kernel
theorem dX6_removePool_61 : decode cX6_removePool 61 = .ok (.athrow, 1) := by decide +kernel
theorem dX6_removePool_62 : decode cX6_removePool 62 = .ok (.aload_n 0, 1) := by decide +kernel
theorem dX6_removePool_63 : decode cX6_removePool 63 = .ok (.getfield 21, 3) := by decide +kernel
theorem dX6_removePool_66 : decode cX6_removePool 66 = .ok (.getfield 45, 3) := by decide +kernel
theorem dX6_removePool_69 : decode cX6_removePool 69 = .ok (.iload_n 1, 1) := by decide +kernel
theorem dX6_removePool_70 : decode cX6_removePool 70 = .ok (.invokevirtual 96, 3) := by decide +kernel
theorem dX6_removePool_73 : decode cX6_removePool 73 = .ok (.ireturn, 1) := by decide +kernel
theorem dX6_poolCount_0 : decode cX6_poolCount 0 = .ok (.aload_n 0, 1) := by decide +kernel
theorem dX6_poolCount_1 : decode cX6_poolCount 1 = .ok (.getfield 21, 3) := by decide +kernel
theorem dX6_poolCount_4 : decode cX6_poolCount 4 = .ok (.getfield 45, 3) := by decide +kernel
theorem dX6_poolCount_7 : decode cX6_poolCount 7 = .ok (.getfield 49, 3) := by decide +kernel
theorem dX6_poolCount_10 : decode cX6_poolCount 10 = .ok (.ireturn, 1) := by decide +kernel
theorem dX6_pool_0 : decode cX6_pool 0 = .ok (.aload_n 0, 1) := by decide +kernel
theorem dX6_pool_1 : decode cX6_pool 1 = .ok (.iload_n 1, 1) := by decide +kernel
theorem dX6_pool_2 : decode cX6_pool 2 = .ok (.invokevirtual 80, 3) := by decide +kernel
theorem dX6_pool_5 : decode cX6_pool 5 = .ok (.aload_n 0, 1) := by decide +kernel
theorem dX6_pool_6 : decode cX6_pool 6 = .ok (.getfield 21, 3) := by decide +kernel
theorem dX6_pool_9 : decode cX6_pool 9 = .ok (.getfield 45, 3) := by decide +kernel
theorem dX6_pool_12 : decode cX6_pool 12 = .ok (.astore_n 3, 1) := by decide +kernel
theorem dX6_pool_13 : decode cX6_pool 13 = .ok (.iload_n 2, 1) := by decide +kernel
theorem dX6_pool_14 : decode cX6_pool 14 = .ok (.tableswitch 85 0 4 #[34, 41, 48, 55, 62], 34) := by decide +kernel
theorem dX6_pool_48 : decode cX6_pool 48 = .ok (.aload_n 3, 1) := by decide +kernel
theorem dX6_pool_49 : decode cX6_pool 49 = .ok (.getfield 100, 3) := by decide +kernel
theorem dX6_pool_52 : decode cX6_pool 52 = .ok (.iload_n 1, 1) := by decide +kernel
theorem dX6_pool_53 : decode cX6_pool 53 = .ok (.iaload, 1) := by decide +kernel
theorem dX6_pool_54 : decode cX6_pool 54 = .ok (.ireturn, 1) := by decide +kernel
theorem dX6_pool_55 : decode cX6_pool 55 = .ok (.aload_n 3, 1) := by decide +kernel
theorem dX6_pool_56 : decode cX6_pool 56 = .ok (.getfield 83, 3) := by decide +kernel
theorem dX6_pool_59 : decode cX6_pool 59 = .ok (.iload_n 1, 1) := by decide +kernel
theorem dX6_pool_60 : decode cX6_pool 60 = .ok (.iaload, 1) := by decide +kernel
theorem dX6_pool_61 : decode cX6_pool 61 = .ok (.ireturn, 1) := by decide +kernel
theorem dX6_pool_62 : decode cX6_pool 62 = .ok (.aload_n 3, 1) := by decide +kernel
theorem dX6_pool_63 : decode cX6_pool 63 = .ok (.getfield 87, 3) := by decide +kernel
theorem dX6_pool_66 : decode cX6_pool 66 = .ok (.iload_n 1, 1) := by decide +kernel
theorem dX6_pool_67 : decode cX6_pool 67 = .ok (.iaload, 1) := by decide +kernel
theorem dX6_pool_68 : decode cX6_pool 68 = .ok (.ireturn, 1) := by decide +kernel
theorem dX6_pool_69 : decode cX6_pool 69 = .ok (.aload_n 3, 1) := by decide +kernel
theorem dX6_pool_70 : decode cX6_pool 70 = .ok (.getfield 103, 3) := by decide +kernel
theorem dX6_pool_73 : decode cX6_pool 73 = .ok (.iload_n 1, 1) := by decide +kernel
theorem dX6_pool_74 : decode cX6_pool 74 = .ok (.iaload, 1) := by decide +kernel
theorem dX6_pool_75 : decode cX6_pool 75 = .ok (.ireturn, 1) := by decide +kernel
theorem dX6_pool_76 : decode cX6_pool 76 = .ok (.aload_n 0, 1) := by decide +kernel
theorem dX6_pool_77 : decode cX6_pool 77 = .ok (.getfield 21, 3) := by decide +kernel
theorem dX6_pool_80 : decode cX6_pool 80 = .ok (.getfield 66, 3) := by decide +kernel
theorem dX6_pool_83 : decode cX6_pool 83 = .ok (.aload_n 3, 1) := by decide +kernel
theorem dX6_pool_84 : decode cX6_pool 84 = .ok (.getfield 83, 3) := by decide +kernel
theorem dX6_pool_87 : decode cX6_pool 87 = .ok (.iload_n 1, 1) := by decide +kernel
theorem dX6_pool_88 : decode cX6_pool 88 = .ok (.iaload, 1) := by decide +kernel
theorem dX6_pool_89 : decode cX6_pool 89 = .ok (.aload_n 3, 1) := by decide +kernel
theorem dX6_pool_90 : decode cX6_pool 90 = .ok (.getfield 87, 3) := by decide +kernel
theorem dX6_pool_93 : decode cX6_pool 93 = .ok (.iload_n 1, 1) := by decide +kernel
theorem dX6_pool_94 : decode cX6_pool 94 = .ok (.iaload, 1) := by decide +kernel
theorem dX6_pool_95 : decode cX6_pool 95 = .ok (.invokevirtual 106, 3) := by decide +kernel
theorem dX6_pool_98 : decode cX6_pool 98 = .ok (.ireturn, 1) := by decide +kernel
theorem dX6_pool_99 : decode cX6_pool 99 = .ok (.new 36, 3) := by decide +kernel
theorem dX6_pool_102 : decode cX6_pool 102 = .ok (.dup, 1) := by decide +kernel
theorem dX6_pool_103 : decode cX6_pool 103 = .ok (.ldc 110, 2) := by decide +kernel
theorem dX6_pool_105 : decode cX6_pool 105 = .ok (.invokespecial 40, 3) := by decide +kernel
theorem dX6_pool_108 : decode cX6_pool 108 = .ok (.athrow, 1) := by decide +kernel
theorem dX6_poolOf_0 : decode cX6_poolOf 0 = .ok (.iload_n 1, 1) := by decide +kernel
theorem dX6_poolOf_1 : decode cX6_poolOf 1 = .ok (.invokestatic 112, 3) := by decide +kernel
theorem dX6_poolOf_4 : decode cX6_poolOf 4 = .ok (.aload_n 0, 1) := by decide +kernel
theorem dX6_poolOf_5 : decode cX6_poolOf 5 = .ok (.iload_n 1, 1) := by decide +kernel
theorem dX6_poolOf_6 : decode cX6_poolOf 6 = .ok (.invokevirtual 115, 3) := by decide +kernel
theorem dX6_poolOf_9 : decode cX6_poolOf 9 = .ok (.aload_n 0, 1) := by decide +kernel
theorem dX6_poolOf_10 : decode cX6_poolOf 10 = .ok (.getfield 21, 3) := by decide +kernel
theorem dX6_poolOf_13 : decode cX6_poolOf 13 = .ok (.getfield 45, 3) := by decide +kernel
theorem dX6_poolOf_16 : decode cX6_poolOf 16 = .ok (.iload_n 1, 1) := by decide +kernel
theorem dX6_poolOf_17 : decode cX6_poolOf 17 = .ok (.invokevirtual 118, 3) := by decide +kernel
theorem dX6_poolOf_20 : decode cX6_poolOf 20 = .ok (.ireturn, 1) := by decide +kernel
theorem dX6_exclude_0 : decode cX6_exclude 0 = .ok (.iload_n 1, 1) := by decide +kernel
theorem dX6_exclude_1 : decode cX6_exclude 1 = .ok (.invokestatic 112, 3) := by decide +kernel
theorem dX6_exclude_4 : decode cX6_exclude 4 = .ok (.aload_n 0, 1) := by decide +kernel
theorem dX6_exclude_5 : decode cX6_exclude 5 = .ok (.getfield 21, 3) := by decide +kernel
theorem dX6_exclude_8 : decode cX6_exclude 8 = .ok (.getfield 66, 3) := by decide +kernel
theorem dX6_exclude_11 : decode cX6_exclude 11 = .ok (.getfield 121, 3) := by decide +kernel
theorem dX6_exclude_14 : decode cX6_exclude 14 = .ok (.iload_n 1, 1) := by decide +kernel
theorem dX6_exclude_15 : decode cX6_exclude 15 = .ok (.baload, 1) := by decide +kernel
theorem dX6_exclude_16 : decode cX6_exclude 16 = .ok (.istore_n 3, 1) := by decide +kernel
theorem dX6_exclude_17 : decode cX6_exclude 17 = .ok (.aload_n 0, 1) := by decide +kernel
theorem dX6_exclude_18 : decode cX6_exclude 18 = .ok (.getfield 21, 3) := by decide +kernel
theorem dX6_exclude_21 : decode cX6_exclude 21 = .ok (.getfield 66, 3) := by decide +kernel
theorem dX6_exclude_24 : decode cX6_exclude 24 = .ok (.getfield 121, 3) := by decide +kernel
theorem dX6_exclude_27 : decode cX6_exclude 27 = .ok (.iload_n 1, 1) := by decide +kernel
theorem dX6_exclude_28 : decode cX6_exclude 28 = .ok (.iload_n 2, 1) := by decide +kernel
theorem dX6_exclude_29 : decode cX6_exclude 29 = .ok (.bastore, 1) := by decide +kernel
theorem dX6_exclude_30 : decode cX6_exclude 30 = .ok (.iload_n 3, 1) := by decide +kernel
theorem dX6_exclude_31 : decode cX6_exclude 31 = .ok (.ireturn, 1) := by decide +kernel
theorem dX6_setStranger_0 : decode cX6_setStranger 0 = .ok (.iload_n 1, 1) := by decide +kernel
theorem dX6_setStranger_1 : decode cX6_setStranger 1 = .ok (.invokestatic 112, 3) := by decide +kernel
theorem dX6_setStranger_4 : decode cX6_setStranger 4 = .ok (.aload_n 0, 1) := by decide +kernel
theorem dX6_setStranger_5 : decode cX6_setStranger 5 = .ok (.getfield 21, 3) := by decide +kernel
theorem dX6_setStranger_8 : decode cX6_setStranger 8 = .ok (.getfield 66, 3) := by decide +kernel
theorem dX6_setStranger_11 : decode cX6_setStranger 11 = .ok (.getfield 125, 3) := by decide +kernel
theorem dX6_setStranger_14 : decode cX6_setStranger 14 = .ok (.iload_n 1, 1) := by decide +kernel
theorem dX6_setStranger_15 : decode cX6_setStranger 15 = .ok (.baload, 1) := by decide +kernel
theorem dX6_setStranger_16 : decode cX6_setStranger 16 = .ok (.istore_n 3, 1) := by decide +kernel
theorem dX6_setStranger_17 : decode cX6_setStranger 17 = .ok (.aload_n 0, 1) := by decide +kernel
theorem dX6_setStranger_18 : decode cX6_setStranger 18 = .ok (.getfield 21, 3) := by decide +kernel
theorem dX6_setStranger_21 : decode cX6_setStranger 21 = .ok (.getfield 66, 3) := by decide +kernel
theorem dX6_setStranger_24 : decode cX6_setStranger 24 = .ok (.getfield 125, 3) := by decide +kernel
theorem dX6_setStranger_27 : decode cX6_setStranger 27 = .ok (.iload_n 1, 1) := by decide +kernel
theorem dX6_setStranger_28 : decode cX6_setStranger 28 = .ok (.iload_n 2, 1) := by decide +kernel
theorem dX6_setStranger_29 : decode cX6_setStranger 29 = .ok (.bastore, 1) := by decide +kernel
theorem dX6_setStranger_30 : decode cX6_setStranger 30 = .ok (.iload_n 3, 1) := by decide +kernel
theorem dX6_setStranger_31 : decode cX6_setStranger 31 = .ok (.ireturn, 1) := by decide +kernel
theorem dX6_setHold_0 : decode cX6_setHold 0 = .ok (.iload_n 1, 1) := by decide +kernel
theorem dX6_setHold_1 : decode cX6_setHold 1 = .ok (.iconst 1, 1) := by decide +kernel
theorem dX6_setHold_2 : decode cX6_setHold 2 = .ok (.if_icmp .lt 9, 3) := by decide +kernel
theorem dX6_setHold_5 : decode cX6_setHold 5 = .ok (.iload_n 1, 1) := by decide +kernel
theorem dX6_setHold_6 : decode cX6_setHold 6 = .ok (.bipush 50, 2) := by decide +kernel
theorem dX6_setHold_8 : decode cX6_setHold 8 = .ok (.if_icmp .le 13, 3) := by decide +kernel
theorem dX6_setHold_11 : decode cX6_setHold 11 = .ok (.new 36, 3) := by decide +kernel
theorem dX6_setHold_14 : decode cX6_setHold 14 = .ok (.dup, 1) := by decide +kernel
theorem dX6_setHold_15 : decode cX6_setHold 15 = .ok (.ldc 128, 2) := by decide +kernel
theorem dX6_setHold_17 : decode cX6_setHold 17 = .ok (.invokespecial 40, 3) := by decide +kernel
theorem dX6_setHold_20 : decode cX6_setHold 20 = .ok (.athrow, 1) := by decide +kernel
theorem dX6_setHold_21 : decode cX6_setHold 21 = .ok (.aload_n 0, 1) := by decide +kernel
theorem dX6_setHold_22 : decode cX6_setHold 22 = .ok (.getfield 21, 3) := by decide +kernel
theorem dX6_setHold_25 : decode cX6_setHold 25 = .ok (.getfield 130, 3) := by decide +kernel
theorem dX6_setHold_28 : decode cX6_setHold 28 = .ok (.getfield 134, 3) := by decide +kernel
theorem dX6_setHold_31 : decode cX6_setHold 31 = .ok (.istore_n 2, 1) := by decide +kernel
theorem dX6_setHold_32 : decode cX6_setHold 32 = .ok (.aload_n 0, 1) := by decide +kernel
theorem dX6_setHold_33 : decode cX6_setHold 33 = .ok (.getfield 21, 3) := by decide +kernel
theorem dX6_setHold_36 : decode cX6_setHold 36 = .ok (.getfield 130, 3) := by decide +kernel
theorem dX6_setHold_39 : decode cX6_setHold 39 = .ok (.iload_n 1, 1) := by decide +kernel
theorem dX6_setHold_40 : decode cX6_setHold 40 = .ok (.putfield 134, 3) := by decide +kernel
theorem dX6_setHold_43 : decode cX6_setHold 43 = .ok (.iload_n 2, 1) := by decide +kernel
theorem dX6_setHold_44 : decode cX6_setHold 44 = .ok (.ireturn, 1) := by decide +kernel
theorem dX6_setQuarantine_0 : decode cX6_setQuarantine 0 = .ok (.iload_n 1, 1) := by decide +kernel
theorem dX6_setQuarantine_1 : decode cX6_setQuarantine 1 = .ok (.iconst 1, 1) := by decide +kernel
theorem dX6_setQuarantine_2 : decode cX6_setQuarantine 2 = .ok (.if_icmp .lt 10, 3) := by decide +kernel
theorem dX6_setQuarantine_5 : decode cX6_setQuarantine 5 = .ok (.iload_n 1, 1) := by decide +kernel
theorem dX6_setQuarantine_6 : decode cX6_setQuarantine 6 = .ok (.sipush 500, 3) := by decide +kernel
theorem dX6_setQuarantine_9 : decode cX6_setQuarantine 9 = .ok (.if_icmp .le 13, 3) := by decide +kernel
theorem dX6_setQuarantine_12 : decode cX6_setQuarantine 12 = .ok (.new 36, 3) := by decide +kernel
theorem dX6_setQuarantine_15 : decode cX6_setQuarantine 15 = .ok (.dup, 1) := by decide +kernel
theorem dX6_setQuarantine_16 : decode cX6_setQuarantine 16 = .ok (.ldc 139, 2) := by decide +kernel
theorem dX6_setQuarantine_18 : decode cX6_setQuarantine 18 = .ok (.invokespecial 40, 3) := by decide +kernel
theorem dX6_setQuarantine_21 : decode cX6_setQuarantine 21 = .ok (.athrow, 1) := by decide +kernel
theorem dX6_setQuarantine_22 : decode cX6_setQuarantine 22 = .ok (.aload_n 0, 1) := by decide +kernel
theorem dX6_setQuarantine_23 : decode cX6_setQuarantine 23 = .ok (.getfield 21, 3) := by decide +kernel
theorem dX6_setQuarantine_26 : decode cX6_setQuarantine 26 = .ok (.getfield 130, 3) := by decide +kernel
theorem dX6_setQuarantine_29 : decode cX6_setQuarantine 29 = .ok (.getfield 141, 3) := by decide +kernel
theorem dX6_setQuarantine_32 : decode cX6_setQuarantine 32 = .ok (.istore_n 2, 1) := by decide +kernel
theorem dX6_setQuarantine_33 : decode cX6_setQuarantine 33 = .ok (.aload_n 0, 1) := by decide +kernel
theorem dX6_setQuarantine_34 : decode cX6_setQuarantine 34 = .ok (.getfield 21, 3) := by decide +kernel
theorem dX6_setQuarantine_37 : decode cX6_setQuarantine 37 = .ok (.getfield 130, 3) := by decide +kernel
theorem dX6_setQuarantine_40 : decode cX6_setQuarantine 40 = .ok (.iload_n 1, 1) := by decide +kernel
theorem dX6_setQuarantine_41 : decode cX6_setQuarantine 41 = .ok (.putfield 141, 3) := by decide +kernel
theorem dX6_setQuarantine_44 : decode cX6_setQuarantine 44 = .ok (.iload_n 2, 1) := by decide +kernel
theorem dX6_setQuarantine_45 : decode cX6_setQuarantine 45 = .ok (.ireturn, 1) := by decide +kernel
theorem dX6_setDirect_0 : decode cX6_setDirect 0 = .ok (.iload_n 1, 1) := by decide +kernel
theorem dX6_setDirect_1 : decode cX6_setDirect 1 = .ok (.invokestatic 28, 3) := by decide +kernel
theorem dX6_setDirect_4 : decode cX6_setDirect 4 = .ok (.aload_n 0, 1) := by decide +kernel
theorem dX6_setDirect_5 : decode cX6_setDirect 5 = .ok (.getfield 21, 3) := by decide +kernel
theorem dX6_setDirect_8 : decode cX6_setDirect 8 = .ok (.getfield 130, 3) := by decide +kernel
theorem dX6_setDirect_11 : decode cX6_setDirect 11 = .ok (.getfield 144, 3) := by decide +kernel
theorem dX6_setDirect_14 : decode cX6_setDirect 14 = .ok (.iload_n 1, 1) := by decide +kernel
theorem dX6_setDirect_15 : decode cX6_setDirect 15 = .ok (.baload, 1) := by decide +kernel
theorem dX6_setDirect_16 : decode cX6_setDirect 16 = .ok (.istore_n 3, 1) := by decide +kernel
theorem dX6_setDirect_17 : decode cX6_setDirect 17 = .ok (.aload_n 0, 1) := by decide +kernel
theorem dX6_setDirect_18 : decode cX6_setDirect 18 = .ok (.getfield 21, 3) := by decide +kernel
theorem dX6_setDirect_21 : decode cX6_setDirect 21 = .ok (.getfield 130, 3) := by decide +kernel
theorem dX6_setDirect_24 : decode cX6_setDirect 24 = .ok (.getfield 144, 3) := by decide +kernel
theorem dX6_setDirect_27 : decode cX6_setDirect 27 = .ok (.iload_n 1, 1) := by decide +kernel
theorem dX6_setDirect_28 : decode cX6_setDirect 28 = .ok (.iload_n 2, 1) := by decide +kernel
theorem dX6_setDirect_29 : decode cX6_setDirect 29 = .ok (.bastore, 1) := by decide +kernel
theorem dX6_setDirect_30 : decode cX6_setDirect 30 = .ok (.iload_n 3, 1) := by decide +kernel
theorem dX6_setDirect_31 : decode cX6_setDirect 31 = .ok (.ireturn, 1) := by decide +kernel
theorem dX6_setRelay_0 : decode cX6_setRelay 0 = .ok (.iload_n 1, 1) := by decide +kernel
theorem dX6_setRelay_1 : decode cX6_setRelay 1 = .ok (.invokestatic 28, 3) := by decide +kernel
theorem dX6_setRelay_4 : decode cX6_setRelay 4 = .ok (.aload_n 0, 1) := by decide +kernel
theorem dX6_setRelay_5 : decode cX6_setRelay 5 = .ok (.getfield 21, 3) := by decide +kernel
theorem dX6_setRelay_8 : decode cX6_setRelay 8 = .ok (.getfield 130, 3) := by decide +kernel
theorem dX6_setRelay_11 : decode cX6_setRelay 11 = .ok (.getfield 147, 3) := by decide +kernel
theorem dX6_setRelay_14 : decode cX6_setRelay 14 = .ok (.iload_n 1, 1) := by decide +kernel
theorem dX6_setRelay_15 : decode cX6_setRelay 15 = .ok (.baload, 1) := by decide +kernel
theorem dX6_setRelay_16 : decode cX6_setRelay 16 = .ok (.istore_n 3, 1) := by decide +kernel
theorem dX6_setRelay_17 : decode cX6_setRelay 17 = .ok (.aload_n 0, 1) := by decide +kernel
theorem dX6_setRelay_18 : decode cX6_setRelay 18 = .ok (.getfield 21, 3) := by decide +kernel
theorem dX6_setRelay_21 : decode cX6_setRelay 21 = .ok (.getfield 130, 3) := by decide +kernel
theorem dX6_setRelay_24 : decode cX6_setRelay 24 = .ok (.getfield 147, 3) := by decide +kernel
theorem dX6_setRelay_27 : decode cX6_setRelay 27 = .ok (.iload_n 1, 1) := by decide +kernel
theorem dX6_setRelay_28 : decode cX6_setRelay 28 = .ok (.iload_n 2, 1) := by decide +kernel
theorem dX6_setRelay_29 : decode cX6_setRelay 29 = .ok (.bastore, 1) := by decide +kernel
theorem dX6_setRelay_30 : decode cX6_setRelay 30 = .ok (.iload_n 3, 1) := by decide +kernel
theorem dX6_setRelay_31 : decode cX6_setRelay 31 = .ok (.ireturn, 1) := by decide +kernel
theorem dX6_discover_0 : decode cX6_discover 0 = .ok (.iload_n 1, 1) := by decide +kernel
theorem dX6_discover_1 : decode cX6_discover 1 = .ok (.invokestatic 150, 3) := by decide +kernel
theorem dX6_discover_4 : decode cX6_discover 4 = .ok (.iload_n 2, 1) := by decide +kernel
theorem dX6_discover_5 : decode cX6_discover 5 = .ok (.invokestatic 28, 3) := by decide +kernel
theorem dX6_discover_8 : decode cX6_discover 8 = .ok (.aload_n 0, 1) := by decide +kernel
theorem dX6_discover_9 : decode cX6_discover 9 = .ok (.getfield 21, 3) := by decide +kernel
theorem dX6_discover_12 : decode cX6_discover 12 = .ok (.getfield 153, 3) := by decide +kernel
theorem dX6_discover_15 : decode cX6_discover 15 = .ok (.iload_n 1, 1) := by decide +kernel
theorem dX6_discover_16 : decode cX6_discover 16 = .ok (.invokevirtual 157, 3) := by decide +kernel
theorem dX6_discover_19 : decode cX6_discover 19 = .ok (.ifCond .eq 13, 3) := by decide +kernel
theorem dX6_discover_22 : decode cX6_discover 22 = .ok (.new 55, 3) := by decide +kernel
theorem dX6_discover_25 : decode cX6_discover 25 = .ok (.dup, 1) := by decide +kernel
theorem dX6_discover_26 : decode cX6_discover 26 = .ok (.ldc 162, 2) := by decide +kernel
theorem dX6_discover_28 : decode cX6_discover 28 = .ok (.invokespecial 59, 3) := by decide +kernel
theorem dX6_discover_31 : decode cX6_discover 31 = .ok (.athrow, 1) := by decide +kernel
theorem dX6_discover_32 : decode cX6_discover 32 = .ok (.aload_n 0, 1) := by decide +kernel
theorem dX6_discover_33 : decode cX6_discover 33 = .ok (.getfield 21, 3) := by decide +kernel
theorem dX6_discover_36 : decode cX6_discover 36 = .ok (.getfield 130, 3) := by decide +kernel
theorem dX6_discover_39 : decode cX6_discover 39 = .ok (.getfield 147, 3) := by decide +kernel
theorem dX6_discover_42 : decode cX6_discover 42 = .ok (.iload_n 2, 1) := by decide +kernel
theorem dX6_discover_43 : decode cX6_discover 43 = .ok (.baload, 1) := by decide +kernel
theorem dX6_discover_44 : decode cX6_discover 44 = .ok (.ifCond .ne 13, 3) := by decide +kernel
theorem dX6_discover_47 : decode cX6_discover 47 = .ok (.new 55, 3) := by decide +kernel
theorem dX6_discover_50 : decode cX6_discover 50 = .ok (.dup, 1) := by decide +kernel
theorem dX6_discover_51 : decode cX6_discover 51 = .ok (.ldc 164, 2) := by decide +kernel
theorem dX6_discover_53 : decode cX6_discover 53 = .ok (.invokespecial 59, 3) := by decide +kernel
theorem dX6_discover_56 : decode cX6_discover 56 = .ok (.athrow, 1) := by decide +kernel
theorem dX6_discover_57 : decode cX6_discover 57 = .ok (.aload_n 0, 1) := by decide +kernel
theorem dX6_discover_58 : decode cX6_discover 58 = .ok (.getfield 21, 3) := by decide +kernel
theorem dX6_discover_61 : decode cX6_discover 61 = .ok (.iload_n 1, 1) := by decide +kernel
theorem dX6_discover_62 : decode cX6_discover 62 = .ok (.iload_n 2, 1) := by decide +kernel
theorem dX6_discover_63 : decode cX6_discover 63 = .ok (.iload_n 3, 1) := by decide +kernel
theorem dX6_discover_64 : decode cX6_discover 64 = .ok (.invokevirtual 166, 3) := by decide +kernel
theorem dX6_discover_67 : decode cX6_discover 67 = .ok (.istore 4, 2) := by decide +kernel
theorem dX6_discover_69 : decode cX6_discover 69 = .ok (.iload 4, 2) := by decide +kernel
theorem dX6_discover_71 : decode cX6_discover 71 = .ok (.iconst (-1), 1) := by decide +kernel
theorem dX6_discover_72 : decode cX6_discover 72 = .ok (.if_icmp .ne 13, 3) := by decide +kernel
theorem dX6_discover_75 : decode cX6_discover 75 = .ok (.new 169, 3) := by decide +kernel
theorem dX6_discover_78 : decode cX6_discover 78 = .ok (.dup, 1) := by decide +kernel
theorem dX6_discover_79 : decode cX6_discover 79 = .ok (.ldc 171, 2) := by decide +kernel
theorem dX6_discover_81 : decode cX6_discover 81 = .ok (.invokespecial 173, 3) := by decide +kernel
theorem dX6_discover_84 : decode cX6_discover 84 = .ok (.athrow, 1) := by decide +kernel
theorem dX6_discover_85 : decode cX6_discover 85 = .ok (.iload 4, 2) := by decide +kernel
theorem dX6_discover_87 : decode cX6_discover 87 = .ok (.ireturn, 1) := by decide +kernel
theorem dX6_accept_0 : decode cX6_accept 0 = .ok (.iload_n 1, 1) := by decide +kernel
theorem dX6_accept_1 : decode cX6_accept 1 = .ok (.invokestatic 150, 3) := by decide +kernel
theorem dX6_accept_4 : decode cX6_accept 4 = .ok (.aload_n 0, 1) := by decide +kernel
theorem dX6_accept_5 : decode cX6_accept 5 = .ok (.getfield 21, 3) := by decide +kernel
theorem dX6_accept_8 : decode cX6_accept 8 = .ok (.getfield 153, 3) := by decide +kernel
theorem dX6_accept_11 : decode cX6_accept 11 = .ok (.getfield 174, 3) := by decide +kernel
theorem dX6_accept_14 : decode cX6_accept 14 = .ok (.iload_n 1, 1) := by decide +kernel
theorem dX6_accept_15 : decode cX6_accept 15 = .ok (.iaload, 1) := by decide +kernel
theorem dX6_accept_16 : decode cX6_accept 16 = .ok (.iconst 1, 1) := by decide +kernel
theorem dX6_accept_17 : decode cX6_accept 17 = .ok (.if_icmp .eq 13, 3) := by decide +kernel
theorem dX6_accept_20 : decode cX6_accept 20 = .ok (.new 169, 3) := by decide +kernel
theorem dX6_accept_23 : decode cX6_accept 23 = .ok (.dup, 1) := by decide +kernel
theorem dX6_accept_24 : decode cX6_accept 24 = .ok (.ldc 176, 2) := by decide +kernel
theorem dX6_accept_26 : decode cX6_accept 26 = .ok (.invokespecial 173, 3) := by decide +kernel
theorem dX6_accept_29 : decode cX6_accept 29 = .ok (.athrow, 1) := by decide +kernel
theorem dX6_accept_30 : decode cX6_accept 30 = .ok (.aload_n 0, 1) := by decide +kernel
theorem dX6_accept_31 : decode cX6_accept 31 = .ok (.getfield 21, 3) := by decide +kernel
theorem dX6_accept_34 : decode cX6_accept 34 = .ok (.iload_n 1, 1) := by decide +kernel
theorem dX6_accept_35 : decode cX6_accept 35 = .ok (.invokevirtual 178, 3) := by decide +kernel
theorem dX6_accept_38 : decode cX6_accept 38 = .ok (.ifCond .ne 13, 3) := by decide +kernel
theorem dX6_accept_41 : decode cX6_accept 41 = .ok (.new 55, 3) := by decide +kernel
theorem dX6_accept_44 : decode cX6_accept 44 = .ok (.dup, 1) := by decide +kernel
theorem dX6_accept_45 : decode cX6_accept 45 = .ok (.ldc 164, 2) := by decide +kernel
theorem dX6_accept_47 : decode cX6_accept 47 = .ok (.invokespecial 59, 3) := by decide +kernel
theorem dX6_accept_50 : decode cX6_accept 50 = .ok (.athrow, 1) := by decide +kernel
theorem dX6_accept_51 : decode cX6_accept 51 = .ok (.aload_n 0, 1) := by decide +kernel
theorem dX6_accept_52 : decode cX6_accept 52 = .ok (.getfield 21, 3) := by decide +kernel
theorem dX6_accept_55 : decode cX6_accept 55 = .ok (.iload_n 1, 1) := by decide +kernel
theorem dX6_accept_56 : decode cX6_accept 56 = .ok (.invokevirtual 181, 3) := by decide +kernel
theorem dX6_accept_59 : decode cX6_accept 59 = .ok (.aload_n 0, 1) := by decide +kernel
theorem dX6_accept_60 : decode cX6_accept 60 = .ok (.getfield 21, 3) := by decide +kernel
theorem dX6_accept_63 : decode cX6_accept 63 = .ok (.getfield 153, 3) := by decide +kernel
theorem dX6_accept_66 : decode cX6_accept 66 = .ok (.getfield 184, 3) := by decide +kernel
theorem dX6_accept_69 : decode cX6_accept 69 = .ok (.iload_n 1, 1) := by decide +kernel
theorem dX6_accept_70 : decode cX6_accept 70 = .ok (.iaload, 1) := by decide +kernel
theorem dX6_accept_71 : decode cX6_accept 71 = .ok (.ireturn, 1) := by decide +kernel
theorem dX6_release_0 : decode cX6_release 0 = .ok (.iload_n 1, 1) := by decide +kernel
theorem dX6_release_1 : decode cX6_release 1 = .ok (.invokestatic 150, 3) := by decide +kernel
theorem dX6_release_4 : decode cX6_release 4 = .ok (.aload_n 0, 1) := by decide +kernel
theorem dX6_release_5 : decode cX6_release 5 = .ok (.iload_n 1, 1) := by decide +kernel
theorem dX6_release_6 : decode cX6_release 6 = .ok (.invokevirtual 187, 3) := by decide +kernel
theorem dX6_release_9 : decode cX6_release 9 = .ok (.aload_n 0, 1) := by decide +kernel
theorem dX6_release_10 : decode cX6_release 10 = .ok (.getfield 21, 3) := by decide +kernel
theorem dX6_release_13 : decode cX6_release 13 = .ok (.getfield 153, 3) := by decide +kernel
theorem dX6_release_16 : decode cX6_release 16 = .ok (.getfield 184, 3) := by decide +kernel
theorem dX6_release_19 : decode cX6_release 19 = .ok (.iload_n 1, 1) := by decide +kernel
theorem dX6_release_20 : decode cX6_release 20 = .ok (.iaload, 1) := by decide +kernel
theorem dX6_release_21 : decode cX6_release 21 = .ok (.istore_n 2, 1) := by decide +kernel
theorem dX6_release_22 : decode cX6_release 22 = .ok (.aload_n 0, 1) := by decide +kernel
theorem dX6_release_23 : decode cX6_release 23 = .ok (.getfield 21, 3) := by decide +kernel
theorem dX6_release_26 : decode cX6_release 26 = .ok (.iload_n 1, 1) := by decide +kernel
theorem dX6_release_27 : decode cX6_release 27 = .ok (.invokevirtual 190, 3) := by decide +kernel
theorem dX6_release_30 : decode cX6_release 30 = .ok (.aload_n 0, 1) := by decide +kernel
theorem dX6_release_31 : decode cX6_release 31 = .ok (.getfield 10, 3) := by decide +kernel
theorem dX6_release_34 : decode cX6_release 34 = .ok (.bipush 6, 2) := by decide +kernel
theorem dX6_release_36 : decode cX6_release 36 = .ok (.iload_n 2, 1) := by decide +kernel
theorem dX6_release_37 : decode cX6_release 37 = .ok (.invokevirtual 193, 3) := by decide +kernel
theorem dX6_release_40 : decode cX6_release 40 = .ok (.iload_n 2, 1) := by decide +kernel
theorem dX6_release_41 : decode cX6_release 41 = .ok (.ireturn, 1) := by decide +kernel
theorem dX6_decline_0 : decode cX6_decline 0 = .ok (.iload_n 1, 1) := by decide +kernel
theorem dX6_decline_1 : decode cX6_decline 1 = .ok (.invokestatic 150, 3) := by decide +kernel
theorem dX6_decline_4 : decode cX6_decline 4 = .ok (.aload_n 0, 1) := by decide +kernel
theorem dX6_decline_5 : decode cX6_decline 5 = .ok (.iload_n 1, 1) := by decide +kernel
theorem dX6_decline_6 : decode cX6_decline 6 = .ok (.invokevirtual 187, 3) := by decide +kernel
theorem dX6_decline_9 : decode cX6_decline 9 = .ok (.aload_n 0, 1) := by decide +kernel
theorem dX6_decline_10 : decode cX6_decline 10 = .ok (.getfield 21, 3) := by decide +kernel
theorem dX6_decline_13 : decode cX6_decline 13 = .ok (.getfield 153, 3) := by decide +kernel
theorem dX6_decline_16 : decode cX6_decline 16 = .ok (.getfield 184, 3) := by decide +kernel
theorem dX6_decline_19 : decode cX6_decline 19 = .ok (.iload_n 1, 1) := by decide +kernel
theorem dX6_decline_20 : decode cX6_decline 20 = .ok (.iaload, 1) := by decide +kernel
theorem dX6_decline_21 : decode cX6_decline 21 = .ok (.istore_n 2, 1) := by decide +kernel
theorem dX6_decline_22 : decode cX6_decline 22 = .ok (.aload_n 0, 1) := by decide +kernel
theorem dX6_decline_23 : decode cX6_decline 23 = .ok (.getfield 21, 3) := by decide +kernel
theorem dX6_decline_26 : decode cX6_decline 26 = .ok (.iload_n 1, 1) := by decide +kernel
theorem dX6_decline_27 : decode cX6_decline 27 = .ok (.invokevirtual 196, 3) := by decide +kernel
theorem dX6_decline_30 : decode cX6_decline 30 = .ok (.iload_n 2, 1) := by decide +kernel
theorem dX6_decline_31 : decode cX6_decline 31 = .ok (.ireturn, 1) := by decide +kernel
theorem dX6_renew_0 : decode cX6_renew 0 = .ok (.iload_n 1, 1) := by decide +kernel
theorem dX6_renew_1 : decode cX6_renew 1 = .ok (.invokestatic 150, 3) := by decide +kernel
theorem dX6_renew_4 : decode cX6_renew 4 = .ok (.aload_n 0, 1) := by decide +kernel
theorem dX6_renew_5 : decode cX6_renew 5 = .ok (.iload_n 1, 1) := by decide +kernel
theorem dX6_renew_6 : decode cX6_renew 6 = .ok (.invokevirtual 187, 3) := by decide +kernel
theorem dX6_renew_9 : decode cX6_renew 9 = .ok (.aload_n 0, 1) := by decide +kernel
theorem dX6_renew_10 : decode cX6_renew 10 = .ok (.getfield 21, 3) := by decide +kernel
theorem dX6_renew_13 : decode cX6_renew 13 = .ok (.iload_n 1, 1) := by decide +kernel
theorem dX6_renew_14 : decode cX6_renew 14 = .ok (.invokevirtual 199, 3) := by decide +kernel
theorem dX6_renew_17 : decode cX6_renew 17 = .ok (.ifCond .ne 13, 3) := by decide +kernel
theorem dX6_renew_20 : decode cX6_renew 20 = .ok (.new 55, 3) := by decide +kernel
theorem dX6_renew_23 : decode cX6_renew 23 = .ok (.dup, 1) := by decide +kernel
theorem dX6_renew_24 : decode cX6_renew 24 = .ok (.ldc 202, 2) := by decide +kernel
theorem dX6_renew_26 : decode cX6_renew 26 = .ok (.invokespecial 59, 3) := by decide +kernel
theorem dX6_renew_29 : decode cX6_renew 29 = .ok (.athrow, 1) := by decide +kernel
theorem dX6_renew_30 : decode cX6_renew 30 = .ok (.aload_n 0, 1) := by decide +kernel
theorem dX6_renew_31 : decode cX6_renew 31 = .ok (.getfield 21, 3) := by decide +kernel
theorem dX6_renew_34 : decode cX6_renew 34 = .ok (.iload_n 1, 1) := by decide +kernel
theorem dX6_renew_35 : decode cX6_renew 35 = .ok (.invokevirtual 204, 3) := by decide +kernel
theorem dX6_renew_38 : decode cX6_renew 38 = .ok (.ireturn, 1) := by decide +kernel
theorem dX6_advance_0 : decode cX6_advance 0 = .ok (.iload_n 1, 1) := by decide +kernel
theorem dX6_advance_1 : decode cX6_advance 1 = .ok (.iconst 1, 1) := by decide +kernel
theorem dX6_advance_2 : decode cX6_advance 2 = .ok (.if_icmp .lt 10, 3) := by decide +kernel
theorem dX6_advance_5 : decode cX6_advance 5 = .ok (.iload_n 1, 1) := by decide +kernel
theorem dX6_advance_6 : decode cX6_advance 6 = .ok (.sipush 2000, 3) := by decide +kernel
theorem dX6_advance_9 : decode cX6_advance 9 = .ok (.if_icmp .le 13, 3) := by decide +kernel
theorem dX6_advance_12 : decode cX6_advance 12 = .ok (.new 36, 3) := by decide +kernel
theorem dX6_advance_15 : decode cX6_advance 15 = .ok (.dup, 1) := by decide +kernel
theorem dX6_advance_16 : decode cX6_advance 16 = .ok (.ldc 207, 2) := by decide +kernel
theorem dX6_advance_18 : decode cX6_advance 18 = .ok (.invokespecial 40, 3) := by decide +kernel
theorem dX6_advance_21 : decode cX6_advance 21 = .ok (.athrow, 1) := by decide +kernel
theorem dX6_advance_22 : decode cX6_advance 22 = .ok (.aload_n 0, 1) := by decide +kernel
theorem dX6_advance_23 : decode cX6_advance 23 = .ok (.getfield 21, 3) := by decide +kernel
theorem dX6_advance_26 : decode cX6_advance 26 = .ok (.getfield 130, 3) := by decide +kernel
theorem dX6_advance_29 : decode cX6_advance 29 = .ok (.getfield 209, 3) := by decide +kernel
theorem dX6_advance_32 : decode cX6_advance 32 = .ok (.iload_n 1, 1) := by decide +kernel
theorem dX6_advance_33 : decode cX6_advance 33 = .ok (.iadd, 1) := by decide +kernel
theorem dX6_advance_34 : decode cX6_advance 34 = .ok (.istore_n 2, 1) := by decide +kernel
theorem dX6_advance_35 : decode cX6_advance 35 = .ok (.iload_n 2, 1) := by decide +kernel
theorem dX6_advance_36 : decode cX6_advance 36 = .ok (.ldc 212, 2) := by decide +kernel
theorem dX6_advance_38 : decode cX6_advance 38 = .ok (.if_icmp .le 13, 3) := by decide +kernel
theorem dX6_advance_41 : decode cX6_advance 41 = .ok (.new 55, 3) := by decide +kernel
theorem dX6_advance_44 : decode cX6_advance 44 = .ok (.dup, 1) := by decide +kernel
theorem dX6_advance_45 : decode cX6_advance 45 = .ok (.ldc 213, 2) := by decide +kernel
theorem dX6_advance_47 : decode cX6_advance 47 = .ok (.invokespecial 59, 3) := by decide +kernel
theorem dX6_advance_50 : decode cX6_advance 50 = .ok (.athrow, 1) := by decide +kernel
theorem dX6_advance_51 : decode cX6_advance 51 = .ok (.aload_n 0, 1) := by decide +kernel
theorem dX6_advance_52 : decode cX6_advance 52 = .ok (.getfield 21, 3) := by decide +kernel
theorem dX6_advance_55 : decode cX6_advance 55 = .ok (.iload_n 2, 1) := by decide +kernel
theorem dX6_advance_56 : decode cX6_advance 56 = .ok (.invokevirtual 215, 3) := by decide +kernel
theorem dX6_advance_59 : decode cX6_advance 59 = .ok (.ireturn, 1) := by decide +kernel
theorem dX6_advanceToEvent_0 : decode cX6_advanceToEvent 0 = .ok (.aload_n 0, 1) := by decide +kernel
theorem dX6_advanceToEvent_1 : decode cX6_advanceToEvent 1 = .ok (.getfield 21, 3) := by decide +kernel
theorem dX6_advanceToEvent_4 : decode cX6_advanceToEvent 4 = .ok (.invokevirtual 218, 3) := by decide +kernel
theorem dX6_advanceToEvent_7 : decode cX6_advanceToEvent 7 = .ok (.istore_n 1, 1) := by decide +kernel
theorem dX6_advanceToEvent_8 : decode cX6_advanceToEvent 8 = .ok (.iload_n 1, 1) := by decide +kernel
theorem dX6_advanceToEvent_9 : decode cX6_advanceToEvent 9 = .ok (.ldc 222, 2) := by decide +kernel
theorem dX6_advanceToEvent_11 : decode cX6_advanceToEvent 11 = .ok (.if_icmp .ne 13, 3) := by decide +kernel
theorem dX6_advanceToEvent_14 : decode cX6_advanceToEvent 14 = .ok (.new 169, 3) := by decide +kernel
theorem dX6_advanceToEvent_17 : decode cX6_advanceToEvent 17 = .ok (.dup, 1) := by decide +kernel
theorem dX6_advanceToEvent_18 : decode cX6_advanceToEvent 18 = .ok (.ldc 223, 2) := by decide +kernel
theorem dX6_advanceToEvent_20 : decode cX6_advanceToEvent 20 = .ok (.invokespecial 173, 3) := by decide +kernel
theorem dX6_advanceToEvent_23 : decode cX6_advanceToEvent 23 = .ok (.athrow, 1) := by decide +kernel
theorem dX6_advanceToEvent_24 : decode cX6_advanceToEvent 24 = .ok (.iload_n 1, 1) := by decide +kernel
theorem dX6_advanceToEvent_25 : decode cX6_advanceToEvent 25 = .ok (.invokestatic 225, 3) := by decide +kernel
theorem dX6_advanceToEvent_28 : decode cX6_advanceToEvent 28 = .ok (.istore_n 2, 1) := by decide +kernel
theorem dX6_advanceToEvent_29 : decode cX6_advanceToEvent 29 = .ok (.iload_n 2, 1) := by decide +kernel
theorem dX6_advanceToEvent_30 : decode cX6_advanceToEvent 30 = .ok (.ldc 212, 2) := by decide +kernel
theorem dX6_advanceToEvent_32 : decode cX6_advanceToEvent 32 = .ok (.if_icmp .le 13, 3) := by decide +kernel
theorem dX6_advanceToEvent_35 : decode cX6_advanceToEvent 35 = .ok (.new 55, 3) := by decide +kernel
theorem dX6_advanceToEvent_38 : decode cX6_advanceToEvent 38 = .ok (.dup, 1) := by decide +kernel
theorem dX6_advanceToEvent_39 : decode cX6_advanceToEvent 39 = .ok (.ldc 213, 2) := by decide +kernel
theorem dX6_advanceToEvent_41 : decode cX6_advanceToEvent 41 = .ok (.invokespecial 59, 3) := by decide +kernel
theorem dX6_advanceToEvent_44 : decode cX6_advanceToEvent 44 = .ok (.athrow, 1) := by decide +kernel
theorem dX6_advanceToEvent_45 : decode cX6_advanceToEvent 45 = .ok (.aload_n 0, 1) := by decide +kernel
theorem dX6_advanceToEvent_46 : decode cX6_advanceToEvent 46 = .ok (.getfield 21, 3) := by decide +kernel
theorem dX6_advanceToEvent_49 : decode cX6_advanceToEvent 49 = .ok (.iload_n 2, 1) := by decide +kernel
theorem dX6_advanceToEvent_50 : decode cX6_advanceToEvent 50 = .ok (.invokevirtual 215, 3) := by decide +kernel
theorem dX6_advanceToEvent_53 : decode cX6_advanceToEvent 53 = .ok (.pop, 1) := by decide +kernel
theorem dX6_advanceToEvent_54 : decode cX6_advanceToEvent 54 = .ok (.iload_n 2, 1) := by decide +kernel
theorem dX6_advanceToEvent_55 : decode cX6_advanceToEvent 55 = .ok (.ireturn, 1) := by decide +kernel
theorem dX6_time_0 : decode cX6_time 0 = .ok (.aload_n 0, 1) := by decide +kernel
theorem dX6_time_1 : decode cX6_time 1 = .ok (.getfield 21, 3) := by decide +kernel
theorem dX6_time_4 : decode cX6_time 4 = .ok (.getfield 130, 3) := by decide +kernel
theorem dX6_time_7 : decode cX6_time 7 = .ok (.getfield 209, 3) := by decide +kernel
theorem dX6_time_10 : decode cX6_time 10 = .ok (.ireturn, 1) := by decide +kernel
theorem dX6_clientState_0 : decode cX6_clientState 0 = .ok (.iload_n 1, 1) := by decide +kernel
theorem dX6_clientState_1 : decode cX6_clientState 1 = .ok (.invokestatic 150, 3) := by decide +kernel
theorem dX6_clientState_4 : decode cX6_clientState 4 = .ok (.aload_n 0, 1) := by decide +kernel
theorem dX6_clientState_5 : decode cX6_clientState 5 = .ok (.getfield 21, 3) := by decide +kernel
theorem dX6_clientState_8 : decode cX6_clientState 8 = .ok (.getfield 153, 3) := by decide +kernel
theorem dX6_clientState_11 : decode cX6_clientState 11 = .ok (.getfield 174, 3) := by decide +kernel
theorem dX6_clientState_14 : decode cX6_clientState 14 = .ok (.iload_n 1, 1) := by decide +kernel
theorem dX6_clientState_15 : decode cX6_clientState 15 = .ok (.iaload, 1) := by decide +kernel
theorem dX6_clientState_16 : decode cX6_clientState 16 = .ok (.ireturn, 1) := by decide +kernel
theorem dX6_addressOf_0 : decode cX6_addressOf 0 = .ok (.iload_n 1, 1) := by decide +kernel
theorem dX6_addressOf_1 : decode cX6_addressOf 1 = .ok (.invokestatic 150, 3) := by decide +kernel
theorem dX6_addressOf_4 : decode cX6_addressOf 4 = .ok (.aload_n 0, 1) := by decide +kernel
theorem dX6_addressOf_5 : decode cX6_addressOf 5 = .ok (.getfield 21, 3) := by decide +kernel
theorem dX6_addressOf_8 : decode cX6_addressOf 8 = .ok (.getfield 153, 3) := by decide +kernel
theorem dX6_addressOf_11 : decode cX6_addressOf 11 = .ok (.getfield 174, 3) := by decide +kernel
theorem dX6_addressOf_14 : decode cX6_addressOf 14 = .ok (.iload_n 1, 1) := by decide +kernel
theorem dX6_addressOf_15 : decode cX6_addressOf 15 = .ok (.iaload, 1) := by decide +kernel
theorem dX6_addressOf_16 : decode cX6_addressOf 16 = .ok (.ifCond .ne 13, 3) := by decide +kernel
theorem dX6_addressOf_19 : decode cX6_addressOf 19 = .ok (.new 169, 3) := by decide +kernel
theorem dX6_addressOf_22 : decode cX6_addressOf 22 = .ok (.dup, 1) := by decide +kernel
theorem dX6_addressOf_23 : decode cX6_addressOf 23 = .ok (.ldc 228, 2) := by decide +kernel
theorem dX6_addressOf_25 : decode cX6_addressOf 25 = .ok (.invokespecial 173, 3) := by decide +kernel
theorem dX6_addressOf_28 : decode cX6_addressOf 28 = .ok (.athrow, 1) := by decide +kernel
theorem dX6_addressOf_29 : decode cX6_addressOf 29 = .ok (.aload_n 0, 1) := by decide +kernel
theorem dX6_addressOf_30 : decode cX6_addressOf 30 = .ok (.getfield 21, 3) := by decide +kernel
theorem dX6_addressOf_33 : decode cX6_addressOf 33 = .ok (.getfield 153, 3) := by decide +kernel
theorem dX6_addressOf_36 : decode cX6_addressOf 36 = .ok (.getfield 184, 3) := by decide +kernel
theorem dX6_addressOf_39 : decode cX6_addressOf 39 = .ok (.iload_n 1, 1) := by decide +kernel
theorem dX6_addressOf_40 : decode cX6_addressOf 40 = .ok (.iaload, 1) := by decide +kernel
theorem dX6_addressOf_41 : decode cX6_addressOf 41 = .ok (.ireturn, 1) := by decide +kernel
theorem dX6_remembered_0 : decode cX6_remembered 0 = .ok (.iload_n 1, 1) := by decide +kernel
theorem dX6_remembered_1 : decode cX6_remembered 1 = .ok (.invokestatic 150, 3) := by decide +kernel
theorem dX6_remembered_4 : decode cX6_remembered 4 = .ok (.aload_n 0, 1) := by decide +kernel
theorem dX6_remembered_5 : decode cX6_remembered 5 = .ok (.getfield 21, 3) := by decide +kernel
theorem dX6_remembered_8 : decode cX6_remembered 8 = .ok (.getfield 153, 3) := by decide +kernel
theorem dX6_remembered_11 : decode cX6_remembered 11 = .ok (.getfield 230, 3) := by decide +kernel
theorem dX6_remembered_14 : decode cX6_remembered 14 = .ok (.iload_n 1, 1) := by decide +kernel
theorem dX6_remembered_15 : decode cX6_remembered 15 = .ok (.iaload, 1) := by decide +kernel
theorem dX6_remembered_16 : decode cX6_remembered 16 = .ok (.iconst (-1), 1) := by decide +kernel
theorem dX6_remembered_17 : decode cX6_remembered 17 = .ok (.if_icmp .ne 13, 3) := by decide +kernel
theorem dX6_remembered_20 : decode cX6_remembered 20 = .ok (.new 169, 3) := by decide +kernel
theorem dX6_remembered_23 : decode cX6_remembered 23 = .ok (.dup, 1) := by decide +kernel
theorem dX6_remembered_24 : decode cX6_remembered 24 = .ok (.ldc 233, 2) := by decide +kernel
theorem dX6_remembered_26 : decode cX6_remembered 26 = .ok (.invokespecial 173, 3) := by decide +kernel
theorem dX6_remembered_29 : decode cX6_remembered 29 = .ok (.athrow, 1) := by decide +kernel
theorem dX6_remembered_30 : decode cX6_remembered 30 = .ok (.aload_n 0, 1) := by decide +kernel
theorem dX6_remembered_31 : decode cX6_remembered 31 = .ok (.getfield 21, 3) := by decide +kernel
theorem dX6_remembered_34 : decode cX6_remembered 34 = .ok (.getfield 153, 3) := by decide +kernel
theorem dX6_remembered_37 : decode cX6_remembered 37 = .ok (.getfield 230, 3) := by decide +kernel
theorem dX6_remembered_40 : decode cX6_remembered 40 = .ok (.iload_n 1, 1) := by decide +kernel
theorem dX6_remembered_41 : decode cX6_remembered 41 = .ok (.iaload, 1) := by decide +kernel
theorem dX6_remembered_42 : decode cX6_remembered 42 = .ok (.ireturn, 1) := by decide +kernel
theorem dX6_timer_0 : decode cX6_timer 0 = .ok (.iload_n 1, 1) := by decide +kernel
theorem dX6_timer_1 : decode cX6_timer 1 = .ok (.invokestatic 150, 3) := by decide +kernel
theorem dX6_timer_4 : decode cX6_timer 4 = .ok (.aload_n 0, 1) := by decide +kernel
theorem dX6_timer_5 : decode cX6_timer 5 = .ok (.iload_n 1, 1) := by decide +kernel
theorem dX6_timer_6 : decode cX6_timer 6 = .ok (.invokevirtual 187, 3) := by decide +kernel
theorem dX6_timer_9 : decode cX6_timer 9 = .ok (.iload_n 2, 1) := by decide +kernel
theorem dX6_timer_10 : decode cX6_timer 10 = .ok (.tableswitch 61 0 2 #[26, 39, 52], 26) := by decide +kernel
theorem dX6_timer_36 : decode cX6_timer 36 = .ok (.aload_n 0, 1) := by decide +kernel
theorem dX6_timer_37 : decode cX6_timer 37 = .ok (.getfield 21, 3) := by decide +kernel
theorem dX6_timer_40 : decode cX6_timer 40 = .ok (.getfield 153, 3) := by decide +kernel
theorem dX6_timer_43 : decode cX6_timer 43 = .ok (.getfield 235, 3) := by decide +kernel
theorem dX6_timer_46 : decode cX6_timer 46 = .ok (.iload_n 1, 1) := by decide +kernel
theorem dX6_timer_47 : decode cX6_timer 47 = .ok (.iaload, 1) := by decide +kernel
theorem dX6_timer_48 : decode cX6_timer 48 = .ok (.ireturn, 1) := by decide +kernel
theorem dX6_timer_49 : decode cX6_timer 49 = .ok (.aload_n 0, 1) := by decide +kernel
theorem dX6_timer_50 : decode cX6_timer 50 = .ok (.getfield 21, 3) := by decide +kernel
theorem dX6_timer_53 : decode cX6_timer 53 = .ok (.getfield 153, 3) := by decide +kernel
theorem dX6_timer_56 : decode cX6_timer 56 = .ok (.getfield 238, 3) := by decide +kernel
theorem dX6_timer_59 : decode cX6_timer 59 = .ok (.iload_n 1, 1) := by decide +kernel
theorem dX6_timer_60 : decode cX6_timer 60 = .ok (.iaload, 1) := by decide +kernel
theorem dX6_timer_61 : decode cX6_timer 61 = .ok (.ireturn, 1) := by decide +kernel
theorem dX6_timer_62 : decode cX6_timer 62 = .ok (.aload_n 0, 1) := by decide +kernel
theorem dX6_timer_63 : decode cX6_timer 63 = .ok (.getfield 21, 3) := by decide +kernel
theorem dX6_timer_66 : decode cX6_timer 66 = .ok (.iload_n 1, 1) := by decide +kernel
theorem dX6_timer_67 : decode cX6_timer 67 = .ok (.invokevirtual 241, 3) := by decide +kernel
theorem dX6_timer_70 : decode cX6_timer 70 = .ok (.ireturn, 1) := by decide +kernel
theorem dX6_timer_71 : decode cX6_timer 71 = .ok (.new 36, 3) := by decide +kernel
theorem dX6_timer_74 : decode cX6_timer 74 = .ok (.dup, 1) := by decide +kernel
theorem dX6_timer_75 : decode cX6_timer 75 = .ok (.ldc 110, 2) := by decide +kernel
theorem dX6_timer_77 : decode cX6_timer 77 = .ok (.invokespecial 40, 3) := by decide +kernel
theorem dX6_timer_80 : decode cX6_timer 80 = .ok (.athrow, 1) := by decide +kernel
theorem dX6_addressState_0 : decode cX6_addressState 0 = .ok (.iload_n 1, 1) := by decide +kernel
theorem dX6_addressState_1 : decode cX6_addressState 1 = .ok (.invokestatic 112, 3) := by decide +kernel
theorem dX6_addressState_4 : decode cX6_addressState 4 = .ok (.aload_n 0, 1) := by decide +kernel
theorem dX6_addressState_5 : decode cX6_addressState 5 = .ok (.iload_n 1, 1) := by decide +kernel
theorem dX6_addressState_6 : decode cX6_addressState 6 = .ok (.invokevirtual 115, 3) := by decide +kernel
theorem dX6_addressState_9 : decode cX6_addressState 9 = .ok (.aload_n 0, 1) := by decide +kernel
theorem dX6_addressState_10 : decode cX6_addressState 10 = .ok (.getfield 21, 3) := by decide +kernel
theorem dX6_addressState_13 : decode cX6_addressState 13 = .ok (.getfield 66, 3) := by decide +kernel
theorem dX6_addressState_16 : decode cX6_addressState 16 = .ok (.getfield 244, 3) := by decide +kernel
theorem dX6_addressState_19 : decode cX6_addressState 19 = .ok (.iload_n 1, 1) := by decide +kernel
theorem dX6_addressState_20 : decode cX6_addressState 20 = .ok (.iaload, 1) := by decide +kernel
theorem dX6_addressState_21 : decode cX6_addressState 21 = .ok (.ireturn, 1) := by decide +kernel
theorem dX6_holder_0 : decode cX6_holder 0 = .ok (.iload_n 1, 1) := by decide +kernel
theorem dX6_holder_1 : decode cX6_holder 1 = .ok (.invokestatic 112, 3) := by decide +kernel
theorem dX6_holder_4 : decode cX6_holder 4 = .ok (.aload_n 0, 1) := by decide +kernel
theorem dX6_holder_5 : decode cX6_holder 5 = .ok (.iload_n 1, 1) := by decide +kernel
theorem dX6_holder_6 : decode cX6_holder 6 = .ok (.invokevirtual 115, 3) := by decide +kernel
theorem dX6_holder_9 : decode cX6_holder 9 = .ok (.aload_n 0, 1) := by decide +kernel
theorem dX6_holder_10 : decode cX6_holder 10 = .ok (.getfield 21, 3) := by decide +kernel
theorem dX6_holder_13 : decode cX6_holder 13 = .ok (.getfield 66, 3) := by decide +kernel
theorem dX6_holder_16 : decode cX6_holder 16 = .ok (.getfield 245, 3) := by decide +kernel
theorem dX6_holder_19 : decode cX6_holder 19 = .ok (.iload_n 1, 1) := by decide +kernel
theorem dX6_holder_20 : decode cX6_holder 20 = .ok (.iaload, 1) := by decide +kernel
theorem dX6_holder_21 : decode cX6_holder 21 = .ok (.iconst (-1), 1) := by decide +kernel
theorem dX6_holder_22 : decode cX6_holder 22 = .ok (.if_icmp .ne 13, 3) := by decide +kernel
theorem dX6_holder_25 : decode cX6_holder 25 = .ok (.new 169, 3) := by decide +kernel
theorem dX6_holder_28 : decode cX6_holder 28 = .ok (.dup, 1) := by decide +kernel
theorem dX6_holder_29 : decode cX6_holder 29 = .ok (.ldc 248, 2) := by decide +kernel
theorem dX6_holder_31 : decode cX6_holder 31 = .ok (.invokespecial 173, 3) := by decide +kernel
theorem dX6_holder_34 : decode cX6_holder 34 = .ok (.athrow, 1) := by decide +kernel
theorem dX6_holder_35 : decode cX6_holder 35 = .ok (.aload_n 0, 1) := by decide +kernel
theorem dX6_holder_36 : decode cX6_holder 36 = .ok (.getfield 21, 3) := by decide +kernel
theorem dX6_holder_39 : decode cX6_holder 39 = .ok (.getfield 66, 3) := by decide +kernel
theorem dX6_holder_42 : decode cX6_holder 42 = .ok (.getfield 245, 3) := by decide +kernel
theorem dX6_holder_45 : decode cX6_holder 45 = .ok (.iload_n 1, 1) := by decide +kernel
theorem dX6_holder_46 : decode cX6_holder 46 = .ok (.iaload, 1) := by decide +kernel
theorem dX6_holder_47 : decode cX6_holder 47 = .ok (.ireturn, 1) := by decide +kernel
theorem dX6_until_0 : decode cX6_until 0 = .ok (.iload_n 1, 1) := by decide +kernel
theorem dX6_until_1 : decode cX6_until 1 = .ok (.invokestatic 112, 3) := by decide +kernel
theorem dX6_until_4 : decode cX6_until 4 = .ok (.aload_n 0, 1) := by decide +kernel
theorem dX6_until_5 : decode cX6_until 5 = .ok (.iload_n 1, 1) := by decide +kernel
theorem dX6_until_6 : decode cX6_until 6 = .ok (.invokevirtual 115, 3) := by decide +kernel
theorem dX6_until_9 : decode cX6_until 9 = .ok (.aload_n 0, 1) := by decide +kernel
theorem dX6_until_10 : decode cX6_until 10 = .ok (.getfield 21, 3) := by decide +kernel
theorem dX6_until_13 : decode cX6_until 13 = .ok (.getfield 66, 3) := by decide +kernel
theorem dX6_until_16 : decode cX6_until 16 = .ok (.getfield 244, 3) := by decide +kernel
theorem dX6_until_19 : decode cX6_until 19 = .ok (.iload_n 1, 1) := by decide +kernel
theorem dX6_until_20 : decode cX6_until 20 = .ok (.iaload, 1) := by decide +kernel
theorem dX6_until_21 : decode cX6_until 21 = .ok (.ifCond .ne 13, 3) := by decide +kernel
theorem dX6_until_24 : decode cX6_until 24 = .ok (.new 169, 3) := by decide +kernel
theorem dX6_until_27 : decode cX6_until 27 = .ok (.dup, 1) := by decide +kernel
theorem dX6_until_28 : decode cX6_until 28 = .ok (.ldc 250, 2) := by decide +kernel
theorem dX6_until_30 : decode cX6_until 30 = .ok (.invokespecial 173, 3) := by decide +kernel
theorem dX6_until_33 : decode cX6_until 33 = .ok (.athrow, 1) := by decide +kernel
theorem dX6_until_34 : decode cX6_until 34 = .ok (.aload_n 0, 1) := by decide +kernel
theorem dX6_until_35 : decode cX6_until 35 = .ok (.getfield 21, 3) := by decide +kernel
theorem dX6_until_38 : decode cX6_until 38 = .ok (.getfield 66, 3) := by decide +kernel
theorem dX6_until_41 : decode cX6_until 41 = .ok (.getfield 252, 3) := by decide +kernel
theorem dX6_until_44 : decode cX6_until 44 = .ok (.iload_n 1, 1) := by decide +kernel
theorem dX6_until_45 : decode cX6_until 45 = .ok (.iaload, 1) := by decide +kernel
theorem dX6_until_46 : decode cX6_until 46 = .ok (.ireturn, 1) := by decide +kernel
theorem dX6_freeSince_0 : decode cX6_freeSince 0 = .ok (.iload_n 1, 1) := by decide +kernel
theorem dX6_freeSince_1 : decode cX6_freeSince 1 = .ok (.invokestatic 112, 3) := by decide +kernel
theorem dX6_freeSince_4 : decode cX6_freeSince 4 = .ok (.aload_n 0, 1) := by decide +kernel
theorem dX6_freeSince_5 : decode cX6_freeSince 5 = .ok (.iload_n 1, 1) := by decide +kernel
theorem dX6_freeSince_6 : decode cX6_freeSince 6 = .ok (.invokevirtual 115, 3) := by decide +kernel
theorem dX6_freeSince_9 : decode cX6_freeSince 9 = .ok (.aload_n 0, 1) := by decide +kernel
theorem dX6_freeSince_10 : decode cX6_freeSince 10 = .ok (.getfield 21, 3) := by decide +kernel
theorem dX6_freeSince_13 : decode cX6_freeSince 13 = .ok (.getfield 66, 3) := by decide +kernel
theorem dX6_freeSince_16 : decode cX6_freeSince 16 = .ok (.getfield 244, 3) := by decide +kernel
theorem dX6_freeSince_19 : decode cX6_freeSince 19 = .ok (.iload_n 1, 1) := by decide +kernel
theorem dX6_freeSince_20 : decode cX6_freeSince 20 = .ok (.iaload, 1) := by decide +kernel
theorem dX6_freeSince_21 : decode cX6_freeSince 21 = .ok (.ifCond .eq 13, 3) := by decide +kernel
theorem dX6_freeSince_24 : decode cX6_freeSince 24 = .ok (.new 169, 3) := by decide +kernel
theorem dX6_freeSince_27 : decode cX6_freeSince 27 = .ok (.dup, 1) := by decide +kernel
theorem dX6_freeSince_28 : decode cX6_freeSince 28 = .ok (.ldc 255, 2) := by decide +kernel
theorem dX6_freeSince_30 : decode cX6_freeSince 30 = .ok (.invokespecial 173, 3) := by decide +kernel
theorem dX6_freeSince_33 : decode cX6_freeSince 33 = .ok (.athrow, 1) := by decide +kernel
theorem dX6_freeSince_34 : decode cX6_freeSince 34 = .ok (.aload_n 0, 1) := by decide +kernel
theorem dX6_freeSince_35 : decode cX6_freeSince 35 = .ok (.getfield 21, 3) := by decide +kernel
theorem dX6_freeSince_38 : decode cX6_freeSince 38 = .ok (.getfield 66, 3) := by decide +kernel
theorem dX6_freeSince_41 : decode cX6_freeSince 41 = .ok (.getfield 257, 3) := by decide +kernel
theorem dX6_freeSince_44 : decode cX6_freeSince 44 = .ok (.iload_n 1, 1) := by decide +kernel
theorem dX6_freeSince_45 : decode cX6_freeSince 45 = .ok (.iaload, 1) := by decide +kernel
theorem dX6_freeSince_46 : decode cX6_freeSince 46 = .ok (.ireturn, 1) := by decide +kernel
theorem dX6_nextCandidate_0 : decode cX6_nextCandidate 0 = .ok (.iload_n 1, 1) := by decide +kernel
theorem dX6_nextCandidate_1 : decode cX6_nextCandidate 1 = .ok (.invokestatic 150, 3) := by decide +kernel
theorem dX6_nextCandidate_4 : decode cX6_nextCandidate 4 = .ok (.iload_n 2, 1) := by decide +kernel
theorem dX6_nextCandidate_5 : decode cX6_nextCandidate 5 = .ok (.invokestatic 28, 3) := by decide +kernel
theorem dX6_nextCandidate_8 : decode cX6_nextCandidate 8 = .ok (.aload_n 0, 1) := by decide +kernel
theorem dX6_nextCandidate_9 : decode cX6_nextCandidate 9 = .ok (.getfield 21, 3) := by decide +kernel
theorem dX6_nextCandidate_12 : decode cX6_nextCandidate 12 = .ok (.iload_n 1, 1) := by decide +kernel
theorem dX6_nextCandidate_13 : decode cX6_nextCandidate 13 = .ok (.iload_n 2, 1) := by decide +kernel
theorem dX6_nextCandidate_14 : decode cX6_nextCandidate 14 = .ok (.iconst (-1), 1) := by decide +kernel
theorem dX6_nextCandidate_15 : decode cX6_nextCandidate 15 = .ok (.invokevirtual 260, 3) := by decide +kernel
theorem dX6_nextCandidate_18 : decode cX6_nextCandidate 18 = .ok (.istore_n 3, 1) := by decide +kernel
theorem dX6_nextCandidate_19 : decode cX6_nextCandidate 19 = .ok (.iload_n 3, 1) := by decide +kernel
theorem dX6_nextCandidate_20 : decode cX6_nextCandidate 20 = .ok (.iconst (-1), 1) := by decide +kernel
theorem dX6_nextCandidate_21 : decode cX6_nextCandidate 21 = .ok (.if_icmp .ne 14, 3) := by decide +kernel
theorem dX6_nextCandidate_24 : decode cX6_nextCandidate 24 = .ok (.new 169, 3) := by decide +kernel
theorem dX6_nextCandidate_27 : decode cX6_nextCandidate 27 = .ok (.dup, 1) := by decide +kernel
theorem dX6_nextCandidate_28 : decode cX6_nextCandidate 28 = .ok (.ldc_w 263, 3) := by decide +kernel
theorem dX6_nextCandidate_31 : decode cX6_nextCandidate 31 = .ok (.invokespecial 173, 3) := by decide +kernel
theorem dX6_nextCandidate_34 : decode cX6_nextCandidate 34 = .ok (.athrow, 1) := by decide +kernel
theorem dX6_nextCandidate_35 : decode cX6_nextCandidate 35 = .ok (.iload_n 3, 1) := by decide +kernel
theorem dX6_nextCandidate_36 : decode cX6_nextCandidate 36 = .ok (.ireturn, 1) := by decide +kernel
theorem dX6_countState_0 : decode cX6_countState 0 = .ok (.iload_n 1, 1) := by decide +kernel
theorem dX6_countState_1 : decode cX6_countState 1 = .ok (.invokestatic 28, 3) := by decide +kernel
theorem dX6_countState_4 : decode cX6_countState 4 = .ok (.iload_n 2, 1) := by decide +kernel
theorem dX6_countState_5 : decode cX6_countState 5 = .ok (.ifCond .lt 8, 3) := by decide +kernel
theorem dX6_countState_8 : decode cX6_countState 8 = .ok (.iload_n 2, 1) := by decide +kernel
theorem dX6_countState_9 : decode cX6_countState 9 = .ok (.iconst 3, 1) := by decide +kernel
theorem dX6_countState_10 : decode cX6_countState 10 = .ok (.if_icmp .le 14, 3) := by decide +kernel
theorem dX6_countState_13 : decode cX6_countState 13 = .ok (.new 36, 3) := by decide +kernel
theorem dX6_countState_16 : decode cX6_countState 16 = .ok (.dup, 1) := by decide +kernel
theorem dX6_countState_17 : decode cX6_countState 17 = .ok (.ldc_w 265, 3) := by decide +kernel
theorem dX6_countState_20 : decode cX6_countState 20 = .ok (.invokespecial 40, 3) := by decide +kernel
theorem dX6_countState_23 : decode cX6_countState 23 = .ok (.athrow, 1) := by decide +kernel
theorem dX6_countState_24 : decode cX6_countState 24 = .ok (.aload_n 0, 1) := by decide +kernel
theorem dX6_countState_25 : decode cX6_countState 25 = .ok (.getfield 21, 3) := by decide +kernel
theorem dX6_countState_28 : decode cX6_countState 28 = .ok (.iload_n 1, 1) := by decide +kernel
theorem dX6_countState_29 : decode cX6_countState 29 = .ok (.iload_n 2, 1) := by decide +kernel
theorem dX6_countState_30 : decode cX6_countState 30 = .ok (.invokevirtual 267, 3) := by decide +kernel
theorem dX6_countState_33 : decode cX6_countState 33 = .ok (.ireturn, 1) := by decide +kernel
theorem dX6_bound_0 : decode cX6_bound 0 = .ok (.aload_n 0, 1) := by decide +kernel
theorem dX6_bound_1 : decode cX6_bound 1 = .ok (.getfield 21, 3) := by decide +kernel
theorem dX6_bound_4 : decode cX6_bound 4 = .ok (.getfield 153, 3) := by decide +kernel
theorem dX6_bound_7 : decode cX6_bound 7 = .ok (.invokevirtual 270, 3) := by decide +kernel
theorem dX6_bound_10 : decode cX6_bound 10 = .ok (.ireturn, 1) := by decide +kernel
theorem dX6_conflicts_0 : decode cX6_conflicts 0 = .ok (.aload_n 0, 1) := by decide +kernel
theorem dX6_conflicts_1 : decode cX6_conflicts 1 = .ok (.getfield 21, 3) := by decide +kernel
theorem dX6_conflicts_4 : decode cX6_conflicts 4 = .ok (.getfield 130, 3) := by decide +kernel
theorem dX6_conflicts_7 : decode cX6_conflicts 7 = .ok (.getfield 273, 3) := by decide +kernel
theorem dX6_conflicts_10 : decode cX6_conflicts 10 = .ok (.ireturn, 1) := by decide +kernel
theorem dX6_logSize_0 : decode cX6_logSize 0 = .ok (.aload_n 0, 1) := by decide +kernel
theorem dX6_logSize_1 : decode cX6_logSize 1 = .ok (.getfield 10, 3) := by decide +kernel
theorem dX6_logSize_4 : decode cX6_logSize 4 = .ok (.getfield 276, 3) := by decide +kernel
theorem dX6_logSize_7 : decode cX6_logSize 7 = .ok (.ireturn, 1) := by decide +kernel
theorem dX6_log_0 : decode cX6_log 0 = .ok (.iload_n 1, 1) := by decide +kernel
theorem dX6_log_1 : decode cX6_log 1 = .ok (.ifCond .lt 14, 3) := by decide +kernel
theorem dX6_log_4 : decode cX6_log 4 = .ok (.iload_n 1, 1) := by decide +kernel
theorem dX6_log_5 : decode cX6_log 5 = .ok (.aload_n 0, 1) := by decide +kernel
theorem dX6_log_6 : decode cX6_log 6 = .ok (.getfield 10, 3) := by decide +kernel
theorem dX6_log_9 : decode cX6_log 9 = .ok (.getfield 276, 3) := by decide +kernel
theorem dX6_log_12 : decode cX6_log 12 = .ok (.if_icmp .lt 14, 3) := by decide +kernel
theorem dX6_log_15 : decode cX6_log 15 = .ok (.new 279, 3) := by decide +kernel
theorem dX6_log_18 : decode cX6_log 18 = .ok (.dup, 1) := by decide +kernel
theorem dX6_log_19 : decode cX6_log 19 = .ok (.ldc_w 281, 3) := by decide +kernel
theorem dX6_log_22 : decode cX6_log 22 = .ok (.invokespecial 283, 3) := by decide +kernel
theorem dX6_log_25 : decode cX6_log 25 = .ok (.athrow, 1) := by decide +kernel
theorem dX6_log_26 : decode cX6_log 26 = .ok (.aload_n 0, 1) := by decide +kernel
theorem dX6_log_27 : decode cX6_log 27 = .ok (.getfield 10, 3) := by decide +kernel
theorem dX6_log_30 : decode cX6_log 30 = .ok (.iload_n 1, 1) := by decide +kernel
theorem dX6_log_31 : decode cX6_log 31 = .ok (.invokevirtual 284, 3) := by decide +kernel
theorem dX6_log_34 : decode cX6_log 34 = .ok (.ireturn, 1) := by decide +kernel
theorem dX6_utilization_0 : decode cX6_utilization 0 = .ok (.iload_n 1, 1) := by decide +kernel
theorem dX6_utilization_1 : decode cX6_utilization 1 = .ok (.invokestatic 28, 3) := by decide +kernel
theorem dX6_utilization_4 : decode cX6_utilization 4 = .ok (.aload_n 0, 1) := by decide +kernel
theorem dX6_utilization_5 : decode cX6_utilization 5 = .ok (.getfield 21, 3) := by decide +kernel
theorem dX6_utilization_8 : decode cX6_utilization 8 = .ok (.getfield 45, 3) := by decide +kernel
theorem dX6_utilization_11 : decode cX6_utilization 11 = .ok (.iload_n 1, 1) := by decide +kernel
theorem dX6_utilization_12 : decode cX6_utilization 12 = .ok (.invokevirtual 287, 3) := by decide +kernel
theorem dX6_utilization_15 : decode cX6_utilization 15 = .ok (.istore_n 2, 1) := by decide +kernel
theorem dX6_utilization_16 : decode cX6_utilization 16 = .ok (.iload_n 2, 1) := by decide +kernel
theorem dX6_utilization_17 : decode cX6_utilization 17 = .ok (.ifCond .ne 14, 3) := by decide +kernel
theorem dX6_utilization_20 : decode cX6_utilization 20 = .ok (.new 290, 3) := by decide +kernel
theorem dX6_utilization_23 : decode cX6_utilization 23 = .ok (.dup, 1) := by decide +kernel
theorem dX6_utilization_24 : decode cX6_utilization 24 = .ok (.ldc_w 292, 3) := by decide +kernel
theorem dX6_utilization_27 : decode cX6_utilization 27 = .ok (.invokespecial 294, 3) := by decide +kernel
theorem dX6_utilization_30 : decode cX6_utilization 30 = .ok (.athrow, 1) := by decide +kernel
theorem dX6_utilization_31 : decode cX6_utilization 31 = .ok (.aload_n 0, 1) := by decide +kernel
theorem dX6_utilization_32 : decode cX6_utilization 32 = .ok (.getfield 21, 3) := by decide +kernel
theorem dX6_utilization_35 : decode cX6_utilization 35 = .ok (.iload_n 1, 1) := by decide +kernel
theorem dX6_utilization_36 : decode cX6_utilization 36 = .ok (.iconst 2, 1) := by decide +kernel
theorem dX6_utilization_37 : decode cX6_utilization 37 = .ok (.invokevirtual 267, 3) := by decide +kernel
theorem dX6_utilization_40 : decode cX6_utilization 40 = .ok (.i2d, 1) := by decide +kernel
theorem dX6_utilization_41 : decode cX6_utilization 41 = .ok (.iload_n 2, 1) := by decide +kernel
theorem dX6_utilization_42 : decode cX6_utilization 42 = .ok (.i2d, 1) := by decide +kernel
theorem dX6_utilization_43 : decode cX6_utilization 43 = .ok (.ddiv, 1) := by decide +kernel
theorem dX6_utilization_44 : decode cX6_utilization 44 = .ok (.dreturn, 1) := by decide +kernel
theorem dX6_averageRest_0 : decode cX6_averageRest 0 = .ok (.aload_n 0, 1) := by decide +kernel
theorem dX6_averageRest_1 : decode cX6_averageRest 1 = .ok (.getfield 21, 3) := by decide +kernel
theorem dX6_averageRest_4 : decode cX6_averageRest 4 = .ok (.getfield 153, 3) := by decide +kernel
theorem dX6_averageRest_7 : decode cX6_averageRest 7 = .ok (.invokevirtual 270, 3) := by decide +kernel
theorem dX6_averageRest_10 : decode cX6_averageRest 10 = .ok (.istore_n 1, 1) := by decide +kernel
theorem dX6_averageRest_11 : decode cX6_averageRest 11 = .ok (.iload_n 1, 1) := by decide +kernel
theorem dX6_averageRest_12 : decode cX6_averageRest 12 = .ok (.ifCond .ne 14, 3) := by decide +kernel
theorem dX6_averageRest_15 : decode cX6_averageRest 15 = .ok (.new 290, 3) := by decide +kernel
theorem dX6_averageRest_18 : decode cX6_averageRest 18 = .ok (.dup, 1) := by decide +kernel
theorem dX6_averageRest_19 : decode cX6_averageRest 19 = .ok (.ldc_w 295, 3) := by decide +kernel
theorem dX6_averageRest_22 : decode cX6_averageRest 22 = .ok (.invokespecial 294, 3) := by decide +kernel
theorem dX6_averageRest_25 : decode cX6_averageRest 25 = .ok (.athrow, 1) := by decide +kernel
theorem dX6_averageRest_26 : decode cX6_averageRest 26 = .ok (.aload_n 0, 1) := by decide +kernel
theorem dX6_averageRest_27 : decode cX6_averageRest 27 = .ok (.getfield 21, 3) := by decide +kernel
theorem dX6_averageRest_30 : decode cX6_averageRest 30 = .ok (.invokevirtual 297, 3) := by decide +kernel
theorem dX6_averageRest_33 : decode cX6_averageRest 33 = .ok (.i2f, 1) := by decide +kernel
theorem dX6_averageRest_34 : decode cX6_averageRest 34 = .ok (.iload_n 1, 1) := by decide +kernel
theorem dX6_averageRest_35 : decode cX6_averageRest 35 = .ok (.i2f, 1) := by decide +kernel
theorem dX6_averageRest_36 : decode cX6_averageRest 36 = .ok (.fdiv, 1) := by decide +kernel
theorem dX6_averageRest_37 : decode cX6_averageRest 37 = .ok (.freturn, 1) := by decide +kernel
theorem dX6_save_0 : decode cX6_save 0 = .ok (.aload_n 0, 1) := by decide +kernel
theorem dX6_save_1 : decode cX6_save 1 = .ok (.getfield 25, 3) := by decide +kernel
theorem dX6_save_4 : decode cX6_save 4 = .ok (.aload_n 0, 1) := by decide +kernel
theorem dX6_save_5 : decode cX6_save 5 = .ok (.getfield 21, 3) := by decide +kernel
theorem dX6_save_8 : decode cX6_save 8 = .ok (.invokevirtual 300, 3) := by decide +kernel
theorem dX6_save_11 : decode cX6_save 11 = .ok (.aload_n 0, 1) := by decide +kernel
theorem dX6_save_12 : decode cX6_save 12 = .ok (.iconst 1, 1) := by decide +kernel
theorem dX6_save_13 : decode cX6_save 13 = .ok (.putfield 304, 3) := by decide +kernel
theorem dX6_save_16 : decode cX6_save 16 = .ok (.aload_n 0, 1) := by decide +kernel
theorem dX6_save_17 : decode cX6_save 17 = .ok (.getfield 21, 3) := by decide +kernel
theorem dX6_save_20 : decode cX6_save 20 = .ok (.getfield 153, 3) := by decide +kernel
theorem dX6_save_23 : decode cX6_save 23 = .ok (.invokevirtual 270, 3) := by decide +kernel
theorem dX6_save_26 : decode cX6_save 26 = .ok (.ireturn, 1) := by decide +kernel
theorem dX6_restore_0 : decode cX6_restore 0 = .ok (.aload_n 0, 1) := by decide +kernel
theorem dX6_restore_1 : decode cX6_restore 1 = .ok (.getfield 304, 3) := by decide +kernel
theorem dX6_restore_4 : decode cX6_restore 4 = .ok (.ifCond .ne 14, 3) := by decide +kernel
theorem dX6_restore_7 : decode cX6_restore 7 = .ok (.new 55, 3) := by decide +kernel
theorem dX6_restore_10 : decode cX6_restore 10 = .ok (.dup, 1) := by decide +kernel
theorem dX6_restore_11 : decode cX6_restore 11 = .ok (.ldc_w 308, 3) := by decide +kernel
theorem dX6_restore_14 : decode cX6_restore 14 = .ok (.invokespecial 59, 3) := by decide +kernel
theorem dX6_restore_17 : decode cX6_restore 17 = .ok (.athrow, 1) := by decide +kernel
theorem dX6_restore_18 : decode cX6_restore 18 = .ok (.aload_n 0, 1) := by decide +kernel
theorem dX6_restore_19 : decode cX6_restore 19 = .ok (.getfield 21, 3) := by decide +kernel
theorem dX6_restore_22 : decode cX6_restore 22 = .ok (.aload_n 0, 1) := by decide +kernel
theorem dX6_restore_23 : decode cX6_restore 23 = .ok (.getfield 25, 3) := by decide +kernel
theorem dX6_restore_26 : decode cX6_restore 26 = .ok (.invokevirtual 300, 3) := by decide +kernel
theorem dX6_restore_29 : decode cX6_restore 29 = .ok (.aload_n 0, 1) := by decide +kernel
theorem dX6_restore_30 : decode cX6_restore 30 = .ok (.getfield 21, 3) := by decide +kernel
theorem dX6_restore_33 : decode cX6_restore 33 = .ok (.getfield 153, 3) := by decide +kernel
theorem dX6_restore_36 : decode cX6_restore 36 = .ok (.invokevirtual 270, 3) := by decide +kernel
theorem dX6_restore_39 : decode cX6_restore 39 = .ok (.ireturn, 1) := by decide +kernel
theorem dX6_isAddress_0 : decode cX6_isAddress 0 = .ok (.iload_n 0, 1) := by decide +kernel
theorem dX6_isAddress_1 : decode cX6_isAddress 1 = .ok (.ifCond .lt 13, 3) := by decide +kernel
theorem dX6_isAddress_4 : decode cX6_isAddress 4 = .ok (.iload_n 0, 1) := by decide +kernel
theorem dX6_isAddress_5 : decode cX6_isAddress 5 = .ok (.bipush 100, 2) := by decide +kernel
theorem dX6_isAddress_7 : decode cX6_isAddress 7 = .ok (.if_icmp .ge 7, 3) := by decide +kernel
theorem dX6_isAddress_10 : decode cX6_isAddress 10 = .ok (.iconst 1, 1) := by decide +kernel
theorem dX6_isAddress_11 : decode cX6_isAddress 11 = .ok (.goto 4, 3) := by decide +kernel
theorem dX6_isAddress_14 : decode cX6_isAddress 14 = .ok (.iconst 0, 1) := by decide +kernel
theorem dX6_isAddress_15 : decode cX6_isAddress 15 = .ok (.ireturn, 1) := by decide +kernel
theorem dX6_isClient_0 : decode cX6_isClient 0 = .ok (.iload_n 0, 1) := by decide +kernel
theorem dX6_isClient_1 : decode cX6_isClient 1 = .ok (.ifCond .lt 13, 3) := by decide +kernel
theorem dX6_isClient_4 : decode cX6_isClient 4 = .ok (.iload_n 0, 1) := by decide +kernel
theorem dX6_isClient_5 : decode cX6_isClient 5 = .ok (.bipush 20, 2) := by decide +kernel
theorem dX6_isClient_7 : decode cX6_isClient 7 = .ok (.if_icmp .ge 7, 3) := by decide +kernel
theorem dX6_isClient_10 : decode cX6_isClient 10 = .ok (.iconst 1, 1) := by decide +kernel
theorem dX6_isClient_11 : decode cX6_isClient 11 = .ok (.goto 4, 3) := by decide +kernel
theorem dX6_isClient_14 : decode cX6_isClient 14 = .ok (.iconst 0, 1) := by decide +kernel
theorem dX6_isClient_15 : decode cX6_isClient 15 = .ok (.ireturn, 1) := by decide +kernel
theorem dX6_isGroup_0 : decode cX6_isGroup 0 = .ok (.iload_n 0, 1) := by decide +kernel
theorem dX6_isGroup_1 : decode cX6_isGroup 1 = .ok (.ifCond .lt 12, 3) := by decide +kernel
theorem dX6_isGroup_4 : decode cX6_isGroup 4 = .ok (.iload_n 0, 1) := by decide +kernel
theorem dX6_isGroup_5 : decode cX6_isGroup 5 = .ok (.iconst 3, 1) := by decide +kernel
theorem dX6_isGroup_6 : decode cX6_isGroup 6 = .ok (.if_icmp .ge 7, 3) := by decide +kernel
theorem dX6_isGroup_9 : decode cX6_isGroup 9 = .ok (.iconst 1, 1) := by decide +kernel
theorem dX6_isGroup_10 : decode cX6_isGroup 10 = .ok (.goto 4, 3) := by decide +kernel
theorem dX6_isGroup_13 : decode cX6_isGroup 13 = .ok (.iconst 0, 1) := by decide +kernel
theorem dX6_isGroup_14 : decode cX6_isGroup 14 = .ok (.ireturn, 1) := by decide +kernel
theorem dX6_requireAddress_0 : decode cX6_requireAddress 0 = .ok (.iload_n 0, 1) := by decide +kernel
theorem dX6_requireAddress_1 : decode cX6_requireAddress 1 = .ok (.invokestatic 32, 3) := by decide +kernel
theorem dX6_requireAddress_4 : decode cX6_requireAddress 4 = .ok (.ifCond .ne 14, 3) := by decide +kernel
theorem dX6_requireAddress_7 : decode cX6_requireAddress 7 = .ok (.new 279, 3) := by decide +kernel
theorem dX6_requireAddress_10 : decode cX6_requireAddress 10 = .ok (.dup, 1) := by decide +kernel
theorem dX6_requireAddress_11 : decode cX6_requireAddress 11 = .ok (.ldc_w 310, 3) := by decide +kernel
theorem dX6_requireAddress_14 : decode cX6_requireAddress 14 = .ok (.invokespecial 283, 3) := by decide +kernel
theorem dX6_requireAddress_17 : decode cX6_requireAddress 17 = .ok (.athrow, 1) := by decide +kernel
theorem dX6_requireAddress_18 : decode cX6_requireAddress 18 = .ok (.return_, 1) := by decide +kernel
theorem dX6_requireClient_0 : decode cX6_requireClient 0 = .ok (.iload_n 0, 1) := by decide +kernel
theorem dX6_requireClient_1 : decode cX6_requireClient 1 = .ok (.invokestatic 312, 3) := by decide +kernel
theorem dX6_requireClient_4 : decode cX6_requireClient 4 = .ok (.ifCond .ne 14, 3) := by decide +kernel
theorem dX6_requireClient_7 : decode cX6_requireClient 7 = .ok (.new 279, 3) := by decide +kernel
theorem dX6_requireClient_10 : decode cX6_requireClient 10 = .ok (.dup, 1) := by decide +kernel
theorem dX6_requireClient_11 : decode cX6_requireClient 11 = .ok (.ldc_w 315, 3) := by decide +kernel
theorem dX6_requireClient_14 : decode cX6_requireClient 14 = .ok (.invokespecial 283, 3) := by decide +kernel
theorem dX6_requireClient_17 : decode cX6_requireClient 17 = .ok (.athrow, 1) := by decide +kernel
theorem dX6_requireClient_18 : decode cX6_requireClient 18 = .ok (.return_, 1) := by decide +kernel
theorem dX6_requireGroup_0 : decode cX6_requireGroup 0 = .ok (.iload_n 0, 1) := by decide +kernel
theorem dX6_requireGroup_1 : decode cX6_requireGroup 1 = .ok (.invokestatic 317, 3) := by decide +kernel
theorem dX6_requireGroup_4 : decode cX6_requireGroup 4 = .ok (.ifCond .ne 14, 3) := by decide +kernel
theorem dX6_requireGroup_7 : decode cX6_requireGroup 7 = .ok (.new 279, 3) := by decide +kernel
theorem dX6_requireGroup_10 : decode cX6_requireGroup 10 = .ok (.dup, 1) := by decide +kernel
theorem dX6_requireGroup_11 : decode cX6_requireGroup 11 = .ok (.ldc_w 320, 3) := by decide +kernel
theorem dX6_requireGroup_14 : decode cX6_requireGroup 14 = .ok (.invokespecial 283, 3) := by decide +kernel
theorem dX6_requireGroup_17 : decode cX6_requireGroup 17 = .ok (.athrow, 1) := by decide +kernel
theorem dX6_requireGroup_18 : decode cX6_requireGroup 18 = .ok (.return_, 1) := by decide +kernel
theorem dX6_requirePool_0 : decode cX6_requirePool 0 = .ok (.aload_n 0, 1) := by decide +kernel
theorem dX6_requirePool_1 : decode cX6_requirePool 1 = .ok (.getfield 21, 3) := by decide +kernel
theorem dX6_requirePool_4 : decode cX6_requirePool 4 = .ok (.getfield 45, 3) := by decide +kernel
theorem dX6_requirePool_7 : decode cX6_requirePool 7 = .ok (.iload_n 1, 1) := by decide +kernel
theorem dX6_requirePool_8 : decode cX6_requirePool 8 = .ok (.invokevirtual 322, 3) := by decide +kernel
theorem dX6_requirePool_11 : decode cX6_requirePool 11 = .ok (.ifCond .ne 14, 3) := by decide +kernel
theorem dX6_requirePool_14 : decode cX6_requirePool 14 = .ok (.new 279, 3) := by decide +kernel
theorem dX6_requirePool_17 : decode cX6_requirePool 17 = .ok (.dup, 1) := by decide +kernel
theorem dX6_requirePool_18 : decode cX6_requirePool 18 = .ok (.ldc_w 325, 3) := by decide +kernel
theorem dX6_requirePool_21 : decode cX6_requirePool 21 = .ok (.invokespecial 283, 3) := by decide +kernel
theorem dX6_requirePool_24 : decode cX6_requirePool 24 = .ok (.athrow, 1) := by decide +kernel
theorem dX6_requirePool_25 : decode cX6_requirePool 25 = .ok (.return_, 1) := by decide +kernel
theorem dX6_requireInPool_0 : decode cX6_requireInPool 0 = .ok (.aload_n 0, 1) := by decide +kernel
theorem dX6_requireInPool_1 : decode cX6_requireInPool 1 = .ok (.getfield 21, 3) := by decide +kernel
theorem dX6_requireInPool_4 : decode cX6_requireInPool 4 = .ok (.getfield 45, 3) := by decide +kernel
theorem dX6_requireInPool_7 : decode cX6_requireInPool 7 = .ok (.iload_n 1, 1) := by decide +kernel
theorem dX6_requireInPool_8 : decode cX6_requireInPool 8 = .ok (.invokevirtual 118, 3) := by decide +kernel
theorem dX6_requireInPool_11 : decode cX6_requireInPool 11 = .ok (.iconst (-1), 1) := by decide +kernel
theorem dX6_requireInPool_12 : decode cX6_requireInPool 12 = .ok (.if_icmp .ne 14, 3) := by decide +kernel
theorem dX6_requireInPool_15 : decode cX6_requireInPool 15 = .ok (.new 169, 3) := by decide +kernel
theorem dX6_requireInPool_18 : decode cX6_requireInPool 18 = .ok (.dup, 1) := by decide +kernel
theorem dX6_requireInPool_19 : decode cX6_requireInPool 19 = .ok (.ldc_w 327, 3) := by decide +kernel
theorem dX6_requireInPool_22 : decode cX6_requireInPool 22 = .ok (.invokespecial 173, 3) := by decide +kernel
theorem dX6_requireInPool_25 : decode cX6_requireInPool 25 = .ok (.athrow, 1) := by decide +kernel
theorem dX6_requireInPool_26 : decode cX6_requireInPool 26 = .ok (.return_, 1) := by decide +kernel
theorem dX6_requireBound_0 : decode cX6_requireBound 0 = .ok (.aload_n 0, 1) := by decide +kernel
theorem dX6_requireBound_1 : decode cX6_requireBound 1 = .ok (.getfield 21, 3) := by decide +kernel
theorem dX6_requireBound_4 : decode cX6_requireBound 4 = .ok (.getfield 153, 3) := by decide +kernel
theorem dX6_requireBound_7 : decode cX6_requireBound 7 = .ok (.iload_n 1, 1) := by decide +kernel
theorem dX6_requireBound_8 : decode cX6_requireBound 8 = .ok (.invokevirtual 157, 3) := by decide +kernel
theorem dX6_requireBound_11 : decode cX6_requireBound 11 = .ok (.ifCond .ne 14, 3) := by decide +kernel
theorem dX6_requireBound_14 : decode cX6_requireBound 14 = .ok (.new 169, 3) := by decide +kernel
theorem dX6_requireBound_17 : decode cX6_requireBound 17 = .ok (.dup, 1) := by decide +kernel
theorem dX6_requireBound_18 : decode cX6_requireBound 18 = .ok (.ldc_w 329, 3) := by decide +kernel
theorem dX6_requireBound_21 : decode cX6_requireBound 21 = .ok (.invokespecial 173, 3) := by decide +kernel
theorem dX6_requireBound_24 : decode cX6_requireBound 24 = .ok (.athrow, 1) := by decide +kernel
theorem dX6_requireBound_25 : decode cX6_requireBound 25 = .ok (.return_, 1) := by decide +kernel
theorem dX6_eventAt_0 : decode cX6_eventAt 0 = .ok (.iload_n 0, 1) := by decide +kernel
theorem dX6_eventAt_1 : decode cX6_eventAt 1 = .ok (.iconst 5, 1) := by decide +kernel
theorem dX6_eventAt_2 : decode cX6_eventAt 2 = .ok (.imul, 1) := by decide +kernel
theorem dX6_eventAt_3 : decode cX6_eventAt 3 = .ok (.iload_n 1, 1) := by decide +kernel
theorem dX6_eventAt_4 : decode cX6_eventAt 4 = .ok (.iadd, 1) := by decide +kernel
theorem dX6_eventAt_5 : decode cX6_eventAt 5 = .ok (.bipush 100, 2) := by decide +kernel
theorem dX6_eventAt_7 : decode cX6_eventAt 7 = .ok (.imul, 1) := by decide +kernel
theorem dX6_eventAt_8 : decode cX6_eventAt 8 = .ok (.iload_n 2, 1) := by decide +kernel
theorem dX6_eventAt_9 : decode cX6_eventAt 9 = .ok (.iadd, 1) := by decide +kernel
theorem dX6_eventAt_10 : decode cX6_eventAt 10 = .ok (.ireturn, 1) := by decide +kernel
theorem dX6_timeOfEvent_0 : decode cX6_timeOfEvent 0 = .ok (.iload_n 0, 1) := by decide +kernel
theorem dX6_timeOfEvent_1 : decode cX6_timeOfEvent 1 = .ok (.bipush 100, 2) := by decide +kernel
theorem dX6_timeOfEvent_3 : decode cX6_timeOfEvent 3 = .ok (.idiv, 1) := by decide +kernel
theorem dX6_timeOfEvent_4 : decode cX6_timeOfEvent 4 = .ok (.iconst 5, 1) := by decide +kernel
theorem dX6_timeOfEvent_5 : decode cX6_timeOfEvent 5 = .ok (.idiv, 1) := by decide +kernel
theorem dX6_timeOfEvent_6 : decode cX6_timeOfEvent 6 = .ok (.ireturn, 1) := by decide +kernel
theorem dX6_kindOfEvent_0 : decode cX6_kindOfEvent 0 = .ok (.iload_n 0, 1) := by decide +kernel
theorem dX6_kindOfEvent_1 : decode cX6_kindOfEvent 1 = .ok (.bipush 100, 2) := by decide +kernel
theorem dX6_kindOfEvent_3 : decode cX6_kindOfEvent 3 = .ok (.idiv, 1) := by decide +kernel
theorem dX6_kindOfEvent_4 : decode cX6_kindOfEvent 4 = .ok (.iconst 5, 1) := by decide +kernel
theorem dX6_kindOfEvent_5 : decode cX6_kindOfEvent 5 = .ok (.irem, 1) := by decide +kernel
theorem dX6_kindOfEvent_6 : decode cX6_kindOfEvent 6 = .ok (.ireturn, 1) := by decide +kernel
theorem dX6_addressOfEvent_0 : decode cX6_addressOfEvent 0 = .ok (.iload_n 0, 1) := by decide +kernel
theorem dX6_addressOfEvent_1 : decode cX6_addressOfEvent 1 = .ok (.bipush 100, 2) := by decide +kernel
theorem dX6_addressOfEvent_3 : decode cX6_addressOfEvent 3 = .ok (.irem, 1) := by decide +kernel
theorem dX6_addressOfEvent_4 : decode cX6_addressOfEvent 4 = .ok (.ireturn, 1) := by decide +kernel
theorem dX6_copyNumbers_0 : decode cX6_copyNumbers 0 = .ok (.aload_n 0, 1) := by decide +kernel
theorem dX6_copyNumbers_1 : decode cX6_copyNumbers 1 = .ok (.iconst 0, 1) := by decide +kernel
theorem dX6_copyNumbers_2 : decode cX6_copyNumbers 2 = .ok (.aload_n 1, 1) := by decide +kernel
theorem dX6_copyNumbers_3 : decode cX6_copyNumbers 3 = .ok (.iconst 0, 1) := by decide +kernel
theorem dX6_copyNumbers_4 : decode cX6_copyNumbers 4 = .ok (.aload_n 0, 1) := by decide +kernel
theorem dX6_copyNumbers_5 : decode cX6_copyNumbers 5 = .ok (.arraylength, 1) := by decide +kernel
theorem dX6_copyNumbers_6 : decode cX6_copyNumbers 6 = .ok (.aload_n 1, 1) := by decide +kernel
theorem dX6_copyNumbers_7 : decode cX6_copyNumbers 7 = .ok (.arraylength, 1) := by decide +kernel
theorem dX6_copyNumbers_8 : decode cX6_copyNumbers 8 = .ok (.invokestatic 331, 3) := by decide +kernel
theorem dX6_copyNumbers_11 : decode cX6_copyNumbers 11 = .ok (.invokestatic 336, 3) := by decide +kernel
theorem dX6_copyNumbers_14 : decode cX6_copyNumbers 14 = .ok (.return_, 1) := by decide +kernel
theorem dX6_copyFlags_0 : decode cX6_copyFlags 0 = .ok (.iconst 0, 1) := by decide +kernel
theorem dX6_copyFlags_1 : decode cX6_copyFlags 1 = .ok (.istore_n 2, 1) := by decide +kernel
theorem dX6_copyFlags_2 : decode cX6_copyFlags 2 = .ok (.iload_n 2, 1) := by decide +kernel
theorem dX6_copyFlags_3 : decode cX6_copyFlags 3 = .ok (.aload_n 0, 1) := by decide +kernel
theorem dX6_copyFlags_4 : decode cX6_copyFlags 4 = .ok (.arraylength, 1) := by decide +kernel
theorem dX6_copyFlags_5 : decode cX6_copyFlags 5 = .ok (.if_icmp .ge 21, 3) := by decide +kernel
theorem dX6_copyFlags_8 : decode cX6_copyFlags 8 = .ok (.iload_n 2, 1) := by decide +kernel
theorem dX6_copyFlags_9 : decode cX6_copyFlags 9 = .ok (.aload_n 1, 1) := by decide +kernel
theorem dX6_copyFlags_10 : decode cX6_copyFlags 10 = .ok (.arraylength, 1) := by decide +kernel
theorem dX6_copyFlags_11 : decode cX6_copyFlags 11 = .ok (.if_icmp .ge 15, 3) := by decide +kernel
theorem dX6_copyFlags_14 : decode cX6_copyFlags 14 = .ok (.aload_n 1, 1) := by decide +kernel
theorem dX6_copyFlags_15 : decode cX6_copyFlags 15 = .ok (.iload_n 2, 1) := by decide +kernel
theorem dX6_copyFlags_16 : decode cX6_copyFlags 16 = .ok (.aload_n 0, 1) := by decide +kernel
theorem dX6_copyFlags_17 : decode cX6_copyFlags 17 = .ok (.iload_n 2, 1) := by decide +kernel
theorem dX6_copyFlags_18 : decode cX6_copyFlags 18 = .ok (.baload, 1) := by decide +kernel
theorem dX6_copyFlags_19 : decode cX6_copyFlags 19 = .ok (.bastore, 1) := by decide +kernel
theorem dX6_copyFlags_20 : decode cX6_copyFlags 20 = .ok (.iinc 2 1, 3) := by decide +kernel
theorem dX6_copyFlags_23 : decode cX6_copyFlags 23 = .ok (.goto (-21), 3) := by decide +kernel
theorem dX6_copyFlags_26 : decode cX6_copyFlags 26 = .ok (.return_, 1) := by decide +kernel
theorem dJx00060_init_a7421_0 : decode cJx00060_init_a7421 0 = .ok (.aload_n 0, 1) := by decide +kernel
theorem dJx00060_init_a7421_1 : decode cJx00060_init_a7421 1 = .ok (.aload_n 1, 1) := by decide +kernel
theorem dJx00060_init_a7421_2 : decode cJx00060_init_a7421 2 = .ok (.invokespecial 7, 3) := by decide +kernel
theorem dJx00060_init_a7421_5 : decode cJx00060_init_a7421 5 = .ok (.return_, 1) := by decide +kernel
theorem dJ9_floorMod_7cf53_0 : decode cJ9_floorMod_7cf53 0 = .ok (.iload_n 0, 1) := by decide +kernel
theorem dJ9_floorMod_7cf53_1 : decode cJ9_floorMod_7cf53 1 = .ok (.iload_n 1, 1) := by decide +kernel
theorem dJ9_floorMod_7cf53_2 : decode cJ9_floorMod_7cf53 2 = .ok (.irem, 1) := by decide +kernel
theorem dJ9_floorMod_7cf53_3 : decode cJ9_floorMod_7cf53 3 = .ok (.istore_n 2, 1) := by decide +kernel
theorem dJ9_floorMod_7cf53_4 : decode cJ9_floorMod_7cf53 4 = .ok (.iload_n 0, 1) := by decide +kernel
theorem dJ9_floorMod_7cf53_5 : decode cJ9_floorMod_7cf53 5 = .ok (.iload_n 1, 1) := by decide +kernel
theorem dJ9_floorMod_7cf53_6 : decode cJ9_floorMod_7cf53 6 = .ok (.ixor, 1) := by decide +kernel
theorem dJ9_floorMod_7cf53_7 : decode cJ9_floorMod_7cf53 7 = .ok (.ifCond .ge 11, 3) := by decide +kernel
theorem dJ9_floorMod_7cf53_10 : decode cJ9_floorMod_7cf53 10 = .ok (.iload_n 2, 1) := by decide +kernel
theorem dJ9_floorMod_7cf53_11 : decode cJ9_floorMod_7cf53 11 = .ok (.ifCond .eq 7, 3) := by decide +kernel
theorem dJ9_floorMod_7cf53_14 : decode cJ9_floorMod_7cf53 14 = .ok (.iload_n 2, 1) := by decide +kernel
theorem dJ9_floorMod_7cf53_15 : decode cJ9_floorMod_7cf53 15 = .ok (.iload_n 1, 1) := by decide +kernel
theorem dJ9_floorMod_7cf53_16 : decode cJ9_floorMod_7cf53 16 = .ok (.iadd, 1) := by decide +kernel
theorem dJ9_floorMod_7cf53_17 : decode cJ9_floorMod_7cf53 17 = .ok (.ireturn, 1) := by decide +kernel
theorem dJ9_floorMod_7cf53_18 : decode cJ9_floorMod_7cf53 18 = .ok (.iload_n 2, 1) := by decide +kernel
theorem dJ9_floorMod_7cf53_19 : decode cJ9_floorMod_7cf53 19 = .ok (.ireturn, 1) := by decide +kernel
theorem dJ9_max_7cf53_0 : decode cJ9_max_7cf53 0 = .ok (.iload_n 0, 1) := by decide +kernel
theorem dJ9_max_7cf53_1 : decode cJ9_max_7cf53 1 = .ok (.iload_n 1, 1) := by decide +kernel
theorem dJ9_max_7cf53_2 : decode cJ9_max_7cf53 2 = .ok (.if_icmp .lt 7, 3) := by decide +kernel
theorem dJ9_max_7cf53_5 : decode cJ9_max_7cf53 5 = .ok (.iload_n 0, 1) := by decide +kernel
theorem dJ9_max_7cf53_6 : decode cJ9_max_7cf53 6 = .ok (.goto 4, 3) := by decide +kernel
theorem dJ9_max_7cf53_9 : decode cJ9_max_7cf53 9 = .ok (.iload_n 1, 1) := by decide +kernel
theorem dJ9_max_7cf53_10 : decode cJ9_max_7cf53 10 = .ok (.ireturn, 1) := by decide +kernel
theorem dJ9_min_7cf53_0 : decode cJ9_min_7cf53 0 = .ok (.iload_n 0, 1) := by decide +kernel
theorem dJ9_min_7cf53_1 : decode cJ9_min_7cf53 1 = .ok (.iload_n 1, 1) := by decide +kernel
theorem dJ9_min_7cf53_2 : decode cJ9_min_7cf53 2 = .ok (.if_icmp .gt 7, 3) := by decide +kernel
theorem dJ9_min_7cf53_5 : decode cJ9_min_7cf53 5 = .ok (.iload_n 0, 1) := by decide +kernel
theorem dJ9_min_7cf53_6 : decode cJ9_min_7cf53 6 = .ok (.goto 4, 3) := by decide +kernel
theorem dJ9_min_7cf53_9 : decode cJ9_min_7cf53 9 = .ok (.iload_n 1, 1) := by decide +kernel
theorem dJ9_min_7cf53_10 : decode cJ9_min_7cf53 10 = .ok (.ireturn, 1) := by decide +kernel
theorem dJ7_fill_53178_0 : decode cJ7_fill_53178 0 = .ok (.iconst 0, 1) := by decide +kernel
theorem dJ7_fill_53178_1 : decode cJ7_fill_53178 1 = .ok (.istore_n 2, 1) := by decide +kernel
theorem dJ7_fill_53178_2 : decode cJ7_fill_53178 2 = .ok (.aload_n 0, 1) := by decide +kernel
theorem dJ7_fill_53178_3 : decode cJ7_fill_53178 3 = .ok (.arraylength, 1) := by decide +kernel
theorem dJ7_fill_53178_4 : decode cJ7_fill_53178 4 = .ok (.istore_n 3, 1) := by decide +kernel
theorem dJ7_fill_53178_5 : decode cJ7_fill_53178 5 = .ok (.iload_n 2, 1) := by decide +kernel
theorem dJ7_fill_53178_6 : decode cJ7_fill_53178 6 = .ok (.iload_n 3, 1) := by decide +kernel
theorem dJ7_fill_53178_7 : decode cJ7_fill_53178 7 = .ok (.if_icmp .ge 13, 3) := by decide +kernel
theorem dJ7_fill_53178_10 : decode cJ7_fill_53178 10 = .ok (.aload_n 0, 1) := by decide +kernel
theorem dJ7_fill_53178_11 : decode cJ7_fill_53178 11 = .ok (.iload_n 2, 1) := by decide +kernel
theorem dJ7_fill_53178_12 : decode cJ7_fill_53178 12 = .ok (.iload_n 1, 1) := by decide +kernel
theorem dJ7_fill_53178_13 : decode cJ7_fill_53178 13 = .ok (.iastore, 1) := by decide +kernel
theorem dJ7_fill_53178_14 : decode cJ7_fill_53178 14 = .ok (.iinc 2 1, 3) := by decide +kernel
theorem dJ7_fill_53178_17 : decode cJ7_fill_53178 17 = .ok (.goto (-12), 3) := by decide +kernel
theorem dJ7_fill_53178_20 : decode cJ7_fill_53178 20 = .ok (.return_, 1) := by decide +kernel
end
section
theorem dX7_init_0 : decode cX7_init 0 = .ok (.aload_n 0, 1) := by decide +kernel
theorem dX7_init_1 : decode cX7_init 1 = .ok (.invokespecial 3, 3) := by decide +kernel
theorem dX7_init_4 : decode cX7_init 4 = .ok (.aload_n 0, 1) := by decide +kernel
theorem dX7_init_5 : decode cX7_init 5 = .ok (.sipush 731, 3) := by decide +kernel
theorem dX7_init_8 : decode cX7_init 8 = .ok (.newarray .int, 2) := by decide +kernel
theorem dX7_init_10 : decode cX7_init 10 = .ok (.putfield 9, 3) := by decide +kernel
theorem dX7_init_13 : decode cX7_init 13 = .ok (.aload_n 0, 1) := by decide +kernel
theorem dX7_init_14 : decode cX7_init 14 = .ok (.sipush 731, 3) := by decide +kernel
theorem dX7_init_17 : decode cX7_init 17 = .ok (.newarray .int, 2) := by decide +kernel
theorem dX7_init_19 : decode cX7_init 19 = .ok (.putfield 13, 3) := by decide +kernel
theorem dX7_init_22 : decode cX7_init 22 = .ok (.aload_n 0, 1) := by decide +kernel
theorem dX7_init_23 : decode cX7_init 23 = .ok (.bipush 30, 2) := by decide +kernel
theorem dX7_init_25 : decode cX7_init 25 = .ok (.newarray .int, 2) := by decide +kernel
theorem dX7_init_27 : decode cX7_init 27 = .ok (.putfield 16, 3) := by decide +kernel
theorem dX7_init_30 : decode cX7_init 30 = .ok (.aload_n 0, 1) := by decide +kernel
theorem dX7_init_31 : decode cX7_init 31 = .ok (.getfield 9, 3) := by decide +kernel
theorem dX7_init_34 : decode cX7_init 34 = .ok (.iconst 1, 1) := by decide +kernel
theorem dX7_init_35 : decode cX7_init 35 = .ok (.bipush 10, 2) := by decide +kernel
theorem dX7_init_37 : decode cX7_init 37 = .ok (.iastore, 1) := by decide +kernel
theorem dX7_init_38 : decode cX7_init 38 = .ok (.aload_n 0, 1) := by decide +kernel
theorem dX7_init_39 : decode cX7_init 39 = .ok (.getfield 9, 3) := by decide +kernel
theorem dX7_init_42 : decode cX7_init 42 = .ok (.iconst 2, 1) := by decide +kernel
theorem dX7_init_43 : decode cX7_init 43 = .ok (.bipush 100, 2) := by decide +kernel
theorem dX7_init_45 : decode cX7_init 45 = .ok (.iastore, 1) := by decide +kernel
theorem dX7_init_46 : decode cX7_init 46 = .ok (.iconst 0, 1) := by decide +kernel
theorem dX7_init_47 : decode cX7_init 47 = .ok (.istore_n 1, 1) := by decide +kernel
theorem dX7_init_48 : decode cX7_init 48 = .ok (.iload_n 1, 1) := by decide +kernel
theorem dX7_init_49 : decode cX7_init 49 = .ok (.iconst 3, 1) := by decide +kernel
theorem dX7_init_50 : decode cX7_init 50 = .ok (.if_icmp .ge 29, 3) := by decide +kernel
theorem dX7_init_53 : decode cX7_init 53 = .ok (.aload_n 0, 1) := by decide +kernel
theorem dX7_init_54 : decode cX7_init 54 = .ok (.getfield 9, 3) := by decide +kernel
theorem dX7_init_57 : decode cX7_init 57 = .ok (.bipush 25, 2) := by decide +kernel
theorem dX7_init_59 : decode cX7_init 59 = .ok (.iload_n 1, 1) := by decide +kernel
theorem dX7_init_60 : decode cX7_init 60 = .ok (.iadd, 1) := by decide +kernel
theorem dX7_init_61 : decode cX7_init 61 = .ok (.iconst 1, 1) := by decide +kernel
theorem dX7_init_62 : decode cX7_init 62 = .ok (.iastore, 1) := by decide +kernel
theorem dX7_init_63 : decode cX7_init 63 = .ok (.aload_n 0, 1) := by decide +kernel
theorem dX7_init_64 : decode cX7_init 64 = .ok (.getfield 9, 3) := by decide +kernel
theorem dX7_init_67 : decode cX7_init 67 = .ok (.bipush 28, 2) := by decide +kernel
theorem dX7_init_69 : decode cX7_init 69 = .ok (.iload_n 1, 1) := by decide +kernel
theorem dX7_init_70 : decode cX7_init 70 = .ok (.iadd, 1) := by decide +kernel
theorem dX7_init_71 : decode cX7_init 71 = .ok (.iconst 1, 1) := by decide +kernel
theorem dX7_init_72 : decode cX7_init 72 = .ok (.iastore, 1) := by decide +kernel
theorem dX7_init_73 : decode cX7_init 73 = .ok (.iinc 1 1, 3) := by decide +kernel
theorem dX7_init_76 : decode cX7_init 76 = .ok (.goto (-28), 3) := by decide +kernel
theorem dX7_init_79 : decode cX7_init 79 = .ok (.return_, 1) := by decide +kernel
theorem dX7_thrown_0 : decode cX7_thrown 0 = .ok (.aload_n 0, 1) := by decide +kernel
theorem dX7_thrown_1 : decode cX7_thrown 1 = .ok (.getfield 19, 3) := by decide +kernel
theorem dX7_thrown_4 : decode cX7_thrown 4 = .ok (.ireturn, 1) := by decide +kernel
theorem dX7_in_0 : decode cX7_in 0 = .ok (.iload_n 0, 1) := by decide +kernel
theorem dX7_in_1 : decode cX7_in 1 = .ok (.iload_n 1, 1) := by decide +kernel
theorem dX7_in_2 : decode cX7_in 2 = .ok (.if_icmp .lt 12, 3) := by decide +kernel
theorem dX7_in_5 : decode cX7_in 5 = .ok (.iload_n 0, 1) := by decide +kernel
theorem dX7_in_6 : decode cX7_in 6 = .ok (.iload_n 2, 1) := by decide +kernel
theorem dX7_in_7 : decode cX7_in 7 = .ok (.if_icmp .gt 7, 3) := by decide +kernel
theorem dX7_in_10 : decode cX7_in 10 = .ok (.iconst 1, 1) := by decide +kernel
theorem dX7_in_11 : decode cX7_in 11 = .ok (.goto 4, 3) := by decide +kernel
theorem dX7_in_14 : decode cX7_in 14 = .ok (.iconst 0, 1) := by decide +kernel
theorem dX7_in_15 : decode cX7_in 15 = .ok (.ireturn, 1) := by decide +kernel
theorem dX7_raises_0 : decode cX7_raises 0 = .ok (.aload_n 0, 1) := by decide +kernel
theorem dX7_raises_1 : decode cX7_raises 1 = .ok (.iload_n 1, 1) := by decide +kernel
theorem dX7_raises_2 : decode cX7_raises 2 = .ok (.putfield 19, 3) := by decide +kernel
theorem dX7_raises_5 : decode cX7_raises 5 = .ok (.iconst 0, 1) := by decide +kernel
theorem dX7_raises_6 : decode cX7_raises 6 = .ok (.ireturn, 1) := by decide +kernel
theorem dX7_isAddress_0 : decode cX7_isAddress 0 = .ok (.iload_n 0, 1) := by decide +kernel
theorem dX7_isAddress_1 : decode cX7_isAddress 1 = .ok (.iconst 0, 1) := by decide +kernel
theorem dX7_isAddress_2 : decode cX7_isAddress 2 = .ok (.bipush 99, 2) := by decide +kernel
theorem dX7_isAddress_4 : decode cX7_isAddress 4 = .ok (.invokestatic 23, 3) := by decide +kernel
theorem dX7_isAddress_7 : decode cX7_isAddress 7 = .ok (.ireturn, 1) := by decide +kernel
theorem dX7_isClient_0 : decode cX7_isClient 0 = .ok (.iload_n 0, 1) := by decide +kernel
theorem dX7_isClient_1 : decode cX7_isClient 1 = .ok (.iconst 0, 1) := by decide +kernel
theorem dX7_isClient_2 : decode cX7_isClient 2 = .ok (.bipush 19, 2) := by decide +kernel
theorem dX7_isClient_4 : decode cX7_isClient 4 = .ok (.invokestatic 23, 3) := by decide +kernel
theorem dX7_isClient_7 : decode cX7_isClient 7 = .ok (.ireturn, 1) := by decide +kernel
theorem dX7_isGroup_0 : decode cX7_isGroup 0 = .ok (.iload_n 0, 1) := by decide +kernel
theorem dX7_isGroup_1 : decode cX7_isGroup 1 = .ok (.iconst 0, 1) := by decide +kernel
theorem dX7_isGroup_2 : decode cX7_isGroup 2 = .ok (.iconst 2, 1) := by decide +kernel
theorem dX7_isGroup_3 : decode cX7_isGroup 3 = .ok (.invokestatic 23, 3) := by decide +kernel
theorem dX7_isGroup_6 : decode cX7_isGroup 6 = .ok (.ireturn, 1) := by decide +kernel
theorem dX7_sets_0 : decode cX7_sets 0 = .ok (.aload_n 0, 1) := by decide +kernel
theorem dX7_sets_1 : decode cX7_sets 1 = .ok (.getfield 9, 3) := by decide +kernel
theorem dX7_sets_4 : decode cX7_sets 4 = .ok (.iload_n 1, 1) := by decide +kernel
theorem dX7_sets_5 : decode cX7_sets 5 = .ok (.iaload, 1) := by decide +kernel
theorem dX7_sets_6 : decode cX7_sets 6 = .ok (.istore_n 3, 1) := by decide +kernel
theorem dX7_sets_7 : decode cX7_sets 7 = .ok (.aload_n 0, 1) := by decide +kernel
theorem dX7_sets_8 : decode cX7_sets 8 = .ok (.getfield 9, 3) := by decide +kernel
theorem dX7_sets_11 : decode cX7_sets 11 = .ok (.iload_n 1, 1) := by decide +kernel
theorem dX7_sets_12 : decode cX7_sets 12 = .ok (.iload_n 2, 1) := by decide +kernel
theorem dX7_sets_13 : decode cX7_sets 13 = .ok (.iastore, 1) := by decide +kernel
theorem dX7_sets_14 : decode cX7_sets 14 = .ok (.iload_n 3, 1) := by decide +kernel
theorem dX7_sets_15 : decode cX7_sets 15 = .ok (.ireturn, 1) := by decide +kernel
theorem dX7_logs_0 : decode cX7_logs 0 = .ok (.aload_n 0, 1) := by decide +kernel
theorem dX7_logs_1 : decode cX7_logs 1 = .ok (.getfield 27, 3) := by decide +kernel
theorem dX7_logs_4 : decode cX7_logs 4 = .ok (.bipush 30, 2) := by decide +kernel
theorem dX7_logs_6 : decode cX7_logs 6 = .ok (.if_icmp .ge 13, 3) := by decide +kernel
theorem dX7_logs_9 : decode cX7_logs 9 = .ok (.aload_n 0, 1) := by decide +kernel
theorem dX7_logs_10 : decode cX7_logs 10 = .ok (.dup, 1) := by decide +kernel
theorem dX7_logs_11 : decode cX7_logs 11 = .ok (.getfield 27, 3) := by decide +kernel
theorem dX7_logs_14 : decode cX7_logs 14 = .ok (.iconst 1, 1) := by decide +kernel
theorem dX7_logs_15 : decode cX7_logs 15 = .ok (.iadd, 1) := by decide +kernel
theorem dX7_logs_16 : decode cX7_logs 16 = .ok (.putfield 27, 3) := by decide +kernel
theorem dX7_logs_19 : decode cX7_logs 19 = .ok (.aload_n 0, 1) := by decide +kernel
theorem dX7_logs_20 : decode cX7_logs 20 = .ok (.getfield 27, 3) := by decide +kernel
theorem dX7_logs_23 : decode cX7_logs 23 = .ok (.iconst 1, 1) := by decide +kernel
theorem dX7_logs_24 : decode cX7_logs 24 = .ok (.isub, 1) := by decide +kernel
theorem dX7_logs_25 : decode cX7_logs 25 = .ok (.istore_n 3, 1) := by decide +kernel
theorem dX7_logs_26 : decode cX7_logs 26 = .ok (.iload_n 3, 1) := by decide +kernel
theorem dX7_logs_27 : decode cX7_logs 27 = .ok (.ifCond .le 23, 3) := by decide +kernel
theorem dX7_logs_30 : decode cX7_logs 30 = .ok (.aload_n 0, 1) := by decide +kernel
theorem dX7_logs_31 : decode cX7_logs 31 = .ok (.getfield 16, 3) := by decide +kernel
theorem dX7_logs_34 : decode cX7_logs 34 = .ok (.iload_n 3, 1) := by decide +kernel
theorem dX7_logs_35 : decode cX7_logs 35 = .ok (.aload_n 0, 1) := by decide +kernel
theorem dX7_logs_36 : decode cX7_logs 36 = .ok (.getfield 16, 3) := by decide +kernel
theorem dX7_logs_39 : decode cX7_logs 39 = .ok (.iload_n 3, 1) := by decide +kernel
theorem dX7_logs_40 : decode cX7_logs 40 = .ok (.iconst 1, 1) := by decide +kernel
theorem dX7_logs_41 : decode cX7_logs 41 = .ok (.isub, 1) := by decide +kernel
theorem dX7_logs_42 : decode cX7_logs 42 = .ok (.iaload, 1) := by decide +kernel
theorem dX7_logs_43 : decode cX7_logs 43 = .ok (.iastore, 1) := by decide +kernel
theorem dX7_logs_44 : decode cX7_logs 44 = .ok (.iinc 3 (-1), 3) := by decide +kernel
theorem dX7_logs_47 : decode cX7_logs 47 = .ok (.goto (-21), 3) := by decide +kernel
theorem dX7_logs_50 : decode cX7_logs 50 = .ok (.aload_n 0, 1) := by decide +kernel
theorem dX7_logs_51 : decode cX7_logs 51 = .ok (.getfield 16, 3) := by decide +kernel
theorem dX7_logs_54 : decode cX7_logs 54 = .ok (.iconst 0, 1) := by decide +kernel
theorem dX7_logs_55 : decode cX7_logs 55 = .ok (.sipush 1000, 3) := by decide +kernel
theorem dX7_logs_58 : decode cX7_logs 58 = .ok (.iload_n 1, 1) := by decide +kernel
theorem dX7_logs_59 : decode cX7_logs 59 = .ok (.imul, 1) := by decide +kernel
theorem dX7_logs_60 : decode cX7_logs 60 = .ok (.iload_n 2, 1) := by decide +kernel
theorem dX7_logs_61 : decode cX7_logs 61 = .ok (.iadd, 1) := by decide +kernel
theorem dX7_logs_62 : decode cX7_logs 62 = .ok (.iastore, 1) := by decide +kernel
theorem dX7_logs_63 : decode cX7_logs 63 = .ok (.return_, 1) := by decide +kernel
theorem dX7_pool_0 : decode cX7_pool 0 = .ok (.iconst 5, 1) := by decide +kernel
theorem dX7_pool_1 : decode cX7_pool 1 = .ok (.iconst 4, 1) := by decide +kernel
theorem dX7_pool_2 : decode cX7_pool 2 = .ok (.iload_n 1, 1) := by decide +kernel
theorem dX7_pool_3 : decode cX7_pool 3 = .ok (.imul, 1) := by decide +kernel
theorem dX7_pool_4 : decode cX7_pool 4 = .ok (.iadd, 1) := by decide +kernel
theorem dX7_pool_5 : decode cX7_pool 5 = .ok (.ireturn, 1) := by decide +kernel
theorem dX7_owner_0 : decode cX7_owner 0 = .ok (.iconst 0, 1) := by decide +kernel
theorem dX7_owner_1 : decode cX7_owner 1 = .ok (.istore_n 2, 1) := by decide +kernel
theorem dX7_owner_2 : decode cX7_owner 2 = .ok (.iload_n 2, 1) := by decide +kernel
theorem dX7_owner_3 : decode cX7_owner 3 = .ok (.aload_n 0, 1) := by decide +kernel
theorem dX7_owner_4 : decode cX7_owner 4 = .ok (.getfield 9, 3) := by decide +kernel
theorem dX7_owner_7 : decode cX7_owner 7 = .ok (.iconst 4, 1) := by decide +kernel
theorem dX7_owner_8 : decode cX7_owner 8 = .ok (.iaload, 1) := by decide +kernel
theorem dX7_owner_9 : decode cX7_owner 9 = .ok (.if_icmp .ge 42, 3) := by decide +kernel
theorem dX7_owner_12 : decode cX7_owner 12 = .ok (.iload_n 1, 1) := by decide +kernel
theorem dX7_owner_13 : decode cX7_owner 13 = .ok (.aload_n 0, 1) := by decide +kernel
theorem dX7_owner_14 : decode cX7_owner 14 = .ok (.getfield 9, 3) := by decide +kernel
theorem dX7_owner_17 : decode cX7_owner 17 = .ok (.aload_n 0, 1) := by decide +kernel
theorem dX7_owner_18 : decode cX7_owner 18 = .ok (.iload_n 2, 1) := by decide +kernel
theorem dX7_owner_19 : decode cX7_owner 19 = .ok (.invokevirtual 30, 3) := by decide +kernel
theorem dX7_owner_22 : decode cX7_owner 22 = .ok (.iconst 1, 1) := by decide +kernel
theorem dX7_owner_23 : decode cX7_owner 23 = .ok (.iadd, 1) := by decide +kernel
theorem dX7_owner_24 : decode cX7_owner 24 = .ok (.iaload, 1) := by decide +kernel
theorem dX7_owner_25 : decode cX7_owner 25 = .ok (.aload_n 0, 1) := by decide +kernel
theorem dX7_owner_26 : decode cX7_owner 26 = .ok (.getfield 9, 3) := by decide +kernel
theorem dX7_owner_29 : decode cX7_owner 29 = .ok (.aload_n 0, 1) := by decide +kernel
theorem dX7_owner_30 : decode cX7_owner 30 = .ok (.iload_n 2, 1) := by decide +kernel
theorem dX7_owner_31 : decode cX7_owner 31 = .ok (.invokevirtual 30, 3) := by decide +kernel
theorem dX7_owner_34 : decode cX7_owner 34 = .ok (.iconst 2, 1) := by decide +kernel
theorem dX7_owner_35 : decode cX7_owner 35 = .ok (.iadd, 1) := by decide +kernel
theorem dX7_owner_36 : decode cX7_owner 36 = .ok (.iaload, 1) := by decide +kernel
theorem dX7_owner_37 : decode cX7_owner 37 = .ok (.invokestatic 23, 3) := by decide +kernel
theorem dX7_owner_40 : decode cX7_owner 40 = .ok (.ifCond .eq 5, 3) := by decide +kernel
theorem dX7_owner_43 : decode cX7_owner 43 = .ok (.iload_n 2, 1) := by decide +kernel
theorem dX7_owner_44 : decode cX7_owner 44 = .ok (.ireturn, 1) := by decide +kernel
theorem dX7_owner_45 : decode cX7_owner 45 = .ok (.iinc 2 1, 3) := by decide +kernel
theorem dX7_owner_48 : decode cX7_owner 48 = .ok (.goto (-46), 3) := by decide +kernel
theorem dX7_owner_51 : decode cX7_owner 51 = .ok (.iconst (-1), 1) := by decide +kernel
theorem dX7_owner_52 : decode cX7_owner 52 = .ok (.ireturn, 1) := by decide +kernel
theorem dX7_groupOf_0 : decode cX7_groupOf 0 = .ok (.aload_n 0, 1) := by decide +kernel
theorem dX7_groupOf_1 : decode cX7_groupOf 1 = .ok (.iload_n 1, 1) := by decide +kernel
theorem dX7_groupOf_2 : decode cX7_groupOf 2 = .ok (.invokevirtual 34, 3) := by decide +kernel
theorem dX7_groupOf_5 : decode cX7_groupOf 5 = .ok (.istore_n 2, 1) := by decide +kernel
theorem dX7_groupOf_6 : decode cX7_groupOf 6 = .ok (.iload_n 2, 1) := by decide +kernel
theorem dX7_groupOf_7 : decode cX7_groupOf 7 = .ok (.ifCond .ge 7, 3) := by decide +kernel
theorem dX7_groupOf_10 : decode cX7_groupOf 10 = .ok (.iconst (-1), 1) := by decide +kernel
theorem dX7_groupOf_11 : decode cX7_groupOf 11 = .ok (.goto 13, 3) := by decide +kernel
theorem dX7_groupOf_14 : decode cX7_groupOf 14 = .ok (.aload_n 0, 1) := by decide +kernel
theorem dX7_groupOf_15 : decode cX7_groupOf 15 = .ok (.getfield 9, 3) := by decide +kernel
theorem dX7_groupOf_18 : decode cX7_groupOf 18 = .ok (.aload_n 0, 1) := by decide +kernel
theorem dX7_groupOf_19 : decode cX7_groupOf 19 = .ok (.iload_n 2, 1) := by decide +kernel
theorem dX7_groupOf_20 : decode cX7_groupOf 20 = .ok (.invokevirtual 30, 3) := by decide +kernel
theorem dX7_groupOf_23 : decode cX7_groupOf 23 = .ok (.iaload, 1) := by decide +kernel
theorem dX7_groupOf_24 : decode cX7_groupOf 24 = .ok (.ireturn, 1) := by decide +kernel
theorem dX7_addPool_0 : decode cX7_addPool 0 = .ok (.aload_n 0, 1) := by decide +kernel
theorem dX7_addPool_1 : decode cX7_addPool 1 = .ok (.iconst 0, 1) := by decide +kernel
theorem dX7_addPool_2 : decode cX7_addPool 2 = .ok (.putfield 19, 3) := by decide +kernel
theorem dX7_addPool_5 : decode cX7_addPool 5 = .ok (.iload_n 1, 1) := by decide +kernel
theorem dX7_addPool_6 : decode cX7_addPool 6 = .ok (.invokestatic 37, 3) := by decide +kernel
theorem dX7_addPool_9 : decode cX7_addPool 9 = .ok (.ifCond .ne 9, 3) := by decide +kernel
theorem dX7_addPool_12 : decode cX7_addPool 12 = .ok (.aload_n 0, 1) := by decide +kernel
theorem dX7_addPool_13 : decode cX7_addPool 13 = .ok (.iconst 1, 1) := by decide +kernel
theorem dX7_addPool_14 : decode cX7_addPool 14 = .ok (.invokevirtual 41, 3) := by decide +kernel
theorem dX7_addPool_17 : decode cX7_addPool 17 = .ok (.ireturn, 1) := by decide +kernel
theorem dX7_addPool_18 : decode cX7_addPool 18 = .ok (.iload_n 2, 1) := by decide +kernel
theorem dX7_addPool_19 : decode cX7_addPool 19 = .ok (.invokestatic 44, 3) := by decide +kernel
theorem dX7_addPool_22 : decode cX7_addPool 22 = .ok (.ifCond .eq 28, 3) := by decide +kernel
theorem dX7_addPool_25 : decode cX7_addPool 25 = .ok (.iload_n 3, 1) := by decide +kernel
theorem dX7_addPool_26 : decode cX7_addPool 26 = .ok (.invokestatic 44, 3) := by decide +kernel
theorem dX7_addPool_29 : decode cX7_addPool 29 = .ok (.ifCond .eq 21, 3) := by decide +kernel
theorem dX7_addPool_32 : decode cX7_addPool 32 = .ok (.iload 4, 2) := by decide +kernel
theorem dX7_addPool_34 : decode cX7_addPool 34 = .ok (.bipush 8, 2) := by decide +kernel
theorem dX7_addPool_36 : decode cX7_addPool 36 = .ok (.sipush 800, 3) := by decide +kernel
theorem dX7_addPool_39 : decode cX7_addPool 39 = .ok (.invokestatic 23, 3) := by decide +kernel
theorem dX7_addPool_42 : decode cX7_addPool 42 = .ok (.ifCond .eq 8, 3) := by decide +kernel
theorem dX7_addPool_45 : decode cX7_addPool 45 = .ok (.iload_n 2, 1) := by decide +kernel
theorem dX7_addPool_46 : decode cX7_addPool 46 = .ok (.iload_n 3, 1) := by decide +kernel
theorem dX7_addPool_47 : decode cX7_addPool 47 = .ok (.if_icmp .le 9, 3) := by decide +kernel
theorem dX7_addPool_50 : decode cX7_addPool 50 = .ok (.aload_n 0, 1) := by decide +kernel
theorem dX7_addPool_51 : decode cX7_addPool 51 = .ok (.iconst 2, 1) := by decide +kernel
theorem dX7_addPool_52 : decode cX7_addPool 52 = .ok (.invokevirtual 41, 3) := by decide +kernel
theorem dX7_addPool_55 : decode cX7_addPool 55 = .ok (.ireturn, 1) := by decide +kernel
theorem dX7_addPool_56 : decode cX7_addPool 56 = .ok (.aload_n 0, 1) := by decide +kernel
theorem dX7_addPool_57 : decode cX7_addPool 57 = .ok (.getfield 9, 3) := by decide +kernel
theorem dX7_addPool_60 : decode cX7_addPool 60 = .ok (.iconst 4, 1) := by decide +kernel
theorem dX7_addPool_61 : decode cX7_addPool 61 = .ok (.iaload, 1) := by decide +kernel
theorem dX7_addPool_62 : decode cX7_addPool 62 = .ok (.iconst 5, 1) := by decide +kernel
theorem dX7_addPool_63 : decode cX7_addPool 63 = .ok (.if_icmp .ne 9, 3) := by decide +kernel
theorem dX7_addPool_66 : decode cX7_addPool 66 = .ok (.aload_n 0, 1) := by decide +kernel
theorem dX7_addPool_67 : decode cX7_addPool 67 = .ok (.iconst 3, 1) := by decide +kernel
theorem dX7_addPool_68 : decode cX7_addPool 68 = .ok (.invokevirtual 41, 3) := by decide +kernel
theorem dX7_addPool_71 : decode cX7_addPool 71 = .ok (.ireturn, 1) := by decide +kernel
theorem dX7_addPool_72 : decode cX7_addPool 72 = .ok (.iload_n 2, 1) := by decide +kernel
theorem dX7_addPool_73 : decode cX7_addPool 73 = .ok (.istore 5, 2) := by decide +kernel
theorem dX7_addPool_75 : decode cX7_addPool 75 = .ok (.iload 5, 2) := by decide +kernel
theorem dX7_addPool_77 : decode cX7_addPool 77 = .ok (.iload_n 3, 1) := by decide +kernel
theorem dX7_addPool_78 : decode cX7_addPool 78 = .ok (.if_icmp .gt 24, 3) := by decide +kernel
theorem dX7_addPool_81 : decode cX7_addPool 81 = .ok (.aload_n 0, 1) := by decide +kernel
theorem dX7_addPool_82 : decode cX7_addPool 82 = .ok (.iload 5, 2) := by decide +kernel
theorem dX7_addPool_84 : decode cX7_addPool 84 = .ok (.invokevirtual 34, 3) := by decide +kernel
theorem dX7_addPool_87 : decode cX7_addPool 87 = .ok (.ifCond .lt 9, 3) := by decide +kernel
theorem dX7_addPool_90 : decode cX7_addPool 90 = .ok (.aload_n 0, 1) := by decide +kernel
theorem dX7_addPool_91 : decode cX7_addPool 91 = .ok (.iconst 3, 1) := by decide +kernel
theorem dX7_addPool_92 : decode cX7_addPool 92 = .ok (.invokevirtual 41, 3) := by decide +kernel
theorem dX7_addPool_95 : decode cX7_addPool 95 = .ok (.ireturn, 1) := by decide +kernel
theorem dX7_addPool_96 : decode cX7_addPool 96 = .ok (.iinc 5 1, 3) := by decide +kernel
theorem dX7_addPool_99 : decode cX7_addPool 99 = .ok (.goto (-24), 3) := by decide +kernel
theorem dX7_addPool_102 : decode cX7_addPool 102 = .ok (.aload_n 0, 1) := by decide +kernel
theorem dX7_addPool_103 : decode cX7_addPool 103 = .ok (.aload_n 0, 1) := by decide +kernel
theorem dX7_addPool_104 : decode cX7_addPool 104 = .ok (.getfield 9, 3) := by decide +kernel
theorem dX7_addPool_107 : decode cX7_addPool 107 = .ok (.iconst 4, 1) := by decide +kernel
theorem dX7_addPool_108 : decode cX7_addPool 108 = .ok (.iaload, 1) := by decide +kernel
theorem dX7_addPool_109 : decode cX7_addPool 109 = .ok (.invokevirtual 30, 3) := by decide +kernel
theorem dX7_addPool_112 : decode cX7_addPool 112 = .ok (.istore 5, 2) := by decide +kernel
theorem dX7_addPool_114 : decode cX7_addPool 114 = .ok (.aload_n 0, 1) := by decide +kernel
theorem dX7_addPool_115 : decode cX7_addPool 115 = .ok (.getfield 9, 3) := by decide +kernel
theorem dX7_addPool_118 : decode cX7_addPool 118 = .ok (.iload 5, 2) := by decide +kernel
theorem dX7_addPool_120 : decode cX7_addPool 120 = .ok (.iload_n 1, 1) := by decide +kernel
theorem dX7_addPool_121 : decode cX7_addPool 121 = .ok (.iastore, 1) := by decide +kernel
theorem dX7_addPool_122 : decode cX7_addPool 122 = .ok (.aload_n 0, 1) := by decide +kernel
theorem dX7_addPool_123 : decode cX7_addPool 123 = .ok (.getfield 9, 3) := by decide +kernel
theorem dX7_addPool_126 : decode cX7_addPool 126 = .ok (.iload 5, 2) := by decide +kernel
theorem dX7_addPool_128 : decode cX7_addPool 128 = .ok (.iconst 1, 1) := by decide +kernel
theorem dX7_addPool_129 : decode cX7_addPool 129 = .ok (.iadd, 1) := by decide +kernel
theorem dX7_addPool_130 : decode cX7_addPool 130 = .ok (.iload_n 2, 1) := by decide +kernel
theorem dX7_addPool_131 : decode cX7_addPool 131 = .ok (.iastore, 1) := by decide +kernel
theorem dX7_addPool_132 : decode cX7_addPool 132 = .ok (.aload_n 0, 1) := by decide +kernel
theorem dX7_addPool_133 : decode cX7_addPool 133 = .ok (.getfield 9, 3) := by decide +kernel
theorem dX7_addPool_136 : decode cX7_addPool 136 = .ok (.iload 5, 2) := by decide +kernel
theorem dX7_addPool_138 : decode cX7_addPool 138 = .ok (.iconst 2, 1) := by decide +kernel
theorem dX7_addPool_139 : decode cX7_addPool 139 = .ok (.iadd, 1) := by decide +kernel
theorem dX7_addPool_140 : decode cX7_addPool 140 = .ok (.iload_n 3, 1) := by decide +kernel
theorem dX7_addPool_141 : decode cX7_addPool 141 = .ok (.iastore, 1) := by decide +kernel
theorem dX7_addPool_142 : decode cX7_addPool 142 = .ok (.aload_n 0, 1) := by decide +kernel
theorem dX7_addPool_143 : decode cX7_addPool 143 = .ok (.getfield 9, 3) := by decide +kernel
theorem dX7_addPool_146 : decode cX7_addPool 146 = .ok (.iload 5, 2) := by decide +kernel
theorem dX7_addPool_148 : decode cX7_addPool 148 = .ok (.iconst 3, 1) := by decide +kernel
theorem dX7_addPool_149 : decode cX7_addPool 149 = .ok (.iadd, 1) := by decide +kernel
theorem dX7_addPool_150 : decode cX7_addPool 150 = .ok (.iload 4, 2) := by decide +kernel
theorem dX7_addPool_152 : decode cX7_addPool 152 = .ok (.iastore, 1) := by decide +kernel
theorem dX7_addPool_153 : decode cX7_addPool 153 = .ok (.iload_n 2, 1) := by decide +kernel
theorem dX7_addPool_154 : decode cX7_addPool 154 = .ok (.istore 6, 2) := by decide +kernel
theorem dX7_addPool_156 : decode cX7_addPool 156 = .ok (.iload 6, 2) := by decide +kernel
theorem dX7_addPool_158 : decode cX7_addPool 158 = .ok (.iload_n 3, 1) := by decide +kernel
theorem dX7_addPool_159 : decode cX7_addPool 159 = .ok (.if_icmp .gt 33, 3) := by decide +kernel
theorem dX7_addPool_162 : decode cX7_addPool 162 = .ok (.aload_n 0, 1) := by decide +kernel
theorem dX7_addPool_163 : decode cX7_addPool 163 = .ok (.getfield 9, 3) := by decide +kernel
theorem dX7_addPool_166 : decode cX7_addPool 166 = .ok (.sipush 231, 3) := by decide +kernel
theorem dX7_addPool_169 : decode cX7_addPool 169 = .ok (.iload 6, 2) := by decide +kernel
theorem dX7_addPool_171 : decode cX7_addPool 171 = .ok (.iadd, 1) := by decide +kernel
theorem dX7_addPool_172 : decode cX7_addPool 172 = .ok (.iconst 0, 1) := by decide +kernel
theorem dX7_addPool_173 : decode cX7_addPool 173 = .ok (.iastore, 1) := by decide +kernel
theorem dX7_addPool_174 : decode cX7_addPool 174 = .ok (.aload_n 0, 1) := by decide +kernel
theorem dX7_addPool_175 : decode cX7_addPool 175 = .ok (.getfield 9, 3) := by decide +kernel
theorem dX7_addPool_178 : decode cX7_addPool 178 = .ok (.sipush 531, 3) := by decide +kernel
theorem dX7_addPool_181 : decode cX7_addPool 181 = .ok (.iload 6, 2) := by decide +kernel
theorem dX7_addPool_183 : decode cX7_addPool 183 = .ok (.iadd, 1) := by decide +kernel
theorem dX7_addPool_184 : decode cX7_addPool 184 = .ok (.iconst (-1), 1) := by decide +kernel
theorem dX7_addPool_185 : decode cX7_addPool 185 = .ok (.iastore, 1) := by decide +kernel
theorem dX7_addPool_186 : decode cX7_addPool 186 = .ok (.iinc 6 1, 3) := by decide +kernel
theorem dX7_addPool_189 : decode cX7_addPool 189 = .ok (.goto (-33), 3) := by decide +kernel
theorem dX7_addPool_192 : decode cX7_addPool 192 = .ok (.aload_n 0, 1) := by decide +kernel
theorem dX7_addPool_193 : decode cX7_addPool 193 = .ok (.getfield 9, 3) := by decide +kernel
theorem dX7_addPool_196 : decode cX7_addPool 196 = .ok (.iconst 4, 1) := by decide +kernel
theorem dX7_addPool_197 : decode cX7_addPool 197 = .ok (.dup2, 1) := by decide +kernel
theorem dX7_addPool_198 : decode cX7_addPool 198 = .ok (.iaload, 1) := by decide +kernel
theorem dX7_addPool_199 : decode cX7_addPool 199 = .ok (.dup_x2, 1) := by decide +kernel
theorem dX7_addPool_200 : decode cX7_addPool 200 = .ok (.iconst 1, 1) := by decide +kernel
theorem dX7_addPool_201 : decode cX7_addPool 201 = .ok (.iadd, 1) := by decide +kernel
theorem dX7_addPool_202 : decode cX7_addPool 202 = .ok (.iastore, 1) := by decide +kernel
theorem dX7_addPool_203 : decode cX7_addPool 203 = .ok (.ireturn, 1) := by decide +kernel
theorem dX7_isPool_0 : decode cX7_isPool 0 = .ok (.iload_n 1, 1) := by decide +kernel
theorem dX7_isPool_1 : decode cX7_isPool 1 = .ok (.iconst 0, 1) := by decide +kernel
theorem dX7_isPool_2 : decode cX7_isPool 2 = .ok (.aload_n 0, 1) := by decide +kernel
theorem dX7_isPool_3 : decode cX7_isPool 3 = .ok (.getfield 9, 3) := by decide +kernel
theorem dX7_isPool_6 : decode cX7_isPool 6 = .ok (.iconst 4, 1) := by decide +kernel
theorem dX7_isPool_7 : decode cX7_isPool 7 = .ok (.iaload, 1) := by decide +kernel
theorem dX7_isPool_8 : decode cX7_isPool 8 = .ok (.iconst 1, 1) := by decide +kernel
theorem dX7_isPool_9 : decode cX7_isPool 9 = .ok (.isub, 1) := by decide +kernel
theorem dX7_isPool_10 : decode cX7_isPool 10 = .ok (.invokestatic 23, 3) := by decide +kernel
theorem dX7_isPool_13 : decode cX7_isPool 13 = .ok (.ireturn, 1) := by decide +kernel
theorem dX7_removePool_0 : decode cX7_removePool 0 = .ok (.aload_n 0, 1) := by decide +kernel
theorem dX7_removePool_1 : decode cX7_removePool 1 = .ok (.iconst 0, 1) := by decide +kernel
theorem dX7_removePool_2 : decode cX7_removePool 2 = .ok (.putfield 19, 3) := by decide +kernel
theorem dX7_removePool_5 : decode cX7_removePool 5 = .ok (.aload_n 0, 1) := by decide +kernel
theorem dX7_removePool_6 : decode cX7_removePool 6 = .ok (.iload_n 1, 1) := by decide +kernel
theorem dX7_removePool_7 : decode cX7_removePool 7 = .ok (.invokevirtual 47, 3) := by decide +kernel
theorem dX7_removePool_10 : decode cX7_removePool 10 = .ok (.ifCond .ne 9, 3) := by decide +kernel
theorem dX7_removePool_13 : decode cX7_removePool 13 = .ok (.aload_n 0, 1) := by decide +kernel
theorem dX7_removePool_14 : decode cX7_removePool 14 = .ok (.iconst 1, 1) := by decide +kernel
theorem dX7_removePool_15 : decode cX7_removePool 15 = .ok (.invokevirtual 41, 3) := by decide +kernel
theorem dX7_removePool_18 : decode cX7_removePool 18 = .ok (.ireturn, 1) := by decide +kernel
theorem dX7_removePool_19 : decode cX7_removePool 19 = .ok (.aload_n 0, 1) := by decide +kernel
theorem dX7_removePool_20 : decode cX7_removePool 20 = .ok (.getfield 9, 3) := by decide +kernel
theorem dX7_removePool_23 : decode cX7_removePool 23 = .ok (.aload_n 0, 1) := by decide +kernel
theorem dX7_removePool_24 : decode cX7_removePool 24 = .ok (.iload_n 1, 1) := by decide +kernel
theorem dX7_removePool_25 : decode cX7_removePool 25 = .ok (.invokevirtual 30, 3) := by decide +kernel
theorem dX7_removePool_28 : decode cX7_removePool 28 = .ok (.iconst 1, 1) := by decide +kernel
theorem dX7_removePool_29 : decode cX7_removePool 29 = .ok (.iadd, 1) := by decide +kernel
theorem dX7_removePool_30 : decode cX7_removePool 30 = .ok (.iaload, 1) := by decide +kernel
theorem dX7_removePool_31 : decode cX7_removePool 31 = .ok (.istore_n 2, 1) := by decide +kernel
theorem dX7_removePool_32 : decode cX7_removePool 32 = .ok (.iload_n 2, 1) := by decide +kernel
theorem dX7_removePool_33 : decode cX7_removePool 33 = .ok (.aload_n 0, 1) := by decide +kernel
theorem dX7_removePool_34 : decode cX7_removePool 34 = .ok (.getfield 9, 3) := by decide +kernel
theorem dX7_removePool_37 : decode cX7_removePool 37 = .ok (.aload_n 0, 1) := by decide +kernel
theorem dX7_removePool_38 : decode cX7_removePool 38 = .ok (.iload_n 1, 1) := by decide +kernel
theorem dX7_removePool_39 : decode cX7_removePool 39 = .ok (.invokevirtual 30, 3) := by decide +kernel
theorem dX7_removePool_42 : decode cX7_removePool 42 = .ok (.iconst 2, 1) := by decide +kernel
theorem dX7_removePool_43 : decode cX7_removePool 43 = .ok (.iadd, 1) := by decide +kernel
theorem dX7_removePool_44 : decode cX7_removePool 44 = .ok (.iaload, 1) := by decide +kernel
theorem dX7_removePool_45 : decode cX7_removePool 45 = .ok (.if_icmp .gt 28, 3) := by decide +kernel
theorem dX7_removePool_48 : decode cX7_removePool 48 = .ok (.aload_n 0, 1) := by decide +kernel
theorem dX7_removePool_49 : decode cX7_removePool 49 = .ok (.getfield 9, 3) := by decide +kernel
theorem dX7_removePool_52 : decode cX7_removePool 52 = .ok (.sipush 231, 3) := by decide +kernel
theorem dX7_removePool_55 : decode cX7_removePool 55 = .ok (.iload_n 2, 1) := by decide +kernel
theorem dX7_removePool_56 : decode cX7_removePool 56 = .ok (.iadd, 1) := by decide +kernel
theorem dX7_removePool_57 : decode cX7_removePool 57 = .ok (.iaload, 1) := by decide +kernel
theorem dX7_removePool_58 : decode cX7_removePool 58 = .ok (.ifCond .eq 9, 3) := by decide +kernel
theorem dX7_removePool_61 : decode cX7_removePool 61 = .ok (.aload_n 0, 1) := by decide +kernel
theorem dX7_removePool_62 : decode cX7_removePool 62 = .ok (.iconst 2, 1) := by decide +kernel
theorem dX7_removePool_63 : decode cX7_removePool 63 = .ok (.invokevirtual 41, 3) := by decide +kernel
theorem dX7_removePool_66 : decode cX7_removePool 66 = .ok (.ireturn, 1) := by decide +kernel
theorem dX7_removePool_67 : decode cX7_removePool 67 = .ok (.iinc 2 1, 3) := by decide +kernel
theorem dX7_removePool_70 : decode cX7_removePool 70 = .ok (.goto (-38), 3) := by decide +kernel
theorem dX7_removePool_73 : decode cX7_removePool 73 = .ok (.aload_n 0, 1) := by decide +kernel
theorem dX7_removePool_74 : decode cX7_removePool 74 = .ok (.getfield 9, 3) := by decide +kernel
theorem dX7_removePool_77 : decode cX7_removePool 77 = .ok (.iconst 4, 1) := by decide +kernel
theorem dX7_removePool_78 : decode cX7_removePool 78 = .ok (.dup2, 1) := by decide +kernel
theorem dX7_removePool_79 : decode cX7_removePool 79 = .ok (.iaload, 1) := by decide +kernel
theorem dX7_removePool_80 : decode cX7_removePool 80 = .ok (.iconst 1, 1) := by decide +kernel
theorem dX7_removePool_81 : decode cX7_removePool 81 = .ok (.isub, 1) := by decide +kernel
theorem dX7_removePool_82 : decode cX7_removePool 82 = .ok (.iastore, 1) := by decide +kernel
theorem dX7_removePool_83 : decode cX7_removePool 83 = .ok (.aload_n 0, 1) := by decide +kernel
theorem dX7_removePool_84 : decode cX7_removePool 84 = .ok (.iload_n 1, 1) := by decide +kernel
theorem dX7_removePool_85 : decode cX7_removePool 85 = .ok (.invokevirtual 30, 3) := by decide +kernel
theorem dX7_removePool_88 : decode cX7_removePool 88 = .ok (.istore_n 2, 1) := by decide +kernel
theorem dX7_removePool_89 : decode cX7_removePool 89 = .ok (.iload_n 2, 1) := by decide +kernel
theorem dX7_removePool_90 : decode cX7_removePool 90 = .ok (.aload_n 0, 1) := by decide +kernel
theorem dX7_removePool_91 : decode cX7_removePool 91 = .ok (.aload_n 0, 1) := by decide +kernel
theorem dX7_removePool_92 : decode cX7_removePool 92 = .ok (.getfield 9, 3) := by decide +kernel
theorem dX7_removePool_95 : decode cX7_removePool 95 = .ok (.iconst 4, 1) := by decide +kernel
theorem dX7_removePool_96 : decode cX7_removePool 96 = .ok (.iaload, 1) := by decide +kernel
theorem dX7_removePool_97 : decode cX7_removePool 97 = .ok (.invokevirtual 30, 3) := by decide +kernel
theorem dX7_removePool_100 : decode cX7_removePool 100 = .ok (.if_icmp .ge 23, 3) := by decide +kernel
theorem dX7_removePool_103 : decode cX7_removePool 103 = .ok (.aload_n 0, 1) := by decide +kernel
theorem dX7_removePool_104 : decode cX7_removePool 104 = .ok (.getfield 9, 3) := by decide +kernel
theorem dX7_removePool_107 : decode cX7_removePool 107 = .ok (.iload_n 2, 1) := by decide +kernel
theorem dX7_removePool_108 : decode cX7_removePool 108 = .ok (.aload_n 0, 1) := by decide +kernel
theorem dX7_removePool_109 : decode cX7_removePool 109 = .ok (.getfield 9, 3) := by decide +kernel
theorem dX7_removePool_112 : decode cX7_removePool 112 = .ok (.iload_n 2, 1) := by decide +kernel
theorem dX7_removePool_113 : decode cX7_removePool 113 = .ok (.iconst 4, 1) := by decide +kernel
theorem dX7_removePool_114 : decode cX7_removePool 114 = .ok (.iadd, 1) := by decide +kernel
theorem dX7_removePool_115 : decode cX7_removePool 115 = .ok (.iaload, 1) := by decide +kernel
theorem dX7_removePool_116 : decode cX7_removePool 116 = .ok (.iastore, 1) := by decide +kernel
theorem dX7_removePool_117 : decode cX7_removePool 117 = .ok (.iinc 2 1, 3) := by decide +kernel
theorem dX7_removePool_120 : decode cX7_removePool 120 = .ok (.goto (-31), 3) := by decide +kernel
theorem dX7_removePool_123 : decode cX7_removePool 123 = .ok (.aload_n 0, 1) := by decide +kernel
theorem dX7_removePool_124 : decode cX7_removePool 124 = .ok (.getfield 9, 3) := by decide +kernel
theorem dX7_removePool_127 : decode cX7_removePool 127 = .ok (.iconst 4, 1) := by decide +kernel
theorem dX7_removePool_128 : decode cX7_removePool 128 = .ok (.iaload, 1) := by decide +kernel
theorem dX7_removePool_129 : decode cX7_removePool 129 = .ok (.ireturn, 1) := by decide +kernel
theorem dX7_poolCount_0 : decode cX7_poolCount 0 = .ok (.aload_n 0, 1) := by decide +kernel
theorem dX7_poolCount_1 : decode cX7_poolCount 1 = .ok (.iconst 0, 1) := by decide +kernel
theorem dX7_poolCount_2 : decode cX7_poolCount 2 = .ok (.putfield 19, 3) := by decide +kernel
theorem dX7_poolCount_5 : decode cX7_poolCount 5 = .ok (.aload_n 0, 1) := by decide +kernel
theorem dX7_poolCount_6 : decode cX7_poolCount 6 = .ok (.getfield 9, 3) := by decide +kernel
theorem dX7_poolCount_9 : decode cX7_poolCount 9 = .ok (.iconst 4, 1) := by decide +kernel
theorem dX7_poolCount_10 : decode cX7_poolCount 10 = .ok (.iaload, 1) := by decide +kernel
theorem dX7_poolCount_11 : decode cX7_poolCount 11 = .ok (.ireturn, 1) := by decide +kernel
theorem dX7_isCandidate_0 : decode cX7_isCandidate 0 = .ok (.aload_n 0, 1) := by decide +kernel
theorem dX7_isCandidate_1 : decode cX7_isCandidate 1 = .ok (.iload_n 1, 1) := by decide +kernel
theorem dX7_isCandidate_2 : decode cX7_isCandidate 2 = .ok (.invokevirtual 50, 3) := by decide +kernel
theorem dX7_isCandidate_5 : decode cX7_isCandidate 5 = .ok (.iload_n 2, 1) := by decide +kernel
theorem dX7_isCandidate_6 : decode cX7_isCandidate 6 = .ok (.if_icmp .ne 32, 3) := by decide +kernel
theorem dX7_isCandidate_9 : decode cX7_isCandidate 9 = .ok (.aload_n 0, 1) := by decide +kernel
theorem dX7_isCandidate_10 : decode cX7_isCandidate 10 = .ok (.getfield 9, 3) := by decide +kernel
theorem dX7_isCandidate_13 : decode cX7_isCandidate 13 = .ok (.sipush 231, 3) := by decide +kernel
theorem dX7_isCandidate_16 : decode cX7_isCandidate 16 = .ok (.iload_n 1, 1) := by decide +kernel
theorem dX7_isCandidate_17 : decode cX7_isCandidate 17 = .ok (.iadd, 1) := by decide +kernel
theorem dX7_isCandidate_18 : decode cX7_isCandidate 18 = .ok (.iaload, 1) := by decide +kernel
theorem dX7_isCandidate_19 : decode cX7_isCandidate 19 = .ok (.ifCond .ne 19, 3) := by decide +kernel
theorem dX7_isCandidate_22 : decode cX7_isCandidate 22 = .ok (.aload_n 0, 1) := by decide +kernel
theorem dX7_isCandidate_23 : decode cX7_isCandidate 23 = .ok (.getfield 9, 3) := by decide +kernel
theorem dX7_isCandidate_26 : decode cX7_isCandidate 26 = .ok (.bipush 31, 2) := by decide +kernel
theorem dX7_isCandidate_28 : decode cX7_isCandidate 28 = .ok (.iload_n 1, 1) := by decide +kernel
theorem dX7_isCandidate_29 : decode cX7_isCandidate 29 = .ok (.iadd, 1) := by decide +kernel
theorem dX7_isCandidate_30 : decode cX7_isCandidate 30 = .ok (.iaload, 1) := by decide +kernel
theorem dX7_isCandidate_31 : decode cX7_isCandidate 31 = .ok (.ifCond .ne 7, 3) := by decide +kernel
theorem dX7_isCandidate_34 : decode cX7_isCandidate 34 = .ok (.iconst 1, 1) := by decide +kernel
theorem dX7_isCandidate_35 : decode cX7_isCandidate 35 = .ok (.goto 4, 3) := by decide +kernel
theorem dX7_isCandidate_38 : decode cX7_isCandidate 38 = .ok (.iconst 0, 1) := by decide +kernel
theorem dX7_isCandidate_39 : decode cX7_isCandidate 39 = .ok (.ireturn, 1) := by decide +kernel
theorem dX7_pool__0 : decode cX7_pool_ 0 = .ok (.aload_n 0, 1) := by decide +kernel
theorem dX7_pool__1 : decode cX7_pool_ 1 = .ok (.iconst 0, 1) := by decide +kernel
theorem dX7_pool__2 : decode cX7_pool_ 2 = .ok (.putfield 19, 3) := by decide +kernel
theorem dX7_pool__5 : decode cX7_pool_ 5 = .ok (.aload_n 0, 1) := by decide +kernel
theorem dX7_pool__6 : decode cX7_pool_ 6 = .ok (.iload_n 1, 1) := by decide +kernel
theorem dX7_pool__7 : decode cX7_pool_ 7 = .ok (.invokevirtual 47, 3) := by decide +kernel
theorem dX7_pool__10 : decode cX7_pool_ 10 = .ok (.ifCond .ne 9, 3) := by decide +kernel
theorem dX7_pool__13 : decode cX7_pool_ 13 = .ok (.aload_n 0, 1) := by decide +kernel
theorem dX7_pool__14 : decode cX7_pool_ 14 = .ok (.iconst 1, 1) := by decide +kernel
theorem dX7_pool__15 : decode cX7_pool_ 15 = .ok (.invokevirtual 41, 3) := by decide +kernel
theorem dX7_pool__18 : decode cX7_pool_ 18 = .ok (.ireturn, 1) := by decide +kernel
theorem dX7_pool__19 : decode cX7_pool_ 19 = .ok (.iload_n 2, 1) := by decide +kernel
theorem dX7_pool__20 : decode cX7_pool_ 20 = .ok (.iconst 0, 1) := by decide +kernel
theorem dX7_pool__21 : decode cX7_pool_ 21 = .ok (.iconst 4, 1) := by decide +kernel
theorem dX7_pool__22 : decode cX7_pool_ 22 = .ok (.invokestatic 23, 3) := by decide +kernel
theorem dX7_pool__25 : decode cX7_pool_ 25 = .ok (.ifCond .ne 9, 3) := by decide +kernel
theorem dX7_pool__28 : decode cX7_pool_ 28 = .ok (.aload_n 0, 1) := by decide +kernel
theorem dX7_pool__29 : decode cX7_pool_ 29 = .ok (.iconst 2, 1) := by decide +kernel
theorem dX7_pool__30 : decode cX7_pool_ 30 = .ok (.invokevirtual 41, 3) := by decide +kernel
theorem dX7_pool__33 : decode cX7_pool_ 33 = .ok (.ireturn, 1) := by decide +kernel
theorem dX7_pool__34 : decode cX7_pool_ 34 = .ok (.iload_n 2, 1) := by decide +kernel
theorem dX7_pool__35 : decode cX7_pool_ 35 = .ok (.iconst 4, 1) := by decide +kernel
theorem dX7_pool__36 : decode cX7_pool_ 36 = .ok (.if_icmp .ge 16, 3) := by decide +kernel
theorem dX7_pool__39 : decode cX7_pool_ 39 = .ok (.aload_n 0, 1) := by decide +kernel
theorem dX7_pool__40 : decode cX7_pool_ 40 = .ok (.getfield 9, 3) := by decide +kernel
theorem dX7_pool__43 : decode cX7_pool_ 43 = .ok (.aload_n 0, 1) := by decide +kernel
theorem dX7_pool__44 : decode cX7_pool_ 44 = .ok (.iload_n 1, 1) := by decide +kernel
theorem dX7_pool__45 : decode cX7_pool_ 45 = .ok (.invokevirtual 30, 3) := by decide +kernel
theorem dX7_pool__48 : decode cX7_pool_ 48 = .ok (.iload_n 2, 1) := by decide +kernel
theorem dX7_pool__49 : decode cX7_pool_ 49 = .ok (.iadd, 1) := by decide +kernel
theorem dX7_pool__50 : decode cX7_pool_ 50 = .ok (.iaload, 1) := by decide +kernel
theorem dX7_pool__51 : decode cX7_pool_ 51 = .ok (.ireturn, 1) := by decide +kernel
theorem dX7_pool__52 : decode cX7_pool_ 52 = .ok (.iconst 0, 1) := by decide +kernel
theorem dX7_pool__53 : decode cX7_pool_ 53 = .ok (.istore_n 3, 1) := by decide +kernel
theorem dX7_pool__54 : decode cX7_pool_ 54 = .ok (.aload_n 0, 1) := by decide +kernel
theorem dX7_pool__55 : decode cX7_pool_ 55 = .ok (.getfield 9, 3) := by decide +kernel
theorem dX7_pool__58 : decode cX7_pool_ 58 = .ok (.aload_n 0, 1) := by decide +kernel
theorem dX7_pool__59 : decode cX7_pool_ 59 = .ok (.iload_n 1, 1) := by decide +kernel
theorem dX7_pool__60 : decode cX7_pool_ 60 = .ok (.invokevirtual 30, 3) := by decide +kernel
theorem dX7_pool__63 : decode cX7_pool_ 63 = .ok (.iconst 1, 1) := by decide +kernel
theorem dX7_pool__64 : decode cX7_pool_ 64 = .ok (.iadd, 1) := by decide +kernel
theorem dX7_pool__65 : decode cX7_pool_ 65 = .ok (.iaload, 1) := by decide +kernel
theorem dX7_pool__66 : decode cX7_pool_ 66 = .ok (.istore 4, 2) := by decide +kernel
theorem dX7_pool__68 : decode cX7_pool_ 68 = .ok (.iload 4, 2) := by decide +kernel
theorem dX7_pool__70 : decode cX7_pool_ 70 = .ok (.aload_n 0, 1) := by decide +kernel
theorem dX7_pool__71 : decode cX7_pool_ 71 = .ok (.getfield 9, 3) := by decide +kernel
theorem dX7_pool__74 : decode cX7_pool_ 74 = .ok (.aload_n 0, 1) := by decide +kernel
theorem dX7_pool__75 : decode cX7_pool_ 75 = .ok (.iload_n 1, 1) := by decide +kernel
theorem dX7_pool__76 : decode cX7_pool_ 76 = .ok (.invokevirtual 30, 3) := by decide +kernel
theorem dX7_pool__79 : decode cX7_pool_ 79 = .ok (.iconst 2, 1) := by decide +kernel
theorem dX7_pool__80 : decode cX7_pool_ 80 = .ok (.iadd, 1) := by decide +kernel
theorem dX7_pool__81 : decode cX7_pool_ 81 = .ok (.iaload, 1) := by decide +kernel
theorem dX7_pool__82 : decode cX7_pool_ 82 = .ok (.if_icmp .gt 31, 3) := by decide +kernel
theorem dX7_pool__85 : decode cX7_pool_ 85 = .ok (.aload_n 0, 1) := by decide +kernel
theorem dX7_pool__86 : decode cX7_pool_ 86 = .ok (.iload 4, 2) := by decide +kernel
theorem dX7_pool__88 : decode cX7_pool_ 88 = .ok (.aload_n 0, 1) := by decide +kernel
theorem dX7_pool__89 : decode cX7_pool_ 89 = .ok (.getfield 9, 3) := by decide +kernel
theorem dX7_pool__92 : decode cX7_pool_ 92 = .ok (.aload_n 0, 1) := by decide +kernel
theorem dX7_pool__93 : decode cX7_pool_ 93 = .ok (.iload_n 1, 1) := by decide +kernel
theorem dX7_pool__94 : decode cX7_pool_ 94 = .ok (.invokevirtual 30, 3) := by decide +kernel
theorem dX7_pool__97 : decode cX7_pool_ 97 = .ok (.iaload, 1) := by decide +kernel
theorem dX7_pool__98 : decode cX7_pool_ 98 = .ok (.invokevirtual 53, 3) := by decide +kernel
theorem dX7_pool__101 : decode cX7_pool_ 101 = .ok (.ifCond .eq 6, 3) := by decide +kernel
theorem dX7_pool__104 : decode cX7_pool_ 104 = .ok (.iinc 3 1, 3) := by decide +kernel
theorem dX7_pool__107 : decode cX7_pool_ 107 = .ok (.iinc 4 1, 3) := by decide +kernel
theorem dX7_pool__110 : decode cX7_pool_ 110 = .ok (.goto (-42), 3) := by decide +kernel
theorem dX7_pool__113 : decode cX7_pool_ 113 = .ok (.iload_n 3, 1) := by decide +kernel
theorem dX7_pool__114 : decode cX7_pool_ 114 = .ok (.ireturn, 1) := by decide +kernel
theorem dX7_poolOf_0 : decode cX7_poolOf 0 = .ok (.aload_n 0, 1) := by decide +kernel
theorem dX7_poolOf_1 : decode cX7_poolOf 1 = .ok (.iconst 0, 1) := by decide +kernel
theorem dX7_poolOf_2 : decode cX7_poolOf 2 = .ok (.putfield 19, 3) := by decide +kernel
theorem dX7_poolOf_5 : decode cX7_poolOf 5 = .ok (.iload_n 1, 1) := by decide +kernel
theorem dX7_poolOf_6 : decode cX7_poolOf 6 = .ok (.invokestatic 44, 3) := by decide +kernel
theorem dX7_poolOf_9 : decode cX7_poolOf 9 = .ok (.ifCond .ne 9, 3) := by decide +kernel
theorem dX7_poolOf_12 : decode cX7_poolOf 12 = .ok (.aload_n 0, 1) := by decide +kernel
theorem dX7_poolOf_13 : decode cX7_poolOf 13 = .ok (.iconst 1, 1) := by decide +kernel
theorem dX7_poolOf_14 : decode cX7_poolOf 14 = .ok (.invokevirtual 41, 3) := by decide +kernel
theorem dX7_poolOf_17 : decode cX7_poolOf 17 = .ok (.ireturn, 1) := by decide +kernel
theorem dX7_poolOf_18 : decode cX7_poolOf 18 = .ok (.aload_n 0, 1) := by decide +kernel
theorem dX7_poolOf_19 : decode cX7_poolOf 19 = .ok (.iload_n 1, 1) := by decide +kernel
theorem dX7_poolOf_20 : decode cX7_poolOf 20 = .ok (.invokevirtual 34, 3) := by decide +kernel
theorem dX7_poolOf_23 : decode cX7_poolOf 23 = .ok (.ifCond .ge 11, 3) := by decide +kernel
theorem dX7_poolOf_26 : decode cX7_poolOf 26 = .ok (.aload_n 0, 1) := by decide +kernel
theorem dX7_poolOf_27 : decode cX7_poolOf 27 = .ok (.iconst 2, 1) := by decide +kernel
theorem dX7_poolOf_28 : decode cX7_poolOf 28 = .ok (.invokevirtual 41, 3) := by decide +kernel
theorem dX7_poolOf_31 : decode cX7_poolOf 31 = .ok (.goto 8, 3) := by decide +kernel
theorem dX7_poolOf_34 : decode cX7_poolOf 34 = .ok (.aload_n 0, 1) := by decide +kernel
theorem dX7_poolOf_35 : decode cX7_poolOf 35 = .ok (.iload_n 1, 1) := by decide +kernel
theorem dX7_poolOf_36 : decode cX7_poolOf 36 = .ok (.invokevirtual 34, 3) := by decide +kernel
theorem dX7_poolOf_39 : decode cX7_poolOf 39 = .ok (.ireturn, 1) := by decide +kernel
theorem dX7_flips_0 : decode cX7_flips 0 = .ok (.aload_n 0, 1) := by decide +kernel
theorem dX7_flips_1 : decode cX7_flips 1 = .ok (.iload_n 1, 1) := by decide +kernel
theorem dX7_flips_2 : decode cX7_flips 2 = .ok (.ifCond .eq 7, 3) := by decide +kernel
theorem dX7_flips_5 : decode cX7_flips 5 = .ok (.iconst 0, 1) := by decide +kernel
theorem dX7_flips_6 : decode cX7_flips 6 = .ok (.goto 4, 3) := by decide +kernel
theorem dX7_flips_9 : decode cX7_flips 9 = .ok (.iconst 1, 1) := by decide +kernel
theorem dX7_flips_10 : decode cX7_flips 10 = .ok (.putfield 19, 3) := by decide +kernel
theorem dX7_flips_13 : decode cX7_flips 13 = .ok (.iload_n 1, 1) := by decide +kernel
theorem dX7_flips_14 : decode cX7_flips 14 = .ok (.ifCond .eq 25, 3) := by decide +kernel
theorem dX7_flips_17 : decode cX7_flips 17 = .ok (.aload_n 0, 1) := by decide +kernel
theorem dX7_flips_18 : decode cX7_flips 18 = .ok (.iload_n 2, 1) := by decide +kernel
theorem dX7_flips_19 : decode cX7_flips 19 = .ok (.iload_n 3, 1) := by decide +kernel
theorem dX7_flips_20 : decode cX7_flips 20 = .ok (.ifCond .eq 7, 3) := by decide +kernel
theorem dX7_flips_23 : decode cX7_flips 23 = .ok (.iconst 1, 1) := by decide +kernel
theorem dX7_flips_24 : decode cX7_flips 24 = .ok (.goto 4, 3) := by decide +kernel
theorem dX7_flips_27 : decode cX7_flips 27 = .ok (.iconst 0, 1) := by decide +kernel
theorem dX7_flips_28 : decode cX7_flips 28 = .ok (.invokevirtual 57, 3) := by decide +kernel
theorem dX7_flips_31 : decode cX7_flips 31 = .ok (.iconst 1, 1) := by decide +kernel
theorem dX7_flips_32 : decode cX7_flips 32 = .ok (.if_icmp .ne 7, 3) := by decide +kernel
theorem dX7_flips_35 : decode cX7_flips 35 = .ok (.iconst 1, 1) := by decide +kernel
theorem dX7_flips_36 : decode cX7_flips 36 = .ok (.goto 4, 3) := by decide +kernel
theorem dX7_flips_39 : decode cX7_flips 39 = .ok (.iconst 0, 1) := by decide +kernel
theorem dX7_flips_40 : decode cX7_flips 40 = .ok (.ireturn, 1) := by decide +kernel
theorem dX7_exclude_0 : decode cX7_exclude 0 = .ok (.aload_n 0, 1) := by decide +kernel
theorem dX7_exclude_1 : decode cX7_exclude 1 = .ok (.iload_n 1, 1) := by decide +kernel
theorem dX7_exclude_2 : decode cX7_exclude 2 = .ok (.invokestatic 44, 3) := by decide +kernel
theorem dX7_exclude_5 : decode cX7_exclude 5 = .ok (.bipush 31, 2) := by decide +kernel
theorem dX7_exclude_7 : decode cX7_exclude 7 = .ok (.iload_n 1, 1) := by decide +kernel
theorem dX7_exclude_8 : decode cX7_exclude 8 = .ok (.iadd, 1) := by decide +kernel
theorem dX7_exclude_9 : decode cX7_exclude 9 = .ok (.iload_n 2, 1) := by decide +kernel
theorem dX7_exclude_10 : decode cX7_exclude 10 = .ok (.invokevirtual 61, 3) := by decide +kernel
theorem dX7_exclude_13 : decode cX7_exclude 13 = .ok (.ireturn, 1) := by decide +kernel
theorem dX7_setStranger_0 : decode cX7_setStranger 0 = .ok (.aload_n 0, 1) := by decide +kernel
theorem dX7_setStranger_1 : decode cX7_setStranger 1 = .ok (.iload_n 1, 1) := by decide +kernel
theorem dX7_setStranger_2 : decode cX7_setStranger 2 = .ok (.invokestatic 44, 3) := by decide +kernel
theorem dX7_setStranger_5 : decode cX7_setStranger 5 = .ok (.sipush 131, 3) := by decide +kernel
theorem dX7_setStranger_8 : decode cX7_setStranger 8 = .ok (.iload_n 1, 1) := by decide +kernel
theorem dX7_setStranger_9 : decode cX7_setStranger 9 = .ok (.iadd, 1) := by decide +kernel
theorem dX7_setStranger_10 : decode cX7_setStranger 10 = .ok (.iload_n 2, 1) := by decide +kernel
theorem dX7_setStranger_11 : decode cX7_setStranger 11 = .ok (.invokevirtual 61, 3) := by decide +kernel
theorem dX7_setStranger_14 : decode cX7_setStranger 14 = .ok (.ireturn, 1) := by decide +kernel
theorem dX7_setHold_0 : decode cX7_setHold 0 = .ok (.aload_n 0, 1) := by decide +kernel
theorem dX7_setHold_1 : decode cX7_setHold 1 = .ok (.iconst 0, 1) := by decide +kernel
theorem dX7_setHold_2 : decode cX7_setHold 2 = .ok (.putfield 19, 3) := by decide +kernel
theorem dX7_setHold_5 : decode cX7_setHold 5 = .ok (.iload_n 1, 1) := by decide +kernel
theorem dX7_setHold_6 : decode cX7_setHold 6 = .ok (.iconst 1, 1) := by decide +kernel
theorem dX7_setHold_7 : decode cX7_setHold 7 = .ok (.bipush 50, 2) := by decide +kernel
theorem dX7_setHold_9 : decode cX7_setHold 9 = .ok (.invokestatic 23, 3) := by decide +kernel
theorem dX7_setHold_12 : decode cX7_setHold 12 = .ok (.ifCond .eq 12, 3) := by decide +kernel
theorem dX7_setHold_15 : decode cX7_setHold 15 = .ok (.aload_n 0, 1) := by decide +kernel
theorem dX7_setHold_16 : decode cX7_setHold 16 = .ok (.iconst 1, 1) := by decide +kernel
theorem dX7_setHold_17 : decode cX7_setHold 17 = .ok (.iload_n 1, 1) := by decide +kernel
theorem dX7_setHold_18 : decode cX7_setHold 18 = .ok (.invokevirtual 57, 3) := by decide +kernel
theorem dX7_setHold_21 : decode cX7_setHold 21 = .ok (.goto 8, 3) := by decide +kernel
theorem dX7_setHold_24 : decode cX7_setHold 24 = .ok (.aload_n 0, 1) := by decide +kernel
theorem dX7_setHold_25 : decode cX7_setHold 25 = .ok (.iconst 1, 1) := by decide +kernel
theorem dX7_setHold_26 : decode cX7_setHold 26 = .ok (.invokevirtual 41, 3) := by decide +kernel
theorem dX7_setHold_29 : decode cX7_setHold 29 = .ok (.ireturn, 1) := by decide +kernel
theorem dX7_setQuarantine_0 : decode cX7_setQuarantine 0 = .ok (.aload_n 0, 1) := by decide +kernel
theorem dX7_setQuarantine_1 : decode cX7_setQuarantine 1 = .ok (.iconst 0, 1) := by decide +kernel
theorem dX7_setQuarantine_2 : decode cX7_setQuarantine 2 = .ok (.putfield 19, 3) := by decide +kernel
theorem dX7_setQuarantine_5 : decode cX7_setQuarantine 5 = .ok (.iload_n 1, 1) := by decide +kernel
theorem dX7_setQuarantine_6 : decode cX7_setQuarantine 6 = .ok (.iconst 1, 1) := by decide +kernel
theorem dX7_setQuarantine_7 : decode cX7_setQuarantine 7 = .ok (.sipush 500, 3) := by decide +kernel
theorem dX7_setQuarantine_10 : decode cX7_setQuarantine 10 = .ok (.invokestatic 23, 3) := by decide +kernel
theorem dX7_setQuarantine_13 : decode cX7_setQuarantine 13 = .ok (.ifCond .eq 12, 3) := by decide +kernel
theorem dX7_setQuarantine_16 : decode cX7_setQuarantine 16 = .ok (.aload_n 0, 1) := by decide +kernel
theorem dX7_setQuarantine_17 : decode cX7_setQuarantine 17 = .ok (.iconst 2, 1) := by decide +kernel
theorem dX7_setQuarantine_18 : decode cX7_setQuarantine 18 = .ok (.iload_n 1, 1) := by decide +kernel
theorem dX7_setQuarantine_19 : decode cX7_setQuarantine 19 = .ok (.invokevirtual 57, 3) := by decide +kernel
theorem dX7_setQuarantine_22 : decode cX7_setQuarantine 22 = .ok (.goto 8, 3) := by decide +kernel
theorem dX7_setQuarantine_25 : decode cX7_setQuarantine 25 = .ok (.aload_n 0, 1) := by decide +kernel
theorem dX7_setQuarantine_26 : decode cX7_setQuarantine 26 = .ok (.iconst 1, 1) := by decide +kernel
theorem dX7_setQuarantine_27 : decode cX7_setQuarantine 27 = .ok (.invokevirtual 41, 3) := by decide +kernel
theorem dX7_setQuarantine_30 : decode cX7_setQuarantine 30 = .ok (.ireturn, 1) := by decide +kernel
theorem dX7_setDirect_0 : decode cX7_setDirect 0 = .ok (.aload_n 0, 1) := by decide +kernel
theorem dX7_setDirect_1 : decode cX7_setDirect 1 = .ok (.iload_n 1, 1) := by decide +kernel
theorem dX7_setDirect_2 : decode cX7_setDirect 2 = .ok (.invokestatic 37, 3) := by decide +kernel
theorem dX7_setDirect_5 : decode cX7_setDirect 5 = .ok (.bipush 25, 2) := by decide +kernel
theorem dX7_setDirect_7 : decode cX7_setDirect 7 = .ok (.iload_n 1, 1) := by decide +kernel
theorem dX7_setDirect_8 : decode cX7_setDirect 8 = .ok (.iadd, 1) := by decide +kernel
theorem dX7_setDirect_9 : decode cX7_setDirect 9 = .ok (.iload_n 2, 1) := by decide +kernel
theorem dX7_setDirect_10 : decode cX7_setDirect 10 = .ok (.invokevirtual 61, 3) := by decide +kernel
theorem dX7_setDirect_13 : decode cX7_setDirect 13 = .ok (.ireturn, 1) := by decide +kernel
theorem dX7_setRelay_0 : decode cX7_setRelay 0 = .ok (.aload_n 0, 1) := by decide +kernel
theorem dX7_setRelay_1 : decode cX7_setRelay 1 = .ok (.iload_n 1, 1) := by decide +kernel
theorem dX7_setRelay_2 : decode cX7_setRelay 2 = .ok (.invokestatic 37, 3) := by decide +kernel
theorem dX7_setRelay_5 : decode cX7_setRelay 5 = .ok (.bipush 28, 2) := by decide +kernel
theorem dX7_setRelay_7 : decode cX7_setRelay 7 = .ok (.iload_n 1, 1) := by decide +kernel
theorem dX7_setRelay_8 : decode cX7_setRelay 8 = .ok (.iadd, 1) := by decide +kernel
theorem dX7_setRelay_9 : decode cX7_setRelay 9 = .ok (.iload_n 2, 1) := by decide +kernel
theorem dX7_setRelay_10 : decode cX7_setRelay 10 = .ok (.invokevirtual 61, 3) := by decide +kernel
theorem dX7_setRelay_13 : decode cX7_setRelay 13 = .ok (.ireturn, 1) := by decide +kernel
theorem dX7_frees_0 : decode cX7_frees 0 = .ok (.aload_n 0, 1) := by decide +kernel
theorem dX7_frees_1 : decode cX7_frees 1 = .ok (.getfield 9, 3) := by decide +kernel
theorem dX7_frees_4 : decode cX7_frees 4 = .ok (.sipush 231, 3) := by decide +kernel
theorem dX7_frees_7 : decode cX7_frees 7 = .ok (.iload_n 1, 1) := by decide +kernel
theorem dX7_frees_8 : decode cX7_frees 8 = .ok (.iadd, 1) := by decide +kernel
theorem dX7_frees_9 : decode cX7_frees 9 = .ok (.iconst 0, 1) := by decide +kernel
theorem dX7_frees_10 : decode cX7_frees 10 = .ok (.iastore, 1) := by decide +kernel
theorem dX7_frees_11 : decode cX7_frees 11 = .ok (.aload_n 0, 1) := by decide +kernel
theorem dX7_frees_12 : decode cX7_frees 12 = .ok (.getfield 9, 3) := by decide +kernel
theorem dX7_frees_15 : decode cX7_frees 15 = .ok (.sipush 531, 3) := by decide +kernel
theorem dX7_frees_18 : decode cX7_frees 18 = .ok (.iload_n 1, 1) := by decide +kernel
theorem dX7_frees_19 : decode cX7_frees 19 = .ok (.iadd, 1) := by decide +kernel
theorem dX7_frees_20 : decode cX7_frees 20 = .ok (.iload_n 2, 1) := by decide +kernel
theorem dX7_frees_21 : decode cX7_frees 21 = .ok (.iastore, 1) := by decide +kernel
theorem dX7_frees_22 : decode cX7_frees 22 = .ok (.return_, 1) := by decide +kernel
theorem dX7_declines_0 : decode cX7_declines 0 = .ok (.aload_n 0, 1) := by decide +kernel
theorem dX7_declines_1 : decode cX7_declines 1 = .ok (.getfield 9, 3) := by decide +kernel
theorem dX7_declines_4 : decode cX7_declines 4 = .ok (.sipush 231, 3) := by decide +kernel
theorem dX7_declines_7 : decode cX7_declines 7 = .ok (.iload_n 1, 1) := by decide +kernel
theorem dX7_declines_8 : decode cX7_declines 8 = .ok (.iadd, 1) := by decide +kernel
theorem dX7_declines_9 : decode cX7_declines 9 = .ok (.iconst 3, 1) := by decide +kernel
theorem dX7_declines_10 : decode cX7_declines 10 = .ok (.iastore, 1) := by decide +kernel
theorem dX7_declines_11 : decode cX7_declines 11 = .ok (.aload_n 0, 1) := by decide +kernel
theorem dX7_declines_12 : decode cX7_declines 12 = .ok (.getfield 9, 3) := by decide +kernel
theorem dX7_declines_15 : decode cX7_declines 15 = .ok (.sipush 431, 3) := by decide +kernel
theorem dX7_declines_18 : decode cX7_declines 18 = .ok (.iload_n 1, 1) := by decide +kernel
theorem dX7_declines_19 : decode cX7_declines 19 = .ok (.iadd, 1) := by decide +kernel
theorem dX7_declines_20 : decode cX7_declines 20 = .ok (.aload_n 0, 1) := by decide +kernel
theorem dX7_declines_21 : decode cX7_declines 21 = .ok (.getfield 9, 3) := by decide +kernel
theorem dX7_declines_24 : decode cX7_declines 24 = .ok (.iconst 0, 1) := by decide +kernel
theorem dX7_declines_25 : decode cX7_declines 25 = .ok (.iaload, 1) := by decide +kernel
theorem dX7_declines_26 : decode cX7_declines 26 = .ok (.aload_n 0, 1) := by decide +kernel
theorem dX7_declines_27 : decode cX7_declines 27 = .ok (.getfield 9, 3) := by decide +kernel
theorem dX7_declines_30 : decode cX7_declines 30 = .ok (.iconst 2, 1) := by decide +kernel
theorem dX7_declines_31 : decode cX7_declines 31 = .ok (.iaload, 1) := by decide +kernel
theorem dX7_declines_32 : decode cX7_declines 32 = .ok (.iadd, 1) := by decide +kernel
theorem dX7_declines_33 : decode cX7_declines 33 = .ok (.iastore, 1) := by decide +kernel
theorem dX7_declines_34 : decode cX7_declines 34 = .ok (.return_, 1) := by decide +kernel
theorem dX7_isBound_0 : decode cX7_isBound 0 = .ok (.aload_n 0, 1) := by decide +kernel
theorem dX7_isBound_1 : decode cX7_isBound 1 = .ok (.getfield 9, 3) := by decide +kernel
theorem dX7_isBound_4 : decode cX7_isBound 4 = .ok (.sipush 631, 3) := by decide +kernel
theorem dX7_isBound_7 : decode cX7_isBound 7 = .ok (.iload_n 1, 1) := by decide +kernel
theorem dX7_isBound_8 : decode cX7_isBound 8 = .ok (.iadd, 1) := by decide +kernel
theorem dX7_isBound_9 : decode cX7_isBound 9 = .ok (.iaload, 1) := by decide +kernel
theorem dX7_isBound_10 : decode cX7_isBound 10 = .ok (.iconst 1, 1) := by decide +kernel
theorem dX7_isBound_11 : decode cX7_isBound 11 = .ok (.if_icmp .le 7, 3) := by decide +kernel
theorem dX7_isBound_14 : decode cX7_isBound 14 = .ok (.iconst 1, 1) := by decide +kernel
theorem dX7_isBound_15 : decode cX7_isBound 15 = .ok (.goto 4, 3) := by decide +kernel
theorem dX7_isBound_18 : decode cX7_isBound 18 = .ok (.iconst 0, 1) := by decide +kernel
theorem dX7_isBound_19 : decode cX7_isBound 19 = .ok (.ireturn, 1) := by decide +kernel
theorem dX7_candidate_0 : decode cX7_candidate 0 = .ok (.aload_n 0, 1) := by decide +kernel
theorem dX7_candidate_1 : decode cX7_candidate 1 = .ok (.getfield 9, 3) := by decide +kernel
theorem dX7_candidate_4 : decode cX7_candidate 4 = .ok (.sipush 711, 3) := by decide +kernel
theorem dX7_candidate_7 : decode cX7_candidate 7 = .ok (.iload_n 1, 1) := by decide +kernel
theorem dX7_candidate_8 : decode cX7_candidate 8 = .ok (.iadd, 1) := by decide +kernel
theorem dX7_candidate_9 : decode cX7_candidate 9 = .ok (.iaload, 1) := by decide +kernel
theorem dX7_candidate_10 : decode cX7_candidate 10 = .ok (.iconst 1, 1) := by decide +kernel
theorem dX7_candidate_11 : decode cX7_candidate 11 = .ok (.isub, 1) := by decide +kernel
theorem dX7_candidate_12 : decode cX7_candidate 12 = .ok (.istore 4, 2) := by decide +kernel
theorem dX7_candidate_14 : decode cX7_candidate 14 = .ok (.iload 4, 2) := by decide +kernel
theorem dX7_candidate_16 : decode cX7_candidate 16 = .ok (.ifCond .lt 16, 3) := by decide +kernel
theorem dX7_candidate_19 : decode cX7_candidate 19 = .ok (.aload_n 0, 1) := by decide +kernel
theorem dX7_candidate_20 : decode cX7_candidate 20 = .ok (.iload 4, 2) := by decide +kernel
theorem dX7_candidate_22 : decode cX7_candidate 22 = .ok (.iload_n 2, 1) := by decide +kernel
theorem dX7_candidate_23 : decode cX7_candidate 23 = .ok (.invokevirtual 53, 3) := by decide +kernel
theorem dX7_candidate_26 : decode cX7_candidate 26 = .ok (.ifCond .eq 6, 3) := by decide +kernel
theorem dX7_candidate_29 : decode cX7_candidate 29 = .ok (.iload 4, 2) := by decide +kernel
theorem dX7_candidate_31 : decode cX7_candidate 31 = .ok (.ireturn, 1) := by decide +kernel
theorem dX7_candidate_32 : decode cX7_candidate 32 = .ok (.iload_n 3, 1) := by decide +kernel
theorem dX7_candidate_33 : decode cX7_candidate 33 = .ok (.invokestatic 44, 3) := by decide +kernel
theorem dX7_candidate_36 : decode cX7_candidate 36 = .ok (.ifCond .eq 14, 3) := by decide +kernel
theorem dX7_candidate_39 : decode cX7_candidate 39 = .ok (.aload_n 0, 1) := by decide +kernel
theorem dX7_candidate_40 : decode cX7_candidate 40 = .ok (.iload_n 3, 1) := by decide +kernel
theorem dX7_candidate_41 : decode cX7_candidate 41 = .ok (.iload_n 2, 1) := by decide +kernel
theorem dX7_candidate_42 : decode cX7_candidate 42 = .ok (.invokevirtual 53, 3) := by decide +kernel
theorem dX7_candidate_45 : decode cX7_candidate 45 = .ok (.ifCond .eq 5, 3) := by decide +kernel
theorem dX7_candidate_48 : decode cX7_candidate 48 = .ok (.iload_n 3, 1) := by decide +kernel
theorem dX7_candidate_49 : decode cX7_candidate 49 = .ok (.ireturn, 1) := by decide +kernel
theorem dX7_candidate_50 : decode cX7_candidate 50 = .ok (.iconst (-1), 1) := by decide +kernel
theorem dX7_candidate_51 : decode cX7_candidate 51 = .ok (.istore 5, 2) := by decide +kernel
theorem dX7_candidate_53 : decode cX7_candidate 53 = .ok (.iconst 0, 1) := by decide +kernel
theorem dX7_candidate_54 : decode cX7_candidate 54 = .ok (.istore 6, 2) := by decide +kernel
theorem dX7_candidate_56 : decode cX7_candidate 56 = .ok (.iload 6, 2) := by decide +kernel
theorem dX7_candidate_58 : decode cX7_candidate 58 = .ok (.bipush 100, 2) := by decide +kernel
theorem dX7_candidate_60 : decode cX7_candidate 60 = .ok (.if_icmp .ge 53, 3) := by decide +kernel
theorem dX7_candidate_63 : decode cX7_candidate 63 = .ok (.aload_n 0, 1) := by decide +kernel
theorem dX7_candidate_64 : decode cX7_candidate 64 = .ok (.iload 6, 2) := by decide +kernel
theorem dX7_candidate_66 : decode cX7_candidate 66 = .ok (.iload_n 2, 1) := by decide +kernel
theorem dX7_candidate_67 : decode cX7_candidate 67 = .ok (.invokevirtual 53, 3) := by decide +kernel
theorem dX7_candidate_70 : decode cX7_candidate 70 = .ok (.ifCond .eq 37, 3) := by decide +kernel
theorem dX7_candidate_73 : decode cX7_candidate 73 = .ok (.iload 5, 2) := by decide +kernel
theorem dX7_candidate_75 : decode cX7_candidate 75 = .ok (.ifCond .lt 28, 3) := by decide +kernel
theorem dX7_candidate_78 : decode cX7_candidate 78 = .ok (.aload_n 0, 1) := by decide +kernel
theorem dX7_candidate_79 : decode cX7_candidate 79 = .ok (.getfield 9, 3) := by decide +kernel
theorem dX7_candidate_82 : decode cX7_candidate 82 = .ok (.sipush 531, 3) := by decide +kernel
theorem dX7_candidate_85 : decode cX7_candidate 85 = .ok (.iload 6, 2) := by decide +kernel
theorem dX7_candidate_87 : decode cX7_candidate 87 = .ok (.iadd, 1) := by decide +kernel
theorem dX7_candidate_88 : decode cX7_candidate 88 = .ok (.iaload, 1) := by decide +kernel
theorem dX7_candidate_89 : decode cX7_candidate 89 = .ok (.aload_n 0, 1) := by decide +kernel
theorem dX7_candidate_90 : decode cX7_candidate 90 = .ok (.getfield 9, 3) := by decide +kernel
theorem dX7_candidate_93 : decode cX7_candidate 93 = .ok (.sipush 531, 3) := by decide +kernel
theorem dX7_candidate_96 : decode cX7_candidate 96 = .ok (.iload 5, 2) := by decide +kernel
theorem dX7_candidate_98 : decode cX7_candidate 98 = .ok (.iadd, 1) := by decide +kernel
theorem dX7_candidate_99 : decode cX7_candidate 99 = .ok (.iaload, 1) := by decide +kernel
theorem dX7_candidate_100 : decode cX7_candidate 100 = .ok (.if_icmp .ge 7, 3) := by decide +kernel
theorem dX7_candidate_103 : decode cX7_candidate 103 = .ok (.iload 6, 2) := by decide +kernel
theorem dX7_candidate_105 : decode cX7_candidate 105 = .ok (.istore 5, 2) := by decide +kernel
theorem dX7_candidate_107 : decode cX7_candidate 107 = .ok (.iinc 6 1, 3) := by decide +kernel
theorem dX7_candidate_110 : decode cX7_candidate 110 = .ok (.goto (-54), 3) := by decide +kernel
theorem dX7_candidate_113 : decode cX7_candidate 113 = .ok (.iload 5, 2) := by decide +kernel
theorem dX7_candidate_115 : decode cX7_candidate 115 = .ok (.ireturn, 1) := by decide +kernel
theorem dX7_discover_0 : decode cX7_discover 0 = .ok (.aload_n 0, 1) := by decide +kernel
theorem dX7_discover_1 : decode cX7_discover 1 = .ok (.iconst 0, 1) := by decide +kernel
theorem dX7_discover_2 : decode cX7_discover 2 = .ok (.putfield 19, 3) := by decide +kernel
theorem dX7_discover_5 : decode cX7_discover 5 = .ok (.iload_n 1, 1) := by decide +kernel
theorem dX7_discover_6 : decode cX7_discover 6 = .ok (.invokestatic 65, 3) := by decide +kernel
theorem dX7_discover_9 : decode cX7_discover 9 = .ok (.ifCond .eq 10, 3) := by decide +kernel
theorem dX7_discover_12 : decode cX7_discover 12 = .ok (.iload_n 2, 1) := by decide +kernel
theorem dX7_discover_13 : decode cX7_discover 13 = .ok (.invokestatic 37, 3) := by decide +kernel
theorem dX7_discover_16 : decode cX7_discover 16 = .ok (.ifCond .ne 9, 3) := by decide +kernel
theorem dX7_discover_19 : decode cX7_discover 19 = .ok (.aload_n 0, 1) := by decide +kernel
theorem dX7_discover_20 : decode cX7_discover 20 = .ok (.iconst 1, 1) := by decide +kernel
theorem dX7_discover_21 : decode cX7_discover 21 = .ok (.invokevirtual 41, 3) := by decide +kernel
theorem dX7_discover_24 : decode cX7_discover 24 = .ok (.ireturn, 1) := by decide +kernel
theorem dX7_discover_25 : decode cX7_discover 25 = .ok (.aload_n 0, 1) := by decide +kernel
theorem dX7_discover_26 : decode cX7_discover 26 = .ok (.iload_n 1, 1) := by decide +kernel
theorem dX7_discover_27 : decode cX7_discover 27 = .ok (.invokevirtual 68, 3) := by decide +kernel
theorem dX7_discover_30 : decode cX7_discover 30 = .ok (.ifCond .ne 15, 3) := by decide +kernel
theorem dX7_discover_33 : decode cX7_discover 33 = .ok (.aload_n 0, 1) := by decide +kernel
theorem dX7_discover_34 : decode cX7_discover 34 = .ok (.getfield 9, 3) := by decide +kernel
theorem dX7_discover_37 : decode cX7_discover 37 = .ok (.bipush 28, 2) := by decide +kernel
theorem dX7_discover_39 : decode cX7_discover 39 = .ok (.iload_n 2, 1) := by decide +kernel
theorem dX7_discover_40 : decode cX7_discover 40 = .ok (.iadd, 1) := by decide +kernel
theorem dX7_discover_41 : decode cX7_discover 41 = .ok (.iaload, 1) := by decide +kernel
theorem dX7_discover_42 : decode cX7_discover 42 = .ok (.ifCond .ne 9, 3) := by decide +kernel
theorem dX7_discover_45 : decode cX7_discover 45 = .ok (.aload_n 0, 1) := by decide +kernel
theorem dX7_discover_46 : decode cX7_discover 46 = .ok (.iconst 2, 1) := by decide +kernel
theorem dX7_discover_47 : decode cX7_discover 47 = .ok (.invokevirtual 41, 3) := by decide +kernel
theorem dX7_discover_50 : decode cX7_discover 50 = .ok (.ireturn, 1) := by decide +kernel
theorem dX7_discover_51 : decode cX7_discover 51 = .ok (.aload_n 0, 1) := by decide +kernel
theorem dX7_discover_52 : decode cX7_discover 52 = .ok (.getfield 9, 3) := by decide +kernel
theorem dX7_discover_55 : decode cX7_discover 55 = .ok (.sipush 631, 3) := by decide +kernel
theorem dX7_discover_58 : decode cX7_discover 58 = .ok (.iload_n 1, 1) := by decide +kernel
theorem dX7_discover_59 : decode cX7_discover 59 = .ok (.iadd, 1) := by decide +kernel
theorem dX7_discover_60 : decode cX7_discover 60 = .ok (.iaload, 1) := by decide +kernel
theorem dX7_discover_61 : decode cX7_discover 61 = .ok (.iconst 1, 1) := by decide +kernel
theorem dX7_discover_62 : decode cX7_discover 62 = .ok (.if_icmp .ne 23, 3) := by decide +kernel
theorem dX7_discover_65 : decode cX7_discover 65 = .ok (.aload_n 0, 1) := by decide +kernel
theorem dX7_discover_66 : decode cX7_discover 66 = .ok (.aload_n 0, 1) := by decide +kernel
theorem dX7_discover_67 : decode cX7_discover 67 = .ok (.getfield 9, 3) := by decide +kernel
theorem dX7_discover_70 : decode cX7_discover 70 = .ok (.sipush 651, 3) := by decide +kernel
theorem dX7_discover_73 : decode cX7_discover 73 = .ok (.iload_n 1, 1) := by decide +kernel
theorem dX7_discover_74 : decode cX7_discover 74 = .ok (.iadd, 1) := by decide +kernel
theorem dX7_discover_75 : decode cX7_discover 75 = .ok (.iaload, 1) := by decide +kernel
theorem dX7_discover_76 : decode cX7_discover 76 = .ok (.aload_n 0, 1) := by decide +kernel
theorem dX7_discover_77 : decode cX7_discover 77 = .ok (.getfield 9, 3) := by decide +kernel
theorem dX7_discover_80 : decode cX7_discover 80 = .ok (.iconst 0, 1) := by decide +kernel
theorem dX7_discover_81 : decode cX7_discover 81 = .ok (.iaload, 1) := by decide +kernel
theorem dX7_discover_82 : decode cX7_discover 82 = .ok (.invokevirtual 71, 3) := by decide +kernel
theorem dX7_discover_85 : decode cX7_discover 85 = .ok (.aload_n 0, 1) := by decide +kernel
theorem dX7_discover_86 : decode cX7_discover 86 = .ok (.getfield 9, 3) := by decide +kernel
theorem dX7_discover_89 : decode cX7_discover 89 = .ok (.sipush 631, 3) := by decide +kernel
theorem dX7_discover_92 : decode cX7_discover 92 = .ok (.iload_n 1, 1) := by decide +kernel
theorem dX7_discover_93 : decode cX7_discover 93 = .ok (.iadd, 1) := by decide +kernel
theorem dX7_discover_94 : decode cX7_discover 94 = .ok (.iconst 0, 1) := by decide +kernel
theorem dX7_discover_95 : decode cX7_discover 95 = .ok (.iastore, 1) := by decide +kernel
theorem dX7_discover_96 : decode cX7_discover 96 = .ok (.aload_n 0, 1) := by decide +kernel
theorem dX7_discover_97 : decode cX7_discover 97 = .ok (.iload_n 1, 1) := by decide +kernel
theorem dX7_discover_98 : decode cX7_discover 98 = .ok (.iload_n 2, 1) := by decide +kernel
theorem dX7_discover_99 : decode cX7_discover 99 = .ok (.iload_n 3, 1) := by decide +kernel
theorem dX7_discover_100 : decode cX7_discover 100 = .ok (.invokevirtual 75, 3) := by decide +kernel
theorem dX7_discover_103 : decode cX7_discover 103 = .ok (.istore 4, 2) := by decide +kernel
theorem dX7_discover_105 : decode cX7_discover 105 = .ok (.iload 4, 2) := by decide +kernel
theorem dX7_discover_107 : decode cX7_discover 107 = .ok (.ifCond .lt 54, 3) := by decide +kernel
theorem dX7_discover_110 : decode cX7_discover 110 = .ok (.aload_n 0, 1) := by decide +kernel
theorem dX7_discover_111 : decode cX7_discover 111 = .ok (.getfield 9, 3) := by decide +kernel
theorem dX7_discover_114 : decode cX7_discover 114 = .ok (.sipush 131, 3) := by decide +kernel
theorem dX7_discover_117 : decode cX7_discover 117 = .ok (.iload 4, 2) := by decide +kernel
theorem dX7_discover_119 : decode cX7_discover 119 = .ok (.iadd, 1) := by decide +kernel
theorem dX7_discover_120 : decode cX7_discover 120 = .ok (.iaload, 1) := by decide +kernel
theorem dX7_discover_121 : decode cX7_discover 121 = .ok (.iconst 1, 1) := by decide +kernel
theorem dX7_discover_122 : decode cX7_discover 122 = .ok (.if_icmp .ne 39, 3) := by decide +kernel
theorem dX7_discover_125 : decode cX7_discover 125 = .ok (.aload_n 0, 1) := by decide +kernel
theorem dX7_discover_126 : decode cX7_discover 126 = .ok (.iload 4, 2) := by decide +kernel
theorem dX7_discover_128 : decode cX7_discover 128 = .ok (.invokevirtual 79, 3) := by decide +kernel
theorem dX7_discover_131 : decode cX7_discover 131 = .ok (.aload_n 0, 1) := by decide +kernel
theorem dX7_discover_132 : decode cX7_discover 132 = .ok (.getfield 9, 3) := by decide +kernel
theorem dX7_discover_135 : decode cX7_discover 135 = .ok (.iconst 3, 1) := by decide +kernel
theorem dX7_discover_136 : decode cX7_discover 136 = .ok (.dup2, 1) := by decide +kernel
theorem dX7_discover_137 : decode cX7_discover 137 = .ok (.iaload, 1) := by decide +kernel
theorem dX7_discover_138 : decode cX7_discover 138 = .ok (.iconst 1, 1) := by decide +kernel
theorem dX7_discover_139 : decode cX7_discover 139 = .ok (.iadd, 1) := by decide +kernel
theorem dX7_discover_140 : decode cX7_discover 140 = .ok (.iastore, 1) := by decide +kernel
theorem dX7_discover_141 : decode cX7_discover 141 = .ok (.aload_n 0, 1) := by decide +kernel
theorem dX7_discover_142 : decode cX7_discover 142 = .ok (.bipush 8, 2) := by decide +kernel
theorem dX7_discover_144 : decode cX7_discover 144 = .ok (.iload 4, 2) := by decide +kernel
theorem dX7_discover_146 : decode cX7_discover 146 = .ok (.invokevirtual 83, 3) := by decide +kernel
theorem dX7_discover_149 : decode cX7_discover 149 = .ok (.aload_n 0, 1) := by decide +kernel
theorem dX7_discover_150 : decode cX7_discover 150 = .ok (.iload_n 1, 1) := by decide +kernel
theorem dX7_discover_151 : decode cX7_discover 151 = .ok (.iload_n 2, 1) := by decide +kernel
theorem dX7_discover_152 : decode cX7_discover 152 = .ok (.iload_n 3, 1) := by decide +kernel
theorem dX7_discover_153 : decode cX7_discover 153 = .ok (.invokevirtual 75, 3) := by decide +kernel
theorem dX7_discover_156 : decode cX7_discover 156 = .ok (.istore 4, 2) := by decide +kernel
theorem dX7_discover_158 : decode cX7_discover 158 = .ok (.goto (-53), 3) := by decide +kernel
theorem dX7_discover_161 : decode cX7_discover 161 = .ok (.iload 4, 2) := by decide +kernel
theorem dX7_discover_163 : decode cX7_discover 163 = .ok (.ifCond .ge 9, 3) := by decide +kernel
theorem dX7_discover_166 : decode cX7_discover 166 = .ok (.aload_n 0, 1) := by decide +kernel
theorem dX7_discover_167 : decode cX7_discover 167 = .ok (.iconst 3, 1) := by decide +kernel
theorem dX7_discover_168 : decode cX7_discover 168 = .ok (.invokevirtual 41, 3) := by decide +kernel
theorem dX7_discover_171 : decode cX7_discover 171 = .ok (.ireturn, 1) := by decide +kernel
theorem dX7_discover_172 : decode cX7_discover 172 = .ok (.aload_n 0, 1) := by decide +kernel
theorem dX7_discover_173 : decode cX7_discover 173 = .ok (.getfield 9, 3) := by decide +kernel
theorem dX7_discover_176 : decode cX7_discover 176 = .ok (.sipush 231, 3) := by decide +kernel
theorem dX7_discover_179 : decode cX7_discover 179 = .ok (.iload 4, 2) := by decide +kernel
theorem dX7_discover_181 : decode cX7_discover 181 = .ok (.iadd, 1) := by decide +kernel
theorem dX7_discover_182 : decode cX7_discover 182 = .ok (.iconst 1, 1) := by decide +kernel
theorem dX7_discover_183 : decode cX7_discover 183 = .ok (.iastore, 1) := by decide +kernel
theorem dX7_discover_184 : decode cX7_discover 184 = .ok (.aload_n 0, 1) := by decide +kernel
theorem dX7_discover_185 : decode cX7_discover 185 = .ok (.getfield 9, 3) := by decide +kernel
theorem dX7_discover_188 : decode cX7_discover 188 = .ok (.sipush 331, 3) := by decide +kernel
theorem dX7_discover_191 : decode cX7_discover 191 = .ok (.iload 4, 2) := by decide +kernel
theorem dX7_discover_193 : decode cX7_discover 193 = .ok (.iadd, 1) := by decide +kernel
theorem dX7_discover_194 : decode cX7_discover 194 = .ok (.iload_n 1, 1) := by decide +kernel
theorem dX7_discover_195 : decode cX7_discover 195 = .ok (.iastore, 1) := by decide +kernel
theorem dX7_discover_196 : decode cX7_discover 196 = .ok (.aload_n 0, 1) := by decide +kernel
theorem dX7_discover_197 : decode cX7_discover 197 = .ok (.getfield 9, 3) := by decide +kernel
theorem dX7_discover_200 : decode cX7_discover 200 = .ok (.sipush 431, 3) := by decide +kernel
theorem dX7_discover_203 : decode cX7_discover 203 = .ok (.iload 4, 2) := by decide +kernel
theorem dX7_discover_205 : decode cX7_discover 205 = .ok (.iadd, 1) := by decide +kernel
theorem dX7_discover_206 : decode cX7_discover 206 = .ok (.aload_n 0, 1) := by decide +kernel
theorem dX7_discover_207 : decode cX7_discover 207 = .ok (.getfield 9, 3) := by decide +kernel
theorem dX7_discover_210 : decode cX7_discover 210 = .ok (.iconst 0, 1) := by decide +kernel
theorem dX7_discover_211 : decode cX7_discover 211 = .ok (.iaload, 1) := by decide +kernel
theorem dX7_discover_212 : decode cX7_discover 212 = .ok (.aload_n 0, 1) := by decide +kernel
theorem dX7_discover_213 : decode cX7_discover 213 = .ok (.getfield 9, 3) := by decide +kernel
theorem dX7_discover_216 : decode cX7_discover 216 = .ok (.iconst 1, 1) := by decide +kernel
theorem dX7_discover_217 : decode cX7_discover 217 = .ok (.iaload, 1) := by decide +kernel
theorem dX7_discover_218 : decode cX7_discover 218 = .ok (.iadd, 1) := by decide +kernel
theorem dX7_discover_219 : decode cX7_discover 219 = .ok (.iastore, 1) := by decide +kernel
theorem dX7_discover_220 : decode cX7_discover 220 = .ok (.aload_n 0, 1) := by decide +kernel
theorem dX7_discover_221 : decode cX7_discover 221 = .ok (.getfield 9, 3) := by decide +kernel
theorem dX7_discover_224 : decode cX7_discover 224 = .ok (.sipush 631, 3) := by decide +kernel
theorem dX7_discover_227 : decode cX7_discover 227 = .ok (.iload_n 1, 1) := by decide +kernel
theorem dX7_discover_228 : decode cX7_discover 228 = .ok (.iadd, 1) := by decide +kernel
theorem dX7_discover_229 : decode cX7_discover 229 = .ok (.iconst 1, 1) := by decide +kernel
theorem dX7_discover_230 : decode cX7_discover 230 = .ok (.iastore, 1) := by decide +kernel
theorem dX7_discover_231 : decode cX7_discover 231 = .ok (.aload_n 0, 1) := by decide +kernel
theorem dX7_discover_232 : decode cX7_discover 232 = .ok (.getfield 9, 3) := by decide +kernel
theorem dX7_discover_235 : decode cX7_discover 235 = .ok (.sipush 651, 3) := by decide +kernel
theorem dX7_discover_238 : decode cX7_discover 238 = .ok (.iload_n 1, 1) := by decide +kernel
theorem dX7_discover_239 : decode cX7_discover 239 = .ok (.iadd, 1) := by decide +kernel
theorem dX7_discover_240 : decode cX7_discover 240 = .ok (.iload 4, 2) := by decide +kernel
theorem dX7_discover_242 : decode cX7_discover 242 = .ok (.iastore, 1) := by decide +kernel
theorem dX7_discover_243 : decode cX7_discover 243 = .ok (.aload_n 0, 1) := by decide +kernel
theorem dX7_discover_244 : decode cX7_discover 244 = .ok (.iconst 1, 1) := by decide +kernel
theorem dX7_discover_245 : decode cX7_discover 245 = .ok (.iload 4, 2) := by decide +kernel
theorem dX7_discover_247 : decode cX7_discover 247 = .ok (.invokevirtual 83, 3) := by decide +kernel
theorem dX7_discover_250 : decode cX7_discover 250 = .ok (.iload 4, 2) := by decide +kernel
theorem dX7_discover_252 : decode cX7_discover 252 = .ok (.ireturn, 1) := by decide +kernel
theorem dX7_lasts_0 : decode cX7_lasts 0 = .ok (.aload_n 0, 1) := by decide +kernel
theorem dX7_lasts_1 : decode cX7_lasts 1 = .ok (.getfield 9, 3) := by decide +kernel
theorem dX7_lasts_4 : decode cX7_lasts 4 = .ok (.sipush 651, 3) := by decide +kernel
theorem dX7_lasts_7 : decode cX7_lasts 7 = .ok (.iload_n 1, 1) := by decide +kernel
theorem dX7_lasts_8 : decode cX7_lasts 8 = .ok (.iadd, 1) := by decide +kernel
theorem dX7_lasts_9 : decode cX7_lasts 9 = .ok (.iaload, 1) := by decide +kernel
theorem dX7_lasts_10 : decode cX7_lasts 10 = .ok (.istore_n 3, 1) := by decide +kernel
theorem dX7_lasts_11 : decode cX7_lasts 11 = .ok (.aload_n 0, 1) := by decide +kernel
theorem dX7_lasts_12 : decode cX7_lasts 12 = .ok (.getfield 9, 3) := by decide +kernel
theorem dX7_lasts_15 : decode cX7_lasts 15 = .ok (.aload_n 0, 1) := by decide +kernel
theorem dX7_lasts_16 : decode cX7_lasts 16 = .ok (.aload_n 0, 1) := by decide +kernel
theorem dX7_lasts_17 : decode cX7_lasts 17 = .ok (.iload_n 3, 1) := by decide +kernel
theorem dX7_lasts_18 : decode cX7_lasts 18 = .ok (.invokevirtual 34, 3) := by decide +kernel
theorem dX7_lasts_21 : decode cX7_lasts 21 = .ok (.invokevirtual 30, 3) := by decide +kernel
theorem dX7_lasts_24 : decode cX7_lasts 24 = .ok (.iconst 3, 1) := by decide +kernel
theorem dX7_lasts_25 : decode cX7_lasts 25 = .ok (.iadd, 1) := by decide +kernel
theorem dX7_lasts_26 : decode cX7_lasts 26 = .ok (.iaload, 1) := by decide +kernel
theorem dX7_lasts_27 : decode cX7_lasts 27 = .ok (.istore 4, 2) := by decide +kernel
theorem dX7_lasts_29 : decode cX7_lasts 29 = .ok (.aload_n 0, 1) := by decide +kernel
theorem dX7_lasts_30 : decode cX7_lasts 30 = .ok (.getfield 9, 3) := by decide +kernel
theorem dX7_lasts_33 : decode cX7_lasts 33 = .ok (.sipush 631, 3) := by decide +kernel
theorem dX7_lasts_36 : decode cX7_lasts 36 = .ok (.iload_n 1, 1) := by decide +kernel
theorem dX7_lasts_37 : decode cX7_lasts 37 = .ok (.iadd, 1) := by decide +kernel
theorem dX7_lasts_38 : decode cX7_lasts 38 = .ok (.iconst 2, 1) := by decide +kernel
theorem dX7_lasts_39 : decode cX7_lasts 39 = .ok (.iastore, 1) := by decide +kernel
theorem dX7_lasts_40 : decode cX7_lasts 40 = .ok (.aload_n 0, 1) := by decide +kernel
theorem dX7_lasts_41 : decode cX7_lasts 41 = .ok (.getfield 9, 3) := by decide +kernel
theorem dX7_lasts_44 : decode cX7_lasts 44 = .ok (.sipush 671, 3) := by decide +kernel
theorem dX7_lasts_47 : decode cX7_lasts 47 = .ok (.iload_n 1, 1) := by decide +kernel
theorem dX7_lasts_48 : decode cX7_lasts 48 = .ok (.iadd, 1) := by decide +kernel
theorem dX7_lasts_49 : decode cX7_lasts 49 = .ok (.iload_n 2, 1) := by decide +kernel
theorem dX7_lasts_50 : decode cX7_lasts 50 = .ok (.iload 4, 2) := by decide +kernel
theorem dX7_lasts_52 : decode cX7_lasts 52 = .ok (.iconst 2, 1) := by decide +kernel
theorem dX7_lasts_53 : decode cX7_lasts 53 = .ok (.idiv, 1) := by decide +kernel
theorem dX7_lasts_54 : decode cX7_lasts 54 = .ok (.iadd, 1) := by decide +kernel
theorem dX7_lasts_55 : decode cX7_lasts 55 = .ok (.iastore, 1) := by decide +kernel
theorem dX7_lasts_56 : decode cX7_lasts 56 = .ok (.aload_n 0, 1) := by decide +kernel
theorem dX7_lasts_57 : decode cX7_lasts 57 = .ok (.getfield 9, 3) := by decide +kernel
theorem dX7_lasts_60 : decode cX7_lasts 60 = .ok (.sipush 691, 3) := by decide +kernel
theorem dX7_lasts_63 : decode cX7_lasts 63 = .ok (.iload_n 1, 1) := by decide +kernel
theorem dX7_lasts_64 : decode cX7_lasts 64 = .ok (.iadd, 1) := by decide +kernel
theorem dX7_lasts_65 : decode cX7_lasts 65 = .ok (.iload_n 2, 1) := by decide +kernel
theorem dX7_lasts_66 : decode cX7_lasts 66 = .ok (.bipush 7, 2) := by decide +kernel
theorem dX7_lasts_68 : decode cX7_lasts 68 = .ok (.iload 4, 2) := by decide +kernel
theorem dX7_lasts_70 : decode cX7_lasts 70 = .ok (.imul, 1) := by decide +kernel
theorem dX7_lasts_71 : decode cX7_lasts 71 = .ok (.bipush 8, 2) := by decide +kernel
theorem dX7_lasts_73 : decode cX7_lasts 73 = .ok (.idiv, 1) := by decide +kernel
theorem dX7_lasts_74 : decode cX7_lasts 74 = .ok (.iadd, 1) := by decide +kernel
theorem dX7_lasts_75 : decode cX7_lasts 75 = .ok (.iastore, 1) := by decide +kernel
theorem dX7_lasts_76 : decode cX7_lasts 76 = .ok (.aload_n 0, 1) := by decide +kernel
theorem dX7_lasts_77 : decode cX7_lasts 77 = .ok (.getfield 9, 3) := by decide +kernel
theorem dX7_lasts_80 : decode cX7_lasts 80 = .ok (.sipush 431, 3) := by decide +kernel
theorem dX7_lasts_83 : decode cX7_lasts 83 = .ok (.iload_n 3, 1) := by decide +kernel
theorem dX7_lasts_84 : decode cX7_lasts 84 = .ok (.iadd, 1) := by decide +kernel
theorem dX7_lasts_85 : decode cX7_lasts 85 = .ok (.iload_n 2, 1) := by decide +kernel
theorem dX7_lasts_86 : decode cX7_lasts 86 = .ok (.iload 4, 2) := by decide +kernel
theorem dX7_lasts_88 : decode cX7_lasts 88 = .ok (.iadd, 1) := by decide +kernel
theorem dX7_lasts_89 : decode cX7_lasts 89 = .ok (.iastore, 1) := by decide +kernel
theorem dX7_lasts_90 : decode cX7_lasts 90 = .ok (.return_, 1) := by decide +kernel
theorem dX7_accept_0 : decode cX7_accept 0 = .ok (.aload_n 0, 1) := by decide +kernel
theorem dX7_accept_1 : decode cX7_accept 1 = .ok (.iconst 0, 1) := by decide +kernel
theorem dX7_accept_2 : decode cX7_accept 2 = .ok (.putfield 19, 3) := by decide +kernel
theorem dX7_accept_5 : decode cX7_accept 5 = .ok (.iload_n 1, 1) := by decide +kernel
theorem dX7_accept_6 : decode cX7_accept 6 = .ok (.invokestatic 65, 3) := by decide +kernel
theorem dX7_accept_9 : decode cX7_accept 9 = .ok (.ifCond .ne 9, 3) := by decide +kernel
theorem dX7_accept_12 : decode cX7_accept 12 = .ok (.aload_n 0, 1) := by decide +kernel
theorem dX7_accept_13 : decode cX7_accept 13 = .ok (.iconst 1, 1) := by decide +kernel
theorem dX7_accept_14 : decode cX7_accept 14 = .ok (.invokevirtual 41, 3) := by decide +kernel
theorem dX7_accept_17 : decode cX7_accept 17 = .ok (.ireturn, 1) := by decide +kernel
theorem dX7_accept_18 : decode cX7_accept 18 = .ok (.aload_n 0, 1) := by decide +kernel
theorem dX7_accept_19 : decode cX7_accept 19 = .ok (.getfield 9, 3) := by decide +kernel
theorem dX7_accept_22 : decode cX7_accept 22 = .ok (.sipush 631, 3) := by decide +kernel
theorem dX7_accept_25 : decode cX7_accept 25 = .ok (.iload_n 1, 1) := by decide +kernel
theorem dX7_accept_26 : decode cX7_accept 26 = .ok (.iadd, 1) := by decide +kernel
theorem dX7_accept_27 : decode cX7_accept 27 = .ok (.iaload, 1) := by decide +kernel
theorem dX7_accept_28 : decode cX7_accept 28 = .ok (.iconst 1, 1) := by decide +kernel
theorem dX7_accept_29 : decode cX7_accept 29 = .ok (.if_icmp .eq 9, 3) := by decide +kernel
theorem dX7_accept_32 : decode cX7_accept 32 = .ok (.aload_n 0, 1) := by decide +kernel
theorem dX7_accept_33 : decode cX7_accept 33 = .ok (.iconst 2, 1) := by decide +kernel
theorem dX7_accept_34 : decode cX7_accept 34 = .ok (.invokevirtual 41, 3) := by decide +kernel
theorem dX7_accept_37 : decode cX7_accept 37 = .ok (.ireturn, 1) := by decide +kernel
theorem dX7_accept_38 : decode cX7_accept 38 = .ok (.aload_n 0, 1) := by decide +kernel
theorem dX7_accept_39 : decode cX7_accept 39 = .ok (.getfield 9, 3) := by decide +kernel
theorem dX7_accept_42 : decode cX7_accept 42 = .ok (.sipush 651, 3) := by decide +kernel
theorem dX7_accept_45 : decode cX7_accept 45 = .ok (.iload_n 1, 1) := by decide +kernel
theorem dX7_accept_46 : decode cX7_accept 46 = .ok (.iadd, 1) := by decide +kernel
theorem dX7_accept_47 : decode cX7_accept 47 = .ok (.iaload, 1) := by decide +kernel
theorem dX7_accept_48 : decode cX7_accept 48 = .ok (.istore_n 2, 1) := by decide +kernel
theorem dX7_accept_49 : decode cX7_accept 49 = .ok (.aload_n 0, 1) := by decide +kernel
theorem dX7_accept_50 : decode cX7_accept 50 = .ok (.getfield 9, 3) := by decide +kernel
theorem dX7_accept_53 : decode cX7_accept 53 = .ok (.bipush 28, 2) := by decide +kernel
theorem dX7_accept_55 : decode cX7_accept 55 = .ok (.aload_n 0, 1) := by decide +kernel
theorem dX7_accept_56 : decode cX7_accept 56 = .ok (.iload_n 2, 1) := by decide +kernel
theorem dX7_accept_57 : decode cX7_accept 57 = .ok (.invokevirtual 50, 3) := by decide +kernel
theorem dX7_accept_60 : decode cX7_accept 60 = .ok (.iadd, 1) := by decide +kernel
theorem dX7_accept_61 : decode cX7_accept 61 = .ok (.iaload, 1) := by decide +kernel
theorem dX7_accept_62 : decode cX7_accept 62 = .ok (.ifCond .ne 9, 3) := by decide +kernel
theorem dX7_accept_65 : decode cX7_accept 65 = .ok (.aload_n 0, 1) := by decide +kernel
theorem dX7_accept_66 : decode cX7_accept 66 = .ok (.iconst 3, 1) := by decide +kernel
theorem dX7_accept_67 : decode cX7_accept 67 = .ok (.invokevirtual 41, 3) := by decide +kernel
theorem dX7_accept_70 : decode cX7_accept 70 = .ok (.ireturn, 1) := by decide +kernel
theorem dX7_accept_71 : decode cX7_accept 71 = .ok (.aload_n 0, 1) := by decide +kernel
theorem dX7_accept_72 : decode cX7_accept 72 = .ok (.getfield 9, 3) := by decide +kernel
theorem dX7_accept_75 : decode cX7_accept 75 = .ok (.sipush 231, 3) := by decide +kernel
theorem dX7_accept_78 : decode cX7_accept 78 = .ok (.iload_n 2, 1) := by decide +kernel
theorem dX7_accept_79 : decode cX7_accept 79 = .ok (.iadd, 1) := by decide +kernel
theorem dX7_accept_80 : decode cX7_accept 80 = .ok (.iconst 2, 1) := by decide +kernel
theorem dX7_accept_81 : decode cX7_accept 81 = .ok (.iastore, 1) := by decide +kernel
theorem dX7_accept_82 : decode cX7_accept 82 = .ok (.aload_n 0, 1) := by decide +kernel
theorem dX7_accept_83 : decode cX7_accept 83 = .ok (.getfield 9, 3) := by decide +kernel
theorem dX7_accept_86 : decode cX7_accept 86 = .ok (.sipush 711, 3) := by decide +kernel
theorem dX7_accept_89 : decode cX7_accept 89 = .ok (.iload_n 1, 1) := by decide +kernel
theorem dX7_accept_90 : decode cX7_accept 90 = .ok (.iadd, 1) := by decide +kernel
theorem dX7_accept_91 : decode cX7_accept 91 = .ok (.iload_n 2, 1) := by decide +kernel
theorem dX7_accept_92 : decode cX7_accept 92 = .ok (.iconst 1, 1) := by decide +kernel
theorem dX7_accept_93 : decode cX7_accept 93 = .ok (.iadd, 1) := by decide +kernel
theorem dX7_accept_94 : decode cX7_accept 94 = .ok (.iastore, 1) := by decide +kernel
theorem dX7_accept_95 : decode cX7_accept 95 = .ok (.aload_n 0, 1) := by decide +kernel
theorem dX7_accept_96 : decode cX7_accept 96 = .ok (.iload_n 1, 1) := by decide +kernel
theorem dX7_accept_97 : decode cX7_accept 97 = .ok (.aload_n 0, 1) := by decide +kernel
theorem dX7_accept_98 : decode cX7_accept 98 = .ok (.getfield 9, 3) := by decide +kernel
theorem dX7_accept_101 : decode cX7_accept 101 = .ok (.iconst 0, 1) := by decide +kernel
theorem dX7_accept_102 : decode cX7_accept 102 = .ok (.iaload, 1) := by decide +kernel
theorem dX7_accept_103 : decode cX7_accept 103 = .ok (.invokevirtual 86, 3) := by decide +kernel
theorem dX7_accept_106 : decode cX7_accept 106 = .ok (.aload_n 0, 1) := by decide +kernel
theorem dX7_accept_107 : decode cX7_accept 107 = .ok (.iconst 2, 1) := by decide +kernel
theorem dX7_accept_108 : decode cX7_accept 108 = .ok (.iload_n 2, 1) := by decide +kernel
theorem dX7_accept_109 : decode cX7_accept 109 = .ok (.invokevirtual 83, 3) := by decide +kernel
theorem dX7_accept_112 : decode cX7_accept 112 = .ok (.iload_n 2, 1) := by decide +kernel
theorem dX7_accept_113 : decode cX7_accept 113 = .ok (.ireturn, 1) := by decide +kernel
theorem dX7_lacksLease_0 : decode cX7_lacksLease 0 = .ok (.iload_n 1, 1) := by decide +kernel
theorem dX7_lacksLease_1 : decode cX7_lacksLease 1 = .ok (.invokestatic 65, 3) := by decide +kernel
theorem dX7_lacksLease_4 : decode cX7_lacksLease 4 = .ok (.ifCond .ne 7, 3) := by decide +kernel
theorem dX7_lacksLease_7 : decode cX7_lacksLease 7 = .ok (.iconst 1, 1) := by decide +kernel
theorem dX7_lacksLease_8 : decode cX7_lacksLease 8 = .ok (.goto 16, 3) := by decide +kernel
theorem dX7_lacksLease_11 : decode cX7_lacksLease 11 = .ok (.aload_n 0, 1) := by decide +kernel
theorem dX7_lacksLease_12 : decode cX7_lacksLease 12 = .ok (.iload_n 1, 1) := by decide +kernel
theorem dX7_lacksLease_13 : decode cX7_lacksLease 13 = .ok (.invokevirtual 68, 3) := by decide +kernel
theorem dX7_lacksLease_16 : decode cX7_lacksLease 16 = .ok (.ifCond .eq 7, 3) := by decide +kernel
theorem dX7_lacksLease_19 : decode cX7_lacksLease 19 = .ok (.iconst 0, 1) := by decide +kernel
theorem dX7_lacksLease_20 : decode cX7_lacksLease 20 = .ok (.goto 4, 3) := by decide +kernel
theorem dX7_lacksLease_23 : decode cX7_lacksLease 23 = .ok (.iconst 2, 1) := by decide +kernel
theorem dX7_lacksLease_24 : decode cX7_lacksLease 24 = .ok (.ireturn, 1) := by decide +kernel
theorem dX7_release_0 : decode cX7_release 0 = .ok (.aload_n 0, 1) := by decide +kernel
theorem dX7_release_1 : decode cX7_release 1 = .ok (.aload_n 0, 1) := by decide +kernel
theorem dX7_release_2 : decode cX7_release 2 = .ok (.iload_n 1, 1) := by decide +kernel
theorem dX7_release_3 : decode cX7_release 3 = .ok (.invokevirtual 89, 3) := by decide +kernel
theorem dX7_release_6 : decode cX7_release 6 = .ok (.putfield 19, 3) := by decide +kernel
theorem dX7_release_9 : decode cX7_release 9 = .ok (.aload_n 0, 1) := by decide +kernel
theorem dX7_release_10 : decode cX7_release 10 = .ok (.getfield 19, 3) := by decide +kernel
theorem dX7_release_13 : decode cX7_release 13 = .ok (.ifCond .le 5, 3) := by decide +kernel
theorem dX7_release_16 : decode cX7_release 16 = .ok (.iconst 0, 1) := by decide +kernel
theorem dX7_release_17 : decode cX7_release 17 = .ok (.ireturn, 1) := by decide +kernel
theorem dX7_release_18 : decode cX7_release 18 = .ok (.aload_n 0, 1) := by decide +kernel
theorem dX7_release_19 : decode cX7_release 19 = .ok (.getfield 9, 3) := by decide +kernel
theorem dX7_release_22 : decode cX7_release 22 = .ok (.sipush 651, 3) := by decide +kernel
theorem dX7_release_25 : decode cX7_release 25 = .ok (.iload_n 1, 1) := by decide +kernel
theorem dX7_release_26 : decode cX7_release 26 = .ok (.iadd, 1) := by decide +kernel
theorem dX7_release_27 : decode cX7_release 27 = .ok (.iaload, 1) := by decide +kernel
theorem dX7_release_28 : decode cX7_release 28 = .ok (.istore_n 2, 1) := by decide +kernel
theorem dX7_release_29 : decode cX7_release 29 = .ok (.aload_n 0, 1) := by decide +kernel
theorem dX7_release_30 : decode cX7_release 30 = .ok (.iload_n 2, 1) := by decide +kernel
theorem dX7_release_31 : decode cX7_release 31 = .ok (.aload_n 0, 1) := by decide +kernel
theorem dX7_release_32 : decode cX7_release 32 = .ok (.getfield 9, 3) := by decide +kernel
theorem dX7_release_35 : decode cX7_release 35 = .ok (.iconst 0, 1) := by decide +kernel
theorem dX7_release_36 : decode cX7_release 36 = .ok (.iaload, 1) := by decide +kernel
theorem dX7_release_37 : decode cX7_release 37 = .ok (.invokevirtual 71, 3) := by decide +kernel
theorem dX7_release_40 : decode cX7_release 40 = .ok (.aload_n 0, 1) := by decide +kernel
theorem dX7_release_41 : decode cX7_release 41 = .ok (.getfield 9, 3) := by decide +kernel
theorem dX7_release_44 : decode cX7_release 44 = .ok (.sipush 631, 3) := by decide +kernel
theorem dX7_release_47 : decode cX7_release 47 = .ok (.iload_n 1, 1) := by decide +kernel
theorem dX7_release_48 : decode cX7_release 48 = .ok (.iadd, 1) := by decide +kernel
theorem dX7_release_49 : decode cX7_release 49 = .ok (.iconst 0, 1) := by decide +kernel
theorem dX7_release_50 : decode cX7_release 50 = .ok (.iastore, 1) := by decide +kernel
theorem dX7_release_51 : decode cX7_release 51 = .ok (.aload_n 0, 1) := by decide +kernel
theorem dX7_release_52 : decode cX7_release 52 = .ok (.bipush 6, 2) := by decide +kernel
theorem dX7_release_54 : decode cX7_release 54 = .ok (.iload_n 2, 1) := by decide +kernel
theorem dX7_release_55 : decode cX7_release 55 = .ok (.invokevirtual 83, 3) := by decide +kernel
theorem dX7_release_58 : decode cX7_release 58 = .ok (.iload_n 2, 1) := by decide +kernel
theorem dX7_release_59 : decode cX7_release 59 = .ok (.ireturn, 1) := by decide +kernel
theorem dX7_decline_0 : decode cX7_decline 0 = .ok (.aload_n 0, 1) := by decide +kernel
theorem dX7_decline_1 : decode cX7_decline 1 = .ok (.aload_n 0, 1) := by decide +kernel
theorem dX7_decline_2 : decode cX7_decline 2 = .ok (.iload_n 1, 1) := by decide +kernel
theorem dX7_decline_3 : decode cX7_decline 3 = .ok (.invokevirtual 89, 3) := by decide +kernel
theorem dX7_decline_6 : decode cX7_decline 6 = .ok (.putfield 19, 3) := by decide +kernel
theorem dX7_decline_9 : decode cX7_decline 9 = .ok (.aload_n 0, 1) := by decide +kernel
theorem dX7_decline_10 : decode cX7_decline 10 = .ok (.getfield 19, 3) := by decide +kernel
theorem dX7_decline_13 : decode cX7_decline 13 = .ok (.ifCond .le 5, 3) := by decide +kernel
theorem dX7_decline_16 : decode cX7_decline 16 = .ok (.iconst 0, 1) := by decide +kernel
theorem dX7_decline_17 : decode cX7_decline 17 = .ok (.ireturn, 1) := by decide +kernel
theorem dX7_decline_18 : decode cX7_decline 18 = .ok (.aload_n 0, 1) := by decide +kernel
theorem dX7_decline_19 : decode cX7_decline 19 = .ok (.getfield 9, 3) := by decide +kernel
theorem dX7_decline_22 : decode cX7_decline 22 = .ok (.sipush 651, 3) := by decide +kernel
theorem dX7_decline_25 : decode cX7_decline 25 = .ok (.iload_n 1, 1) := by decide +kernel
theorem dX7_decline_26 : decode cX7_decline 26 = .ok (.iadd, 1) := by decide +kernel
theorem dX7_decline_27 : decode cX7_decline 27 = .ok (.iaload, 1) := by decide +kernel
theorem dX7_decline_28 : decode cX7_decline 28 = .ok (.istore_n 2, 1) := by decide +kernel
theorem dX7_decline_29 : decode cX7_decline 29 = .ok (.aload_n 0, 1) := by decide +kernel
theorem dX7_decline_30 : decode cX7_decline 30 = .ok (.iload_n 2, 1) := by decide +kernel
theorem dX7_decline_31 : decode cX7_decline 31 = .ok (.invokevirtual 79, 3) := by decide +kernel
theorem dX7_decline_34 : decode cX7_decline 34 = .ok (.aload_n 0, 1) := by decide +kernel
theorem dX7_decline_35 : decode cX7_decline 35 = .ok (.getfield 9, 3) := by decide +kernel
theorem dX7_decline_38 : decode cX7_decline 38 = .ok (.sipush 631, 3) := by decide +kernel
theorem dX7_decline_41 : decode cX7_decline 41 = .ok (.iload_n 1, 1) := by decide +kernel
theorem dX7_decline_42 : decode cX7_decline 42 = .ok (.iadd, 1) := by decide +kernel
theorem dX7_decline_43 : decode cX7_decline 43 = .ok (.iconst 0, 1) := by decide +kernel
theorem dX7_decline_44 : decode cX7_decline 44 = .ok (.iastore, 1) := by decide +kernel
theorem dX7_decline_45 : decode cX7_decline 45 = .ok (.aload_n 0, 1) := by decide +kernel
theorem dX7_decline_46 : decode cX7_decline 46 = .ok (.getfield 9, 3) := by decide +kernel
theorem dX7_decline_49 : decode cX7_decline 49 = .ok (.sipush 711, 3) := by decide +kernel
theorem dX7_decline_52 : decode cX7_decline 52 = .ok (.iload_n 1, 1) := by decide +kernel
theorem dX7_decline_53 : decode cX7_decline 53 = .ok (.iadd, 1) := by decide +kernel
theorem dX7_decline_54 : decode cX7_decline 54 = .ok (.iconst 0, 1) := by decide +kernel
theorem dX7_decline_55 : decode cX7_decline 55 = .ok (.iastore, 1) := by decide +kernel
theorem dX7_decline_56 : decode cX7_decline 56 = .ok (.aload_n 0, 1) := by decide +kernel
theorem dX7_decline_57 : decode cX7_decline 57 = .ok (.bipush 7, 2) := by decide +kernel
theorem dX7_decline_59 : decode cX7_decline 59 = .ok (.iload_n 2, 1) := by decide +kernel
theorem dX7_decline_60 : decode cX7_decline 60 = .ok (.invokevirtual 83, 3) := by decide +kernel
theorem dX7_decline_63 : decode cX7_decline 63 = .ok (.iload_n 2, 1) := by decide +kernel
theorem dX7_decline_64 : decode cX7_decline 64 = .ok (.ireturn, 1) := by decide +kernel
theorem dX7_renews_0 : decode cX7_renews 0 = .ok (.aload_n 0, 1) := by decide +kernel
theorem dX7_renews_1 : decode cX7_renews 1 = .ok (.getfield 9, 3) := by decide +kernel
theorem dX7_renews_4 : decode cX7_renews 4 = .ok (.sipush 651, 3) := by decide +kernel
theorem dX7_renews_7 : decode cX7_renews 7 = .ok (.iload_n 1, 1) := by decide +kernel
theorem dX7_renews_8 : decode cX7_renews 8 = .ok (.iadd, 1) := by decide +kernel
theorem dX7_renews_9 : decode cX7_renews 9 = .ok (.iaload, 1) := by decide +kernel
theorem dX7_renews_10 : decode cX7_renews 10 = .ok (.istore_n 3, 1) := by decide +kernel
theorem dX7_renews_11 : decode cX7_renews 11 = .ok (.aload_n 0, 1) := by decide +kernel
theorem dX7_renews_12 : decode cX7_renews 12 = .ok (.getfield 9, 3) := by decide +kernel
theorem dX7_renews_15 : decode cX7_renews 15 = .ok (.bipush 31, 2) := by decide +kernel
theorem dX7_renews_17 : decode cX7_renews 17 = .ok (.iload_n 3, 1) := by decide +kernel
theorem dX7_renews_18 : decode cX7_renews 18 = .ok (.iadd, 1) := by decide +kernel
theorem dX7_renews_19 : decode cX7_renews 19 = .ok (.iaload, 1) := by decide +kernel
theorem dX7_renews_20 : decode cX7_renews 20 = .ok (.iconst 1, 1) := by decide +kernel
theorem dX7_renews_21 : decode cX7_renews 21 = .ok (.if_icmp .ne 28, 3) := by decide +kernel
theorem dX7_renews_24 : decode cX7_renews 24 = .ok (.aload_n 0, 1) := by decide +kernel
theorem dX7_renews_25 : decode cX7_renews 25 = .ok (.iload_n 3, 1) := by decide +kernel
theorem dX7_renews_26 : decode cX7_renews 26 = .ok (.iload_n 2, 1) := by decide +kernel
theorem dX7_renews_27 : decode cX7_renews 27 = .ok (.invokevirtual 71, 3) := by decide +kernel
theorem dX7_renews_30 : decode cX7_renews 30 = .ok (.aload_n 0, 1) := by decide +kernel
theorem dX7_renews_31 : decode cX7_renews 31 = .ok (.getfield 9, 3) := by decide +kernel
theorem dX7_renews_34 : decode cX7_renews 34 = .ok (.sipush 631, 3) := by decide +kernel
theorem dX7_renews_37 : decode cX7_renews 37 = .ok (.iload_n 1, 1) := by decide +kernel
theorem dX7_renews_38 : decode cX7_renews 38 = .ok (.iadd, 1) := by decide +kernel
theorem dX7_renews_39 : decode cX7_renews 39 = .ok (.iconst 0, 1) := by decide +kernel
theorem dX7_renews_40 : decode cX7_renews 40 = .ok (.iastore, 1) := by decide +kernel
theorem dX7_renews_41 : decode cX7_renews 41 = .ok (.aload_n 0, 1) := by decide +kernel
theorem dX7_renews_42 : decode cX7_renews 42 = .ok (.iconst 4, 1) := by decide +kernel
theorem dX7_renews_43 : decode cX7_renews 43 = .ok (.iload_n 3, 1) := by decide +kernel
theorem dX7_renews_44 : decode cX7_renews 44 = .ok (.invokevirtual 83, 3) := by decide +kernel
theorem dX7_renews_47 : decode cX7_renews 47 = .ok (.iconst 0, 1) := by decide +kernel
theorem dX7_renews_48 : decode cX7_renews 48 = .ok (.ireturn, 1) := by decide +kernel
theorem dX7_renews_49 : decode cX7_renews 49 = .ok (.aload_n 0, 1) := by decide +kernel
theorem dX7_renews_50 : decode cX7_renews 50 = .ok (.iload_n 1, 1) := by decide +kernel
theorem dX7_renews_51 : decode cX7_renews 51 = .ok (.iload_n 2, 1) := by decide +kernel
theorem dX7_renews_52 : decode cX7_renews 52 = .ok (.invokevirtual 86, 3) := by decide +kernel
theorem dX7_renews_55 : decode cX7_renews 55 = .ok (.aload_n 0, 1) := by decide +kernel
theorem dX7_renews_56 : decode cX7_renews 56 = .ok (.iconst 3, 1) := by decide +kernel
theorem dX7_renews_57 : decode cX7_renews 57 = .ok (.iload_n 3, 1) := by decide +kernel
theorem dX7_renews_58 : decode cX7_renews 58 = .ok (.invokevirtual 83, 3) := by decide +kernel
theorem dX7_renews_61 : decode cX7_renews 61 = .ok (.iconst 1, 1) := by decide +kernel
theorem dX7_renews_62 : decode cX7_renews 62 = .ok (.ireturn, 1) := by decide +kernel
theorem dX7_renew_0 : decode cX7_renew 0 = .ok (.aload_n 0, 1) := by decide +kernel
theorem dX7_renew_1 : decode cX7_renew 1 = .ok (.aload_n 0, 1) := by decide +kernel
theorem dX7_renew_2 : decode cX7_renew 2 = .ok (.iload_n 1, 1) := by decide +kernel
theorem dX7_renew_3 : decode cX7_renew 3 = .ok (.invokevirtual 89, 3) := by decide +kernel
theorem dX7_renew_6 : decode cX7_renew 6 = .ok (.putfield 19, 3) := by decide +kernel
theorem dX7_renew_9 : decode cX7_renew 9 = .ok (.aload_n 0, 1) := by decide +kernel
theorem dX7_renew_10 : decode cX7_renew 10 = .ok (.getfield 19, 3) := by decide +kernel
theorem dX7_renew_13 : decode cX7_renew 13 = .ok (.ifCond .le 5, 3) := by decide +kernel
theorem dX7_renew_16 : decode cX7_renew 16 = .ok (.iconst 0, 1) := by decide +kernel
theorem dX7_renew_17 : decode cX7_renew 17 = .ok (.ireturn, 1) := by decide +kernel
theorem dX7_renew_18 : decode cX7_renew 18 = .ok (.aload_n 0, 1) := by decide +kernel
theorem dX7_renew_19 : decode cX7_renew 19 = .ok (.getfield 9, 3) := by decide +kernel
theorem dX7_renew_22 : decode cX7_renew 22 = .ok (.bipush 25, 2) := by decide +kernel
theorem dX7_renew_24 : decode cX7_renew 24 = .ok (.aload_n 0, 1) := by decide +kernel
theorem dX7_renew_25 : decode cX7_renew 25 = .ok (.aload_n 0, 1) := by decide +kernel
theorem dX7_renew_26 : decode cX7_renew 26 = .ok (.getfield 9, 3) := by decide +kernel
theorem dX7_renew_29 : decode cX7_renew 29 = .ok (.sipush 651, 3) := by decide +kernel
theorem dX7_renew_32 : decode cX7_renew 32 = .ok (.iload_n 1, 1) := by decide +kernel
theorem dX7_renew_33 : decode cX7_renew 33 = .ok (.iadd, 1) := by decide +kernel
theorem dX7_renew_34 : decode cX7_renew 34 = .ok (.iaload, 1) := by decide +kernel
theorem dX7_renew_35 : decode cX7_renew 35 = .ok (.invokevirtual 50, 3) := by decide +kernel
theorem dX7_renew_38 : decode cX7_renew 38 = .ok (.iadd, 1) := by decide +kernel
theorem dX7_renew_39 : decode cX7_renew 39 = .ok (.iaload, 1) := by decide +kernel
theorem dX7_renew_40 : decode cX7_renew 40 = .ok (.ifCond .ne 8, 3) := by decide +kernel
theorem dX7_renew_43 : decode cX7_renew 43 = .ok (.aload_n 0, 1) := by decide +kernel
theorem dX7_renew_44 : decode cX7_renew 44 = .ok (.iconst 3, 1) := by decide +kernel
theorem dX7_renew_45 : decode cX7_renew 45 = .ok (.putfield 19, 3) := by decide +kernel
theorem dX7_renew_48 : decode cX7_renew 48 = .ok (.aload_n 0, 1) := by decide +kernel
theorem dX7_renew_49 : decode cX7_renew 49 = .ok (.getfield 19, 3) := by decide +kernel
theorem dX7_renew_52 : decode cX7_renew 52 = .ok (.ifCond .ne 21, 3) := by decide +kernel
theorem dX7_renew_55 : decode cX7_renew 55 = .ok (.aload_n 0, 1) := by decide +kernel
theorem dX7_renew_56 : decode cX7_renew 56 = .ok (.iload_n 1, 1) := by decide +kernel
theorem dX7_renew_57 : decode cX7_renew 57 = .ok (.aload_n 0, 1) := by decide +kernel
theorem dX7_renew_58 : decode cX7_renew 58 = .ok (.getfield 9, 3) := by decide +kernel
theorem dX7_renew_61 : decode cX7_renew 61 = .ok (.iconst 0, 1) := by decide +kernel
theorem dX7_renew_62 : decode cX7_renew 62 = .ok (.iaload, 1) := by decide +kernel
theorem dX7_renew_63 : decode cX7_renew 63 = .ok (.invokevirtual 92, 3) := by decide +kernel
theorem dX7_renew_66 : decode cX7_renew 66 = .ok (.ifCond .eq 7, 3) := by decide +kernel
theorem dX7_renew_69 : decode cX7_renew 69 = .ok (.iconst 1, 1) := by decide +kernel
theorem dX7_renew_70 : decode cX7_renew 70 = .ok (.goto 4, 3) := by decide +kernel
theorem dX7_renew_73 : decode cX7_renew 73 = .ok (.iconst 0, 1) := by decide +kernel
theorem dX7_renew_74 : decode cX7_renew 74 = .ok (.ireturn, 1) := by decide +kernel
theorem dX7_stateOf_0 : decode cX7_stateOf 0 = .ok (.aload_n 0, 1) := by decide +kernel
theorem dX7_stateOf_1 : decode cX7_stateOf 1 = .ok (.iload_n 1, 1) := by decide +kernel
theorem dX7_stateOf_2 : decode cX7_stateOf 2 = .ok (.invokevirtual 34, 3) := by decide +kernel
theorem dX7_stateOf_5 : decode cX7_stateOf 5 = .ok (.ifCond .ge 7, 3) := by decide +kernel
theorem dX7_stateOf_8 : decode cX7_stateOf 8 = .ok (.iconst 0, 1) := by decide +kernel
theorem dX7_stateOf_9 : decode cX7_stateOf 9 = .ok (.goto 13, 3) := by decide +kernel
theorem dX7_stateOf_12 : decode cX7_stateOf 12 = .ok (.aload_n 0, 1) := by decide +kernel
theorem dX7_stateOf_13 : decode cX7_stateOf 13 = .ok (.getfield 9, 3) := by decide +kernel
theorem dX7_stateOf_16 : decode cX7_stateOf 16 = .ok (.sipush 231, 3) := by decide +kernel
theorem dX7_stateOf_19 : decode cX7_stateOf 19 = .ok (.iload_n 1, 1) := by decide +kernel
theorem dX7_stateOf_20 : decode cX7_stateOf 20 = .ok (.iadd, 1) := by decide +kernel
theorem dX7_stateOf_21 : decode cX7_stateOf 21 = .ok (.iaload, 1) := by decide +kernel
theorem dX7_stateOf_22 : decode cX7_stateOf 22 = .ok (.ireturn, 1) := by decide +kernel
theorem dX7_due_0 : decode cX7_due 0 = .ok (.aload_n 0, 1) := by decide +kernel
theorem dX7_due_1 : decode cX7_due 1 = .ok (.iload_n 1, 1) := by decide +kernel
theorem dX7_due_2 : decode cX7_due 2 = .ok (.invokevirtual 95, 3) := by decide +kernel
theorem dX7_due_5 : decode cX7_due 5 = .ok (.istore_n 2, 1) := by decide +kernel
theorem dX7_due_6 : decode cX7_due 6 = .ok (.iload_n 2, 1) := by decide +kernel
theorem dX7_due_7 : decode cX7_due 7 = .ok (.ifCond .ne 5, 3) := by decide +kernel
theorem dX7_due_10 : decode cX7_due 10 = .ok (.iconst (-1), 1) := by decide +kernel
theorem dX7_due_11 : decode cX7_due 11 = .ok (.ireturn, 1) := by decide +kernel
theorem dX7_due_12 : decode cX7_due 12 = .ok (.iload_n 2, 1) := by decide +kernel
theorem dX7_due_13 : decode cX7_due 13 = .ok (.iconst 2, 1) := by decide +kernel
theorem dX7_due_14 : decode cX7_due 14 = .ok (.if_icmp .eq 14, 3) := by decide +kernel
theorem dX7_due_17 : decode cX7_due 17 = .ok (.aload_n 0, 1) := by decide +kernel
theorem dX7_due_18 : decode cX7_due 18 = .ok (.getfield 9, 3) := by decide +kernel
theorem dX7_due_21 : decode cX7_due 21 = .ok (.sipush 431, 3) := by decide +kernel
theorem dX7_due_24 : decode cX7_due 24 = .ok (.iload_n 1, 1) := by decide +kernel
theorem dX7_due_25 : decode cX7_due 25 = .ok (.iadd, 1) := by decide +kernel
theorem dX7_due_26 : decode cX7_due 26 = .ok (.iaload, 1) := by decide +kernel
theorem dX7_due_27 : decode cX7_due 27 = .ok (.ireturn, 1) := by decide +kernel
theorem dX7_due_28 : decode cX7_due 28 = .ok (.aload_n 0, 1) := by decide +kernel
theorem dX7_due_29 : decode cX7_due 29 = .ok (.getfield 9, 3) := by decide +kernel
theorem dX7_due_32 : decode cX7_due 32 = .ok (.sipush 331, 3) := by decide +kernel
theorem dX7_due_35 : decode cX7_due 35 = .ok (.iload_n 1, 1) := by decide +kernel
theorem dX7_due_36 : decode cX7_due 36 = .ok (.iadd, 1) := by decide +kernel
theorem dX7_due_37 : decode cX7_due 37 = .ok (.iaload, 1) := by decide +kernel
theorem dX7_due_38 : decode cX7_due 38 = .ok (.istore_n 3, 1) := by decide +kernel
theorem dX7_due_39 : decode cX7_due 39 = .ok (.aload_n 0, 1) := by decide +kernel
theorem dX7_due_40 : decode cX7_due 40 = .ok (.getfield 9, 3) := by decide +kernel
theorem dX7_due_43 : decode cX7_due 43 = .ok (.sipush 631, 3) := by decide +kernel
theorem dX7_due_46 : decode cX7_due 46 = .ok (.iload_n 3, 1) := by decide +kernel
theorem dX7_due_47 : decode cX7_due 47 = .ok (.iadd, 1) := by decide +kernel
theorem dX7_due_48 : decode cX7_due 48 = .ok (.iaload, 1) := by decide +kernel
theorem dX7_due_49 : decode cX7_due 49 = .ok (.iconst 2, 1) := by decide +kernel
theorem dX7_due_50 : decode cX7_due 50 = .ok (.if_icmp .ne 16, 3) := by decide +kernel
theorem dX7_due_53 : decode cX7_due 53 = .ok (.aload_n 0, 1) := by decide +kernel
theorem dX7_due_54 : decode cX7_due 54 = .ok (.getfield 9, 3) := by decide +kernel
theorem dX7_due_57 : decode cX7_due 57 = .ok (.sipush 671, 3) := by decide +kernel
theorem dX7_due_60 : decode cX7_due 60 = .ok (.iload_n 3, 1) := by decide +kernel
theorem dX7_due_61 : decode cX7_due 61 = .ok (.iadd, 1) := by decide +kernel
theorem dX7_due_62 : decode cX7_due 62 = .ok (.iaload, 1) := by decide +kernel
theorem dX7_due_63 : decode cX7_due 63 = .ok (.goto 40, 3) := by decide +kernel
theorem dX7_due_66 : decode cX7_due 66 = .ok (.aload_n 0, 1) := by decide +kernel
theorem dX7_due_67 : decode cX7_due 67 = .ok (.getfield 9, 3) := by decide +kernel
theorem dX7_due_70 : decode cX7_due 70 = .ok (.sipush 631, 3) := by decide +kernel
theorem dX7_due_73 : decode cX7_due 73 = .ok (.iload_n 3, 1) := by decide +kernel
theorem dX7_due_74 : decode cX7_due 74 = .ok (.iadd, 1) := by decide +kernel
theorem dX7_due_75 : decode cX7_due 75 = .ok (.iaload, 1) := by decide +kernel
theorem dX7_due_76 : decode cX7_due 76 = .ok (.iconst 3, 1) := by decide +kernel
theorem dX7_due_77 : decode cX7_due 77 = .ok (.if_icmp .ne 16, 3) := by decide +kernel
theorem dX7_due_80 : decode cX7_due 80 = .ok (.aload_n 0, 1) := by decide +kernel
theorem dX7_due_81 : decode cX7_due 81 = .ok (.getfield 9, 3) := by decide +kernel
theorem dX7_due_84 : decode cX7_due 84 = .ok (.sipush 691, 3) := by decide +kernel
theorem dX7_due_87 : decode cX7_due 87 = .ok (.iload_n 3, 1) := by decide +kernel
theorem dX7_due_88 : decode cX7_due 88 = .ok (.iadd, 1) := by decide +kernel
theorem dX7_due_89 : decode cX7_due 89 = .ok (.iaload, 1) := by decide +kernel
theorem dX7_due_90 : decode cX7_due 90 = .ok (.goto 13, 3) := by decide +kernel
theorem dX7_due_93 : decode cX7_due 93 = .ok (.aload_n 0, 1) := by decide +kernel
theorem dX7_due_94 : decode cX7_due 94 = .ok (.getfield 9, 3) := by decide +kernel
theorem dX7_due_97 : decode cX7_due 97 = .ok (.sipush 431, 3) := by decide +kernel
theorem dX7_due_100 : decode cX7_due 100 = .ok (.iload_n 1, 1) := by decide +kernel
theorem dX7_due_101 : decode cX7_due 101 = .ok (.iadd, 1) := by decide +kernel
theorem dX7_due_102 : decode cX7_due 102 = .ok (.iaload, 1) := by decide +kernel
theorem dX7_due_103 : decode cX7_due 103 = .ok (.ireturn, 1) := by decide +kernel
theorem dX7_kind_0 : decode cX7_kind 0 = .ok (.aload_n 0, 1) := by decide +kernel
theorem dX7_kind_1 : decode cX7_kind 1 = .ok (.iload_n 1, 1) := by decide +kernel
theorem dX7_kind_2 : decode cX7_kind 2 = .ok (.invokevirtual 95, 3) := by decide +kernel
theorem dX7_kind_5 : decode cX7_kind 5 = .ok (.istore_n 2, 1) := by decide +kernel
theorem dX7_kind_6 : decode cX7_kind 6 = .ok (.iload_n 2, 1) := by decide +kernel
theorem dX7_kind_7 : decode cX7_kind 7 = .ok (.iconst 1, 1) := by decide +kernel
theorem dX7_kind_8 : decode cX7_kind 8 = .ok (.if_icmp .ne 7, 3) := by decide +kernel
theorem dX7_kind_11 : decode cX7_kind 11 = .ok (.iconst 0, 1) := by decide +kernel
theorem dX7_kind_12 : decode cX7_kind 12 = .ok (.goto 31, 3) := by decide +kernel
theorem dX7_kind_15 : decode cX7_kind 15 = .ok (.iload_n 2, 1) := by decide +kernel
theorem dX7_kind_16 : decode cX7_kind 16 = .ok (.iconst 3, 1) := by decide +kernel
theorem dX7_kind_17 : decode cX7_kind 17 = .ok (.if_icmp .ne 7, 3) := by decide +kernel
theorem dX7_kind_20 : decode cX7_kind 20 = .ok (.iconst 1, 1) := by decide +kernel
theorem dX7_kind_21 : decode cX7_kind 21 = .ok (.goto 22, 3) := by decide +kernel
theorem dX7_kind_24 : decode cX7_kind 24 = .ok (.aload_n 0, 1) := by decide +kernel
theorem dX7_kind_25 : decode cX7_kind 25 = .ok (.getfield 9, 3) := by decide +kernel
theorem dX7_kind_28 : decode cX7_kind 28 = .ok (.sipush 631, 3) := by decide +kernel
theorem dX7_kind_31 : decode cX7_kind 31 = .ok (.aload_n 0, 1) := by decide +kernel
theorem dX7_kind_32 : decode cX7_kind 32 = .ok (.getfield 9, 3) := by decide +kernel
theorem dX7_kind_35 : decode cX7_kind 35 = .ok (.sipush 331, 3) := by decide +kernel
theorem dX7_kind_38 : decode cX7_kind 38 = .ok (.iload_n 1, 1) := by decide +kernel
theorem dX7_kind_39 : decode cX7_kind 39 = .ok (.iadd, 1) := by decide +kernel
theorem dX7_kind_40 : decode cX7_kind 40 = .ok (.iaload, 1) := by decide +kernel
theorem dX7_kind_41 : decode cX7_kind 41 = .ok (.iadd, 1) := by decide +kernel
theorem dX7_kind_42 : decode cX7_kind 42 = .ok (.iaload, 1) := by decide +kernel
theorem dX7_kind_43 : decode cX7_kind 43 = .ok (.ireturn, 1) := by decide +kernel
theorem dX7_earliest_0 : decode cX7_earliest 0 = .ok (.iconst (-1), 1) := by decide +kernel
theorem dX7_earliest_1 : decode cX7_earliest 1 = .ok (.istore_n 1, 1) := by decide +kernel
theorem dX7_earliest_2 : decode cX7_earliest 2 = .ok (.iconst 0, 1) := by decide +kernel
theorem dX7_earliest_3 : decode cX7_earliest 3 = .ok (.istore_n 2, 1) := by decide +kernel
theorem dX7_earliest_4 : decode cX7_earliest 4 = .ok (.iload_n 2, 1) := by decide +kernel
theorem dX7_earliest_5 : decode cX7_earliest 5 = .ok (.bipush 100, 2) := by decide +kernel
theorem dX7_earliest_7 : decode cX7_earliest 7 = .ok (.if_icmp .ge 36, 3) := by decide +kernel
theorem dX7_earliest_10 : decode cX7_earliest 10 = .ok (.aload_n 0, 1) := by decide +kernel
theorem dX7_earliest_11 : decode cX7_earliest 11 = .ok (.iload_n 2, 1) := by decide +kernel
theorem dX7_earliest_12 : decode cX7_earliest 12 = .ok (.invokevirtual 98, 3) := by decide +kernel
theorem dX7_earliest_15 : decode cX7_earliest 15 = .ok (.ifCond .lt 22, 3) := by decide +kernel
theorem dX7_earliest_18 : decode cX7_earliest 18 = .ok (.iload_n 1, 1) := by decide +kernel
theorem dX7_earliest_19 : decode cX7_earliest 19 = .ok (.ifCond .lt 12, 3) := by decide +kernel
theorem dX7_earliest_22 : decode cX7_earliest 22 = .ok (.aload_n 0, 1) := by decide +kernel
theorem dX7_earliest_23 : decode cX7_earliest 23 = .ok (.iload_n 2, 1) := by decide +kernel
theorem dX7_earliest_24 : decode cX7_earliest 24 = .ok (.invokevirtual 98, 3) := by decide +kernel
theorem dX7_earliest_27 : decode cX7_earliest 27 = .ok (.iload_n 1, 1) := by decide +kernel
theorem dX7_earliest_28 : decode cX7_earliest 28 = .ok (.if_icmp .ge 9, 3) := by decide +kernel
theorem dX7_earliest_31 : decode cX7_earliest 31 = .ok (.aload_n 0, 1) := by decide +kernel
theorem dX7_earliest_32 : decode cX7_earliest 32 = .ok (.iload_n 2, 1) := by decide +kernel
theorem dX7_earliest_33 : decode cX7_earliest 33 = .ok (.invokevirtual 98, 3) := by decide +kernel
theorem dX7_earliest_36 : decode cX7_earliest 36 = .ok (.istore_n 1, 1) := by decide +kernel
theorem dX7_earliest_37 : decode cX7_earliest 37 = .ok (.iinc 2 1, 3) := by decide +kernel
theorem dX7_earliest_40 : decode cX7_earliest 40 = .ok (.goto (-36), 3) := by decide +kernel
theorem dX7_earliest_43 : decode cX7_earliest 43 = .ok (.iload_n 1, 1) := by decide +kernel
theorem dX7_earliest_44 : decode cX7_earliest 44 = .ok (.ireturn, 1) := by decide +kernel
theorem dX7_happens_0 : decode cX7_happens 0 = .ok (.aload_n 0, 1) := by decide +kernel
theorem dX7_happens_1 : decode cX7_happens 1 = .ok (.getfield 9, 3) := by decide +kernel
theorem dX7_happens_4 : decode cX7_happens 4 = .ok (.sipush 331, 3) := by decide +kernel
theorem dX7_happens_7 : decode cX7_happens 7 = .ok (.iload_n 1, 1) := by decide +kernel
theorem dX7_happens_8 : decode cX7_happens 8 = .ok (.iadd, 1) := by decide +kernel
theorem dX7_happens_9 : decode cX7_happens 9 = .ok (.iaload, 1) := by decide +kernel
theorem dX7_happens_10 : decode cX7_happens 10 = .ok (.istore_n 3, 1) := by decide +kernel
theorem dX7_happens_11 : decode cX7_happens 11 = .ok (.aload_n 0, 1) := by decide +kernel
theorem dX7_happens_12 : decode cX7_happens 12 = .ok (.iload_n 1, 1) := by decide +kernel
theorem dX7_happens_13 : decode cX7_happens 13 = .ok (.invokevirtual 101, 3) := by decide +kernel
theorem dX7_happens_16 : decode cX7_happens 16 = .ok (.tableswitch 150 0 3 #[32, 59, 68, 109], 32) := by decide +kernel
theorem dX7_happens_48 : decode cX7_happens 48 = .ok (.aload_n 0, 1) := by decide +kernel
theorem dX7_happens_49 : decode cX7_happens 49 = .ok (.iload_n 1, 1) := by decide +kernel
theorem dX7_happens_50 : decode cX7_happens 50 = .ok (.iload_n 2, 1) := by decide +kernel
theorem dX7_happens_51 : decode cX7_happens 51 = .ok (.invokevirtual 71, 3) := by decide +kernel
theorem dX7_happens_54 : decode cX7_happens 54 = .ok (.aload_n 0, 1) := by decide +kernel
theorem dX7_happens_55 : decode cX7_happens 55 = .ok (.getfield 9, 3) := by decide +kernel
theorem dX7_happens_58 : decode cX7_happens 58 = .ok (.sipush 631, 3) := by decide +kernel
theorem dX7_happens_61 : decode cX7_happens 61 = .ok (.iload_n 3, 1) := by decide +kernel
theorem dX7_happens_62 : decode cX7_happens 62 = .ok (.iadd, 1) := by decide +kernel
theorem dX7_happens_63 : decode cX7_happens 63 = .ok (.iconst 0, 1) := by decide +kernel
theorem dX7_happens_64 : decode cX7_happens 64 = .ok (.iastore, 1) := by decide +kernel
theorem dX7_happens_65 : decode cX7_happens 65 = .ok (.aload_n 0, 1) := by decide +kernel
theorem dX7_happens_66 : decode cX7_happens 66 = .ok (.bipush 9, 2) := by decide +kernel
theorem dX7_happens_68 : decode cX7_happens 68 = .ok (.iload_n 1, 1) := by decide +kernel
theorem dX7_happens_69 : decode cX7_happens 69 = .ok (.invokevirtual 83, 3) := by decide +kernel
theorem dX7_happens_72 : decode cX7_happens 72 = .ok (.goto 117, 3) := by decide +kernel
theorem dX7_happens_75 : decode cX7_happens 75 = .ok (.aload_n 0, 1) := by decide +kernel
theorem dX7_happens_76 : decode cX7_happens 76 = .ok (.iload_n 1, 1) := by decide +kernel
theorem dX7_happens_77 : decode cX7_happens 77 = .ok (.iload_n 2, 1) := by decide +kernel
theorem dX7_happens_78 : decode cX7_happens 78 = .ok (.invokevirtual 71, 3) := by decide +kernel
theorem dX7_happens_81 : decode cX7_happens 81 = .ok (.goto 108, 3) := by decide +kernel
theorem dX7_happens_84 : decode cX7_happens 84 = .ok (.aload_n 0, 1) := by decide +kernel
theorem dX7_happens_85 : decode cX7_happens 85 = .ok (.getfield 9, 3) := by decide +kernel
theorem dX7_happens_88 : decode cX7_happens 88 = .ok (.bipush 25, 2) := by decide +kernel
theorem dX7_happens_90 : decode cX7_happens 90 = .ok (.aload_n 0, 1) := by decide +kernel
theorem dX7_happens_91 : decode cX7_happens 91 = .ok (.iload_n 1, 1) := by decide +kernel
theorem dX7_happens_92 : decode cX7_happens 92 = .ok (.invokevirtual 50, 3) := by decide +kernel
theorem dX7_happens_95 : decode cX7_happens 95 = .ok (.iadd, 1) := by decide +kernel
theorem dX7_happens_96 : decode cX7_happens 96 = .ok (.iaload, 1) := by decide +kernel
theorem dX7_happens_97 : decode cX7_happens 97 = .ok (.iconst 1, 1) := by decide +kernel
theorem dX7_happens_98 : decode cX7_happens 98 = .ok (.if_icmp .ne 13, 3) := by decide +kernel
theorem dX7_happens_101 : decode cX7_happens 101 = .ok (.aload_n 0, 1) := by decide +kernel
theorem dX7_happens_102 : decode cX7_happens 102 = .ok (.iload_n 3, 1) := by decide +kernel
theorem dX7_happens_103 : decode cX7_happens 103 = .ok (.iload_n 2, 1) := by decide +kernel
theorem dX7_happens_104 : decode cX7_happens 104 = .ok (.invokevirtual 92, 3) := by decide +kernel
theorem dX7_happens_107 : decode cX7_happens 107 = .ok (.pop, 1) := by decide +kernel
theorem dX7_happens_108 : decode cX7_happens 108 = .ok (.goto 81, 3) := by decide +kernel
theorem dX7_happens_111 : decode cX7_happens 111 = .ok (.aload_n 0, 1) := by decide +kernel
theorem dX7_happens_112 : decode cX7_happens 112 = .ok (.getfield 9, 3) := by decide +kernel
theorem dX7_happens_115 : decode cX7_happens 115 = .ok (.sipush 631, 3) := by decide +kernel
theorem dX7_happens_118 : decode cX7_happens 118 = .ok (.iload_n 3, 1) := by decide +kernel
theorem dX7_happens_119 : decode cX7_happens 119 = .ok (.iadd, 1) := by decide +kernel
theorem dX7_happens_120 : decode cX7_happens 120 = .ok (.iconst 3, 1) := by decide +kernel
theorem dX7_happens_121 : decode cX7_happens 121 = .ok (.iastore, 1) := by decide +kernel
theorem dX7_happens_122 : decode cX7_happens 122 = .ok (.goto 67, 3) := by decide +kernel
theorem dX7_happens_125 : decode cX7_happens 125 = .ok (.aload_n 0, 1) := by decide +kernel
theorem dX7_happens_126 : decode cX7_happens 126 = .ok (.getfield 9, 3) := by decide +kernel
theorem dX7_happens_129 : decode cX7_happens 129 = .ok (.bipush 28, 2) := by decide +kernel
theorem dX7_happens_131 : decode cX7_happens 131 = .ok (.aload_n 0, 1) := by decide +kernel
theorem dX7_happens_132 : decode cX7_happens 132 = .ok (.iload_n 1, 1) := by decide +kernel
theorem dX7_happens_133 : decode cX7_happens 133 = .ok (.invokevirtual 50, 3) := by decide +kernel
theorem dX7_happens_136 : decode cX7_happens 136 = .ok (.iadd, 1) := by decide +kernel
theorem dX7_happens_137 : decode cX7_happens 137 = .ok (.iaload, 1) := by decide +kernel
theorem dX7_happens_138 : decode cX7_happens 138 = .ok (.iconst 1, 1) := by decide +kernel
theorem dX7_happens_139 : decode cX7_happens 139 = .ok (.if_icmp .ne 13, 3) := by decide +kernel
theorem dX7_happens_142 : decode cX7_happens 142 = .ok (.aload_n 0, 1) := by decide +kernel
theorem dX7_happens_143 : decode cX7_happens 143 = .ok (.iload_n 3, 1) := by decide +kernel
theorem dX7_happens_144 : decode cX7_happens 144 = .ok (.iload_n 2, 1) := by decide +kernel
theorem dX7_happens_145 : decode cX7_happens 145 = .ok (.invokevirtual 92, 3) := by decide +kernel
theorem dX7_happens_148 : decode cX7_happens 148 = .ok (.pop, 1) := by decide +kernel
theorem dX7_happens_149 : decode cX7_happens 149 = .ok (.goto 40, 3) := by decide +kernel
theorem dX7_happens_152 : decode cX7_happens 152 = .ok (.aload_n 0, 1) := by decide +kernel
theorem dX7_happens_153 : decode cX7_happens 153 = .ok (.getfield 9, 3) := by decide +kernel
theorem dX7_happens_156 : decode cX7_happens 156 = .ok (.sipush 631, 3) := by decide +kernel
theorem dX7_happens_159 : decode cX7_happens 159 = .ok (.iload_n 3, 1) := by decide +kernel
theorem dX7_happens_160 : decode cX7_happens 160 = .ok (.iadd, 1) := by decide +kernel
theorem dX7_happens_161 : decode cX7_happens 161 = .ok (.iconst 4, 1) := by decide +kernel
theorem dX7_happens_162 : decode cX7_happens 162 = .ok (.iastore, 1) := by decide +kernel
theorem dX7_happens_163 : decode cX7_happens 163 = .ok (.goto 26, 3) := by decide +kernel
theorem dX7_happens_166 : decode cX7_happens 166 = .ok (.aload_n 0, 1) := by decide +kernel
theorem dX7_happens_167 : decode cX7_happens 167 = .ok (.iload_n 1, 1) := by decide +kernel
theorem dX7_happens_168 : decode cX7_happens 168 = .ok (.iload_n 2, 1) := by decide +kernel
theorem dX7_happens_169 : decode cX7_happens 169 = .ok (.invokevirtual 71, 3) := by decide +kernel
theorem dX7_happens_172 : decode cX7_happens 172 = .ok (.aload_n 0, 1) := by decide +kernel
theorem dX7_happens_173 : decode cX7_happens 173 = .ok (.getfield 9, 3) := by decide +kernel
theorem dX7_happens_176 : decode cX7_happens 176 = .ok (.sipush 631, 3) := by decide +kernel
theorem dX7_happens_179 : decode cX7_happens 179 = .ok (.iload_n 3, 1) := by decide +kernel
theorem dX7_happens_180 : decode cX7_happens 180 = .ok (.iadd, 1) := by decide +kernel
theorem dX7_happens_181 : decode cX7_happens 181 = .ok (.iconst 0, 1) := by decide +kernel
theorem dX7_happens_182 : decode cX7_happens 182 = .ok (.iastore, 1) := by decide +kernel
theorem dX7_happens_183 : decode cX7_happens 183 = .ok (.aload_n 0, 1) := by decide +kernel
theorem dX7_happens_184 : decode cX7_happens 184 = .ok (.iconst 5, 1) := by decide +kernel
theorem dX7_happens_185 : decode cX7_happens 185 = .ok (.iload_n 1, 1) := by decide +kernel
theorem dX7_happens_186 : decode cX7_happens 186 = .ok (.invokevirtual 83, 3) := by decide +kernel
theorem dX7_happens_189 : decode cX7_happens 189 = .ok (.return_, 1) := by decide +kernel
theorem dX7_happen_0 : decode cX7_happen 0 = .ok (.iconst 0, 1) := by decide +kernel
theorem dX7_happen_1 : decode cX7_happen 1 = .ok (.istore_n 2, 1) := by decide +kernel
theorem dX7_happen_2 : decode cX7_happen 2 = .ok (.aload_n 0, 1) := by decide +kernel
theorem dX7_happen_3 : decode cX7_happen 3 = .ok (.getfield 9, 3) := by decide +kernel
theorem dX7_happen_6 : decode cX7_happen 6 = .ok (.iconst 0, 1) := by decide +kernel
theorem dX7_happen_7 : decode cX7_happen 7 = .ok (.iload_n 1, 1) := by decide +kernel
theorem dX7_happen_8 : decode cX7_happen 8 = .ok (.iastore, 1) := by decide +kernel
theorem dX7_happen_9 : decode cX7_happen 9 = .ok (.iconst 0, 1) := by decide +kernel
theorem dX7_happen_10 : decode cX7_happen 10 = .ok (.istore_n 3, 1) := by decide +kernel
theorem dX7_happen_11 : decode cX7_happen 11 = .ok (.iload_n 3, 1) := by decide +kernel
theorem dX7_happen_12 : decode cX7_happen 12 = .ok (.iconst 5, 1) := by decide +kernel
theorem dX7_happen_13 : decode cX7_happen 13 = .ok (.if_icmp .ge 58, 3) := by decide +kernel
theorem dX7_happen_16 : decode cX7_happen 16 = .ok (.iconst 0, 1) := by decide +kernel
theorem dX7_happen_17 : decode cX7_happen 17 = .ok (.istore 4, 2) := by decide +kernel
theorem dX7_happen_19 : decode cX7_happen 19 = .ok (.iload 4, 2) := by decide +kernel
theorem dX7_happen_21 : decode cX7_happen 21 = .ok (.bipush 100, 2) := by decide +kernel
theorem dX7_happen_23 : decode cX7_happen 23 = .ok (.if_icmp .ge 42, 3) := by decide +kernel
theorem dX7_happen_26 : decode cX7_happen 26 = .ok (.aload_n 0, 1) := by decide +kernel
theorem dX7_happen_27 : decode cX7_happen 27 = .ok (.iload 4, 2) := by decide +kernel
theorem dX7_happen_29 : decode cX7_happen 29 = .ok (.invokevirtual 98, 3) := by decide +kernel
theorem dX7_happen_32 : decode cX7_happen 32 = .ok (.iload_n 1, 1) := by decide +kernel
theorem dX7_happen_33 : decode cX7_happen 33 = .ok (.if_icmp .ne 26, 3) := by decide +kernel
theorem dX7_happen_36 : decode cX7_happen 36 = .ok (.aload_n 0, 1) := by decide +kernel
theorem dX7_happen_37 : decode cX7_happen 37 = .ok (.iload 4, 2) := by decide +kernel
theorem dX7_happen_39 : decode cX7_happen 39 = .ok (.invokevirtual 101, 3) := by decide +kernel
theorem dX7_happen_42 : decode cX7_happen 42 = .ok (.iload_n 3, 1) := by decide +kernel
theorem dX7_happen_43 : decode cX7_happen 43 = .ok (.if_icmp .eq 6, 3) := by decide +kernel
theorem dX7_happen_46 : decode cX7_happen 46 = .ok (.goto 13, 3) := by decide +kernel
theorem dX7_happen_49 : decode cX7_happen 49 = .ok (.aload_n 0, 1) := by decide +kernel
theorem dX7_happen_50 : decode cX7_happen 50 = .ok (.iload 4, 2) := by decide +kernel
theorem dX7_happen_52 : decode cX7_happen 52 = .ok (.iload_n 1, 1) := by decide +kernel
theorem dX7_happen_53 : decode cX7_happen 53 = .ok (.invokevirtual 104, 3) := by decide +kernel
theorem dX7_happen_56 : decode cX7_happen 56 = .ok (.iinc 2 1, 3) := by decide +kernel
theorem dX7_happen_59 : decode cX7_happen 59 = .ok (.iinc 4 1, 3) := by decide +kernel
theorem dX7_happen_62 : decode cX7_happen 62 = .ok (.goto (-43), 3) := by decide +kernel
theorem dX7_happen_65 : decode cX7_happen 65 = .ok (.iinc 3 1, 3) := by decide +kernel
theorem dX7_happen_68 : decode cX7_happen 68 = .ok (.goto (-57), 3) := by decide +kernel
theorem dX7_happen_71 : decode cX7_happen 71 = .ok (.iload_n 2, 1) := by decide +kernel
theorem dX7_happen_72 : decode cX7_happen 72 = .ok (.ireturn, 1) := by decide +kernel
theorem dX7_advance_0 : decode cX7_advance 0 = .ok (.aload_n 0, 1) := by decide +kernel
theorem dX7_advance_1 : decode cX7_advance 1 = .ok (.iconst 0, 1) := by decide +kernel
theorem dX7_advance_2 : decode cX7_advance 2 = .ok (.putfield 19, 3) := by decide +kernel
theorem dX7_advance_5 : decode cX7_advance 5 = .ok (.iload_n 1, 1) := by decide +kernel
theorem dX7_advance_6 : decode cX7_advance 6 = .ok (.iconst 1, 1) := by decide +kernel
theorem dX7_advance_7 : decode cX7_advance 7 = .ok (.sipush 2000, 3) := by decide +kernel
theorem dX7_advance_10 : decode cX7_advance 10 = .ok (.invokestatic 23, 3) := by decide +kernel
theorem dX7_advance_13 : decode cX7_advance 13 = .ok (.ifCond .ne 9, 3) := by decide +kernel
theorem dX7_advance_16 : decode cX7_advance 16 = .ok (.aload_n 0, 1) := by decide +kernel
theorem dX7_advance_17 : decode cX7_advance 17 = .ok (.iconst 1, 1) := by decide +kernel
theorem dX7_advance_18 : decode cX7_advance 18 = .ok (.invokevirtual 41, 3) := by decide +kernel
theorem dX7_advance_21 : decode cX7_advance 21 = .ok (.ireturn, 1) := by decide +kernel
theorem dX7_advance_22 : decode cX7_advance 22 = .ok (.aload_n 0, 1) := by decide +kernel
theorem dX7_advance_23 : decode cX7_advance 23 = .ok (.getfield 9, 3) := by decide +kernel
theorem dX7_advance_26 : decode cX7_advance 26 = .ok (.iconst 0, 1) := by decide +kernel
theorem dX7_advance_27 : decode cX7_advance 27 = .ok (.iaload, 1) := by decide +kernel
theorem dX7_advance_28 : decode cX7_advance 28 = .ok (.iload_n 1, 1) := by decide +kernel
theorem dX7_advance_29 : decode cX7_advance 29 = .ok (.iadd, 1) := by decide +kernel
theorem dX7_advance_30 : decode cX7_advance 30 = .ok (.ldc 107, 2) := by decide +kernel
theorem dX7_advance_32 : decode cX7_advance 32 = .ok (.if_icmp .le 9, 3) := by decide +kernel
theorem dX7_advance_35 : decode cX7_advance 35 = .ok (.aload_n 0, 1) := by decide +kernel
theorem dX7_advance_36 : decode cX7_advance 36 = .ok (.iconst 2, 1) := by decide +kernel
theorem dX7_advance_37 : decode cX7_advance 37 = .ok (.invokevirtual 41, 3) := by decide +kernel
theorem dX7_advance_40 : decode cX7_advance 40 = .ok (.ireturn, 1) := by decide +kernel
theorem dX7_advance_41 : decode cX7_advance 41 = .ok (.aload_n 0, 1) := by decide +kernel
theorem dX7_advance_42 : decode cX7_advance 42 = .ok (.getfield 9, 3) := by decide +kernel
theorem dX7_advance_45 : decode cX7_advance 45 = .ok (.iconst 0, 1) := by decide +kernel
theorem dX7_advance_46 : decode cX7_advance 46 = .ok (.iaload, 1) := by decide +kernel
theorem dX7_advance_47 : decode cX7_advance 47 = .ok (.iload_n 1, 1) := by decide +kernel
theorem dX7_advance_48 : decode cX7_advance 48 = .ok (.iadd, 1) := by decide +kernel
theorem dX7_advance_49 : decode cX7_advance 49 = .ok (.istore_n 2, 1) := by decide +kernel
theorem dX7_advance_50 : decode cX7_advance 50 = .ok (.iconst 0, 1) := by decide +kernel
theorem dX7_advance_51 : decode cX7_advance 51 = .ok (.istore_n 3, 1) := by decide +kernel
theorem dX7_advance_52 : decode cX7_advance 52 = .ok (.aload_n 0, 1) := by decide +kernel
theorem dX7_advance_53 : decode cX7_advance 53 = .ok (.invokevirtual 108, 3) := by decide +kernel
theorem dX7_advance_56 : decode cX7_advance 56 = .ok (.ifCond .lt 25, 3) := by decide +kernel
theorem dX7_advance_59 : decode cX7_advance 59 = .ok (.aload_n 0, 1) := by decide +kernel
theorem dX7_advance_60 : decode cX7_advance 60 = .ok (.invokevirtual 108, 3) := by decide +kernel
theorem dX7_advance_63 : decode cX7_advance 63 = .ok (.iload_n 2, 1) := by decide +kernel
theorem dX7_advance_64 : decode cX7_advance 64 = .ok (.if_icmp .gt 17, 3) := by decide +kernel
theorem dX7_advance_67 : decode cX7_advance 67 = .ok (.iload_n 3, 1) := by decide +kernel
theorem dX7_advance_68 : decode cX7_advance 68 = .ok (.aload_n 0, 1) := by decide +kernel
theorem dX7_advance_69 : decode cX7_advance 69 = .ok (.aload_n 0, 1) := by decide +kernel
theorem dX7_advance_70 : decode cX7_advance 70 = .ok (.invokevirtual 108, 3) := by decide +kernel
theorem dX7_advance_73 : decode cX7_advance 73 = .ok (.invokevirtual 112, 3) := by decide +kernel
theorem dX7_advance_76 : decode cX7_advance 76 = .ok (.iadd, 1) := by decide +kernel
theorem dX7_advance_77 : decode cX7_advance 77 = .ok (.istore_n 3, 1) := by decide +kernel
theorem dX7_advance_78 : decode cX7_advance 78 = .ok (.goto (-26), 3) := by decide +kernel
theorem dX7_advance_81 : decode cX7_advance 81 = .ok (.aload_n 0, 1) := by decide +kernel
theorem dX7_advance_82 : decode cX7_advance 82 = .ok (.getfield 9, 3) := by decide +kernel
theorem dX7_advance_85 : decode cX7_advance 85 = .ok (.iconst 0, 1) := by decide +kernel
theorem dX7_advance_86 : decode cX7_advance 86 = .ok (.iload_n 2, 1) := by decide +kernel
theorem dX7_advance_87 : decode cX7_advance 87 = .ok (.iastore, 1) := by decide +kernel
theorem dX7_advance_88 : decode cX7_advance 88 = .ok (.iload_n 3, 1) := by decide +kernel
theorem dX7_advance_89 : decode cX7_advance 89 = .ok (.ireturn, 1) := by decide +kernel
theorem dX7_advanceToEvent_0 : decode cX7_advanceToEvent 0 = .ok (.aload_n 0, 1) := by decide +kernel
theorem dX7_advanceToEvent_1 : decode cX7_advanceToEvent 1 = .ok (.iconst 0, 1) := by decide +kernel
theorem dX7_advanceToEvent_2 : decode cX7_advanceToEvent 2 = .ok (.putfield 19, 3) := by decide +kernel
theorem dX7_advanceToEvent_5 : decode cX7_advanceToEvent 5 = .ok (.aload_n 0, 1) := by decide +kernel
theorem dX7_advanceToEvent_6 : decode cX7_advanceToEvent 6 = .ok (.invokevirtual 108, 3) := by decide +kernel
theorem dX7_advanceToEvent_9 : decode cX7_advanceToEvent 9 = .ok (.istore_n 1, 1) := by decide +kernel
theorem dX7_advanceToEvent_10 : decode cX7_advanceToEvent 10 = .ok (.iload_n 1, 1) := by decide +kernel
theorem dX7_advanceToEvent_11 : decode cX7_advanceToEvent 11 = .ok (.ifCond .ge 9, 3) := by decide +kernel
theorem dX7_advanceToEvent_14 : decode cX7_advanceToEvent 14 = .ok (.aload_n 0, 1) := by decide +kernel
theorem dX7_advanceToEvent_15 : decode cX7_advanceToEvent 15 = .ok (.iconst 1, 1) := by decide +kernel
theorem dX7_advanceToEvent_16 : decode cX7_advanceToEvent 16 = .ok (.invokevirtual 41, 3) := by decide +kernel
theorem dX7_advanceToEvent_19 : decode cX7_advanceToEvent 19 = .ok (.ireturn, 1) := by decide +kernel
theorem dX7_advanceToEvent_20 : decode cX7_advanceToEvent 20 = .ok (.iload_n 1, 1) := by decide +kernel
theorem dX7_advanceToEvent_21 : decode cX7_advanceToEvent 21 = .ok (.ldc 107, 2) := by decide +kernel
theorem dX7_advanceToEvent_23 : decode cX7_advanceToEvent 23 = .ok (.if_icmp .le 9, 3) := by decide +kernel
theorem dX7_advanceToEvent_26 : decode cX7_advanceToEvent 26 = .ok (.aload_n 0, 1) := by decide +kernel
theorem dX7_advanceToEvent_27 : decode cX7_advanceToEvent 27 = .ok (.iconst 2, 1) := by decide +kernel
theorem dX7_advanceToEvent_28 : decode cX7_advanceToEvent 28 = .ok (.invokevirtual 41, 3) := by decide +kernel
theorem dX7_advanceToEvent_31 : decode cX7_advanceToEvent 31 = .ok (.ireturn, 1) := by decide +kernel
theorem dX7_advanceToEvent_32 : decode cX7_advanceToEvent 32 = .ok (.aload_n 0, 1) := by decide +kernel
theorem dX7_advanceToEvent_33 : decode cX7_advanceToEvent 33 = .ok (.iload_n 1, 1) := by decide +kernel
theorem dX7_advanceToEvent_34 : decode cX7_advanceToEvent 34 = .ok (.invokevirtual 112, 3) := by decide +kernel
theorem dX7_advanceToEvent_37 : decode cX7_advanceToEvent 37 = .ok (.pop, 1) := by decide +kernel
theorem dX7_advanceToEvent_38 : decode cX7_advanceToEvent 38 = .ok (.iload_n 1, 1) := by decide +kernel
theorem dX7_advanceToEvent_39 : decode cX7_advanceToEvent 39 = .ok (.ireturn, 1) := by decide +kernel
theorem dX7_time_0 : decode cX7_time 0 = .ok (.aload_n 0, 1) := by decide +kernel
theorem dX7_time_1 : decode cX7_time 1 = .ok (.iconst 0, 1) := by decide +kernel
theorem dX7_time_2 : decode cX7_time 2 = .ok (.putfield 19, 3) := by decide +kernel
theorem dX7_time_5 : decode cX7_time 5 = .ok (.aload_n 0, 1) := by decide +kernel
theorem dX7_time_6 : decode cX7_time 6 = .ok (.getfield 9, 3) := by decide +kernel
theorem dX7_time_9 : decode cX7_time 9 = .ok (.iconst 0, 1) := by decide +kernel
theorem dX7_time_10 : decode cX7_time 10 = .ok (.iaload, 1) := by decide +kernel
theorem dX7_time_11 : decode cX7_time 11 = .ok (.ireturn, 1) := by decide +kernel
theorem dX7_clientState_0 : decode cX7_clientState 0 = .ok (.aload_n 0, 1) := by decide +kernel
theorem dX7_clientState_1 : decode cX7_clientState 1 = .ok (.iconst 0, 1) := by decide +kernel
theorem dX7_clientState_2 : decode cX7_clientState 2 = .ok (.putfield 19, 3) := by decide +kernel
theorem dX7_clientState_5 : decode cX7_clientState 5 = .ok (.iload_n 1, 1) := by decide +kernel
theorem dX7_clientState_6 : decode cX7_clientState 6 = .ok (.invokestatic 65, 3) := by decide +kernel
theorem dX7_clientState_9 : decode cX7_clientState 9 = .ok (.ifCond .eq 16, 3) := by decide +kernel
theorem dX7_clientState_12 : decode cX7_clientState 12 = .ok (.aload_n 0, 1) := by decide +kernel
theorem dX7_clientState_13 : decode cX7_clientState 13 = .ok (.getfield 9, 3) := by decide +kernel
theorem dX7_clientState_16 : decode cX7_clientState 16 = .ok (.sipush 631, 3) := by decide +kernel
theorem dX7_clientState_19 : decode cX7_clientState 19 = .ok (.iload_n 1, 1) := by decide +kernel
theorem dX7_clientState_20 : decode cX7_clientState 20 = .ok (.iadd, 1) := by decide +kernel
theorem dX7_clientState_21 : decode cX7_clientState 21 = .ok (.iaload, 1) := by decide +kernel
theorem dX7_clientState_22 : decode cX7_clientState 22 = .ok (.goto 8, 3) := by decide +kernel
theorem dX7_clientState_25 : decode cX7_clientState 25 = .ok (.aload_n 0, 1) := by decide +kernel
theorem dX7_clientState_26 : decode cX7_clientState 26 = .ok (.iconst 1, 1) := by decide +kernel
theorem dX7_clientState_27 : decode cX7_clientState 27 = .ok (.invokevirtual 41, 3) := by decide +kernel
theorem dX7_clientState_30 : decode cX7_clientState 30 = .ok (.ireturn, 1) := by decide +kernel
theorem dX7_addressOf_0 : decode cX7_addressOf 0 = .ok (.aload_n 0, 1) := by decide +kernel
theorem dX7_addressOf_1 : decode cX7_addressOf 1 = .ok (.iconst 0, 1) := by decide +kernel
theorem dX7_addressOf_2 : decode cX7_addressOf 2 = .ok (.putfield 19, 3) := by decide +kernel
theorem dX7_addressOf_5 : decode cX7_addressOf 5 = .ok (.iload_n 1, 1) := by decide +kernel
theorem dX7_addressOf_6 : decode cX7_addressOf 6 = .ok (.invokestatic 65, 3) := by decide +kernel
theorem dX7_addressOf_9 : decode cX7_addressOf 9 = .ok (.ifCond .ne 9, 3) := by decide +kernel
theorem dX7_addressOf_12 : decode cX7_addressOf 12 = .ok (.aload_n 0, 1) := by decide +kernel
theorem dX7_addressOf_13 : decode cX7_addressOf 13 = .ok (.iconst 1, 1) := by decide +kernel
theorem dX7_addressOf_14 : decode cX7_addressOf 14 = .ok (.invokevirtual 41, 3) := by decide +kernel
theorem dX7_addressOf_17 : decode cX7_addressOf 17 = .ok (.ireturn, 1) := by decide +kernel
theorem dX7_addressOf_18 : decode cX7_addressOf 18 = .ok (.aload_n 0, 1) := by decide +kernel
theorem dX7_addressOf_19 : decode cX7_addressOf 19 = .ok (.getfield 9, 3) := by decide +kernel
theorem dX7_addressOf_22 : decode cX7_addressOf 22 = .ok (.sipush 631, 3) := by decide +kernel
theorem dX7_addressOf_25 : decode cX7_addressOf 25 = .ok (.iload_n 1, 1) := by decide +kernel
theorem dX7_addressOf_26 : decode cX7_addressOf 26 = .ok (.iadd, 1) := by decide +kernel
theorem dX7_addressOf_27 : decode cX7_addressOf 27 = .ok (.iaload, 1) := by decide +kernel
theorem dX7_addressOf_28 : decode cX7_addressOf 28 = .ok (.ifCond .ne 11, 3) := by decide +kernel
theorem dX7_addressOf_31 : decode cX7_addressOf 31 = .ok (.aload_n 0, 1) := by decide +kernel
theorem dX7_addressOf_32 : decode cX7_addressOf 32 = .ok (.iconst 2, 1) := by decide +kernel
theorem dX7_addressOf_33 : decode cX7_addressOf 33 = .ok (.invokevirtual 41, 3) := by decide +kernel
theorem dX7_addressOf_36 : decode cX7_addressOf 36 = .ok (.goto 13, 3) := by decide +kernel
theorem dX7_addressOf_39 : decode cX7_addressOf 39 = .ok (.aload_n 0, 1) := by decide +kernel
theorem dX7_addressOf_40 : decode cX7_addressOf 40 = .ok (.getfield 9, 3) := by decide +kernel
theorem dX7_addressOf_43 : decode cX7_addressOf 43 = .ok (.sipush 651, 3) := by decide +kernel
theorem dX7_addressOf_46 : decode cX7_addressOf 46 = .ok (.iload_n 1, 1) := by decide +kernel
theorem dX7_addressOf_47 : decode cX7_addressOf 47 = .ok (.iadd, 1) := by decide +kernel
theorem dX7_addressOf_48 : decode cX7_addressOf 48 = .ok (.iaload, 1) := by decide +kernel
theorem dX7_addressOf_49 : decode cX7_addressOf 49 = .ok (.ireturn, 1) := by decide +kernel
theorem dX7_remembered_0 : decode cX7_remembered 0 = .ok (.aload_n 0, 1) := by decide +kernel
theorem dX7_remembered_1 : decode cX7_remembered 1 = .ok (.iconst 0, 1) := by decide +kernel
theorem dX7_remembered_2 : decode cX7_remembered 2 = .ok (.putfield 19, 3) := by decide +kernel
theorem dX7_remembered_5 : decode cX7_remembered 5 = .ok (.iload_n 1, 1) := by decide +kernel
theorem dX7_remembered_6 : decode cX7_remembered 6 = .ok (.invokestatic 65, 3) := by decide +kernel
theorem dX7_remembered_9 : decode cX7_remembered 9 = .ok (.ifCond .ne 9, 3) := by decide +kernel
theorem dX7_remembered_12 : decode cX7_remembered 12 = .ok (.aload_n 0, 1) := by decide +kernel
theorem dX7_remembered_13 : decode cX7_remembered 13 = .ok (.iconst 1, 1) := by decide +kernel
theorem dX7_remembered_14 : decode cX7_remembered 14 = .ok (.invokevirtual 41, 3) := by decide +kernel
theorem dX7_remembered_17 : decode cX7_remembered 17 = .ok (.ireturn, 1) := by decide +kernel
theorem dX7_remembered_18 : decode cX7_remembered 18 = .ok (.aload_n 0, 1) := by decide +kernel
theorem dX7_remembered_19 : decode cX7_remembered 19 = .ok (.getfield 9, 3) := by decide +kernel
theorem dX7_remembered_22 : decode cX7_remembered 22 = .ok (.sipush 711, 3) := by decide +kernel
theorem dX7_remembered_25 : decode cX7_remembered 25 = .ok (.iload_n 1, 1) := by decide +kernel
theorem dX7_remembered_26 : decode cX7_remembered 26 = .ok (.iadd, 1) := by decide +kernel
theorem dX7_remembered_27 : decode cX7_remembered 27 = .ok (.iaload, 1) := by decide +kernel
theorem dX7_remembered_28 : decode cX7_remembered 28 = .ok (.ifCond .ne 11, 3) := by decide +kernel
theorem dX7_remembered_31 : decode cX7_remembered 31 = .ok (.aload_n 0, 1) := by decide +kernel
theorem dX7_remembered_32 : decode cX7_remembered 32 = .ok (.iconst 2, 1) := by decide +kernel
theorem dX7_remembered_33 : decode cX7_remembered 33 = .ok (.invokevirtual 41, 3) := by decide +kernel
theorem dX7_remembered_36 : decode cX7_remembered 36 = .ok (.goto 15, 3) := by decide +kernel
theorem dX7_remembered_39 : decode cX7_remembered 39 = .ok (.aload_n 0, 1) := by decide +kernel
theorem dX7_remembered_40 : decode cX7_remembered 40 = .ok (.getfield 9, 3) := by decide +kernel
theorem dX7_remembered_43 : decode cX7_remembered 43 = .ok (.sipush 711, 3) := by decide +kernel
theorem dX7_remembered_46 : decode cX7_remembered 46 = .ok (.iload_n 1, 1) := by decide +kernel
theorem dX7_remembered_47 : decode cX7_remembered 47 = .ok (.iadd, 1) := by decide +kernel
theorem dX7_remembered_48 : decode cX7_remembered 48 = .ok (.iaload, 1) := by decide +kernel
theorem dX7_remembered_49 : decode cX7_remembered 49 = .ok (.iconst 1, 1) := by decide +kernel
theorem dX7_remembered_50 : decode cX7_remembered 50 = .ok (.isub, 1) := by decide +kernel
theorem dX7_remembered_51 : decode cX7_remembered 51 = .ok (.ireturn, 1) := by decide +kernel
theorem dX7_timer_0 : decode cX7_timer 0 = .ok (.aload_n 0, 1) := by decide +kernel
theorem dX7_timer_1 : decode cX7_timer 1 = .ok (.aload_n 0, 1) := by decide +kernel
theorem dX7_timer_2 : decode cX7_timer 2 = .ok (.iload_n 1, 1) := by decide +kernel
theorem dX7_timer_3 : decode cX7_timer 3 = .ok (.invokevirtual 89, 3) := by decide +kernel
theorem dX7_timer_6 : decode cX7_timer 6 = .ok (.putfield 19, 3) := by decide +kernel
theorem dX7_timer_9 : decode cX7_timer 9 = .ok (.aload_n 0, 1) := by decide +kernel
theorem dX7_timer_10 : decode cX7_timer 10 = .ok (.getfield 19, 3) := by decide +kernel
theorem dX7_timer_13 : decode cX7_timer 13 = .ok (.ifCond .le 5, 3) := by decide +kernel
theorem dX7_timer_16 : decode cX7_timer 16 = .ok (.iconst 0, 1) := by decide +kernel
theorem dX7_timer_17 : decode cX7_timer 17 = .ok (.ireturn, 1) := by decide +kernel
theorem dX7_timer_18 : decode cX7_timer 18 = .ok (.iload_n 2, 1) := by decide +kernel
theorem dX7_timer_19 : decode cX7_timer 19 = .ok (.iconst 0, 1) := by decide +kernel
theorem dX7_timer_20 : decode cX7_timer 20 = .ok (.iconst 2, 1) := by decide +kernel
theorem dX7_timer_21 : decode cX7_timer 21 = .ok (.invokestatic 23, 3) := by decide +kernel
theorem dX7_timer_24 : decode cX7_timer 24 = .ok (.ifCond .ne 9, 3) := by decide +kernel
theorem dX7_timer_27 : decode cX7_timer 27 = .ok (.aload_n 0, 1) := by decide +kernel
theorem dX7_timer_28 : decode cX7_timer 28 = .ok (.iconst 3, 1) := by decide +kernel
theorem dX7_timer_29 : decode cX7_timer 29 = .ok (.invokevirtual 41, 3) := by decide +kernel
theorem dX7_timer_32 : decode cX7_timer 32 = .ok (.ireturn, 1) := by decide +kernel
theorem dX7_timer_33 : decode cX7_timer 33 = .ok (.iload_n 2, 1) := by decide +kernel
theorem dX7_timer_34 : decode cX7_timer 34 = .ok (.ifCond .ne 16, 3) := by decide +kernel
theorem dX7_timer_37 : decode cX7_timer 37 = .ok (.aload_n 0, 1) := by decide +kernel
theorem dX7_timer_38 : decode cX7_timer 38 = .ok (.getfield 9, 3) := by decide +kernel
theorem dX7_timer_41 : decode cX7_timer 41 = .ok (.sipush 671, 3) := by decide +kernel
theorem dX7_timer_44 : decode cX7_timer 44 = .ok (.iload_n 1, 1) := by decide +kernel
theorem dX7_timer_45 : decode cX7_timer 45 = .ok (.iadd, 1) := by decide +kernel
theorem dX7_timer_46 : decode cX7_timer 46 = .ok (.iaload, 1) := by decide +kernel
theorem dX7_timer_47 : decode cX7_timer 47 = .ok (.goto 40, 3) := by decide +kernel
theorem dX7_timer_50 : decode cX7_timer 50 = .ok (.iload_n 2, 1) := by decide +kernel
theorem dX7_timer_51 : decode cX7_timer 51 = .ok (.iconst 1, 1) := by decide +kernel
theorem dX7_timer_52 : decode cX7_timer 52 = .ok (.if_icmp .ne 16, 3) := by decide +kernel
theorem dX7_timer_55 : decode cX7_timer 55 = .ok (.aload_n 0, 1) := by decide +kernel
theorem dX7_timer_56 : decode cX7_timer 56 = .ok (.getfield 9, 3) := by decide +kernel
theorem dX7_timer_59 : decode cX7_timer 59 = .ok (.sipush 691, 3) := by decide +kernel
theorem dX7_timer_62 : decode cX7_timer 62 = .ok (.iload_n 1, 1) := by decide +kernel
theorem dX7_timer_63 : decode cX7_timer 63 = .ok (.iadd, 1) := by decide +kernel
theorem dX7_timer_64 : decode cX7_timer 64 = .ok (.iaload, 1) := by decide +kernel
theorem dX7_timer_65 : decode cX7_timer 65 = .ok (.goto 22, 3) := by decide +kernel
theorem dX7_timer_68 : decode cX7_timer 68 = .ok (.aload_n 0, 1) := by decide +kernel
theorem dX7_timer_69 : decode cX7_timer 69 = .ok (.getfield 9, 3) := by decide +kernel
theorem dX7_timer_72 : decode cX7_timer 72 = .ok (.sipush 431, 3) := by decide +kernel
theorem dX7_timer_75 : decode cX7_timer 75 = .ok (.aload_n 0, 1) := by decide +kernel
theorem dX7_timer_76 : decode cX7_timer 76 = .ok (.getfield 9, 3) := by decide +kernel
theorem dX7_timer_79 : decode cX7_timer 79 = .ok (.sipush 651, 3) := by decide +kernel
theorem dX7_timer_82 : decode cX7_timer 82 = .ok (.iload_n 1, 1) := by decide +kernel
theorem dX7_timer_83 : decode cX7_timer 83 = .ok (.iadd, 1) := by decide +kernel
theorem dX7_timer_84 : decode cX7_timer 84 = .ok (.iaload, 1) := by decide +kernel
theorem dX7_timer_85 : decode cX7_timer 85 = .ok (.iadd, 1) := by decide +kernel
theorem dX7_timer_86 : decode cX7_timer 86 = .ok (.iaload, 1) := by decide +kernel
theorem dX7_timer_87 : decode cX7_timer 87 = .ok (.ireturn, 1) := by decide +kernel
theorem dX7_lacks_0 : decode cX7_lacks 0 = .ok (.iload_n 1, 1) := by decide +kernel
theorem dX7_lacks_1 : decode cX7_lacks 1 = .ok (.invokestatic 44, 3) := by decide +kernel
theorem dX7_lacks_4 : decode cX7_lacks 4 = .ok (.ifCond .ne 7, 3) := by decide +kernel
theorem dX7_lacks_7 : decode cX7_lacks 7 = .ok (.iconst 1, 1) := by decide +kernel
theorem dX7_lacks_8 : decode cX7_lacks 8 = .ok (.goto 16, 3) := by decide +kernel
theorem dX7_lacks_11 : decode cX7_lacks 11 = .ok (.aload_n 0, 1) := by decide +kernel
theorem dX7_lacks_12 : decode cX7_lacks 12 = .ok (.iload_n 1, 1) := by decide +kernel
theorem dX7_lacks_13 : decode cX7_lacks 13 = .ok (.invokevirtual 34, 3) := by decide +kernel
theorem dX7_lacks_16 : decode cX7_lacks 16 = .ok (.ifCond .ge 7, 3) := by decide +kernel
theorem dX7_lacks_19 : decode cX7_lacks 19 = .ok (.iconst 2, 1) := by decide +kernel
theorem dX7_lacks_20 : decode cX7_lacks 20 = .ok (.goto 4, 3) := by decide +kernel
theorem dX7_lacks_23 : decode cX7_lacks 23 = .ok (.iconst 0, 1) := by decide +kernel
theorem dX7_lacks_24 : decode cX7_lacks 24 = .ok (.ireturn, 1) := by decide +kernel
theorem dX7_addressState_0 : decode cX7_addressState 0 = .ok (.aload_n 0, 1) := by decide +kernel
theorem dX7_addressState_1 : decode cX7_addressState 1 = .ok (.aload_n 0, 1) := by decide +kernel
theorem dX7_addressState_2 : decode cX7_addressState 2 = .ok (.iload_n 1, 1) := by decide +kernel
theorem dX7_addressState_3 : decode cX7_addressState 3 = .ok (.invokevirtual 115, 3) := by decide +kernel
theorem dX7_addressState_6 : decode cX7_addressState 6 = .ok (.putfield 19, 3) := by decide +kernel
theorem dX7_addressState_9 : decode cX7_addressState 9 = .ok (.aload_n 0, 1) := by decide +kernel
theorem dX7_addressState_10 : decode cX7_addressState 10 = .ok (.getfield 19, 3) := by decide +kernel
theorem dX7_addressState_13 : decode cX7_addressState 13 = .ok (.ifCond .le 7, 3) := by decide +kernel
theorem dX7_addressState_16 : decode cX7_addressState 16 = .ok (.iconst 0, 1) := by decide +kernel
theorem dX7_addressState_17 : decode cX7_addressState 17 = .ok (.goto 13, 3) := by decide +kernel
theorem dX7_addressState_20 : decode cX7_addressState 20 = .ok (.aload_n 0, 1) := by decide +kernel
theorem dX7_addressState_21 : decode cX7_addressState 21 = .ok (.getfield 9, 3) := by decide +kernel
theorem dX7_addressState_24 : decode cX7_addressState 24 = .ok (.sipush 231, 3) := by decide +kernel
theorem dX7_addressState_27 : decode cX7_addressState 27 = .ok (.iload_n 1, 1) := by decide +kernel
theorem dX7_addressState_28 : decode cX7_addressState 28 = .ok (.iadd, 1) := by decide +kernel
theorem dX7_addressState_29 : decode cX7_addressState 29 = .ok (.iaload, 1) := by decide +kernel
theorem dX7_addressState_30 : decode cX7_addressState 30 = .ok (.ireturn, 1) := by decide +kernel
theorem dX7_holder_0 : decode cX7_holder 0 = .ok (.aload_n 0, 1) := by decide +kernel
theorem dX7_holder_1 : decode cX7_holder 1 = .ok (.aload_n 0, 1) := by decide +kernel
theorem dX7_holder_2 : decode cX7_holder 2 = .ok (.iload_n 1, 1) := by decide +kernel
theorem dX7_holder_3 : decode cX7_holder 3 = .ok (.invokevirtual 115, 3) := by decide +kernel
theorem dX7_holder_6 : decode cX7_holder 6 = .ok (.putfield 19, 3) := by decide +kernel
theorem dX7_holder_9 : decode cX7_holder 9 = .ok (.aload_n 0, 1) := by decide +kernel
theorem dX7_holder_10 : decode cX7_holder 10 = .ok (.getfield 19, 3) := by decide +kernel
theorem dX7_holder_13 : decode cX7_holder 13 = .ok (.ifCond .le 5, 3) := by decide +kernel
theorem dX7_holder_16 : decode cX7_holder 16 = .ok (.iconst 0, 1) := by decide +kernel
theorem dX7_holder_17 : decode cX7_holder 17 = .ok (.ireturn, 1) := by decide +kernel
theorem dX7_holder_18 : decode cX7_holder 18 = .ok (.aload_n 0, 1) := by decide +kernel
theorem dX7_holder_19 : decode cX7_holder 19 = .ok (.getfield 9, 3) := by decide +kernel
theorem dX7_holder_22 : decode cX7_holder 22 = .ok (.sipush 231, 3) := by decide +kernel
theorem dX7_holder_25 : decode cX7_holder 25 = .ok (.iload_n 1, 1) := by decide +kernel
theorem dX7_holder_26 : decode cX7_holder 26 = .ok (.iadd, 1) := by decide +kernel
theorem dX7_holder_27 : decode cX7_holder 27 = .ok (.iaload, 1) := by decide +kernel
theorem dX7_holder_28 : decode cX7_holder 28 = .ok (.iconst 1, 1) := by decide +kernel
theorem dX7_holder_29 : decode cX7_holder 29 = .ok (.iconst 2, 1) := by decide +kernel
theorem dX7_holder_30 : decode cX7_holder 30 = .ok (.invokestatic 23, 3) := by decide +kernel
theorem dX7_holder_33 : decode cX7_holder 33 = .ok (.ifCond .eq 16, 3) := by decide +kernel
theorem dX7_holder_36 : decode cX7_holder 36 = .ok (.aload_n 0, 1) := by decide +kernel
theorem dX7_holder_37 : decode cX7_holder 37 = .ok (.getfield 9, 3) := by decide +kernel
theorem dX7_holder_40 : decode cX7_holder 40 = .ok (.sipush 331, 3) := by decide +kernel
theorem dX7_holder_43 : decode cX7_holder 43 = .ok (.iload_n 1, 1) := by decide +kernel
theorem dX7_holder_44 : decode cX7_holder 44 = .ok (.iadd, 1) := by decide +kernel
theorem dX7_holder_45 : decode cX7_holder 45 = .ok (.iaload, 1) := by decide +kernel
theorem dX7_holder_46 : decode cX7_holder 46 = .ok (.goto 8, 3) := by decide +kernel
theorem dX7_holder_49 : decode cX7_holder 49 = .ok (.aload_n 0, 1) := by decide +kernel
theorem dX7_holder_50 : decode cX7_holder 50 = .ok (.iconst 2, 1) := by decide +kernel
theorem dX7_holder_51 : decode cX7_holder 51 = .ok (.invokevirtual 41, 3) := by decide +kernel
theorem dX7_holder_54 : decode cX7_holder 54 = .ok (.ireturn, 1) := by decide +kernel
theorem dX7_until_0 : decode cX7_until 0 = .ok (.aload_n 0, 1) := by decide +kernel
theorem dX7_until_1 : decode cX7_until 1 = .ok (.aload_n 0, 1) := by decide +kernel
theorem dX7_until_2 : decode cX7_until 2 = .ok (.iload_n 1, 1) := by decide +kernel
theorem dX7_until_3 : decode cX7_until 3 = .ok (.invokevirtual 115, 3) := by decide +kernel
theorem dX7_until_6 : decode cX7_until 6 = .ok (.putfield 19, 3) := by decide +kernel
theorem dX7_until_9 : decode cX7_until 9 = .ok (.aload_n 0, 1) := by decide +kernel
theorem dX7_until_10 : decode cX7_until 10 = .ok (.getfield 19, 3) := by decide +kernel
theorem dX7_until_13 : decode cX7_until 13 = .ok (.ifCond .le 5, 3) := by decide +kernel
theorem dX7_until_16 : decode cX7_until 16 = .ok (.iconst 0, 1) := by decide +kernel
theorem dX7_until_17 : decode cX7_until 17 = .ok (.ireturn, 1) := by decide +kernel
theorem dX7_until_18 : decode cX7_until 18 = .ok (.aload_n 0, 1) := by decide +kernel
theorem dX7_until_19 : decode cX7_until 19 = .ok (.getfield 9, 3) := by decide +kernel
theorem dX7_until_22 : decode cX7_until 22 = .ok (.sipush 231, 3) := by decide +kernel
theorem dX7_until_25 : decode cX7_until 25 = .ok (.iload_n 1, 1) := by decide +kernel
theorem dX7_until_26 : decode cX7_until 26 = .ok (.iadd, 1) := by decide +kernel
theorem dX7_until_27 : decode cX7_until 27 = .ok (.iaload, 1) := by decide +kernel
theorem dX7_until_28 : decode cX7_until 28 = .ok (.ifCond .ne 11, 3) := by decide +kernel
theorem dX7_until_31 : decode cX7_until 31 = .ok (.aload_n 0, 1) := by decide +kernel
theorem dX7_until_32 : decode cX7_until 32 = .ok (.iconst 2, 1) := by decide +kernel
theorem dX7_until_33 : decode cX7_until 33 = .ok (.invokevirtual 41, 3) := by decide +kernel
theorem dX7_until_36 : decode cX7_until 36 = .ok (.goto 13, 3) := by decide +kernel
theorem dX7_until_39 : decode cX7_until 39 = .ok (.aload_n 0, 1) := by decide +kernel
theorem dX7_until_40 : decode cX7_until 40 = .ok (.getfield 9, 3) := by decide +kernel
theorem dX7_until_43 : decode cX7_until 43 = .ok (.sipush 431, 3) := by decide +kernel
theorem dX7_until_46 : decode cX7_until 46 = .ok (.iload_n 1, 1) := by decide +kernel
theorem dX7_until_47 : decode cX7_until 47 = .ok (.iadd, 1) := by decide +kernel
theorem dX7_until_48 : decode cX7_until 48 = .ok (.iaload, 1) := by decide +kernel
theorem dX7_until_49 : decode cX7_until 49 = .ok (.ireturn, 1) := by decide +kernel
theorem dX7_freeSince_0 : decode cX7_freeSince 0 = .ok (.aload_n 0, 1) := by decide +kernel
theorem dX7_freeSince_1 : decode cX7_freeSince 1 = .ok (.aload_n 0, 1) := by decide +kernel
theorem dX7_freeSince_2 : decode cX7_freeSince 2 = .ok (.iload_n 1, 1) := by decide +kernel
theorem dX7_freeSince_3 : decode cX7_freeSince 3 = .ok (.invokevirtual 115, 3) := by decide +kernel
theorem dX7_freeSince_6 : decode cX7_freeSince 6 = .ok (.putfield 19, 3) := by decide +kernel
theorem dX7_freeSince_9 : decode cX7_freeSince 9 = .ok (.aload_n 0, 1) := by decide +kernel
theorem dX7_freeSince_10 : decode cX7_freeSince 10 = .ok (.getfield 19, 3) := by decide +kernel
theorem dX7_freeSince_13 : decode cX7_freeSince 13 = .ok (.ifCond .le 5, 3) := by decide +kernel
theorem dX7_freeSince_16 : decode cX7_freeSince 16 = .ok (.iconst 0, 1) := by decide +kernel
theorem dX7_freeSince_17 : decode cX7_freeSince 17 = .ok (.ireturn, 1) := by decide +kernel
theorem dX7_freeSince_18 : decode cX7_freeSince 18 = .ok (.aload_n 0, 1) := by decide +kernel
theorem dX7_freeSince_19 : decode cX7_freeSince 19 = .ok (.getfield 9, 3) := by decide +kernel
theorem dX7_freeSince_22 : decode cX7_freeSince 22 = .ok (.sipush 231, 3) := by decide +kernel
theorem dX7_freeSince_25 : decode cX7_freeSince 25 = .ok (.iload_n 1, 1) := by decide +kernel
theorem dX7_freeSince_26 : decode cX7_freeSince 26 = .ok (.iadd, 1) := by decide +kernel
theorem dX7_freeSince_27 : decode cX7_freeSince 27 = .ok (.iaload, 1) := by decide +kernel
theorem dX7_freeSince_28 : decode cX7_freeSince 28 = .ok (.ifCond .ne 16, 3) := by decide +kernel
theorem dX7_freeSince_31 : decode cX7_freeSince 31 = .ok (.aload_n 0, 1) := by decide +kernel
theorem dX7_freeSince_32 : decode cX7_freeSince 32 = .ok (.getfield 9, 3) := by decide +kernel
theorem dX7_freeSince_35 : decode cX7_freeSince 35 = .ok (.sipush 531, 3) := by decide +kernel
theorem dX7_freeSince_38 : decode cX7_freeSince 38 = .ok (.iload_n 1, 1) := by decide +kernel
theorem dX7_freeSince_39 : decode cX7_freeSince 39 = .ok (.iadd, 1) := by decide +kernel
theorem dX7_freeSince_40 : decode cX7_freeSince 40 = .ok (.iaload, 1) := by decide +kernel
theorem dX7_freeSince_41 : decode cX7_freeSince 41 = .ok (.goto 8, 3) := by decide +kernel
theorem dX7_freeSince_44 : decode cX7_freeSince 44 = .ok (.aload_n 0, 1) := by decide +kernel
theorem dX7_freeSince_45 : decode cX7_freeSince 45 = .ok (.iconst 2, 1) := by decide +kernel
theorem dX7_freeSince_46 : decode cX7_freeSince 46 = .ok (.invokevirtual 41, 3) := by decide +kernel
theorem dX7_freeSince_49 : decode cX7_freeSince 49 = .ok (.ireturn, 1) := by decide +kernel
theorem dX7_nextCandidate_0 : decode cX7_nextCandidate 0 = .ok (.aload_n 0, 1) := by decide +kernel
theorem dX7_nextCandidate_1 : decode cX7_nextCandidate 1 = .ok (.iconst 0, 1) := by decide +kernel
theorem dX7_nextCandidate_2 : decode cX7_nextCandidate 2 = .ok (.putfield 19, 3) := by decide +kernel
theorem dX7_nextCandidate_5 : decode cX7_nextCandidate 5 = .ok (.iload_n 1, 1) := by decide +kernel
theorem dX7_nextCandidate_6 : decode cX7_nextCandidate 6 = .ok (.invokestatic 65, 3) := by decide +kernel
theorem dX7_nextCandidate_9 : decode cX7_nextCandidate 9 = .ok (.ifCond .eq 10, 3) := by decide +kernel
theorem dX7_nextCandidate_12 : decode cX7_nextCandidate 12 = .ok (.iload_n 2, 1) := by decide +kernel
theorem dX7_nextCandidate_13 : decode cX7_nextCandidate 13 = .ok (.invokestatic 37, 3) := by decide +kernel
theorem dX7_nextCandidate_16 : decode cX7_nextCandidate 16 = .ok (.ifCond .ne 9, 3) := by decide +kernel
theorem dX7_nextCandidate_19 : decode cX7_nextCandidate 19 = .ok (.aload_n 0, 1) := by decide +kernel
theorem dX7_nextCandidate_20 : decode cX7_nextCandidate 20 = .ok (.iconst 1, 1) := by decide +kernel
theorem dX7_nextCandidate_21 : decode cX7_nextCandidate 21 = .ok (.invokevirtual 41, 3) := by decide +kernel
theorem dX7_nextCandidate_24 : decode cX7_nextCandidate 24 = .ok (.ireturn, 1) := by decide +kernel
theorem dX7_nextCandidate_25 : decode cX7_nextCandidate 25 = .ok (.aload_n 0, 1) := by decide +kernel
theorem dX7_nextCandidate_26 : decode cX7_nextCandidate 26 = .ok (.iload_n 1, 1) := by decide +kernel
theorem dX7_nextCandidate_27 : decode cX7_nextCandidate 27 = .ok (.iload_n 2, 1) := by decide +kernel
theorem dX7_nextCandidate_28 : decode cX7_nextCandidate 28 = .ok (.iconst (-1), 1) := by decide +kernel
theorem dX7_nextCandidate_29 : decode cX7_nextCandidate 29 = .ok (.invokevirtual 75, 3) := by decide +kernel
theorem dX7_nextCandidate_32 : decode cX7_nextCandidate 32 = .ok (.istore_n 3, 1) := by decide +kernel
theorem dX7_nextCandidate_33 : decode cX7_nextCandidate 33 = .ok (.iload_n 3, 1) := by decide +kernel
theorem dX7_nextCandidate_34 : decode cX7_nextCandidate 34 = .ok (.ifCond .ge 11, 3) := by decide +kernel
theorem dX7_nextCandidate_37 : decode cX7_nextCandidate 37 = .ok (.aload_n 0, 1) := by decide +kernel
theorem dX7_nextCandidate_38 : decode cX7_nextCandidate 38 = .ok (.iconst 2, 1) := by decide +kernel
theorem dX7_nextCandidate_39 : decode cX7_nextCandidate 39 = .ok (.invokevirtual 41, 3) := by decide +kernel
theorem dX7_nextCandidate_42 : decode cX7_nextCandidate 42 = .ok (.goto 4, 3) := by decide +kernel
theorem dX7_nextCandidate_45 : decode cX7_nextCandidate 45 = .ok (.iload_n 3, 1) := by decide +kernel
theorem dX7_nextCandidate_46 : decode cX7_nextCandidate 46 = .ok (.ireturn, 1) := by decide +kernel
theorem dX7_count_0 : decode cX7_count 0 = .ok (.iconst 0, 1) := by decide +kernel
theorem dX7_count_1 : decode cX7_count 1 = .ok (.istore_n 3, 1) := by decide +kernel
theorem dX7_count_2 : decode cX7_count 2 = .ok (.iconst 0, 1) := by decide +kernel
theorem dX7_count_3 : decode cX7_count 3 = .ok (.istore 4, 2) := by decide +kernel
theorem dX7_count_5 : decode cX7_count 5 = .ok (.iload 4, 2) := by decide +kernel
theorem dX7_count_7 : decode cX7_count 7 = .ok (.bipush 100, 2) := by decide +kernel
theorem dX7_count_9 : decode cX7_count 9 = .ok (.if_icmp .ge 41, 3) := by decide +kernel
theorem dX7_count_12 : decode cX7_count 12 = .ok (.aload_n 0, 1) := by decide +kernel
theorem dX7_count_13 : decode cX7_count 13 = .ok (.iload 4, 2) := by decide +kernel
theorem dX7_count_15 : decode cX7_count 15 = .ok (.invokevirtual 50, 3) := by decide +kernel
theorem dX7_count_18 : decode cX7_count 18 = .ok (.iload_n 1, 1) := by decide +kernel
theorem dX7_count_19 : decode cX7_count 19 = .ok (.if_icmp .ne 25, 3) := by decide +kernel
theorem dX7_count_22 : decode cX7_count 22 = .ok (.iload_n 2, 1) := by decide +kernel
theorem dX7_count_23 : decode cX7_count 23 = .ok (.ifCond .lt 18, 3) := by decide +kernel
theorem dX7_count_26 : decode cX7_count 26 = .ok (.aload_n 0, 1) := by decide +kernel
theorem dX7_count_27 : decode cX7_count 27 = .ok (.getfield 9, 3) := by decide +kernel
theorem dX7_count_30 : decode cX7_count 30 = .ok (.sipush 231, 3) := by decide +kernel
theorem dX7_count_33 : decode cX7_count 33 = .ok (.iload 4, 2) := by decide +kernel
theorem dX7_count_35 : decode cX7_count 35 = .ok (.iadd, 1) := by decide +kernel
theorem dX7_count_36 : decode cX7_count 36 = .ok (.iaload, 1) := by decide +kernel
theorem dX7_count_37 : decode cX7_count 37 = .ok (.iload_n 2, 1) := by decide +kernel
theorem dX7_count_38 : decode cX7_count 38 = .ok (.if_icmp .ne 6, 3) := by decide +kernel
theorem dX7_count_41 : decode cX7_count 41 = .ok (.iinc 3 1, 3) := by decide +kernel
theorem dX7_count_44 : decode cX7_count 44 = .ok (.iinc 4 1, 3) := by decide +kernel
theorem dX7_count_47 : decode cX7_count 47 = .ok (.goto (-42), 3) := by decide +kernel
theorem dX7_count_50 : decode cX7_count 50 = .ok (.iload_n 3, 1) := by decide +kernel
theorem dX7_count_51 : decode cX7_count 51 = .ok (.ireturn, 1) := by decide +kernel
theorem dX7_countState_0 : decode cX7_countState 0 = .ok (.aload_n 0, 1) := by decide +kernel
theorem dX7_countState_1 : decode cX7_countState 1 = .ok (.iconst 0, 1) := by decide +kernel
theorem dX7_countState_2 : decode cX7_countState 2 = .ok (.putfield 19, 3) := by decide +kernel
theorem dX7_countState_5 : decode cX7_countState 5 = .ok (.iload_n 1, 1) := by decide +kernel
theorem dX7_countState_6 : decode cX7_countState 6 = .ok (.invokestatic 37, 3) := by decide +kernel
theorem dX7_countState_9 : decode cX7_countState 9 = .ok (.ifCond .ne 9, 3) := by decide +kernel
theorem dX7_countState_12 : decode cX7_countState 12 = .ok (.aload_n 0, 1) := by decide +kernel
theorem dX7_countState_13 : decode cX7_countState 13 = .ok (.iconst 1, 1) := by decide +kernel
theorem dX7_countState_14 : decode cX7_countState 14 = .ok (.invokevirtual 41, 3) := by decide +kernel
theorem dX7_countState_17 : decode cX7_countState 17 = .ok (.ireturn, 1) := by decide +kernel
theorem dX7_countState_18 : decode cX7_countState 18 = .ok (.iload_n 2, 1) := by decide +kernel
theorem dX7_countState_19 : decode cX7_countState 19 = .ok (.iconst 0, 1) := by decide +kernel
theorem dX7_countState_20 : decode cX7_countState 20 = .ok (.iconst 3, 1) := by decide +kernel
theorem dX7_countState_21 : decode cX7_countState 21 = .ok (.invokestatic 23, 3) := by decide +kernel
theorem dX7_countState_24 : decode cX7_countState 24 = .ok (.ifCond .eq 12, 3) := by decide +kernel
theorem dX7_countState_27 : decode cX7_countState 27 = .ok (.aload_n 0, 1) := by decide +kernel
theorem dX7_countState_28 : decode cX7_countState 28 = .ok (.iload_n 1, 1) := by decide +kernel
theorem dX7_countState_29 : decode cX7_countState 29 = .ok (.iload_n 2, 1) := by decide +kernel
theorem dX7_countState_30 : decode cX7_countState 30 = .ok (.invokevirtual 118, 3) := by decide +kernel
theorem dX7_countState_33 : decode cX7_countState 33 = .ok (.goto 8, 3) := by decide +kernel
theorem dX7_countState_36 : decode cX7_countState 36 = .ok (.aload_n 0, 1) := by decide +kernel
theorem dX7_countState_37 : decode cX7_countState 37 = .ok (.iconst 2, 1) := by decide +kernel
theorem dX7_countState_38 : decode cX7_countState 38 = .ok (.invokevirtual 41, 3) := by decide +kernel
theorem dX7_countState_41 : decode cX7_countState 41 = .ok (.ireturn, 1) := by decide +kernel
theorem dX7_boundOnes_0 : decode cX7_boundOnes 0 = .ok (.iconst 0, 1) := by decide +kernel
theorem dX7_boundOnes_1 : decode cX7_boundOnes 1 = .ok (.istore_n 1, 1) := by decide +kernel
theorem dX7_boundOnes_2 : decode cX7_boundOnes 2 = .ok (.iconst 0, 1) := by decide +kernel
theorem dX7_boundOnes_3 : decode cX7_boundOnes 3 = .ok (.istore_n 2, 1) := by decide +kernel
theorem dX7_boundOnes_4 : decode cX7_boundOnes 4 = .ok (.iload_n 2, 1) := by decide +kernel
theorem dX7_boundOnes_5 : decode cX7_boundOnes 5 = .ok (.bipush 20, 2) := by decide +kernel
theorem dX7_boundOnes_7 : decode cX7_boundOnes 7 = .ok (.if_icmp .ge 20, 3) := by decide +kernel
theorem dX7_boundOnes_10 : decode cX7_boundOnes 10 = .ok (.aload_n 0, 1) := by decide +kernel
theorem dX7_boundOnes_11 : decode cX7_boundOnes 11 = .ok (.iload_n 2, 1) := by decide +kernel
theorem dX7_boundOnes_12 : decode cX7_boundOnes 12 = .ok (.invokevirtual 68, 3) := by decide +kernel
theorem dX7_boundOnes_15 : decode cX7_boundOnes 15 = .ok (.ifCond .eq 6, 3) := by decide +kernel
theorem dX7_boundOnes_18 : decode cX7_boundOnes 18 = .ok (.iinc 1 1, 3) := by decide +kernel
theorem dX7_boundOnes_21 : decode cX7_boundOnes 21 = .ok (.iinc 2 1, 3) := by decide +kernel
theorem dX7_boundOnes_24 : decode cX7_boundOnes 24 = .ok (.goto (-20), 3) := by decide +kernel
theorem dX7_boundOnes_27 : decode cX7_boundOnes 27 = .ok (.iload_n 1, 1) := by decide +kernel
theorem dX7_boundOnes_28 : decode cX7_boundOnes 28 = .ok (.ireturn, 1) := by decide +kernel
theorem dX7_bound_0 : decode cX7_bound 0 = .ok (.aload_n 0, 1) := by decide +kernel
theorem dX7_bound_1 : decode cX7_bound 1 = .ok (.iconst 0, 1) := by decide +kernel
theorem dX7_bound_2 : decode cX7_bound 2 = .ok (.putfield 19, 3) := by decide +kernel
theorem dX7_bound_5 : decode cX7_bound 5 = .ok (.aload_n 0, 1) := by decide +kernel
theorem dX7_bound_6 : decode cX7_bound 6 = .ok (.invokevirtual 121, 3) := by decide +kernel
theorem dX7_bound_9 : decode cX7_bound 9 = .ok (.ireturn, 1) := by decide +kernel
theorem dX7_conflicts_0 : decode cX7_conflicts 0 = .ok (.aload_n 0, 1) := by decide +kernel
theorem dX7_conflicts_1 : decode cX7_conflicts 1 = .ok (.iconst 0, 1) := by decide +kernel
theorem dX7_conflicts_2 : decode cX7_conflicts 2 = .ok (.putfield 19, 3) := by decide +kernel
theorem dX7_conflicts_5 : decode cX7_conflicts 5 = .ok (.aload_n 0, 1) := by decide +kernel
theorem dX7_conflicts_6 : decode cX7_conflicts 6 = .ok (.getfield 9, 3) := by decide +kernel
theorem dX7_conflicts_9 : decode cX7_conflicts 9 = .ok (.iconst 3, 1) := by decide +kernel
theorem dX7_conflicts_10 : decode cX7_conflicts 10 = .ok (.iaload, 1) := by decide +kernel
theorem dX7_conflicts_11 : decode cX7_conflicts 11 = .ok (.ireturn, 1) := by decide +kernel
theorem dX7_logSize_0 : decode cX7_logSize 0 = .ok (.aload_n 0, 1) := by decide +kernel
theorem dX7_logSize_1 : decode cX7_logSize 1 = .ok (.iconst 0, 1) := by decide +kernel
theorem dX7_logSize_2 : decode cX7_logSize 2 = .ok (.putfield 19, 3) := by decide +kernel
theorem dX7_logSize_5 : decode cX7_logSize 5 = .ok (.aload_n 0, 1) := by decide +kernel
theorem dX7_logSize_6 : decode cX7_logSize 6 = .ok (.getfield 27, 3) := by decide +kernel
theorem dX7_logSize_9 : decode cX7_logSize 9 = .ok (.ireturn, 1) := by decide +kernel
theorem dX7_log_0 : decode cX7_log 0 = .ok (.aload_n 0, 1) := by decide +kernel
theorem dX7_log_1 : decode cX7_log 1 = .ok (.iconst 0, 1) := by decide +kernel
theorem dX7_log_2 : decode cX7_log 2 = .ok (.putfield 19, 3) := by decide +kernel
theorem dX7_log_5 : decode cX7_log 5 = .ok (.iload_n 1, 1) := by decide +kernel
theorem dX7_log_6 : decode cX7_log 6 = .ok (.iconst 0, 1) := by decide +kernel
theorem dX7_log_7 : decode cX7_log 7 = .ok (.aload_n 0, 1) := by decide +kernel
theorem dX7_log_8 : decode cX7_log 8 = .ok (.getfield 27, 3) := by decide +kernel
theorem dX7_log_11 : decode cX7_log 11 = .ok (.iconst 1, 1) := by decide +kernel
theorem dX7_log_12 : decode cX7_log 12 = .ok (.isub, 1) := by decide +kernel
theorem dX7_log_13 : decode cX7_log 13 = .ok (.invokestatic 23, 3) := by decide +kernel
theorem dX7_log_16 : decode cX7_log 16 = .ok (.ifCond .eq 12, 3) := by decide +kernel
theorem dX7_log_19 : decode cX7_log 19 = .ok (.aload_n 0, 1) := by decide +kernel
theorem dX7_log_20 : decode cX7_log 20 = .ok (.getfield 16, 3) := by decide +kernel
theorem dX7_log_23 : decode cX7_log 23 = .ok (.iload_n 1, 1) := by decide +kernel
theorem dX7_log_24 : decode cX7_log 24 = .ok (.iaload, 1) := by decide +kernel
theorem dX7_log_25 : decode cX7_log 25 = .ok (.goto 8, 3) := by decide +kernel
theorem dX7_log_28 : decode cX7_log 28 = .ok (.aload_n 0, 1) := by decide +kernel
theorem dX7_log_29 : decode cX7_log 29 = .ok (.iconst 1, 1) := by decide +kernel
theorem dX7_log_30 : decode cX7_log 30 = .ok (.invokevirtual 41, 3) := by decide +kernel
theorem dX7_log_33 : decode cX7_log 33 = .ok (.ireturn, 1) := by decide +kernel
theorem dX7_utilization_0 : decode cX7_utilization 0 = .ok (.aload_n 0, 1) := by decide +kernel
theorem dX7_utilization_1 : decode cX7_utilization 1 = .ok (.iconst 0, 1) := by decide +kernel
theorem dX7_utilization_2 : decode cX7_utilization 2 = .ok (.putfield 19, 3) := by decide +kernel
theorem dX7_utilization_5 : decode cX7_utilization 5 = .ok (.iload_n 1, 1) := by decide +kernel
theorem dX7_utilization_6 : decode cX7_utilization 6 = .ok (.invokestatic 37, 3) := by decide +kernel
theorem dX7_utilization_9 : decode cX7_utilization 9 = .ok (.ifCond .ne 10, 3) := by decide +kernel
theorem dX7_utilization_12 : decode cX7_utilization 12 = .ok (.aload_n 0, 1) := by decide +kernel
theorem dX7_utilization_13 : decode cX7_utilization 13 = .ok (.iconst 1, 1) := by decide +kernel
theorem dX7_utilization_14 : decode cX7_utilization 14 = .ok (.invokevirtual 41, 3) := by decide +kernel
theorem dX7_utilization_17 : decode cX7_utilization 17 = .ok (.i2d, 1) := by decide +kernel
theorem dX7_utilization_18 : decode cX7_utilization 18 = .ok (.dreturn, 1) := by decide +kernel
theorem dX7_utilization_19 : decode cX7_utilization 19 = .ok (.aload_n 0, 1) := by decide +kernel
theorem dX7_utilization_20 : decode cX7_utilization 20 = .ok (.iload_n 1, 1) := by decide +kernel
theorem dX7_utilization_21 : decode cX7_utilization 21 = .ok (.iconst (-1), 1) := by decide +kernel
theorem dX7_utilization_22 : decode cX7_utilization 22 = .ok (.invokevirtual 118, 3) := by decide +kernel
theorem dX7_utilization_25 : decode cX7_utilization 25 = .ok (.istore_n 2, 1) := by decide +kernel
theorem dX7_utilization_26 : decode cX7_utilization 26 = .ok (.iload_n 2, 1) := by decide +kernel
theorem dX7_utilization_27 : decode cX7_utilization 27 = .ok (.ifCond .ne 12, 3) := by decide +kernel
theorem dX7_utilization_30 : decode cX7_utilization 30 = .ok (.aload_n 0, 1) := by decide +kernel
theorem dX7_utilization_31 : decode cX7_utilization 31 = .ok (.iconst 2, 1) := by decide +kernel
theorem dX7_utilization_32 : decode cX7_utilization 32 = .ok (.invokevirtual 41, 3) := by decide +kernel
theorem dX7_utilization_35 : decode cX7_utilization 35 = .ok (.i2d, 1) := by decide +kernel
theorem dX7_utilization_36 : decode cX7_utilization 36 = .ok (.goto 13, 3) := by decide +kernel
theorem dX7_utilization_39 : decode cX7_utilization 39 = .ok (.aload_n 0, 1) := by decide +kernel
theorem dX7_utilization_40 : decode cX7_utilization 40 = .ok (.iload_n 1, 1) := by decide +kernel
theorem dX7_utilization_41 : decode cX7_utilization 41 = .ok (.iconst 2, 1) := by decide +kernel
theorem dX7_utilization_42 : decode cX7_utilization 42 = .ok (.invokevirtual 118, 3) := by decide +kernel
theorem dX7_utilization_45 : decode cX7_utilization 45 = .ok (.i2d, 1) := by decide +kernel
theorem dX7_utilization_46 : decode cX7_utilization 46 = .ok (.iload_n 2, 1) := by decide +kernel
theorem dX7_utilization_47 : decode cX7_utilization 47 = .ok (.i2d, 1) := by decide +kernel
theorem dX7_utilization_48 : decode cX7_utilization 48 = .ok (.ddiv, 1) := by decide +kernel
theorem dX7_utilization_49 : decode cX7_utilization 49 = .ok (.dreturn, 1) := by decide +kernel
theorem dX7_averageRest_0 : decode cX7_averageRest 0 = .ok (.aload_n 0, 1) := by decide +kernel
theorem dX7_averageRest_1 : decode cX7_averageRest 1 = .ok (.iconst 0, 1) := by decide +kernel
theorem dX7_averageRest_2 : decode cX7_averageRest 2 = .ok (.putfield 19, 3) := by decide +kernel
theorem dX7_averageRest_5 : decode cX7_averageRest 5 = .ok (.iconst 0, 1) := by decide +kernel
theorem dX7_averageRest_6 : decode cX7_averageRest 6 = .ok (.istore_n 1, 1) := by decide +kernel
theorem dX7_averageRest_7 : decode cX7_averageRest 7 = .ok (.iconst 0, 1) := by decide +kernel
theorem dX7_averageRest_8 : decode cX7_averageRest 8 = .ok (.istore_n 2, 1) := by decide +kernel
theorem dX7_averageRest_9 : decode cX7_averageRest 9 = .ok (.iload_n 2, 1) := by decide +kernel
theorem dX7_averageRest_10 : decode cX7_averageRest 10 = .ok (.bipush 20, 2) := by decide +kernel
theorem dX7_averageRest_12 : decode cX7_averageRest 12 = .ok (.if_icmp .ge 46, 3) := by decide +kernel
theorem dX7_averageRest_15 : decode cX7_averageRest 15 = .ok (.aload_n 0, 1) := by decide +kernel
theorem dX7_averageRest_16 : decode cX7_averageRest 16 = .ok (.iload_n 2, 1) := by decide +kernel
theorem dX7_averageRest_17 : decode cX7_averageRest 17 = .ok (.invokevirtual 68, 3) := by decide +kernel
theorem dX7_averageRest_20 : decode cX7_averageRest 20 = .ok (.ifCond .eq 32, 3) := by decide +kernel
theorem dX7_averageRest_23 : decode cX7_averageRest 23 = .ok (.iload_n 1, 1) := by decide +kernel
theorem dX7_averageRest_24 : decode cX7_averageRest 24 = .ok (.aload_n 0, 1) := by decide +kernel
theorem dX7_averageRest_25 : decode cX7_averageRest 25 = .ok (.getfield 9, 3) := by decide +kernel
theorem dX7_averageRest_28 : decode cX7_averageRest 28 = .ok (.sipush 431, 3) := by decide +kernel
theorem dX7_averageRest_31 : decode cX7_averageRest 31 = .ok (.aload_n 0, 1) := by decide +kernel
theorem dX7_averageRest_32 : decode cX7_averageRest 32 = .ok (.getfield 9, 3) := by decide +kernel
theorem dX7_averageRest_35 : decode cX7_averageRest 35 = .ok (.sipush 651, 3) := by decide +kernel
theorem dX7_averageRest_38 : decode cX7_averageRest 38 = .ok (.iload_n 2, 1) := by decide +kernel
theorem dX7_averageRest_39 : decode cX7_averageRest 39 = .ok (.iadd, 1) := by decide +kernel
theorem dX7_averageRest_40 : decode cX7_averageRest 40 = .ok (.iaload, 1) := by decide +kernel
theorem dX7_averageRest_41 : decode cX7_averageRest 41 = .ok (.iadd, 1) := by decide +kernel
theorem dX7_averageRest_42 : decode cX7_averageRest 42 = .ok (.iaload, 1) := by decide +kernel
theorem dX7_averageRest_43 : decode cX7_averageRest 43 = .ok (.aload_n 0, 1) := by decide +kernel
theorem dX7_averageRest_44 : decode cX7_averageRest 44 = .ok (.getfield 9, 3) := by decide +kernel
theorem dX7_averageRest_47 : decode cX7_averageRest 47 = .ok (.iconst 0, 1) := by decide +kernel
theorem dX7_averageRest_48 : decode cX7_averageRest 48 = .ok (.iaload, 1) := by decide +kernel
theorem dX7_averageRest_49 : decode cX7_averageRest 49 = .ok (.isub, 1) := by decide +kernel
theorem dX7_averageRest_50 : decode cX7_averageRest 50 = .ok (.iadd, 1) := by decide +kernel
theorem dX7_averageRest_51 : decode cX7_averageRest 51 = .ok (.istore_n 1, 1) := by decide +kernel
theorem dX7_averageRest_52 : decode cX7_averageRest 52 = .ok (.iinc 2 1, 3) := by decide +kernel
theorem dX7_averageRest_55 : decode cX7_averageRest 55 = .ok (.goto (-46), 3) := by decide +kernel
theorem dX7_averageRest_58 : decode cX7_averageRest 58 = .ok (.aload_n 0, 1) := by decide +kernel
theorem dX7_averageRest_59 : decode cX7_averageRest 59 = .ok (.invokevirtual 121, 3) := by decide +kernel
theorem dX7_averageRest_62 : decode cX7_averageRest 62 = .ok (.ifCond .ne 12, 3) := by decide +kernel
theorem dX7_averageRest_65 : decode cX7_averageRest 65 = .ok (.aload_n 0, 1) := by decide +kernel
theorem dX7_averageRest_66 : decode cX7_averageRest 66 = .ok (.iconst 1, 1) := by decide +kernel
theorem dX7_averageRest_67 : decode cX7_averageRest 67 = .ok (.invokevirtual 41, 3) := by decide +kernel
theorem dX7_averageRest_70 : decode cX7_averageRest 70 = .ok (.i2f, 1) := by decide +kernel
theorem dX7_averageRest_71 : decode cX7_averageRest 71 = .ok (.goto 11, 3) := by decide +kernel
theorem dX7_averageRest_74 : decode cX7_averageRest 74 = .ok (.iload_n 1, 1) := by decide +kernel
theorem dX7_averageRest_75 : decode cX7_averageRest 75 = .ok (.i2f, 1) := by decide +kernel
theorem dX7_averageRest_76 : decode cX7_averageRest 76 = .ok (.aload_n 0, 1) := by decide +kernel
theorem dX7_averageRest_77 : decode cX7_averageRest 77 = .ok (.invokevirtual 121, 3) := by decide +kernel
theorem dX7_averageRest_80 : decode cX7_averageRest 80 = .ok (.i2f, 1) := by decide +kernel
theorem dX7_averageRest_81 : decode cX7_averageRest 81 = .ok (.fdiv, 1) := by decide +kernel
theorem dX7_averageRest_82 : decode cX7_averageRest 82 = .ok (.freturn, 1) := by decide +kernel
theorem dX7_save_0 : decode cX7_save 0 = .ok (.aload_n 0, 1) := by decide +kernel
theorem dX7_save_1 : decode cX7_save 1 = .ok (.iconst 0, 1) := by decide +kernel
theorem dX7_save_2 : decode cX7_save 2 = .ok (.putfield 19, 3) := by decide +kernel
theorem dX7_save_5 : decode cX7_save 5 = .ok (.aload_n 0, 1) := by decide +kernel
theorem dX7_save_6 : decode cX7_save 6 = .ok (.iconst 1, 1) := by decide +kernel
theorem dX7_save_7 : decode cX7_save 7 = .ok (.putfield 124, 3) := by decide +kernel
theorem dX7_save_10 : decode cX7_save 10 = .ok (.iconst 0, 1) := by decide +kernel
theorem dX7_save_11 : decode cX7_save 11 = .ok (.istore_n 1, 1) := by decide +kernel
theorem dX7_save_12 : decode cX7_save 12 = .ok (.iload_n 1, 1) := by decide +kernel
theorem dX7_save_13 : decode cX7_save 13 = .ok (.sipush 731, 3) := by decide +kernel
theorem dX7_save_16 : decode cX7_save 16 = .ok (.if_icmp .ge 21, 3) := by decide +kernel
theorem dX7_save_19 : decode cX7_save 19 = .ok (.aload_n 0, 1) := by decide +kernel
theorem dX7_save_20 : decode cX7_save 20 = .ok (.getfield 13, 3) := by decide +kernel
theorem dX7_save_23 : decode cX7_save 23 = .ok (.iload_n 1, 1) := by decide +kernel
theorem dX7_save_24 : decode cX7_save 24 = .ok (.aload_n 0, 1) := by decide +kernel
theorem dX7_save_25 : decode cX7_save 25 = .ok (.getfield 9, 3) := by decide +kernel
theorem dX7_save_28 : decode cX7_save 28 = .ok (.iload_n 1, 1) := by decide +kernel
theorem dX7_save_29 : decode cX7_save 29 = .ok (.iaload, 1) := by decide +kernel
theorem dX7_save_30 : decode cX7_save 30 = .ok (.iastore, 1) := by decide +kernel
theorem dX7_save_31 : decode cX7_save 31 = .ok (.iinc 1 1, 3) := by decide +kernel
theorem dX7_save_34 : decode cX7_save 34 = .ok (.goto (-22), 3) := by decide +kernel
theorem dX7_save_37 : decode cX7_save 37 = .ok (.aload_n 0, 1) := by decide +kernel
theorem dX7_save_38 : decode cX7_save 38 = .ok (.invokevirtual 121, 3) := by decide +kernel
theorem dX7_save_41 : decode cX7_save 41 = .ok (.ireturn, 1) := by decide +kernel
theorem dX7_restore_0 : decode cX7_restore 0 = .ok (.aload_n 0, 1) := by decide +kernel
theorem dX7_restore_1 : decode cX7_restore 1 = .ok (.iconst 0, 1) := by decide +kernel
theorem dX7_restore_2 : decode cX7_restore 2 = .ok (.putfield 19, 3) := by decide +kernel
theorem dX7_restore_5 : decode cX7_restore 5 = .ok (.aload_n 0, 1) := by decide +kernel
theorem dX7_restore_6 : decode cX7_restore 6 = .ok (.getfield 124, 3) := by decide +kernel
theorem dX7_restore_9 : decode cX7_restore 9 = .ok (.ifCond .ne 9, 3) := by decide +kernel
theorem dX7_restore_12 : decode cX7_restore 12 = .ok (.aload_n 0, 1) := by decide +kernel
theorem dX7_restore_13 : decode cX7_restore 13 = .ok (.iconst 1, 1) := by decide +kernel
theorem dX7_restore_14 : decode cX7_restore 14 = .ok (.invokevirtual 41, 3) := by decide +kernel
theorem dX7_restore_17 : decode cX7_restore 17 = .ok (.ireturn, 1) := by decide +kernel
theorem dX7_restore_18 : decode cX7_restore 18 = .ok (.iconst 0, 1) := by decide +kernel
theorem dX7_restore_19 : decode cX7_restore 19 = .ok (.istore_n 1, 1) := by decide +kernel
theorem dX7_restore_20 : decode cX7_restore 20 = .ok (.iload_n 1, 1) := by decide +kernel
theorem dX7_restore_21 : decode cX7_restore 21 = .ok (.sipush 731, 3) := by decide +kernel
theorem dX7_restore_24 : decode cX7_restore 24 = .ok (.if_icmp .ge 21, 3) := by decide +kernel
theorem dX7_restore_27 : decode cX7_restore 27 = .ok (.aload_n 0, 1) := by decide +kernel
theorem dX7_restore_28 : decode cX7_restore 28 = .ok (.getfield 9, 3) := by decide +kernel
theorem dX7_restore_31 : decode cX7_restore 31 = .ok (.iload_n 1, 1) := by decide +kernel
theorem dX7_restore_32 : decode cX7_restore 32 = .ok (.aload_n 0, 1) := by decide +kernel
theorem dX7_restore_33 : decode cX7_restore 33 = .ok (.getfield 13, 3) := by decide +kernel
theorem dX7_restore_36 : decode cX7_restore 36 = .ok (.iload_n 1, 1) := by decide +kernel
theorem dX7_restore_37 : decode cX7_restore 37 = .ok (.iaload, 1) := by decide +kernel
theorem dX7_restore_38 : decode cX7_restore 38 = .ok (.iastore, 1) := by decide +kernel
theorem dX7_restore_39 : decode cX7_restore 39 = .ok (.iinc 1 1, 3) := by decide +kernel
theorem dX7_restore_42 : decode cX7_restore 42 = .ok (.goto (-22), 3) := by decide +kernel
theorem dX7_restore_45 : decode cX7_restore 45 = .ok (.aload_n 0, 1) := by decide +kernel
theorem dX7_restore_46 : decode cX7_restore 46 = .ok (.invokevirtual 121, 3) := by decide +kernel
theorem dX7_restore_49 : decode cX7_restore 49 = .ok (.ireturn, 1) := by decide +kernel
end
section
def okw : Cond → Bool
  | .methodLinkNest _ _ _ _ => true
  | .castable _ _ => true
  | .declares _ => true
  | w => goodWord w
def lw_ok : List Cond := lw_tbl.filter okw
theorem ok_in {w : Cond} (i : Nat) (h : lw_tbl[i]? = some w) (h2 : okw w = true) : w ∈ lw_ok := List.mem_filter.mpr ⟨List.mem_of_getElem? h, h2⟩
/-- a call's words: virtual -/
def LkV (own : String) (idx : Nat) (y : MethodName) (bytes : ByteArray) (maxL : Nat) (ret : Option FieldType) (n : Nat) : Prop :=
  (Cond.methodLink own idx y ∈ lw_ok ∧ Cond.instanceMethod y ∈ lw_ok ∧ Cond.selects y.cls y y ∈ lw_ok ∧ Cond.initialized y.cls ∈ lw_ok ∧ Cond.code y bytes maxL ret ∈ lw_ok) ∧ y.cls ≠ "java/lang/invoke/MethodHandle" ∧ y.cls ≠ "java/lang/invoke/VarHandle" ∧ (parseMethodDescriptor y.desc).map (fun d => d.parameters.length) = some n
/-- static -/
def LkS (own : String) (idx : Nat) (y : MethodName) (bytes : ByteArray) (maxL : Nat) (ret : Option FieldType) (n : Nat) : Prop :=
  (Cond.methodLink own idx y ∈ lw_ok ∧ Cond.static y ∈ lw_ok ∧ Cond.initialized y.cls ∈ lw_ok ∧ Cond.code y bytes maxL ret ∈ lw_ok) ∧ y.cls ≠ "java/lang/invoke/MethodHandle" ∧ y.cls ≠ "java/lang/invoke/VarHandle" ∧ (parseMethodDescriptor y.desc).map (fun d => d.parameters.length) = some n
/-- static, of a nest mate -/
def LkN (own : String) (idx : Nat) (y : MethodName) (host : String) (bytes : ByteArray) (maxL : Nat) (ret : Option FieldType) (n : Nat) : Prop :=
  (Cond.methodLinkNest own idx y host ∈ lw_ok ∧ Cond.static y ∈ lw_ok ∧ Cond.initialized y.cls ∈ lw_ok ∧ Cond.code y bytes maxL ret ∈ lw_ok) ∧ y.cls ≠ "java/lang/invoke/MethodHandle" ∧ y.cls ≠ "java/lang/invoke/VarHandle" ∧ (parseMethodDescriptor y.desc).map (fun d => d.parameters.length) = some n
/-- constructor -/
def LkI (own : String) (idx : Nat) (y : MethodName) (bytes : ByteArray) (maxL : Nat) (n : Nat) : Prop :=
  (Cond.methodLink own idx y ∈ lw_ok ∧ Cond.instanceMethod y ∈ lw_ok ∧ Cond.initialized y.cls ∈ lw_ok ∧ Cond.code y bytes maxL none ∈ lw_ok) ∧ y.cls ≠ "java/lang/invoke/MethodHandle" ∧ y.cls ≠ "java/lang/invoke/VarHandle" ∧ (parseMethodDescriptor y.desc).map (fun d => d.parameters.length) = some n
/-- constructor, private, of a nest mate -/
def LkJ (own : String) (idx : Nat) (y : MethodName) (host : String) (bytes : ByteArray) (maxL : Nat) (n : Nat) : Prop :=
  (Cond.methodLinkNest own idx y host ∈ lw_ok ∧ Cond.instanceMethod y ∈ lw_ok ∧ Cond.initialized y.cls ∈ lw_ok ∧ Cond.code y bytes maxL none ∈ lw_ok) ∧ y.cls ≠ "java/lang/invoke/MethodHandle" ∧ y.cls ≠ "java/lang/invoke/VarHandle" ∧ (parseMethodDescriptor y.desc).map (fun d => d.parameters.length) = some n
/-- static, with a table -/
def LkW (own : String) (idx : Nat) (y : MethodName) (bytes : ByteArray) (maxL : Nat) (ret : Option FieldType) (hh : List (Nat × Nat × Nat × Nat)) (n : Nat) : Prop :=
  (Cond.methodLink own idx y ∈ lw_ok ∧ Cond.static y ∈ lw_ok ∧ Cond.initialized y.cls ∈ lw_ok ∧ Cond.codeWith y bytes maxL ret hh ∈ lw_ok) ∧ y.cls ≠ "java/lang/invoke/MethodHandle" ∧ y.cls ≠ "java/lang/invoke/VarHandle" ∧ (parseMethodDescriptor y.desc).map (fun d => d.parameters.length) = some n
abbrev kcl : List vw_C := [(RX0, TX0, 6), (RX1, TX1, 5), (RX2, TX2, 3), (RX3, TX3, 5), (RX4, TX4, 6), (RX5, TX5, 5), (RX6, TX6, 4), (RX7, TX7, 6)]
/-- a field, read -/
def FL (own : String) (idx ci k : Nat) (C : String) (T : u_T) (N : Nat) : Prop := kcl[ci]? = some (C, T, N) ∧ k < N ∧ (∀ w ∈ u_ws C T N, w ∈ lw_ok) ∧ Cond.fieldLink own idx (T k).1 (T k).2.1 (T k).2.2.1 ∈ lw_ok
def FK (C : String) (T : u_T) (N : Nat) (ty : Nat → FieldType) : Prop := (∀ k, k < N → parseFieldDescriptor (T k).2.2.1 = some (ty k)) ∧ ∀ a, a < N → ∀ b, b < N → a ≠ b → (T a).2.1 ≠ (T b).2.1
theorem uws_X0 : ∀ w ∈ u_ws RX0 TX0 6, w ∈ lw_ok := by decide +kernel
theorem fk_X0 : FK RX0 TX0 6 tyX0 := ⟨tyX0_ok, nmX0⟩
theorem uws_X1 : ∀ w ∈ u_ws RX1 TX1 5, w ∈ lw_ok := by decide +kernel
theorem fk_X1 : FK RX1 TX1 5 tyX1 := ⟨tyX1_ok, nmX1⟩
theorem uws_X2 : ∀ w ∈ u_ws RX2 TX2 3, w ∈ lw_ok := by decide +kernel
theorem fk_X2 : FK RX2 TX2 3 tyX2 := ⟨tyX2_ok, nmX2⟩
theorem uws_X3 : ∀ w ∈ u_ws RX3 TX3 5, w ∈ lw_ok := by decide +kernel
theorem fk_X3 : FK RX3 TX3 5 tyX3 := ⟨tyX3_ok, nmX3⟩
theorem uws_X4 : ∀ w ∈ u_ws RX4 TX4 6, w ∈ lw_ok := by decide +kernel
theorem fk_X4 : FK RX4 TX4 6 tyX4 := ⟨tyX4_ok, nmX4⟩
theorem uws_X5 : ∀ w ∈ u_ws RX5 TX5 5, w ∈ lw_ok := by decide +kernel
theorem fk_X5 : FK RX5 TX5 5 tyX5 := ⟨tyX5_ok, nmX5⟩
theorem uws_X6 : ∀ w ∈ u_ws RX6 TX6 4, w ∈ lw_ok := by decide +kernel
theorem fk_X6 : FK RX6 TX6 4 tyX6 := ⟨tyX6_ok, nmX6⟩
theorem uws_X7 : ∀ w ∈ u_ws RX7 TX7 6, w ∈ lw_ok := by decide +kernel
theorem fk_X7 : FK RX7 TX7 6 tyX7 := ⟨tyX7_ok, nmX7⟩
theorem mw_65 : Cond.methodLink RL 121 yX6_init ∈ lw_ok := ok_in 65 (by decide +kernel) (by decide +kernel)
theorem mw_42 : Cond.initialized RX6 ∈ lw_ok := ok_in 42 (by decide +kernel) (by decide +kernel)
theorem mw_67 : Cond.code yX6_init cX6_init 1 none ∈ lw_ok := ok_in 67 (by decide +kernel) (by decide +kernel)
theorem mw_66 : Cond.instanceMethod yX6_init ∈ lw_ok := ok_in 66 (by decide +kernel) (by decide +kernel)
theorem Lk_L_121 : LkI RL 121 yX6_init cX6_init 1 0 := ⟨⟨mw_65, mw_66, mw_42, mw_67⟩, ⟨by decide +kernel, by decide +kernel, by decide +kernel⟩⟩
theorem mw_73 : Cond.methodLinkNest RX6 9 yX2_init "LeaseServer" ∈ lw_ok := ok_in 73 (by decide +kernel) (by decide +kernel)
theorem mw_43 : Cond.initialized RX2 ∈ lw_ok := ok_in 43 (by decide +kernel) (by decide +kernel)
theorem mw_75 : Cond.code yX2_init cX2_init 1 none ∈ lw_ok := ok_in 75 (by decide +kernel) (by decide +kernel)
theorem mw_74 : Cond.instanceMethod yX2_init ∈ lw_ok := ok_in 74 (by decide +kernel) (by decide +kernel)
theorem Lk_X6_9 : LkJ RX6 9 yX2_init "LeaseServer" cX2_init 1 0 := ⟨⟨mw_73, mw_74, mw_43, mw_75⟩, ⟨by decide +kernel, by decide +kernel, by decide +kernel⟩⟩
theorem mw_77 : Cond.fieldLink RX2 9 "LeaseServer$Log" "ring" "[I" ∈ lw_ok := ok_in 77 (by decide +kernel) (by decide +kernel)
theorem FL_X2_9 : FL RX2 9 2 0 RX2 TX2 3 := ⟨rfl, by decide, uws_X2, mw_77⟩
theorem mw_78 : Cond.fieldLink RX2 19 "LeaseServer$Log" "size" "I" ∈ lw_ok := ok_in 78 (by decide +kernel) (by decide +kernel)
theorem FL_X2_19 : FL RX2 19 2 1 RX2 TX2 3 := ⟨rfl, by decide, uws_X2, mw_78⟩
theorem mw_79 : Cond.fieldLink RX6 276 "LeaseServer$Log" "size" "I" ∈ lw_ok := ok_in 79 (by decide +kernel) (by decide +kernel)
theorem FL_X6_276 : FL RX6 276 2 1 RX2 TX2 3 := ⟨rfl, by decide, uws_X2, mw_79⟩
theorem mw_80 : Cond.fieldLink RX2 15 "LeaseServer$Log" "next" "I" ∈ lw_ok := ok_in 80 (by decide +kernel) (by decide +kernel)
theorem FL_X2_15 : FL RX2 15 2 2 RX2 TX2 3 := ⟨rfl, by decide, uws_X2, mw_80⟩
theorem mw_91 : Cond.methodLink RX6 18 yX5_init ∈ lw_ok := ok_in 91 (by decide +kernel) (by decide +kernel)
theorem mw_44 : Cond.initialized RX5 ∈ lw_ok := ok_in 44 (by decide +kernel) (by decide +kernel)
theorem mw_93 : Cond.code yX5_init cX5_init 2 none ∈ lw_ok := ok_in 93 (by decide +kernel) (by decide +kernel)
theorem mw_92 : Cond.instanceMethod yX5_init ∈ lw_ok := ok_in 92 (by decide +kernel) (by decide +kernel)
theorem Lk_X6_18 : LkI RX6 18 yX5_init cX5_init 2 1 := ⟨⟨mw_91, mw_92, mw_44, mw_93⟩, ⟨by decide +kernel, by decide +kernel, by decide +kernel⟩⟩
theorem mw_97 : Cond.methodLinkNest RX5 11 yX3_init "LeaseServer" ∈ lw_ok := ok_in 97 (by decide +kernel) (by decide +kernel)
theorem mw_45 : Cond.initialized RX3 ∈ lw_ok := ok_in 45 (by decide +kernel) (by decide +kernel)
theorem mw_99 : Cond.code yX3_init cX3_init 1 none ∈ lw_ok := ok_in 99 (by decide +kernel) (by decide +kernel)
theorem mw_98 : Cond.instanceMethod yX3_init ∈ lw_ok := ok_in 98 (by decide +kernel) (by decide +kernel)
theorem Lk_X5_11 : LkJ RX5 11 yX3_init "LeaseServer" cX3_init 1 0 := ⟨⟨mw_97, mw_98, mw_45, mw_99⟩, ⟨by decide +kernel, by decide +kernel, by decide +kernel⟩⟩
theorem mw_101 : Cond.fieldLink RX3 24 "LeaseServer$Pools" "count" "I" ∈ lw_ok := ok_in 101 (by decide +kernel) (by decide +kernel)
theorem FL_X3_24 : FL RX3 24 3 0 RX3 TX3 5 := ⟨rfl, by decide, uws_X3, mw_101⟩
theorem mw_102 : Cond.fieldLink RX6 49 "LeaseServer$Pools" "count" "I" ∈ lw_ok := ok_in 102 (by decide +kernel) (by decide +kernel)
theorem FL_X6_49 : FL RX6 49 3 0 RX3 TX3 5 := ⟨rfl, by decide, uws_X3, mw_102⟩
theorem mw_103 : Cond.fieldLink RX5 87 "LeaseServer$Pools" "count" "I" ∈ lw_ok := ok_in 103 (by decide +kernel) (by decide +kernel)
theorem FL_X5_87 : FL RX5 87 3 0 RX3 TX3 5 := ⟨rfl, by decide, uws_X3, mw_103⟩
theorem mw_104 : Cond.fieldLink RX3 9 "LeaseServer$Pools" "group" "[I" ∈ lw_ok := ok_in 104 (by decide +kernel) (by decide +kernel)
theorem FL_X3_9 : FL RX3 9 3 1 RX3 TX3 5 := ⟨rfl, by decide, uws_X3, mw_104⟩
theorem mw_105 : Cond.fieldLink RX6 100 "LeaseServer$Pools" "group" "[I" ∈ lw_ok := ok_in 105 (by decide +kernel) (by decide +kernel)
theorem FL_X6_100 : FL RX6 100 3 1 RX3 TX3 5 := ⟨rfl, by decide, uws_X3, mw_105⟩
theorem mw_106 : Cond.fieldLink RX5 91 "LeaseServer$Pools" "group" "[I" ∈ lw_ok := ok_in 106 (by decide +kernel) (by decide +kernel)
theorem FL_X5_91 : FL RX5 91 3 1 RX3 TX3 5 := ⟨rfl, by decide, uws_X3, mw_106⟩
theorem mw_107 : Cond.fieldLink RX3 15 "LeaseServer$Pools" "first" "[I" ∈ lw_ok := ok_in 107 (by decide +kernel) (by decide +kernel)
theorem FL_X3_15 : FL RX3 15 3 2 RX3 TX3 5 := ⟨rfl, by decide, uws_X3, mw_107⟩
theorem mw_108 : Cond.fieldLink RX6 83 "LeaseServer$Pools" "first" "[I" ∈ lw_ok := ok_in 108 (by decide +kernel) (by decide +kernel)
theorem FL_X6_83 : FL RX6 83 3 2 RX3 TX3 5 := ⟨rfl, by decide, uws_X3, mw_108⟩
theorem mw_109 : Cond.fieldLink RX5 94 "LeaseServer$Pools" "first" "[I" ∈ lw_ok := ok_in 109 (by decide +kernel) (by decide +kernel)
theorem FL_X5_94 : FL RX5 94 3 2 RX3 TX3 5 := ⟨rfl, by decide, uws_X3, mw_109⟩
theorem mw_110 : Cond.fieldLink RX3 18 "LeaseServer$Pools" "last" "[I" ∈ lw_ok := ok_in 110 (by decide +kernel) (by decide +kernel)
theorem FL_X3_18 : FL RX3 18 3 3 RX3 TX3 5 := ⟨rfl, by decide, uws_X3, mw_110⟩
theorem mw_111 : Cond.fieldLink RX6 87 "LeaseServer$Pools" "last" "[I" ∈ lw_ok := ok_in 111 (by decide +kernel) (by decide +kernel)
theorem FL_X6_87 : FL RX6 87 3 3 RX3 TX3 5 := ⟨rfl, by decide, uws_X3, mw_111⟩
theorem mw_112 : Cond.fieldLink RX5 97 "LeaseServer$Pools" "last" "[I" ∈ lw_ok := ok_in 112 (by decide +kernel) (by decide +kernel)
theorem FL_X5_97 : FL RX5 97 3 3 RX3 TX3 5 := ⟨rfl, by decide, uws_X3, mw_112⟩
theorem mw_113 : Cond.fieldLink RX3 21 "LeaseServer$Pools" "lease" "[I" ∈ lw_ok := ok_in 113 (by decide +kernel) (by decide +kernel)
theorem FL_X3_21 : FL RX3 21 3 4 RX3 TX3 5 := ⟨rfl, by decide, uws_X3, mw_113⟩
theorem mw_114 : Cond.fieldLink RX6 103 "LeaseServer$Pools" "lease" "[I" ∈ lw_ok := ok_in 114 (by decide +kernel) (by decide +kernel)
theorem FL_X6_103 : FL RX6 103 3 4 RX3 TX3 5 := ⟨rfl, by decide, uws_X3, mw_114⟩
theorem mw_128 : Cond.methodLink RX5 20 yX0_init ∈ lw_ok := ok_in 128 (by decide +kernel) (by decide +kernel)
theorem mw_46 : Cond.initialized RX0 ∈ lw_ok := ok_in 46 (by decide +kernel) (by decide +kernel)
theorem mw_130 : Cond.code yX0_init cX0_init 1 none ∈ lw_ok := ok_in 130 (by decide +kernel) (by decide +kernel)
theorem mw_129 : Cond.instanceMethod yX0_init ∈ lw_ok := ok_in 129 (by decide +kernel) (by decide +kernel)
theorem Lk_X5_20 : LkI RX5 20 yX0_init cX0_init 1 0 := ⟨⟨mw_128, mw_129, mw_46, mw_130⟩, ⟨by decide +kernel, by decide +kernel, by decide +kernel⟩⟩
theorem mw_132 : Cond.methodLink RX0 31 yJ7_fill_53178 ∈ lw_ok := ok_in 132 (by decide +kernel) (by decide +kernel)
theorem mw_47 : Cond.initialized RJ7 ∈ lw_ok := ok_in 47 (by decide +kernel) (by decide +kernel)
theorem mw_134 : Cond.code yJ7_fill_53178 cJ7_fill_53178 4 none ∈ lw_ok := ok_in 134 (by decide +kernel) (by decide +kernel)
theorem mw_133 : Cond.static yJ7_fill_53178 ∈ lw_ok := ok_in 133 (by decide +kernel) (by decide +kernel)
theorem Lk_X0_31 : LkS RX0 31 yJ7_fill_53178 cJ7_fill_53178 4 none 2 := ⟨⟨mw_132, mw_133, mw_47, mw_134⟩, ⟨by decide +kernel, by decide +kernel, by decide +kernel⟩⟩
theorem mw_135 : Cond.fieldLink RX0 9 "LeaseServer$Addresses" "excluded" "[Z" ∈ lw_ok := ok_in 135 (by decide +kernel) (by decide +kernel)
theorem FL_X0_9 : FL RX0 9 0 0 RX0 TX0 6 := ⟨rfl, by decide, uws_X0, mw_135⟩
theorem mw_136 : Cond.fieldLink RX6 121 "LeaseServer$Addresses" "excluded" "[Z" ∈ lw_ok := ok_in 136 (by decide +kernel) (by decide +kernel)
theorem FL_X6_121 : FL RX6 121 0 0 RX0 TX0 6 := ⟨rfl, by decide, uws_X0, mw_136⟩
theorem mw_137 : Cond.fieldLink RX5 195 "LeaseServer$Addresses" "excluded" "[Z" ∈ lw_ok := ok_in 137 (by decide +kernel) (by decide +kernel)
theorem FL_X5_195 : FL RX5 195 0 0 RX0 TX0 6 := ⟨rfl, by decide, uws_X0, mw_137⟩
theorem mw_138 : Cond.fieldLink RX0 15 "LeaseServer$Addresses" "stranger" "[Z" ∈ lw_ok := ok_in 138 (by decide +kernel) (by decide +kernel)
theorem FL_X0_15 : FL RX0 15 0 1 RX0 TX0 6 := ⟨rfl, by decide, uws_X0, mw_138⟩
theorem mw_139 : Cond.fieldLink RX6 125 "LeaseServer$Addresses" "stranger" "[Z" ∈ lw_ok := ok_in 139 (by decide +kernel) (by decide +kernel)
theorem FL_X6_125 : FL RX6 125 0 1 RX0 TX0 6 := ⟨rfl, by decide, uws_X0, mw_139⟩
theorem mw_140 : Cond.fieldLink RX5 145 "LeaseServer$Addresses" "stranger" "[Z" ∈ lw_ok := ok_in 140 (by decide +kernel) (by decide +kernel)
theorem FL_X5_145 : FL RX5 145 0 1 RX0 TX0 6 := ⟨rfl, by decide, uws_X0, mw_140⟩
theorem mw_141 : Cond.fieldLink RX0 18 "LeaseServer$Addresses" "state" "[I" ∈ lw_ok := ok_in 141 (by decide +kernel) (by decide +kernel)
theorem FL_X0_18 : FL RX0 18 0 2 RX0 TX0 6 := ⟨rfl, by decide, uws_X0, mw_141⟩
theorem mw_142 : Cond.fieldLink RX6 244 "LeaseServer$Addresses" "state" "[I" ∈ lw_ok := ok_in 142 (by decide +kernel) (by decide +kernel)
theorem FL_X6_244 : FL RX6 244 0 2 RX0 TX0 6 := ⟨rfl, by decide, uws_X0, mw_142⟩
theorem mw_143 : Cond.fieldLink RX0 22 "LeaseServer$Addresses" "holder" "[I" ∈ lw_ok := ok_in 143 (by decide +kernel) (by decide +kernel)
theorem FL_X0_22 : FL RX0 22 0 3 RX0 TX0 6 := ⟨rfl, by decide, uws_X0, mw_143⟩
theorem mw_144 : Cond.fieldLink RX5 237 "LeaseServer$Addresses" "holder" "[I" ∈ lw_ok := ok_in 144 (by decide +kernel) (by decide +kernel)
theorem FL_X5_237 : FL RX5 237 0 3 RX0 TX0 6 := ⟨rfl, by decide, uws_X0, mw_144⟩
theorem mw_145 : Cond.fieldLink RX6 245 "LeaseServer$Addresses" "holder" "[I" ∈ lw_ok := ok_in 145 (by decide +kernel) (by decide +kernel)
theorem FL_X6_245 : FL RX6 245 0 3 RX0 TX0 6 := ⟨rfl, by decide, uws_X0, mw_145⟩
theorem mw_146 : Cond.fieldLink RX0 25 "LeaseServer$Addresses" "end" "[I" ∈ lw_ok := ok_in 146 (by decide +kernel) (by decide +kernel)
theorem FL_X0_25 : FL RX0 25 0 4 RX0 TX0 6 := ⟨rfl, by decide, uws_X0, mw_146⟩
theorem mw_147 : Cond.fieldLink RX5 84 "LeaseServer$Addresses" "end" "[I" ∈ lw_ok := ok_in 147 (by decide +kernel) (by decide +kernel)
theorem FL_X5_84 : FL RX5 84 0 4 RX0 TX0 6 := ⟨rfl, by decide, uws_X0, mw_147⟩
theorem mw_148 : Cond.fieldLink RX6 252 "LeaseServer$Addresses" "end" "[I" ∈ lw_ok := ok_in 148 (by decide +kernel) (by decide +kernel)
theorem FL_X6_252 : FL RX6 252 0 4 RX0 TX0 6 := ⟨rfl, by decide, uws_X0, mw_148⟩
theorem mw_149 : Cond.fieldLink RX0 28 "LeaseServer$Addresses" "freed" "[I" ∈ lw_ok := ok_in 149 (by decide +kernel) (by decide +kernel)
theorem FL_X0_28 : FL RX0 28 0 5 RX0 TX0 6 := ⟨rfl, by decide, uws_X0, mw_149⟩
theorem mw_150 : Cond.fieldLink RX6 257 "LeaseServer$Addresses" "freed" "[I" ∈ lw_ok := ok_in 150 (by decide +kernel) (by decide +kernel)
theorem FL_X6_257 : FL RX6 257 0 5 RX0 TX0 6 := ⟨rfl, by decide, uws_X0, mw_150⟩
theorem mw_167 : Cond.methodLink RX5 27 yX1_init ∈ lw_ok := ok_in 167 (by decide +kernel) (by decide +kernel)
theorem mw_48 : Cond.initialized RX1 ∈ lw_ok := ok_in 48 (by decide +kernel) (by decide +kernel)
theorem mw_169 : Cond.code yX1_init cX1_init 1 none ∈ lw_ok := ok_in 169 (by decide +kernel) (by decide +kernel)
theorem mw_168 : Cond.instanceMethod yX1_init ∈ lw_ok := ok_in 168 (by decide +kernel) (by decide +kernel)
theorem Lk_X5_27 : LkI RX5 27 yX1_init cX1_init 1 0 := ⟨⟨mw_167, mw_168, mw_48, mw_169⟩, ⟨by decide +kernel, by decide +kernel, by decide +kernel⟩⟩
theorem mw_171 : Cond.methodLink RX1 27 yJ7_fill_53178 ∈ lw_ok := ok_in 171 (by decide +kernel) (by decide +kernel)
theorem Lk_X1_27 : LkS RX1 27 yJ7_fill_53178 cJ7_fill_53178 4 none 2 := ⟨⟨mw_171, mw_133, mw_47, mw_134⟩, ⟨by decide +kernel, by decide +kernel, by decide +kernel⟩⟩
theorem mw_172 : Cond.fieldLink RX1 9 "LeaseServer$Clients" "state" "[I" ∈ lw_ok := ok_in 172 (by decide +kernel) (by decide +kernel)
theorem FL_X1_9 : FL RX1 9 1 0 RX1 TX1 5 := ⟨rfl, by decide, uws_X1, mw_172⟩
theorem mw_173 : Cond.fieldLink RX6 174 "LeaseServer$Clients" "state" "[I" ∈ lw_ok := ok_in 173 (by decide +kernel) (by decide +kernel)
theorem FL_X6_174 : FL RX6 174 1 0 RX1 TX1 5 := ⟨rfl, by decide, uws_X1, mw_173⟩
theorem mw_174 : Cond.fieldLink RX5 209 "LeaseServer$Clients" "state" "[I" ∈ lw_ok := ok_in 174 (by decide +kernel) (by decide +kernel)
theorem FL_X5_209 : FL RX5 209 1 0 RX1 TX1 5 := ⟨rfl, by decide, uws_X1, mw_174⟩
theorem mw_175 : Cond.fieldLink RX1 15 "LeaseServer$Clients" "address" "[I" ∈ lw_ok := ok_in 175 (by decide +kernel) (by decide +kernel)
theorem FL_X1_15 : FL RX1 15 1 1 RX1 TX1 5 := ⟨rfl, by decide, uws_X1, mw_175⟩
theorem mw_176 : Cond.fieldLink RX5 74 "LeaseServer$Clients" "address" "[I" ∈ lw_ok := ok_in 176 (by decide +kernel) (by decide +kernel)
theorem FL_X5_74 : FL RX5 74 1 1 RX1 TX1 5 := ⟨rfl, by decide, uws_X1, mw_176⟩
theorem mw_177 : Cond.fieldLink RX6 184 "LeaseServer$Clients" "address" "[I" ∈ lw_ok := ok_in 177 (by decide +kernel) (by decide +kernel)
theorem FL_X6_184 : FL RX6 184 1 1 RX1 TX1 5 := ⟨rfl, by decide, uws_X1, mw_177⟩
theorem mw_178 : Cond.fieldLink RX1 18 "LeaseServer$Clients" "lastLeased" "[I" ∈ lw_ok := ok_in 178 (by decide +kernel) (by decide +kernel)
theorem FL_X1_18 : FL RX1 18 1 2 RX1 TX1 5 := ⟨rfl, by decide, uws_X1, mw_178⟩
theorem mw_179 : Cond.fieldLink RX5 113 "LeaseServer$Clients" "lastLeased" "[I" ∈ lw_ok := ok_in 179 (by decide +kernel) (by decide +kernel)
theorem FL_X5_113 : FL RX5 113 1 2 RX1 TX1 5 := ⟨rfl, by decide, uws_X1, mw_179⟩
theorem mw_180 : Cond.fieldLink RX6 230 "LeaseServer$Clients" "lastLeased" "[I" ∈ lw_ok := ok_in 180 (by decide +kernel) (by decide +kernel)
theorem FL_X6_230 : FL RX6 230 1 2 RX1 TX1 5 := ⟨rfl, by decide, uws_X1, mw_180⟩
theorem mw_181 : Cond.fieldLink RX1 21 "LeaseServer$Clients" "renewal" "[I" ∈ lw_ok := ok_in 181 (by decide +kernel) (by decide +kernel)
theorem FL_X1_21 : FL RX1 21 1 3 RX1 TX1 5 := ⟨rfl, by decide, uws_X1, mw_181⟩
theorem mw_182 : Cond.fieldLink RX5 218 "LeaseServer$Clients" "renewal" "[I" ∈ lw_ok := ok_in 182 (by decide +kernel) (by decide +kernel)
theorem FL_X5_218 : FL RX5 218 1 3 RX1 TX1 5 := ⟨rfl, by decide, uws_X1, mw_182⟩
theorem mw_183 : Cond.fieldLink RX6 235 "LeaseServer$Clients" "renewal" "[I" ∈ lw_ok := ok_in 183 (by decide +kernel) (by decide +kernel)
theorem FL_X6_235 : FL RX6 235 1 3 RX1 TX1 5 := ⟨rfl, by decide, uws_X1, mw_183⟩
theorem mw_184 : Cond.fieldLink RX1 24 "LeaseServer$Clients" "rebinding" "[I" ∈ lw_ok := ok_in 184 (by decide +kernel) (by decide +kernel)
theorem FL_X1_24 : FL RX1 24 1 4 RX1 TX1 5 := ⟨rfl, by decide, uws_X1, mw_184⟩
theorem mw_185 : Cond.fieldLink RX5 221 "LeaseServer$Clients" "rebinding" "[I" ∈ lw_ok := ok_in 185 (by decide +kernel) (by decide +kernel)
theorem FL_X5_221 : FL RX5 221 1 4 RX1 TX1 5 := ⟨rfl, by decide, uws_X1, mw_185⟩
theorem mw_186 : Cond.fieldLink RX6 238 "LeaseServer$Clients" "rebinding" "[I" ∈ lw_ok := ok_in 186 (by decide +kernel) (by decide +kernel)
theorem FL_X6_238 : FL RX6 238 1 4 RX1 TX1 5 := ⟨rfl, by decide, uws_X1, mw_186⟩
theorem mw_200 : Cond.methodLink RX5 34 yX4_init ∈ lw_ok := ok_in 200 (by decide +kernel) (by decide +kernel)
theorem mw_49 : Cond.initialized RX4 ∈ lw_ok := ok_in 49 (by decide +kernel) (by decide +kernel)
theorem mw_202 : Cond.code yX4_init cX4_init 2 none ∈ lw_ok := ok_in 202 (by decide +kernel) (by decide +kernel)
theorem mw_201 : Cond.instanceMethod yX4_init ∈ lw_ok := ok_in 201 (by decide +kernel) (by decide +kernel)
theorem Lk_X5_34 : LkI RX5 34 yX4_init cX4_init 2 0 := ⟨⟨mw_200, mw_201, mw_49, mw_202⟩, ⟨by decide +kernel, by decide +kernel, by decide +kernel⟩⟩
theorem mw_204 : Cond.fieldLink RX4 25 "LeaseServer$Settings" "time" "I" ∈ lw_ok := ok_in 204 (by decide +kernel) (by decide +kernel)
theorem FL_X4_25 : FL RX4 25 4 0 RX4 TX4 6 := ⟨rfl, by decide, uws_X4, mw_204⟩
theorem mw_205 : Cond.fieldLink RX5 110 "LeaseServer$Settings" "time" "I" ∈ lw_ok := ok_in 205 (by decide +kernel) (by decide +kernel)
theorem FL_X5_110 : FL RX5 110 4 0 RX4 TX4 6 := ⟨rfl, by decide, uws_X4, mw_205⟩
theorem mw_206 : Cond.fieldLink RX6 209 "LeaseServer$Settings" "time" "I" ∈ lw_ok := ok_in 206 (by decide +kernel) (by decide +kernel)
theorem FL_X6_209 : FL RX6 209 4 0 RX4 TX4 6 := ⟨rfl, by decide, uws_X4, mw_206⟩
theorem mw_207 : Cond.fieldLink RX4 9 "LeaseServer$Settings" "hold" "I" ∈ lw_ok := ok_in 207 (by decide +kernel) (by decide +kernel)
theorem FL_X4_9 : FL RX4 9 4 1 RX4 TX4 6 := ⟨rfl, by decide, uws_X4, mw_207⟩
theorem mw_208 : Cond.fieldLink RX6 134 "LeaseServer$Settings" "hold" "I" ∈ lw_ok := ok_in 208 (by decide +kernel) (by decide +kernel)
theorem FL_X6_134 : FL RX6 134 4 1 RX4 TX4 6 := ⟨rfl, by decide, uws_X4, mw_208⟩
theorem mw_209 : Cond.fieldLink RX5 155 "LeaseServer$Settings" "hold" "I" ∈ lw_ok := ok_in 209 (by decide +kernel) (by decide +kernel)
theorem FL_X5_155 : FL RX5 155 4 1 RX4 TX4 6 := ⟨rfl, by decide, uws_X4, mw_209⟩
theorem mw_210 : Cond.fieldLink RX4 15 "LeaseServer$Settings" "quarantine" "I" ∈ lw_ok := ok_in 210 (by decide +kernel) (by decide +kernel)
theorem FL_X4_15 : FL RX4 15 4 2 RX4 TX4 6 := ⟨rfl, by decide, uws_X4, mw_210⟩
theorem mw_211 : Cond.fieldLink RX6 141 "LeaseServer$Settings" "quarantine" "I" ∈ lw_ok := ok_in 211 (by decide +kernel) (by decide +kernel)
theorem FL_X6_141 : FL RX6 141 4 2 RX4 TX4 6 := ⟨rfl, by decide, uws_X4, mw_211⟩
theorem mw_212 : Cond.fieldLink RX5 170 "LeaseServer$Settings" "quarantine" "I" ∈ lw_ok := ok_in 212 (by decide +kernel) (by decide +kernel)
theorem FL_X5_170 : FL RX5 170 4 2 RX4 TX4 6 := ⟨rfl, by decide, uws_X4, mw_212⟩
theorem mw_213 : Cond.fieldLink RX4 28 "LeaseServer$Settings" "conflicts" "I" ∈ lw_ok := ok_in 213 (by decide +kernel) (by decide +kernel)
theorem FL_X4_28 : FL RX4 28 4 3 RX4 TX4 6 := ⟨rfl, by decide, uws_X4, mw_213⟩
theorem mw_214 : Cond.fieldLink RX5 176 "LeaseServer$Settings" "conflicts" "I" ∈ lw_ok := ok_in 214 (by decide +kernel) (by decide +kernel)
theorem FL_X5_176 : FL RX5 176 4 3 RX4 TX4 6 := ⟨rfl, by decide, uws_X4, mw_214⟩
theorem mw_215 : Cond.fieldLink RX6 273 "LeaseServer$Settings" "conflicts" "I" ∈ lw_ok := ok_in 215 (by decide +kernel) (by decide +kernel)
theorem FL_X6_273 : FL RX6 273 4 3 RX4 TX4 6 := ⟨rfl, by decide, uws_X4, mw_215⟩
theorem mw_216 : Cond.fieldLink RX4 18 "LeaseServer$Settings" "direct" "[Z" ∈ lw_ok := ok_in 216 (by decide +kernel) (by decide +kernel)
theorem FL_X4_18 : FL RX4 18 4 4 RX4 TX4 6 := ⟨rfl, by decide, uws_X4, mw_216⟩
theorem mw_217 : Cond.fieldLink RX5 64 "LeaseServer$Settings" "direct" "[Z" ∈ lw_ok := ok_in 217 (by decide +kernel) (by decide +kernel)
theorem FL_X5_64 : FL RX5 64 4 4 RX4 TX4 6 := ⟨rfl, by decide, uws_X4, mw_217⟩
theorem mw_218 : Cond.fieldLink RX6 144 "LeaseServer$Settings" "direct" "[Z" ∈ lw_ok := ok_in 218 (by decide +kernel) (by decide +kernel)
theorem FL_X6_144 : FL RX6 144 4 4 RX4 TX4 6 := ⟨rfl, by decide, uws_X4, mw_218⟩
theorem mw_219 : Cond.fieldLink RX4 22 "LeaseServer$Settings" "relay" "[Z" ∈ lw_ok := ok_in 219 (by decide +kernel) (by decide +kernel)
theorem FL_X4_22 : FL RX4 22 4 5 RX4 TX4 6 := ⟨rfl, by decide, uws_X4, mw_219⟩
theorem mw_220 : Cond.fieldLink RX5 68 "LeaseServer$Settings" "relay" "[Z" ∈ lw_ok := ok_in 220 (by decide +kernel) (by decide +kernel)
theorem FL_X5_68 : FL RX5 68 4 5 RX4 TX4 6 := ⟨rfl, by decide, uws_X4, mw_220⟩
theorem mw_221 : Cond.fieldLink RX6 147 "LeaseServer$Settings" "relay" "[Z" ∈ lw_ok := ok_in 221 (by decide +kernel) (by decide +kernel)
theorem FL_X6_147 : FL RX6 147 4 5 RX4 TX4 6 := ⟨rfl, by decide, uws_X4, mw_221⟩
theorem mw_235 : Cond.fieldLink RX5 12 "LeaseServer$State" "pools" "LLeaseServer$Pools;" ∈ lw_ok := ok_in 235 (by decide +kernel) (by decide +kernel)
theorem FL_X5_12 : FL RX5 12 5 0 RX5 TX5 5 := ⟨rfl, by decide, uws_X5, mw_235⟩
theorem mw_236 : Cond.fieldLink RX6 45 "LeaseServer$State" "pools" "LLeaseServer$Pools;" ∈ lw_ok := ok_in 236 (by decide +kernel) (by decide +kernel)
theorem FL_X6_45 : FL RX6 45 5 0 RX5 TX5 5 := ⟨rfl, by decide, uws_X5, mw_236⟩
theorem mw_237 : Cond.fieldLink RX5 21 "LeaseServer$State" "addresses" "LLeaseServer$Addresses;" ∈ lw_ok := ok_in 237 (by decide +kernel) (by decide +kernel)
theorem FL_X5_21 : FL RX5 21 5 1 RX5 TX5 5 := ⟨rfl, by decide, uws_X5, mw_237⟩
theorem mw_238 : Cond.fieldLink RX6 66 "LeaseServer$State" "addresses" "LLeaseServer$Addresses;" ∈ lw_ok := ok_in 238 (by decide +kernel) (by decide +kernel)
theorem FL_X6_66 : FL RX6 66 5 1 RX5 TX5 5 := ⟨rfl, by decide, uws_X5, mw_238⟩
theorem mw_239 : Cond.fieldLink RX5 28 "LeaseServer$State" "clients" "LLeaseServer$Clients;" ∈ lw_ok := ok_in 239 (by decide +kernel) (by decide +kernel)
theorem FL_X5_28 : FL RX5 28 5 2 RX5 TX5 5 := ⟨rfl, by decide, uws_X5, mw_239⟩
theorem mw_240 : Cond.fieldLink RX6 153 "LeaseServer$State" "clients" "LLeaseServer$Clients;" ∈ lw_ok := ok_in 240 (by decide +kernel) (by decide +kernel)
theorem FL_X6_153 : FL RX6 153 5 2 RX5 TX5 5 := ⟨rfl, by decide, uws_X5, mw_240⟩
theorem mw_241 : Cond.fieldLink RX5 35 "LeaseServer$State" "settings" "LLeaseServer$Settings;" ∈ lw_ok := ok_in 241 (by decide +kernel) (by decide +kernel)
theorem FL_X5_35 : FL RX5 35 5 3 RX5 TX5 5 := ⟨rfl, by decide, uws_X5, mw_241⟩
theorem mw_242 : Cond.fieldLink RX6 130 "LeaseServer$State" "settings" "LLeaseServer$Settings;" ∈ lw_ok := ok_in 242 (by decide +kernel) (by decide +kernel)
theorem FL_X6_130 : FL RX6 130 5 3 RX5 TX5 5 := ⟨rfl, by decide, uws_X5, mw_242⟩
theorem mw_243 : Cond.fieldLink RX5 39 "LeaseServer$State" "log" "LLeaseServer$Log;" ∈ lw_ok := ok_in 243 (by decide +kernel) (by decide +kernel)
theorem FL_X5_39 : FL RX5 39 5 4 RX5 TX5 5 := ⟨rfl, by decide, uws_X5, mw_243⟩
theorem mw_255 : Cond.fieldLink RX6 10 "LeaseServer" "entries" "LLeaseServer$Log;" ∈ lw_ok := ok_in 255 (by decide +kernel) (by decide +kernel)
theorem FL_X6_10 : FL RX6 10 6 0 RX6 TX6 4 := ⟨rfl, by decide, uws_X6, mw_255⟩
theorem mw_256 : Cond.fieldLink RX6 21 "LeaseServer" "state" "LLeaseServer$State;" ∈ lw_ok := ok_in 256 (by decide +kernel) (by decide +kernel)
theorem FL_X6_21 : FL RX6 21 6 1 RX6 TX6 4 := ⟨rfl, by decide, uws_X6, mw_256⟩
theorem mw_257 : Cond.fieldLink RX6 25 "LeaseServer" "saved" "LLeaseServer$State;" ∈ lw_ok := ok_in 257 (by decide +kernel) (by decide +kernel)
theorem FL_X6_25 : FL RX6 25 6 2 RX6 TX6 4 := ⟨rfl, by decide, uws_X6, mw_257⟩
theorem mw_258 : Cond.fieldLink RX6 304 "LeaseServer" "somethingSaved" "Z" ∈ lw_ok := ok_in 258 (by decide +kernel) (by decide +kernel)
theorem FL_X6_304 : FL RX6 304 6 3 RX6 TX6 4 := ⟨rfl, by decide, uws_X6, mw_258⟩
theorem mw_268 : Cond.methodLink RL 138 yX6_poolCount ∈ lw_ok := ok_in 268 (by decide +kernel) (by decide +kernel)
theorem mw_271 : Cond.code yX6_poolCount cX6_poolCount 1 (some .int) ∈ lw_ok := ok_in 271 (by decide +kernel) (by decide +kernel)
theorem mw_269 : Cond.instanceMethod yX6_poolCount ∈ lw_ok := ok_in 269 (by decide +kernel) (by decide +kernel)
theorem mw_270 : Cond.selects RX6 yX6_poolCount yX6_poolCount ∈ lw_ok := ok_in 270 (by decide +kernel) (by decide +kernel)
theorem Lk_L_138 : LkV RL 138 yX6_poolCount cX6_poolCount 1 (some .int) 0 := ⟨⟨mw_268, mw_269, mw_270, mw_42, mw_271⟩, ⟨by decide +kernel, by decide +kernel, by decide +kernel⟩⟩
theorem mw_272 : Cond.methodLink RL 191 yX6_time ∈ lw_ok := ok_in 272 (by decide +kernel) (by decide +kernel)
theorem mw_275 : Cond.code yX6_time cX6_time 1 (some .int) ∈ lw_ok := ok_in 275 (by decide +kernel) (by decide +kernel)
theorem mw_273 : Cond.instanceMethod yX6_time ∈ lw_ok := ok_in 273 (by decide +kernel) (by decide +kernel)
theorem mw_274 : Cond.selects RX6 yX6_time yX6_time ∈ lw_ok := ok_in 274 (by decide +kernel) (by decide +kernel)
theorem Lk_L_191 : LkV RL 191 yX6_time cX6_time 1 (some .int) 0 := ⟨⟨mw_272, mw_273, mw_274, mw_42, mw_275⟩, ⟨by decide +kernel, by decide +kernel, by decide +kernel⟩⟩
theorem mw_276 : Cond.methodLink RL 225 yX6_bound ∈ lw_ok := ok_in 276 (by decide +kernel) (by decide +kernel)
theorem mw_279 : Cond.code yX6_bound cX6_bound 1 (some .int) ∈ lw_ok := ok_in 279 (by decide +kernel) (by decide +kernel)
theorem mw_277 : Cond.instanceMethod yX6_bound ∈ lw_ok := ok_in 277 (by decide +kernel) (by decide +kernel)
theorem mw_278 : Cond.selects RX6 yX6_bound yX6_bound ∈ lw_ok := ok_in 278 (by decide +kernel) (by decide +kernel)
theorem Lk_L_225 : LkV RL 225 yX6_bound cX6_bound 1 (some .int) 0 := ⟨⟨mw_276, mw_277, mw_278, mw_42, mw_279⟩, ⟨by decide +kernel, by decide +kernel, by decide +kernel⟩⟩
theorem mw_280 : Cond.methodLink RX6 270 yX1_countBound ∈ lw_ok := ok_in 280 (by decide +kernel) (by decide +kernel)
theorem mw_283 : Cond.code yX1_countBound cX1_countBound 3 (some .int) ∈ lw_ok := ok_in 283 (by decide +kernel) (by decide +kernel)
theorem mw_281 : Cond.instanceMethod yX1_countBound ∈ lw_ok := ok_in 281 (by decide +kernel) (by decide +kernel)
theorem mw_282 : Cond.selects RX1 yX1_countBound yX1_countBound ∈ lw_ok := ok_in 282 (by decide +kernel) (by decide +kernel)
theorem Lk_X6_270 : LkV RX6 270 yX1_countBound cX1_countBound 3 (some .int) 0 := ⟨⟨mw_280, mw_281, mw_282, mw_48, mw_283⟩, ⟨by decide +kernel, by decide +kernel, by decide +kernel⟩⟩
theorem mw_284 : Cond.methodLink RX1 37 yX1_isBound ∈ lw_ok := ok_in 284 (by decide +kernel) (by decide +kernel)
theorem mw_287 : Cond.code yX1_isBound cX1_isBound 2 (some .boolean) ∈ lw_ok := ok_in 287 (by decide +kernel) (by decide +kernel)
theorem mw_285 : Cond.instanceMethod yX1_isBound ∈ lw_ok := ok_in 285 (by decide +kernel) (by decide +kernel)
theorem mw_286 : Cond.selects RX1 yX1_isBound yX1_isBound ∈ lw_ok := ok_in 286 (by decide +kernel) (by decide +kernel)
theorem Lk_X1_37 : LkV RX1 37 yX1_isBound cX1_isBound 2 (some .boolean) 1 := ⟨⟨mw_284, mw_285, mw_286, mw_48, mw_287⟩, ⟨by decide +kernel, by decide +kernel, by decide +kernel⟩⟩
theorem mw_288 : Cond.methodLinkNest RX1 33 yX6_isClient "LeaseServer" ∈ lw_ok := ok_in 288 (by decide +kernel) (by decide +kernel)
theorem mw_290 : Cond.code yX6_isClient cX6_isClient 1 (some .boolean) ∈ lw_ok := ok_in 290 (by decide +kernel) (by decide +kernel)
theorem mw_289 : Cond.static yX6_isClient ∈ lw_ok := ok_in 289 (by decide +kernel) (by decide +kernel)
theorem Lk_X1_33 : LkN RX1 33 yX6_isClient "LeaseServer" cX6_isClient 1 (some .boolean) 1 := ⟨⟨mw_288, mw_289, mw_42, mw_290⟩, ⟨by decide +kernel, by decide +kernel, by decide +kernel⟩⟩
theorem mw_291 : Cond.methodLink RL 229 yX6_conflicts ∈ lw_ok := ok_in 291 (by decide +kernel) (by decide +kernel)
theorem mw_294 : Cond.code yX6_conflicts cX6_conflicts 1 (some .int) ∈ lw_ok := ok_in 294 (by decide +kernel) (by decide +kernel)
theorem mw_292 : Cond.instanceMethod yX6_conflicts ∈ lw_ok := ok_in 292 (by decide +kernel) (by decide +kernel)
theorem mw_293 : Cond.selects RX6 yX6_conflicts yX6_conflicts ∈ lw_ok := ok_in 293 (by decide +kernel) (by decide +kernel)
theorem Lk_L_229 : LkV RL 229 yX6_conflicts cX6_conflicts 1 (some .int) 0 := ⟨⟨mw_291, mw_292, mw_293, mw_42, mw_294⟩, ⟨by decide +kernel, by decide +kernel, by decide +kernel⟩⟩
theorem mw_295 : Cond.methodLink RL 233 yX6_logSize ∈ lw_ok := ok_in 295 (by decide +kernel) (by decide +kernel)
theorem mw_298 : Cond.code yX6_logSize cX6_logSize 1 (some .int) ∈ lw_ok := ok_in 298 (by decide +kernel) (by decide +kernel)
theorem mw_296 : Cond.instanceMethod yX6_logSize ∈ lw_ok := ok_in 296 (by decide +kernel) (by decide +kernel)
theorem mw_297 : Cond.selects RX6 yX6_logSize yX6_logSize ∈ lw_ok := ok_in 297 (by decide +kernel) (by decide +kernel)
theorem Lk_L_233 : LkV RL 233 yX6_logSize cX6_logSize 1 (some .int) 0 := ⟨⟨mw_295, mw_296, mw_297, mw_42, mw_298⟩, ⟨by decide +kernel, by decide +kernel, by decide +kernel⟩⟩
theorem mw_299 : Cond.methodLink RL 248 yX6_save ∈ lw_ok := ok_in 299 (by decide +kernel) (by decide +kernel)
theorem mw_302 : Cond.code yX6_save cX6_save 1 (some .int) ∈ lw_ok := ok_in 302 (by decide +kernel) (by decide +kernel)
theorem mw_300 : Cond.instanceMethod yX6_save ∈ lw_ok := ok_in 300 (by decide +kernel) (by decide +kernel)
theorem mw_301 : Cond.selects RX6 yX6_save yX6_save ∈ lw_ok := ok_in 301 (by decide +kernel) (by decide +kernel)
theorem Lk_L_248 : LkV RL 248 yX6_save cX6_save 1 (some .int) 0 := ⟨⟨mw_299, mw_300, mw_301, mw_42, mw_302⟩, ⟨by decide +kernel, by decide +kernel, by decide +kernel⟩⟩
theorem mw_303 : Cond.methodLink RX6 300 yX5_copyFrom ∈ lw_ok := ok_in 303 (by decide +kernel) (by decide +kernel)
theorem mw_306 : Cond.code yX5_copyFrom cX5_copyFrom 2 none ∈ lw_ok := ok_in 306 (by decide +kernel) (by decide +kernel)
theorem mw_304 : Cond.instanceMethod yX5_copyFrom ∈ lw_ok := ok_in 304 (by decide +kernel) (by decide +kernel)
theorem mw_305 : Cond.selects RX5 yX5_copyFrom yX5_copyFrom ∈ lw_ok := ok_in 305 (by decide +kernel) (by decide +kernel)
theorem Lk_X6_300 : LkV RX6 300 yX5_copyFrom cX5_copyFrom 2 none 1 := ⟨⟨mw_303, mw_304, mw_305, mw_44, mw_306⟩, ⟨by decide +kernel, by decide +kernel, by decide +kernel⟩⟩
theorem mw_307 : Cond.methodLink RX5 43 yX3_copyFrom ∈ lw_ok := ok_in 307 (by decide +kernel) (by decide +kernel)
theorem mw_310 : Cond.code yX3_copyFrom cX3_copyFrom 2 none ∈ lw_ok := ok_in 310 (by decide +kernel) (by decide +kernel)
theorem mw_308 : Cond.instanceMethod yX3_copyFrom ∈ lw_ok := ok_in 308 (by decide +kernel) (by decide +kernel)
theorem mw_309 : Cond.selects RX3 yX3_copyFrom yX3_copyFrom ∈ lw_ok := ok_in 309 (by decide +kernel) (by decide +kernel)
theorem Lk_X5_43 : LkV RX5 43 yX3_copyFrom cX3_copyFrom 2 none 1 := ⟨⟨mw_307, mw_308, mw_309, mw_45, mw_310⟩, ⟨by decide +kernel, by decide +kernel, by decide +kernel⟩⟩
theorem mw_311 : Cond.methodLinkNest RX3 36 yX6_copyNumbers "LeaseServer" ∈ lw_ok := ok_in 311 (by decide +kernel) (by decide +kernel)
theorem mw_313 : Cond.code yX6_copyNumbers cX6_copyNumbers 2 none ∈ lw_ok := ok_in 313 (by decide +kernel) (by decide +kernel)
theorem mw_312 : Cond.static yX6_copyNumbers ∈ lw_ok := ok_in 312 (by decide +kernel) (by decide +kernel)
theorem Lk_X3_36 : LkN RX3 36 yX6_copyNumbers "LeaseServer" cX6_copyNumbers 2 none 2 := ⟨⟨mw_311, mw_312, mw_42, mw_313⟩, ⟨by decide +kernel, by decide +kernel, by decide +kernel⟩⟩
theorem mw_314 : Cond.methodLink RX6 331 yJ9_min_7cf53 ∈ lw_ok := ok_in 314 (by decide +kernel) (by decide +kernel)
theorem mw_59 : Cond.initialized RJ9 ∈ lw_ok := ok_in 59 (by decide +kernel) (by decide +kernel)
theorem mw_316 : Cond.code yJ9_min_7cf53 cJ9_min_7cf53 2 (some .int) ∈ lw_ok := ok_in 316 (by decide +kernel) (by decide +kernel)
theorem mw_315 : Cond.static yJ9_min_7cf53 ∈ lw_ok := ok_in 315 (by decide +kernel) (by decide +kernel)
theorem Lk_X6_331 : LkS RX6 331 yJ9_min_7cf53 cJ9_min_7cf53 2 (some .int) 2 := ⟨⟨mw_314, mw_315, mw_59, mw_316⟩, ⟨by decide +kernel, by decide +kernel, by decide +kernel⟩⟩
theorem mw_320 : Cond.methodLink RX5 47 yX0_copyFrom ∈ lw_ok := ok_in 320 (by decide +kernel) (by decide +kernel)
theorem mw_323 : Cond.code yX0_copyFrom cX0_copyFrom 2 none ∈ lw_ok := ok_in 323 (by decide +kernel) (by decide +kernel)
theorem mw_321 : Cond.instanceMethod yX0_copyFrom ∈ lw_ok := ok_in 321 (by decide +kernel) (by decide +kernel)
theorem mw_322 : Cond.selects RX0 yX0_copyFrom yX0_copyFrom ∈ lw_ok := ok_in 322 (by decide +kernel) (by decide +kernel)
theorem Lk_X5_47 : LkV RX5 47 yX0_copyFrom cX0_copyFrom 2 none 1 := ⟨⟨mw_320, mw_321, mw_322, mw_46, mw_323⟩, ⟨by decide +kernel, by decide +kernel, by decide +kernel⟩⟩
theorem mw_324 : Cond.methodLinkNest RX0 66 yX6_copyFlags "LeaseServer" ∈ lw_ok := ok_in 324 (by decide +kernel) (by decide +kernel)
theorem mw_326 : Cond.code yX6_copyFlags cX6_copyFlags 3 none ∈ lw_ok := ok_in 326 (by decide +kernel) (by decide +kernel)
theorem mw_325 : Cond.static yX6_copyFlags ∈ lw_ok := ok_in 325 (by decide +kernel) (by decide +kernel)
theorem Lk_X0_66 : LkN RX0 66 yX6_copyFlags "LeaseServer" cX6_copyFlags 3 none 2 := ⟨⟨mw_324, mw_325, mw_42, mw_326⟩, ⟨by decide +kernel, by decide +kernel, by decide +kernel⟩⟩
theorem mw_327 : Cond.methodLinkNest RX0 70 yX6_copyNumbers "LeaseServer" ∈ lw_ok := ok_in 327 (by decide +kernel) (by decide +kernel)
theorem Lk_X0_70 : LkN RX0 70 yX6_copyNumbers "LeaseServer" cX6_copyNumbers 2 none 2 := ⟨⟨mw_327, mw_312, mw_42, mw_313⟩, ⟨by decide +kernel, by decide +kernel, by decide +kernel⟩⟩
theorem mw_328 : Cond.methodLink RX5 50 yX1_copyFrom ∈ lw_ok := ok_in 328 (by decide +kernel) (by decide +kernel)
theorem mw_331 : Cond.code yX1_copyFrom cX1_copyFrom 2 none ∈ lw_ok := ok_in 331 (by decide +kernel) (by decide +kernel)
theorem mw_329 : Cond.instanceMethod yX1_copyFrom ∈ lw_ok := ok_in 329 (by decide +kernel) (by decide +kernel)
theorem mw_330 : Cond.selects RX1 yX1_copyFrom yX1_copyFrom ∈ lw_ok := ok_in 330 (by decide +kernel) (by decide +kernel)
theorem Lk_X5_50 : LkV RX5 50 yX1_copyFrom cX1_copyFrom 2 none 1 := ⟨⟨mw_328, mw_329, mw_330, mw_48, mw_331⟩, ⟨by decide +kernel, by decide +kernel, by decide +kernel⟩⟩
theorem mw_332 : Cond.methodLinkNest RX1 40 yX6_copyNumbers "LeaseServer" ∈ lw_ok := ok_in 332 (by decide +kernel) (by decide +kernel)
theorem Lk_X1_40 : LkN RX1 40 yX6_copyNumbers "LeaseServer" cX6_copyNumbers 2 none 2 := ⟨⟨mw_332, mw_312, mw_42, mw_313⟩, ⟨by decide +kernel, by decide +kernel, by decide +kernel⟩⟩
theorem mw_333 : Cond.methodLink RX5 53 yX4_copyFrom ∈ lw_ok := ok_in 333 (by decide +kernel) (by decide +kernel)
theorem mw_336 : Cond.code yX4_copyFrom cX4_copyFrom 2 none ∈ lw_ok := ok_in 336 (by decide +kernel) (by decide +kernel)
theorem mw_334 : Cond.instanceMethod yX4_copyFrom ∈ lw_ok := ok_in 334 (by decide +kernel) (by decide +kernel)
theorem mw_335 : Cond.selects RX4 yX4_copyFrom yX4_copyFrom ∈ lw_ok := ok_in 335 (by decide +kernel) (by decide +kernel)
theorem Lk_X5_53 : LkV RX5 53 yX4_copyFrom cX4_copyFrom 2 none 1 := ⟨⟨mw_333, mw_334, mw_335, mw_49, mw_336⟩, ⟨by decide +kernel, by decide +kernel, by decide +kernel⟩⟩
theorem mw_337 : Cond.methodLinkNest RX4 31 yX6_copyFlags "LeaseServer" ∈ lw_ok := ok_in 337 (by decide +kernel) (by decide +kernel)
theorem Lk_X4_31 : LkN RX4 31 yX6_copyFlags "LeaseServer" cX6_copyFlags 3 none 2 := ⟨⟨mw_337, mw_325, mw_42, mw_326⟩, ⟨by decide +kernel, by decide +kernel, by decide +kernel⟩⟩
theorem mw_338 : Cond.methodLink RL 125 yL_addPool ∈ lw_ok := ok_in 338 (by decide +kernel) (by decide +kernel)
theorem mw_41 : Cond.initialized RL ∈ lw_ok := ok_in 41 (by decide +kernel) (by decide +kernel)
theorem mw_340 : Cond.codeWith yL_addPool cL_addPool 7 (some .int) [((0 : Nat), (14 : Nat), (17 : Nat), (13 : Nat)), ((0 : Nat), (14 : Nat), (21 : Nat), (15 : Nat)), ((0 : Nat), (14 : Nat), (25 : Nat), (17 : Nat))] ∈ lw_ok := ok_in 340 (by decide +kernel) (by decide +kernel)
theorem mw_339 : Cond.static yL_addPool ∈ lw_ok := ok_in 339 (by decide +kernel) (by decide +kernel)
theorem Lk_L_125 : LkW RL 125 yL_addPool cL_addPool 7 (some .int) [((0 : Nat), (14 : Nat), (17 : Nat), (13 : Nat)), ((0 : Nat), (14 : Nat), (21 : Nat), (15 : Nat)), ((0 : Nat), (14 : Nat), (25 : Nat), (17 : Nat))] 6 := ⟨⟨mw_338, mw_339, mw_41, mw_340⟩, ⟨by decide +kernel, by decide +kernel, by decide +kernel⟩⟩
theorem mw_422 : Cond.methodLink RL 7 yX6_addPool ∈ lw_ok := ok_in 422 (by decide +kernel) (by decide +kernel)
theorem mw_425 : Cond.code yX6_addPool cX6_addPool 5 (some .int) ∈ lw_ok := ok_in 425 (by decide +kernel) (by decide +kernel)
theorem mw_423 : Cond.instanceMethod yX6_addPool ∈ lw_ok := ok_in 423 (by decide +kernel) (by decide +kernel)
theorem mw_424 : Cond.selects RX6 yX6_addPool yX6_addPool ∈ lw_ok := ok_in 424 (by decide +kernel) (by decide +kernel)
theorem Lk_L_7 : LkV RL 7 yX6_addPool cX6_addPool 5 (some .int) 4 := ⟨⟨mw_422, mw_423, mw_424, mw_42, mw_425⟩, ⟨by decide +kernel, by decide +kernel, by decide +kernel⟩⟩
theorem mw_426 : Cond.methodLink RX6 28 yX6_requireGroup ∈ lw_ok := ok_in 426 (by decide +kernel) (by decide +kernel)
theorem mw_428 : Cond.code yX6_requireGroup cX6_requireGroup 1 none ∈ lw_ok := ok_in 428 (by decide +kernel) (by decide +kernel)
theorem mw_427 : Cond.static yX6_requireGroup ∈ lw_ok := ok_in 427 (by decide +kernel) (by decide +kernel)
theorem Lk_X6_28 : LkS RX6 28 yX6_requireGroup cX6_requireGroup 1 none 1 := ⟨⟨mw_426, mw_427, mw_42, mw_428⟩, ⟨by decide +kernel, by decide +kernel, by decide +kernel⟩⟩
theorem mw_429 : Cond.methodLink RX6 317 yX6_isGroup ∈ lw_ok := ok_in 429 (by decide +kernel) (by decide +kernel)
theorem mw_431 : Cond.code yX6_isGroup cX6_isGroup 1 (some .boolean) ∈ lw_ok := ok_in 431 (by decide +kernel) (by decide +kernel)
theorem mw_430 : Cond.static yX6_isGroup ∈ lw_ok := ok_in 430 (by decide +kernel) (by decide +kernel)
theorem Lk_X6_317 : LkS RX6 317 yX6_isGroup cX6_isGroup 1 (some .boolean) 1 := ⟨⟨mw_429, mw_430, mw_42, mw_431⟩, ⟨by decide +kernel, by decide +kernel, by decide +kernel⟩⟩
theorem mw_445 : Cond.methodLink RX6 32 yX6_isAddress ∈ lw_ok := ok_in 445 (by decide +kernel) (by decide +kernel)
theorem mw_447 : Cond.code yX6_isAddress cX6_isAddress 1 (some .boolean) ∈ lw_ok := ok_in 447 (by decide +kernel) (by decide +kernel)
theorem mw_446 : Cond.static yX6_isAddress ∈ lw_ok := ok_in 446 (by decide +kernel) (by decide +kernel)
theorem Lk_X6_32 : LkS RX6 32 yX6_isAddress cX6_isAddress 1 (some .boolean) 1 := ⟨⟨mw_445, mw_446, mw_42, mw_447⟩, ⟨by decide +kernel, by decide +kernel, by decide +kernel⟩⟩
theorem mw_481 : Cond.methodLink RX6 60 yX3_overlap ∈ lw_ok := ok_in 481 (by decide +kernel) (by decide +kernel)
theorem mw_484 : Cond.code yX3_overlap cX3_overlap 4 (some .boolean) ∈ lw_ok := ok_in 484 (by decide +kernel) (by decide +kernel)
theorem mw_482 : Cond.instanceMethod yX3_overlap ∈ lw_ok := ok_in 482 (by decide +kernel) (by decide +kernel)
theorem mw_483 : Cond.selects RX3 yX3_overlap yX3_overlap ∈ lw_ok := ok_in 483 (by decide +kernel) (by decide +kernel)
theorem Lk_X6_60 : LkV RX6 60 yX3_overlap cX3_overlap 4 (some .boolean) 2 := ⟨⟨mw_481, mw_482, mw_483, mw_45, mw_484⟩, ⟨by decide +kernel, by decide +kernel, by decide +kernel⟩⟩
theorem mw_486 : Cond.methodLink RX6 70 yX0_makeFresh ∈ lw_ok := ok_in 486 (by decide +kernel) (by decide +kernel)
theorem mw_489 : Cond.code yX0_makeFresh cX0_makeFresh 4 none ∈ lw_ok := ok_in 489 (by decide +kernel) (by decide +kernel)
theorem mw_487 : Cond.instanceMethod yX0_makeFresh ∈ lw_ok := ok_in 487 (by decide +kernel) (by decide +kernel)
theorem mw_488 : Cond.selects RX0 yX0_makeFresh yX0_makeFresh ∈ lw_ok := ok_in 488 (by decide +kernel) (by decide +kernel)
theorem Lk_X6_70 : LkV RX6 70 yX0_makeFresh cX0_makeFresh 4 none 2 := ⟨⟨mw_486, mw_487, mw_488, mw_46, mw_489⟩, ⟨by decide +kernel, by decide +kernel, by decide +kernel⟩⟩
theorem mw_490 : Cond.methodLink RX0 37 yJ9_max_7cf53 ∈ lw_ok := ok_in 490 (by decide +kernel) (by decide +kernel)
theorem mw_492 : Cond.code yJ9_max_7cf53 cJ9_max_7cf53 2 (some .int) ∈ lw_ok := ok_in 492 (by decide +kernel) (by decide +kernel)
theorem mw_491 : Cond.static yJ9_max_7cf53 ∈ lw_ok := ok_in 491 (by decide +kernel) (by decide +kernel)
theorem Lk_X0_37 : LkS RX0 37 yJ9_max_7cf53 cJ9_max_7cf53 2 (some .int) 2 := ⟨⟨mw_490, mw_491, mw_59, mw_492⟩, ⟨by decide +kernel, by decide +kernel, by decide +kernel⟩⟩
theorem mw_493 : Cond.methodLink RX0 43 yX0_becomeFree ∈ lw_ok := ok_in 493 (by decide +kernel) (by decide +kernel)
theorem mw_496 : Cond.code yX0_becomeFree cX0_becomeFree 3 none ∈ lw_ok := ok_in 496 (by decide +kernel) (by decide +kernel)
theorem mw_494 : Cond.instanceMethod yX0_becomeFree ∈ lw_ok := ok_in 494 (by decide +kernel) (by decide +kernel)
theorem mw_495 : Cond.selects RX0 yX0_becomeFree yX0_becomeFree ∈ lw_ok := ok_in 495 (by decide +kernel) (by decide +kernel)
theorem Lk_X0_43 : LkV RX0 43 yX0_becomeFree cX0_becomeFree 3 none 2 := ⟨⟨mw_493, mw_494, mw_495, mw_46, mw_496⟩, ⟨by decide +kernel, by decide +kernel, by decide +kernel⟩⟩
theorem mw_497 : Cond.methodLinkNest RX0 47 yX6_isAddress "LeaseServer" ∈ lw_ok := ok_in 497 (by decide +kernel) (by decide +kernel)
theorem Lk_X0_47 : LkN RX0 47 yX6_isAddress "LeaseServer" cX6_isAddress 1 (some .boolean) 1 := ⟨⟨mw_497, mw_446, mw_42, mw_447⟩, ⟨by decide +kernel, by decide +kernel, by decide +kernel⟩⟩
theorem mw_498 : Cond.methodLink RX6 76 yX3_append ∈ lw_ok := ok_in 498 (by decide +kernel) (by decide +kernel)
theorem mw_501 : Cond.code yX3_append cX3_append 6 (some .int) ∈ lw_ok := ok_in 501 (by decide +kernel) (by decide +kernel)
theorem mw_499 : Cond.instanceMethod yX3_append ∈ lw_ok := ok_in 499 (by decide +kernel) (by decide +kernel)
theorem mw_500 : Cond.selects RX3 yX3_append yX3_append ∈ lw_ok := ok_in 500 (by decide +kernel) (by decide +kernel)
theorem Lk_X6_76 : LkV RX6 76 yX3_append cX3_append 6 (some .int) 4 := ⟨⟨mw_498, mw_499, mw_500, mw_45, mw_501⟩, ⟨by decide +kernel, by decide +kernel, by decide +kernel⟩⟩
theorem mw_502 : Cond.methodLink RL 134 yL_removePool ∈ lw_ok := ok_in 502 (by decide +kernel) (by decide +kernel)
theorem mw_504 : Cond.codeWith yL_removePool cL_removePool 4 (some .int) [((0 : Nat), (9 : Nat), (12 : Nat), (13 : Nat)), ((0 : Nat), (9 : Nat), (15 : Nat), (17 : Nat))] ∈ lw_ok := ok_in 504 (by decide +kernel) (by decide +kernel)
theorem mw_503 : Cond.static yL_removePool ∈ lw_ok := ok_in 503 (by decide +kernel) (by decide +kernel)
theorem Lk_L_134 : LkW RL 134 yL_removePool cL_removePool 4 (some .int) [((0 : Nat), (9 : Nat), (12 : Nat), (13 : Nat)), ((0 : Nat), (9 : Nat), (15 : Nat), (17 : Nat))] 3 := ⟨⟨mw_502, mw_503, mw_41, mw_504⟩, ⟨by decide +kernel, by decide +kernel, by decide +kernel⟩⟩
theorem mw_505 : Cond.methodLink RL 19 yX6_removePool ∈ lw_ok := ok_in 505 (by decide +kernel) (by decide +kernel)
theorem mw_508 : Cond.code yX6_removePool cX6_removePool 4 (some .int) ∈ lw_ok := ok_in 508 (by decide +kernel) (by decide +kernel)
theorem mw_506 : Cond.instanceMethod yX6_removePool ∈ lw_ok := ok_in 506 (by decide +kernel) (by decide +kernel)
theorem mw_507 : Cond.selects RX6 yX6_removePool yX6_removePool ∈ lw_ok := ok_in 507 (by decide +kernel) (by decide +kernel)
theorem Lk_L_19 : LkV RL 19 yX6_removePool cX6_removePool 4 (some .int) 1 := ⟨⟨mw_505, mw_506, mw_507, mw_42, mw_508⟩, ⟨by decide +kernel, by decide +kernel, by decide +kernel⟩⟩
theorem mw_509 : Cond.methodLink RX6 80 yX6_requirePool ∈ lw_ok := ok_in 509 (by decide +kernel) (by decide +kernel)
theorem mw_512 : Cond.code yX6_requirePool cX6_requirePool 2 none ∈ lw_ok := ok_in 512 (by decide +kernel) (by decide +kernel)
theorem mw_511 : Cond.instanceMethod yX6_requirePool ∈ lw_ok := ok_in 511 (by decide +kernel) (by decide +kernel)
theorem mw_1 : Cond.selects RX6 yX6_requirePool yX6_requirePool ∈ lw_ok := ok_in 1 (by decide +kernel) (by decide +kernel)
theorem Lk_X6_80 : LkV RX6 80 yX6_requirePool cX6_requirePool 2 none 1 := ⟨⟨mw_509, mw_511, mw_1, mw_42, mw_512⟩, ⟨by decide +kernel, by decide +kernel, by decide +kernel⟩⟩
theorem mw_513 : Cond.methodLink RX6 322 yX3_isPool ∈ lw_ok := ok_in 513 (by decide +kernel) (by decide +kernel)
theorem mw_516 : Cond.code yX3_isPool cX3_isPool 2 (some .boolean) ∈ lw_ok := ok_in 516 (by decide +kernel) (by decide +kernel)
theorem mw_514 : Cond.instanceMethod yX3_isPool ∈ lw_ok := ok_in 514 (by decide +kernel) (by decide +kernel)
theorem mw_515 : Cond.selects RX3 yX3_isPool yX3_isPool ∈ lw_ok := ok_in 515 (by decide +kernel) (by decide +kernel)
theorem Lk_X6_322 : LkV RX6 322 yX3_isPool cX3_isPool 2 (some .boolean) 1 := ⟨⟨mw_513, mw_514, mw_515, mw_45, mw_516⟩, ⟨by decide +kernel, by decide +kernel, by decide +kernel⟩⟩
theorem mw_518 : Cond.methodLink RX6 90 yX0_countIn ∈ lw_ok := ok_in 518 (by decide +kernel) (by decide +kernel)
theorem mw_521 : Cond.code yX0_countIn cX0_countIn 6 (some .int) ∈ lw_ok := ok_in 521 (by decide +kernel) (by decide +kernel)
theorem mw_519 : Cond.instanceMethod yX0_countIn ∈ lw_ok := ok_in 519 (by decide +kernel) (by decide +kernel)
theorem mw_520 : Cond.selects RX0 yX0_countIn yX0_countIn ∈ lw_ok := ok_in 520 (by decide +kernel) (by decide +kernel)
theorem Lk_X6_90 : LkV RX6 90 yX0_countIn cX0_countIn 6 (some .int) 3 := ⟨⟨mw_518, mw_519, mw_520, mw_46, mw_521⟩, ⟨by decide +kernel, by decide +kernel, by decide +kernel⟩⟩
theorem mw_523 : Cond.methodLink RX6 96 yX3_drop ∈ lw_ok := ok_in 523 (by decide +kernel) (by decide +kernel)
theorem mw_526 : Cond.code yX3_drop cX3_drop 3 (some .int) ∈ lw_ok := ok_in 526 (by decide +kernel) (by decide +kernel)
theorem mw_524 : Cond.instanceMethod yX3_drop ∈ lw_ok := ok_in 524 (by decide +kernel) (by decide +kernel)
theorem mw_525 : Cond.selects RX3 yX3_drop yX3_drop ∈ lw_ok := ok_in 525 (by decide +kernel) (by decide +kernel)
theorem Lk_X6_96 : LkV RX6 96 yX3_drop cX3_drop 3 (some .int) 1 := ⟨⟨mw_523, mw_524, mw_525, mw_45, mw_526⟩, ⟨by decide +kernel, by decide +kernel, by decide +kernel⟩⟩
theorem mw_527 : Cond.methodLink RX3 32 yX3_isPool ∈ lw_ok := ok_in 527 (by decide +kernel) (by decide +kernel)
theorem Lk_X3_32 : LkV RX3 32 yX3_isPool cX3_isPool 2 (some .boolean) 1 := ⟨⟨mw_527, mw_514, mw_515, mw_45, mw_516⟩, ⟨by decide +kernel, by decide +kernel, by decide +kernel⟩⟩
theorem mw_528 : Cond.methodLink RL 142 yL_pool ∈ lw_ok := ok_in 528 (by decide +kernel) (by decide +kernel)
theorem mw_530 : Cond.codeWith yL_pool cL_pool 5 (some .int) [((0 : Nat), (10 : Nat), (13 : Nat), (13 : Nat)), ((0 : Nat), (10 : Nat), (17 : Nat), (15 : Nat))] ∈ lw_ok := ok_in 530 (by decide +kernel) (by decide +kernel)
theorem mw_529 : Cond.static yL_pool ∈ lw_ok := ok_in 529 (by decide +kernel) (by decide +kernel)
theorem Lk_L_142 : LkW RL 142 yL_pool cL_pool 5 (some .int) [((0 : Nat), (10 : Nat), (13 : Nat), (13 : Nat)), ((0 : Nat), (10 : Nat), (17 : Nat), (15 : Nat))] 4 := ⟨⟨mw_528, mw_529, mw_41, mw_530⟩, ⟨by decide +kernel, by decide +kernel, by decide +kernel⟩⟩
theorem mw_531 : Cond.methodLink RL 23 yX6_pool ∈ lw_ok := ok_in 531 (by decide +kernel) (by decide +kernel)
theorem mw_534 : Cond.code yX6_pool cX6_pool 4 (some .int) ∈ lw_ok := ok_in 534 (by decide +kernel) (by decide +kernel)
theorem mw_532 : Cond.instanceMethod yX6_pool ∈ lw_ok := ok_in 532 (by decide +kernel) (by decide +kernel)
theorem mw_533 : Cond.selects RX6 yX6_pool yX6_pool ∈ lw_ok := ok_in 533 (by decide +kernel) (by decide +kernel)
theorem Lk_L_23 : LkV RL 23 yX6_pool cX6_pool 4 (some .int) 2 := ⟨⟨mw_531, mw_532, mw_533, mw_42, mw_534⟩, ⟨by decide +kernel, by decide +kernel, by decide +kernel⟩⟩
theorem mw_535 : Cond.methodLink RX6 106 yX0_countOfferable ∈ lw_ok := ok_in 535 (by decide +kernel) (by decide +kernel)
theorem mw_538 : Cond.code yX0_countOfferable cX0_countOfferable 5 (some .int) ∈ lw_ok := ok_in 538 (by decide +kernel) (by decide +kernel)
theorem mw_536 : Cond.instanceMethod yX0_countOfferable ∈ lw_ok := ok_in 536 (by decide +kernel) (by decide +kernel)
theorem mw_537 : Cond.selects RX0 yX0_countOfferable yX0_countOfferable ∈ lw_ok := ok_in 537 (by decide +kernel) (by decide +kernel)
theorem Lk_X6_106 : LkV RX6 106 yX0_countOfferable cX0_countOfferable 5 (some .int) 2 := ⟨⟨mw_535, mw_536, mw_537, mw_46, mw_538⟩, ⟨by decide +kernel, by decide +kernel, by decide +kernel⟩⟩
theorem mw_539 : Cond.methodLink RX0 55 yX0_isOfferable ∈ lw_ok := ok_in 539 (by decide +kernel) (by decide +kernel)
theorem mw_542 : Cond.code yX0_isOfferable cX0_isOfferable 2 (some .boolean) ∈ lw_ok := ok_in 542 (by decide +kernel) (by decide +kernel)
theorem mw_540 : Cond.instanceMethod yX0_isOfferable ∈ lw_ok := ok_in 540 (by decide +kernel) (by decide +kernel)
theorem mw_541 : Cond.selects RX0 yX0_isOfferable yX0_isOfferable ∈ lw_ok := ok_in 541 (by decide +kernel) (by decide +kernel)
theorem Lk_X0_55 : LkV RX0 55 yX0_isOfferable cX0_isOfferable 2 (some .boolean) 1 := ⟨⟨mw_539, mw_540, mw_541, mw_46, mw_542⟩, ⟨by decide +kernel, by decide +kernel, by decide +kernel⟩⟩
theorem mw_544 : Cond.methodLink RL 146 yL_poolOf ∈ lw_ok := ok_in 544 (by decide +kernel) (by decide +kernel)
theorem mw_546 : Cond.codeWith yL_poolOf cL_poolOf 4 (some .int) [((0 : Nat), (9 : Nat), (12 : Nat), (13 : Nat)), ((0 : Nat), (9 : Nat), (15 : Nat), (30 : Nat))] ∈ lw_ok := ok_in 546 (by decide +kernel) (by decide +kernel)
theorem mw_545 : Cond.static yL_poolOf ∈ lw_ok := ok_in 545 (by decide +kernel) (by decide +kernel)
theorem Lk_L_146 : LkW RL 146 yL_poolOf cL_poolOf 4 (some .int) [((0 : Nat), (9 : Nat), (12 : Nat), (13 : Nat)), ((0 : Nat), (9 : Nat), (15 : Nat), (30 : Nat))] 3 := ⟨⟨mw_544, mw_545, mw_41, mw_546⟩, ⟨by decide +kernel, by decide +kernel, by decide +kernel⟩⟩
theorem mw_548 : Cond.methodLink RL 27 yX6_poolOf ∈ lw_ok := ok_in 548 (by decide +kernel) (by decide +kernel)
theorem mw_551 : Cond.code yX6_poolOf cX6_poolOf 2 (some .int) ∈ lw_ok := ok_in 551 (by decide +kernel) (by decide +kernel)
theorem mw_549 : Cond.instanceMethod yX6_poolOf ∈ lw_ok := ok_in 549 (by decide +kernel) (by decide +kernel)
theorem mw_550 : Cond.selects RX6 yX6_poolOf yX6_poolOf ∈ lw_ok := ok_in 550 (by decide +kernel) (by decide +kernel)
theorem Lk_L_27 : LkV RL 27 yX6_poolOf cX6_poolOf 2 (some .int) 1 := ⟨⟨mw_548, mw_549, mw_550, mw_42, mw_551⟩, ⟨by decide +kernel, by decide +kernel, by decide +kernel⟩⟩
theorem mw_552 : Cond.methodLink RX6 112 yX6_requireAddress ∈ lw_ok := ok_in 552 (by decide +kernel) (by decide +kernel)
theorem mw_554 : Cond.code yX6_requireAddress cX6_requireAddress 1 none ∈ lw_ok := ok_in 554 (by decide +kernel) (by decide +kernel)
theorem mw_553 : Cond.static yX6_requireAddress ∈ lw_ok := ok_in 553 (by decide +kernel) (by decide +kernel)
theorem Lk_X6_112 : LkS RX6 112 yX6_requireAddress cX6_requireAddress 1 none 1 := ⟨⟨mw_552, mw_553, mw_42, mw_554⟩, ⟨by decide +kernel, by decide +kernel, by decide +kernel⟩⟩
theorem mw_556 : Cond.methodLink RX6 115 yX6_requireInPool ∈ lw_ok := ok_in 556 (by decide +kernel) (by decide +kernel)
theorem mw_559 : Cond.code yX6_requireInPool cX6_requireInPool 2 none ∈ lw_ok := ok_in 559 (by decide +kernel) (by decide +kernel)
theorem mw_558 : Cond.instanceMethod yX6_requireInPool ∈ lw_ok := ok_in 558 (by decide +kernel) (by decide +kernel)
theorem mw_2 : Cond.selects RX6 yX6_requireInPool yX6_requireInPool ∈ lw_ok := ok_in 2 (by decide +kernel) (by decide +kernel)
theorem Lk_X6_115 : LkV RX6 115 yX6_requireInPool cX6_requireInPool 2 none 1 := ⟨⟨mw_556, mw_558, mw_2, mw_42, mw_559⟩, ⟨by decide +kernel, by decide +kernel, by decide +kernel⟩⟩
theorem mw_560 : Cond.methodLink RX6 118 yX3_numberAt ∈ lw_ok := ok_in 560 (by decide +kernel) (by decide +kernel)
theorem mw_563 : Cond.code yX3_numberAt cX3_numberAt 3 (some .int) ∈ lw_ok := ok_in 563 (by decide +kernel) (by decide +kernel)
theorem mw_561 : Cond.instanceMethod yX3_numberAt ∈ lw_ok := ok_in 561 (by decide +kernel) (by decide +kernel)
theorem mw_562 : Cond.selects RX3 yX3_numberAt yX3_numberAt ∈ lw_ok := ok_in 562 (by decide +kernel) (by decide +kernel)
theorem Lk_X6_118 : LkV RX6 118 yX3_numberAt cX3_numberAt 3 (some .int) 1 := ⟨⟨mw_560, mw_561, mw_562, mw_45, mw_563⟩, ⟨by decide +kernel, by decide +kernel, by decide +kernel⟩⟩
theorem mw_580 : Cond.methodLink RL 149 yL_exclude ∈ lw_ok := ok_in 580 (by decide +kernel) (by decide +kernel)
theorem mw_582 : Cond.codeWith yL_exclude cL_exclude 5 (some .int) [((0 : Nat), (17 : Nat), (20 : Nat), (13 : Nat))] ∈ lw_ok := ok_in 582 (by decide +kernel) (by decide +kernel)
theorem mw_581 : Cond.static yL_exclude ∈ lw_ok := ok_in 581 (by decide +kernel) (by decide +kernel)
theorem Lk_L_149 : LkW RL 149 yL_exclude cL_exclude 5 (some .int) [((0 : Nat), (17 : Nat), (20 : Nat), (13 : Nat))] 4 := ⟨⟨mw_580, mw_581, mw_41, mw_582⟩, ⟨by decide +kernel, by decide +kernel, by decide +kernel⟩⟩
theorem mw_583 : Cond.methodLink RL 32 yX6_exclude ∈ lw_ok := ok_in 583 (by decide +kernel) (by decide +kernel)
theorem mw_586 : Cond.code yX6_exclude cX6_exclude 4 (some .boolean) ∈ lw_ok := ok_in 586 (by decide +kernel) (by decide +kernel)
theorem mw_584 : Cond.instanceMethod yX6_exclude ∈ lw_ok := ok_in 584 (by decide +kernel) (by decide +kernel)
theorem mw_585 : Cond.selects RX6 yX6_exclude yX6_exclude ∈ lw_ok := ok_in 585 (by decide +kernel) (by decide +kernel)
theorem Lk_L_32 : LkV RL 32 yX6_exclude cX6_exclude 4 (some .boolean) 2 := ⟨⟨mw_583, mw_584, mw_585, mw_42, mw_586⟩, ⟨by decide +kernel, by decide +kernel, by decide +kernel⟩⟩
theorem mw_587 : Cond.methodLink RL 153 yL_setStranger ∈ lw_ok := ok_in 587 (by decide +kernel) (by decide +kernel)
theorem mw_589 : Cond.codeWith yL_setStranger cL_setStranger 5 (some .int) [((0 : Nat), (17 : Nat), (20 : Nat), (13 : Nat))] ∈ lw_ok := ok_in 589 (by decide +kernel) (by decide +kernel)
theorem mw_588 : Cond.static yL_setStranger ∈ lw_ok := ok_in 588 (by decide +kernel) (by decide +kernel)
theorem Lk_L_153 : LkW RL 153 yL_setStranger cL_setStranger 5 (some .int) [((0 : Nat), (17 : Nat), (20 : Nat), (13 : Nat))] 4 := ⟨⟨mw_587, mw_588, mw_41, mw_589⟩, ⟨by decide +kernel, by decide +kernel, by decide +kernel⟩⟩
theorem mw_590 : Cond.methodLink RL 36 yX6_setStranger ∈ lw_ok := ok_in 590 (by decide +kernel) (by decide +kernel)
theorem mw_593 : Cond.code yX6_setStranger cX6_setStranger 4 (some .boolean) ∈ lw_ok := ok_in 593 (by decide +kernel) (by decide +kernel)
theorem mw_591 : Cond.instanceMethod yX6_setStranger ∈ lw_ok := ok_in 591 (by decide +kernel) (by decide +kernel)
theorem mw_592 : Cond.selects RX6 yX6_setStranger yX6_setStranger ∈ lw_ok := ok_in 592 (by decide +kernel) (by decide +kernel)
theorem Lk_L_36 : LkV RL 36 yX6_setStranger cX6_setStranger 4 (some .boolean) 2 := ⟨⟨mw_590, mw_591, mw_592, mw_42, mw_593⟩, ⟨by decide +kernel, by decide +kernel, by decide +kernel⟩⟩
theorem mw_594 : Cond.methodLink RL 156 yL_setHold ∈ lw_ok := ok_in 594 (by decide +kernel) (by decide +kernel)
theorem mw_596 : Cond.codeWith yL_setHold cL_setHold 4 (some .int) [((0 : Nat), (9 : Nat), (12 : Nat), (15 : Nat))] ∈ lw_ok := ok_in 596 (by decide +kernel) (by decide +kernel)
theorem mw_595 : Cond.static yL_setHold ∈ lw_ok := ok_in 595 (by decide +kernel) (by decide +kernel)
theorem Lk_L_156 : LkW RL 156 yL_setHold cL_setHold 4 (some .int) [((0 : Nat), (9 : Nat), (12 : Nat), (15 : Nat))] 3 := ⟨⟨mw_594, mw_595, mw_41, mw_596⟩, ⟨by decide +kernel, by decide +kernel, by decide +kernel⟩⟩
theorem mw_597 : Cond.methodLink RL 39 yX6_setHold ∈ lw_ok := ok_in 597 (by decide +kernel) (by decide +kernel)
theorem mw_600 : Cond.code yX6_setHold cX6_setHold 3 (some .int) ∈ lw_ok := ok_in 600 (by decide +kernel) (by decide +kernel)
theorem mw_598 : Cond.instanceMethod yX6_setHold ∈ lw_ok := ok_in 598 (by decide +kernel) (by decide +kernel)
theorem mw_599 : Cond.selects RX6 yX6_setHold yX6_setHold ∈ lw_ok := ok_in 599 (by decide +kernel) (by decide +kernel)
theorem Lk_L_39 : LkV RL 39 yX6_setHold cX6_setHold 3 (some .int) 1 := ⟨⟨mw_597, mw_598, mw_599, mw_42, mw_600⟩, ⟨by decide +kernel, by decide +kernel, by decide +kernel⟩⟩
theorem mw_602 : Cond.methodLink RL 159 yL_setQuarantine ∈ lw_ok := ok_in 602 (by decide +kernel) (by decide +kernel)
theorem mw_604 : Cond.codeWith yL_setQuarantine cL_setQuarantine 4 (some .int) [((0 : Nat), (9 : Nat), (12 : Nat), (15 : Nat))] ∈ lw_ok := ok_in 604 (by decide +kernel) (by decide +kernel)
theorem mw_603 : Cond.static yL_setQuarantine ∈ lw_ok := ok_in 603 (by decide +kernel) (by decide +kernel)
theorem Lk_L_159 : LkW RL 159 yL_setQuarantine cL_setQuarantine 4 (some .int) [((0 : Nat), (9 : Nat), (12 : Nat), (15 : Nat))] 3 := ⟨⟨mw_602, mw_603, mw_41, mw_604⟩, ⟨by decide +kernel, by decide +kernel, by decide +kernel⟩⟩
theorem mw_605 : Cond.methodLink RL 42 yX6_setQuarantine ∈ lw_ok := ok_in 605 (by decide +kernel) (by decide +kernel)
theorem mw_608 : Cond.code yX6_setQuarantine cX6_setQuarantine 3 (some .int) ∈ lw_ok := ok_in 608 (by decide +kernel) (by decide +kernel)
theorem mw_606 : Cond.instanceMethod yX6_setQuarantine ∈ lw_ok := ok_in 606 (by decide +kernel) (by decide +kernel)
theorem mw_607 : Cond.selects RX6 yX6_setQuarantine yX6_setQuarantine ∈ lw_ok := ok_in 607 (by decide +kernel) (by decide +kernel)
theorem Lk_L_42 : LkV RL 42 yX6_setQuarantine cX6_setQuarantine 3 (some .int) 1 := ⟨⟨mw_605, mw_606, mw_607, mw_42, mw_608⟩, ⟨by decide +kernel, by decide +kernel, by decide +kernel⟩⟩
theorem mw_610 : Cond.methodLink RL 162 yL_setDirect ∈ lw_ok := ok_in 610 (by decide +kernel) (by decide +kernel)
theorem mw_612 : Cond.codeWith yL_setDirect cL_setDirect 5 (some .int) [((0 : Nat), (17 : Nat), (20 : Nat), (13 : Nat))] ∈ lw_ok := ok_in 612 (by decide +kernel) (by decide +kernel)
theorem mw_611 : Cond.static yL_setDirect ∈ lw_ok := ok_in 611 (by decide +kernel) (by decide +kernel)
theorem Lk_L_162 : LkW RL 162 yL_setDirect cL_setDirect 5 (some .int) [((0 : Nat), (17 : Nat), (20 : Nat), (13 : Nat))] 4 := ⟨⟨mw_610, mw_611, mw_41, mw_612⟩, ⟨by decide +kernel, by decide +kernel, by decide +kernel⟩⟩
theorem mw_613 : Cond.methodLink RL 45 yX6_setDirect ∈ lw_ok := ok_in 613 (by decide +kernel) (by decide +kernel)
theorem mw_616 : Cond.code yX6_setDirect cX6_setDirect 4 (some .boolean) ∈ lw_ok := ok_in 616 (by decide +kernel) (by decide +kernel)
theorem mw_614 : Cond.instanceMethod yX6_setDirect ∈ lw_ok := ok_in 614 (by decide +kernel) (by decide +kernel)
theorem mw_615 : Cond.selects RX6 yX6_setDirect yX6_setDirect ∈ lw_ok := ok_in 615 (by decide +kernel) (by decide +kernel)
theorem Lk_L_45 : LkV RL 45 yX6_setDirect cX6_setDirect 4 (some .boolean) 2 := ⟨⟨mw_613, mw_614, mw_615, mw_42, mw_616⟩, ⟨by decide +kernel, by decide +kernel, by decide +kernel⟩⟩
theorem mw_617 : Cond.methodLink RL 165 yL_setRelay ∈ lw_ok := ok_in 617 (by decide +kernel) (by decide +kernel)
theorem mw_619 : Cond.codeWith yL_setRelay cL_setRelay 5 (some .int) [((0 : Nat), (17 : Nat), (20 : Nat), (13 : Nat))] ∈ lw_ok := ok_in 619 (by decide +kernel) (by decide +kernel)
theorem mw_618 : Cond.static yL_setRelay ∈ lw_ok := ok_in 618 (by decide +kernel) (by decide +kernel)
theorem Lk_L_165 : LkW RL 165 yL_setRelay cL_setRelay 5 (some .int) [((0 : Nat), (17 : Nat), (20 : Nat), (13 : Nat))] 4 := ⟨⟨mw_617, mw_618, mw_41, mw_619⟩, ⟨by decide +kernel, by decide +kernel, by decide +kernel⟩⟩
theorem mw_620 : Cond.methodLink RL 48 yX6_setRelay ∈ lw_ok := ok_in 620 (by decide +kernel) (by decide +kernel)
theorem mw_623 : Cond.code yX6_setRelay cX6_setRelay 4 (some .boolean) ∈ lw_ok := ok_in 623 (by decide +kernel) (by decide +kernel)
theorem mw_621 : Cond.instanceMethod yX6_setRelay ∈ lw_ok := ok_in 621 (by decide +kernel) (by decide +kernel)
theorem mw_622 : Cond.selects RX6 yX6_setRelay yX6_setRelay ∈ lw_ok := ok_in 622 (by decide +kernel) (by decide +kernel)
theorem Lk_L_48 : LkV RL 48 yX6_setRelay cX6_setRelay 4 (some .boolean) 2 := ⟨⟨mw_620, mw_621, mw_622, mw_42, mw_623⟩, ⟨by decide +kernel, by decide +kernel, by decide +kernel⟩⟩
theorem mw_624 : Cond.methodLink RL 168 yL_discover ∈ lw_ok := ok_in 624 (by decide +kernel) (by decide +kernel)
theorem mw_626 : Cond.codeWith yL_discover cL_discover 6 (some .int) [((0 : Nat), (12 : Nat), (15 : Nat), (13 : Nat)), ((0 : Nat), (12 : Nat), (19 : Nat), (17 : Nat)), ((0 : Nat), (12 : Nat), (23 : Nat), (30 : Nat))] ∈ lw_ok := ok_in 626 (by decide +kernel) (by decide +kernel)
theorem mw_625 : Cond.static yL_discover ∈ lw_ok := ok_in 625 (by decide +kernel) (by decide +kernel)
theorem Lk_L_168 : LkW RL 168 yL_discover cL_discover 6 (some .int) [((0 : Nat), (12 : Nat), (15 : Nat), (13 : Nat)), ((0 : Nat), (12 : Nat), (19 : Nat), (17 : Nat)), ((0 : Nat), (12 : Nat), (23 : Nat), (30 : Nat))] 5 := ⟨⟨mw_624, mw_625, mw_41, mw_626⟩, ⟨by decide +kernel, by decide +kernel, by decide +kernel⟩⟩
theorem mw_627 : Cond.methodLink RL 51 yX6_discover ∈ lw_ok := ok_in 627 (by decide +kernel) (by decide +kernel)
theorem mw_630 : Cond.code yX6_discover cX6_discover 5 (some .int) ∈ lw_ok := ok_in 630 (by decide +kernel) (by decide +kernel)
theorem mw_628 : Cond.instanceMethod yX6_discover ∈ lw_ok := ok_in 628 (by decide +kernel) (by decide +kernel)
theorem mw_629 : Cond.selects RX6 yX6_discover yX6_discover ∈ lw_ok := ok_in 629 (by decide +kernel) (by decide +kernel)
theorem Lk_L_51 : LkV RL 51 yX6_discover cX6_discover 5 (some .int) 3 := ⟨⟨mw_627, mw_628, mw_629, mw_42, mw_630⟩, ⟨by decide +kernel, by decide +kernel, by decide +kernel⟩⟩
theorem mw_631 : Cond.methodLink RX6 150 yX6_requireClient ∈ lw_ok := ok_in 631 (by decide +kernel) (by decide +kernel)
theorem mw_633 : Cond.code yX6_requireClient cX6_requireClient 1 none ∈ lw_ok := ok_in 633 (by decide +kernel) (by decide +kernel)
theorem mw_632 : Cond.static yX6_requireClient ∈ lw_ok := ok_in 632 (by decide +kernel) (by decide +kernel)
theorem Lk_X6_150 : LkS RX6 150 yX6_requireClient cX6_requireClient 1 none 1 := ⟨⟨mw_631, mw_632, mw_42, mw_633⟩, ⟨by decide +kernel, by decide +kernel, by decide +kernel⟩⟩
theorem mw_634 : Cond.methodLink RX6 312 yX6_isClient ∈ lw_ok := ok_in 634 (by decide +kernel) (by decide +kernel)
theorem Lk_X6_312 : LkS RX6 312 yX6_isClient cX6_isClient 1 (some .boolean) 1 := ⟨⟨mw_634, mw_289, mw_42, mw_290⟩, ⟨by decide +kernel, by decide +kernel, by decide +kernel⟩⟩
theorem mw_636 : Cond.methodLink RX6 157 yX1_isBound ∈ lw_ok := ok_in 636 (by decide +kernel) (by decide +kernel)
theorem Lk_X6_157 : LkV RX6 157 yX1_isBound cX1_isBound 2 (some .boolean) 1 := ⟨⟨mw_636, mw_285, mw_286, mw_48, mw_287⟩, ⟨by decide +kernel, by decide +kernel, by decide +kernel⟩⟩
theorem mw_639 : Cond.methodLink RX6 166 yX5_makeOffer ∈ lw_ok := ok_in 639 (by decide +kernel) (by decide +kernel)
theorem mw_642 : Cond.code yX5_makeOffer cX5_makeOffer 6 (some .int) ∈ lw_ok := ok_in 642 (by decide +kernel) (by decide +kernel)
theorem mw_640 : Cond.instanceMethod yX5_makeOffer ∈ lw_ok := ok_in 640 (by decide +kernel) (by decide +kernel)
theorem mw_641 : Cond.selects RX5 yX5_makeOffer yX5_makeOffer ∈ lw_ok := ok_in 641 (by decide +kernel) (by decide +kernel)
theorem Lk_X6_166 : LkV RX6 166 yX5_makeOffer cX5_makeOffer 6 (some .int) 3 := ⟨⟨mw_639, mw_640, mw_641, mw_44, mw_642⟩, ⟨by decide +kernel, by decide +kernel, by decide +kernel⟩⟩
theorem mw_643 : Cond.methodLink RX5 138 yX5_endHolding ∈ lw_ok := ok_in 643 (by decide +kernel) (by decide +kernel)
theorem mw_646 : Cond.code yX5_endHolding cX5_endHolding 2 none ∈ lw_ok := ok_in 646 (by decide +kernel) (by decide +kernel)
theorem mw_644 : Cond.instanceMethod yX5_endHolding ∈ lw_ok := ok_in 644 (by decide +kernel) (by decide +kernel)
theorem mw_645 : Cond.selects RX5 yX5_endHolding yX5_endHolding ∈ lw_ok := ok_in 645 (by decide +kernel) (by decide +kernel)
theorem Lk_X5_138 : LkV RX5 138 yX5_endHolding cX5_endHolding 2 none 1 := ⟨⟨mw_643, mw_644, mw_645, mw_44, mw_646⟩, ⟨by decide +kernel, by decide +kernel, by decide +kernel⟩⟩
theorem mw_647 : Cond.methodLinkNest RX5 71 yX6_isClient "LeaseServer" ∈ lw_ok := ok_in 647 (by decide +kernel) (by decide +kernel)
theorem Lk_X5_71 : LkN RX5 71 yX6_isClient "LeaseServer" cX6_isClient 1 (some .boolean) 1 := ⟨⟨mw_647, mw_289, mw_42, mw_290⟩, ⟨by decide +kernel, by decide +kernel, by decide +kernel⟩⟩
theorem mw_648 : Cond.methodLink RX5 189 yX0_becomeFree ∈ lw_ok := ok_in 648 (by decide +kernel) (by decide +kernel)
theorem Lk_X5_189 : LkV RX5 189 yX0_becomeFree cX0_becomeFree 3 none 2 := ⟨⟨mw_648, mw_494, mw_495, mw_46, mw_496⟩, ⟨by decide +kernel, by decide +kernel, by decide +kernel⟩⟩
theorem mw_649 : Cond.methodLink RX5 192 yX1_becomeIdle ∈ lw_ok := ok_in 649 (by decide +kernel) (by decide +kernel)
theorem mw_652 : Cond.code yX1_becomeIdle cX1_becomeIdle 2 none ∈ lw_ok := ok_in 652 (by decide +kernel) (by decide +kernel)
theorem mw_650 : Cond.instanceMethod yX1_becomeIdle ∈ lw_ok := ok_in 650 (by decide +kernel) (by decide +kernel)
theorem mw_651 : Cond.selects RX1 yX1_becomeIdle yX1_becomeIdle ∈ lw_ok := ok_in 651 (by decide +kernel) (by decide +kernel)
theorem Lk_X5_192 : LkV RX5 192 yX1_becomeIdle cX1_becomeIdle 2 none 1 := ⟨⟨mw_649, mw_650, mw_651, mw_48, mw_652⟩, ⟨by decide +kernel, by decide +kernel, by decide +kernel⟩⟩
theorem mw_653 : Cond.methodLink RX5 142 yX5_firstCandidate ∈ lw_ok := ok_in 653 (by decide +kernel) (by decide +kernel)
theorem mw_656 : Cond.code yX5_firstCandidate cX5_firstCandidate 5 (some .int) ∈ lw_ok := ok_in 656 (by decide +kernel) (by decide +kernel)
theorem mw_654 : Cond.instanceMethod yX5_firstCandidate ∈ lw_ok := ok_in 654 (by decide +kernel) (by decide +kernel)
theorem mw_655 : Cond.selects RX5 yX5_firstCandidate yX5_firstCandidate ∈ lw_ok := ok_in 655 (by decide +kernel) (by decide +kernel)
theorem Lk_X5_142 : LkV RX5 142 yX5_firstCandidate cX5_firstCandidate 5 (some .int) 3 := ⟨⟨mw_653, mw_654, mw_655, mw_44, mw_656⟩, ⟨by decide +kernel, by decide +kernel, by decide +kernel⟩⟩
theorem mw_657 : Cond.methodLink RX5 116 yX5_isCandidate ∈ lw_ok := ok_in 657 (by decide +kernel) (by decide +kernel)
theorem mw_660 : Cond.code yX5_isCandidate cX5_isCandidate 3 (some .boolean) ∈ lw_ok := ok_in 660 (by decide +kernel) (by decide +kernel)
theorem mw_659 : Cond.instanceMethod yX5_isCandidate ∈ lw_ok := ok_in 659 (by decide +kernel) (by decide +kernel)
theorem mw_3 : Cond.selects RX5 yX5_isCandidate yX5_isCandidate ∈ lw_ok := ok_in 3 (by decide +kernel) (by decide +kernel)
theorem Lk_X5_116 : LkV RX5 116 yX5_isCandidate cX5_isCandidate 3 (some .boolean) 2 := ⟨⟨mw_657, mw_659, mw_3, mw_44, mw_660⟩, ⟨by decide +kernel, by decide +kernel, by decide +kernel⟩⟩
theorem mw_661 : Cond.methodLink RX5 123 yX0_isOfferable ∈ lw_ok := ok_in 661 (by decide +kernel) (by decide +kernel)
theorem Lk_X5_123 : LkV RX5 123 yX0_isOfferable cX0_isOfferable 2 (some .boolean) 1 := ⟨⟨mw_661, mw_540, mw_541, mw_46, mw_542⟩, ⟨by decide +kernel, by decide +kernel, by decide +kernel⟩⟩
theorem mw_662 : Cond.methodLink RX5 78 yX3_groupAt ∈ lw_ok := ok_in 662 (by decide +kernel) (by decide +kernel)
theorem mw_665 : Cond.code yX3_groupAt cX3_groupAt 3 (some .int) ∈ lw_ok := ok_in 665 (by decide +kernel) (by decide +kernel)
theorem mw_663 : Cond.instanceMethod yX3_groupAt ∈ lw_ok := ok_in 663 (by decide +kernel) (by decide +kernel)
theorem mw_664 : Cond.selects RX3 yX3_groupAt yX3_groupAt ∈ lw_ok := ok_in 664 (by decide +kernel) (by decide +kernel)
theorem Lk_X5_78 : LkV RX5 78 yX3_groupAt cX3_groupAt 3 (some .int) 1 := ⟨⟨mw_662, mw_663, mw_664, mw_45, mw_665⟩, ⟨by decide +kernel, by decide +kernel, by decide +kernel⟩⟩
theorem mw_666 : Cond.methodLink RX3 28 yX3_numberAt ∈ lw_ok := ok_in 666 (by decide +kernel) (by decide +kernel)
theorem Lk_X3_28 : LkV RX3 28 yX3_numberAt cX3_numberAt 3 (some .int) 1 := ⟨⟨mw_666, mw_561, mw_562, mw_45, mw_563⟩, ⟨by decide +kernel, by decide +kernel, by decide +kernel⟩⟩
theorem mw_667 : Cond.methodLink RX5 120 yX5_longestFree ∈ lw_ok := ok_in 667 (by decide +kernel) (by decide +kernel)
theorem mw_670 : Cond.code yX5_longestFree cX5_longestFree 4 (some .int) ∈ lw_ok := ok_in 670 (by decide +kernel) (by decide +kernel)
theorem mw_669 : Cond.instanceMethod yX5_longestFree ∈ lw_ok := ok_in 669 (by decide +kernel) (by decide +kernel)
theorem mw_4 : Cond.selects RX5 yX5_longestFree yX5_longestFree ∈ lw_ok := ok_in 4 (by decide +kernel) (by decide +kernel)
theorem Lk_X5_120 : LkV RX5 120 yX5_longestFree cX5_longestFree 4 (some .int) 1 := ⟨⟨mw_667, mw_669, mw_4, mw_44, mw_670⟩, ⟨by decide +kernel, by decide +kernel, by decide +kernel⟩⟩
theorem mw_671 : Cond.methodLink RX5 126 yX5_longestFreeIn ∈ lw_ok := ok_in 671 (by decide +kernel) (by decide +kernel)
theorem mw_674 : Cond.code yX5_longestFreeIn cX5_longestFreeIn 6 (some .int) ∈ lw_ok := ok_in 674 (by decide +kernel) (by decide +kernel)
theorem mw_673 : Cond.instanceMethod yX5_longestFreeIn ∈ lw_ok := ok_in 673 (by decide +kernel) (by decide +kernel)
theorem mw_5 : Cond.selects RX5 yX5_longestFreeIn yX5_longestFreeIn ∈ lw_ok := ok_in 5 (by decide +kernel) (by decide +kernel)
theorem Lk_X5_126 : LkV RX5 126 yX5_longestFreeIn cX5_longestFreeIn 6 (some .int) 3 := ⟨⟨mw_671, mw_673, mw_5, mw_44, mw_674⟩, ⟨by decide +kernel, by decide +kernel, by decide +kernel⟩⟩
theorem mw_675 : Cond.methodLink RX5 129 yJ9_max_7cf53 ∈ lw_ok := ok_in 675 (by decide +kernel) (by decide +kernel)
theorem Lk_X5_129 : LkS RX5 129 yJ9_max_7cf53 cJ9_max_7cf53 2 (some .int) 2 := ⟨⟨mw_675, mw_491, mw_59, mw_492⟩, ⟨by decide +kernel, by decide +kernel, by decide +kernel⟩⟩
theorem mw_676 : Cond.methodLink RX5 135 yX0_isFreeLonger ∈ lw_ok := ok_in 676 (by decide +kernel) (by decide +kernel)
theorem mw_679 : Cond.code yX0_isFreeLonger cX0_isFreeLonger 3 (some .boolean) ∈ lw_ok := ok_in 679 (by decide +kernel) (by decide +kernel)
theorem mw_677 : Cond.instanceMethod yX0_isFreeLonger ∈ lw_ok := ok_in 677 (by decide +kernel) (by decide +kernel)
theorem mw_678 : Cond.selects RX0 yX0_isFreeLonger yX0_isFreeLonger ∈ lw_ok := ok_in 678 (by decide +kernel) (by decide +kernel)
theorem Lk_X5_135 : LkV RX5 135 yX0_isFreeLonger cX0_isFreeLonger 3 (some .boolean) 2 := ⟨⟨mw_676, mw_677, mw_678, mw_46, mw_679⟩, ⟨by decide +kernel, by decide +kernel, by decide +kernel⟩⟩
theorem mw_680 : Cond.methodLinkNest RX5 81 yX6_isAddress "LeaseServer" ∈ lw_ok := ok_in 680 (by decide +kernel) (by decide +kernel)
theorem Lk_X5_81 : LkN RX5 81 yX6_isAddress "LeaseServer" cX6_isAddress 1 (some .boolean) 1 := ⟨⟨mw_680, mw_446, mw_42, mw_447⟩, ⟨by decide +kernel, by decide +kernel, by decide +kernel⟩⟩
theorem mw_681 : Cond.methodLink RX5 148 yX5_holdFor ∈ lw_ok := ok_in 681 (by decide +kernel) (by decide +kernel)
theorem mw_684 : Cond.code yX5_holdFor cX5_holdFor 3 none ∈ lw_ok := ok_in 684 (by decide +kernel) (by decide +kernel)
theorem mw_683 : Cond.instanceMethod yX5_holdFor ∈ lw_ok := ok_in 683 (by decide +kernel) (by decide +kernel)
theorem mw_6 : Cond.selects RX5 yX5_holdFor yX5_holdFor ∈ lw_ok := ok_in 6 (by decide +kernel) (by decide +kernel)
theorem Lk_X5_148 : LkV RX5 148 yX5_holdFor cX5_holdFor 3 none 2 := ⟨⟨mw_681, mw_683, mw_6, mw_44, mw_684⟩, ⟨by decide +kernel, by decide +kernel, by decide +kernel⟩⟩
theorem mw_685 : Cond.methodLink RX5 158 yX0_becomeHeld ∈ lw_ok := ok_in 685 (by decide +kernel) (by decide +kernel)
theorem mw_688 : Cond.code yX0_becomeHeld cX0_becomeHeld 5 none ∈ lw_ok := ok_in 688 (by decide +kernel) (by decide +kernel)
theorem mw_686 : Cond.instanceMethod yX0_becomeHeld ∈ lw_ok := ok_in 686 (by decide +kernel) (by decide +kernel)
theorem mw_687 : Cond.selects RX0 yX0_becomeHeld yX0_becomeHeld ∈ lw_ok := ok_in 687 (by decide +kernel) (by decide +kernel)
theorem Lk_X5_158 : LkV RX5 158 yX0_becomeHeld cX0_becomeHeld 5 none 4 := ⟨⟨mw_685, mw_686, mw_687, mw_46, mw_688⟩, ⟨by decide +kernel, by decide +kernel, by decide +kernel⟩⟩
theorem mw_689 : Cond.methodLink RX5 162 yX1_takeOffer ∈ lw_ok := ok_in 689 (by decide +kernel) (by decide +kernel)
theorem mw_692 : Cond.code yX1_takeOffer cX1_takeOffer 3 none ∈ lw_ok := ok_in 692 (by decide +kernel) (by decide +kernel)
theorem mw_690 : Cond.instanceMethod yX1_takeOffer ∈ lw_ok := ok_in 690 (by decide +kernel) (by decide +kernel)
theorem mw_691 : Cond.selects RX1 yX1_takeOffer yX1_takeOffer ∈ lw_ok := ok_in 691 (by decide +kernel) (by decide +kernel)
theorem Lk_X5_162 : LkV RX5 162 yX1_takeOffer cX1_takeOffer 3 none 2 := ⟨⟨mw_689, mw_690, mw_691, mw_48, mw_692⟩, ⟨by decide +kernel, by decide +kernel, by decide +kernel⟩⟩
theorem mw_693 : Cond.methodLink RX5 165 yX2_write ∈ lw_ok := ok_in 693 (by decide +kernel) (by decide +kernel)
theorem mw_696 : Cond.code yX2_write cX2_write 3 none ∈ lw_ok := ok_in 696 (by decide +kernel) (by decide +kernel)
theorem mw_694 : Cond.instanceMethod yX2_write ∈ lw_ok := ok_in 694 (by decide +kernel) (by decide +kernel)
theorem mw_695 : Cond.selects RX2 yX2_write yX2_write ∈ lw_ok := ok_in 695 (by decide +kernel) (by decide +kernel)
theorem Lk_X5_165 : LkV RX5 165 yX2_write cX2_write 3 none 2 := ⟨⟨mw_693, mw_694, mw_695, mw_43, mw_696⟩, ⟨by decide +kernel, by decide +kernel, by decide +kernel⟩⟩
theorem mw_697 : Cond.methodLink RX2 22 yJ9_min_7cf53 ∈ lw_ok := ok_in 697 (by decide +kernel) (by decide +kernel)
theorem Lk_X2_22 : LkS RX2 22 yJ9_min_7cf53 cJ9_min_7cf53 2 (some .int) 2 := ⟨⟨mw_697, mw_315, mw_59, mw_316⟩, ⟨by decide +kernel, by decide +kernel, by decide +kernel⟩⟩
theorem mw_698 : Cond.methodLink RX5 152 yX5_findConflict ∈ lw_ok := ok_in 698 (by decide +kernel) (by decide +kernel)
theorem mw_701 : Cond.code yX5_findConflict cX5_findConflict 2 none ∈ lw_ok := ok_in 701 (by decide +kernel) (by decide +kernel)
theorem mw_700 : Cond.instanceMethod yX5_findConflict ∈ lw_ok := ok_in 700 (by decide +kernel) (by decide +kernel)
theorem mw_7 : Cond.selects RX5 yX5_findConflict yX5_findConflict ∈ lw_ok := ok_in 7 (by decide +kernel) (by decide +kernel)
theorem Lk_X5_152 : LkV RX5 152 yX5_findConflict cX5_findConflict 2 none 1 := ⟨⟨mw_698, mw_700, mw_7, mw_44, mw_701⟩, ⟨by decide +kernel, by decide +kernel, by decide +kernel⟩⟩
theorem mw_702 : Cond.methodLink RX5 173 yX0_becomeDeclined ∈ lw_ok := ok_in 702 (by decide +kernel) (by decide +kernel)
theorem mw_705 : Cond.code yX0_becomeDeclined cX0_becomeDeclined 3 none ∈ lw_ok := ok_in 705 (by decide +kernel) (by decide +kernel)
theorem mw_703 : Cond.instanceMethod yX0_becomeDeclined ∈ lw_ok := ok_in 703 (by decide +kernel) (by decide +kernel)
theorem mw_704 : Cond.selects RX0 yX0_becomeDeclined yX0_becomeDeclined ∈ lw_ok := ok_in 704 (by decide +kernel) (by decide +kernel)
theorem Lk_X5_173 : LkV RX5 173 yX0_becomeDeclined cX0_becomeDeclined 3 none 2 := ⟨⟨mw_702, mw_703, mw_704, mw_46, mw_705⟩, ⟨by decide +kernel, by decide +kernel, by decide +kernel⟩⟩
theorem mw_706 : Cond.methodLink RX0 51 yX0_becomeHeld ∈ lw_ok := ok_in 706 (by decide +kernel) (by decide +kernel)
theorem Lk_X0_51 : LkV RX0 51 yX0_becomeHeld cX0_becomeHeld 5 none 4 := ⟨⟨mw_706, mw_686, mw_687, mw_46, mw_688⟩, ⟨by decide +kernel, by decide +kernel, by decide +kernel⟩⟩
theorem mw_708 : Cond.methodLink RL 172 yL_accept ∈ lw_ok := ok_in 708 (by decide +kernel) (by decide +kernel)
theorem mw_710 : Cond.codeWith yL_accept cL_accept 4 (some .int) [((0 : Nat), (9 : Nat), (12 : Nat), (13 : Nat)), ((0 : Nat), (9 : Nat), (15 : Nat), (30 : Nat)), ((0 : Nat), (9 : Nat), (18 : Nat), (17 : Nat))] ∈ lw_ok := ok_in 710 (by decide +kernel) (by decide +kernel)
theorem mw_709 : Cond.static yL_accept ∈ lw_ok := ok_in 709 (by decide +kernel) (by decide +kernel)
theorem Lk_L_172 : LkW RL 172 yL_accept cL_accept 4 (some .int) [((0 : Nat), (9 : Nat), (12 : Nat), (13 : Nat)), ((0 : Nat), (9 : Nat), (15 : Nat), (30 : Nat)), ((0 : Nat), (9 : Nat), (18 : Nat), (17 : Nat))] 3 := ⟨⟨mw_708, mw_709, mw_41, mw_710⟩, ⟨by decide +kernel, by decide +kernel, by decide +kernel⟩⟩
theorem mw_711 : Cond.methodLink RL 55 yX6_accept ∈ lw_ok := ok_in 711 (by decide +kernel) (by decide +kernel)
theorem mw_714 : Cond.code yX6_accept cX6_accept 2 (some .int) ∈ lw_ok := ok_in 714 (by decide +kernel) (by decide +kernel)
theorem mw_712 : Cond.instanceMethod yX6_accept ∈ lw_ok := ok_in 712 (by decide +kernel) (by decide +kernel)
theorem mw_713 : Cond.selects RX6 yX6_accept yX6_accept ∈ lw_ok := ok_in 713 (by decide +kernel) (by decide +kernel)
theorem Lk_L_55 : LkV RL 55 yX6_accept cX6_accept 2 (some .int) 1 := ⟨⟨mw_711, mw_712, mw_713, mw_42, mw_714⟩, ⟨by decide +kernel, by decide +kernel, by decide +kernel⟩⟩
theorem mw_716 : Cond.methodLink RX6 178 yX5_relayUpFor ∈ lw_ok := ok_in 716 (by decide +kernel) (by decide +kernel)
theorem mw_719 : Cond.code yX5_relayUpFor cX5_relayUpFor 3 (some .boolean) ∈ lw_ok := ok_in 719 (by decide +kernel) (by decide +kernel)
theorem mw_717 : Cond.instanceMethod yX5_relayUpFor ∈ lw_ok := ok_in 717 (by decide +kernel) (by decide +kernel)
theorem mw_718 : Cond.selects RX5 yX5_relayUpFor yX5_relayUpFor ∈ lw_ok := ok_in 718 (by decide +kernel) (by decide +kernel)
theorem Lk_X6_178 : LkV RX6 178 yX5_relayUpFor cX5_relayUpFor 3 (some .boolean) 1 := ⟨⟨mw_716, mw_717, mw_718, mw_44, mw_719⟩, ⟨by decide +kernel, by decide +kernel, by decide +kernel⟩⟩
theorem mw_720 : Cond.methodLink RX5 56 yX5_groupOfClient ∈ lw_ok := ok_in 720 (by decide +kernel) (by decide +kernel)
theorem mw_723 : Cond.code yX5_groupOfClient cX5_groupOfClient 2 (some .int) ∈ lw_ok := ok_in 723 (by decide +kernel) (by decide +kernel)
theorem mw_722 : Cond.instanceMethod yX5_groupOfClient ∈ lw_ok := ok_in 722 (by decide +kernel) (by decide +kernel)
theorem mw_8 : Cond.selects RX5 yX5_groupOfClient yX5_groupOfClient ∈ lw_ok := ok_in 8 (by decide +kernel) (by decide +kernel)
theorem Lk_X5_56 : LkV RX5 56 yX5_groupOfClient cX5_groupOfClient 2 (some .int) 1 := ⟨⟨mw_720, mw_722, mw_8, mw_44, mw_723⟩, ⟨by decide +kernel, by decide +kernel, by decide +kernel⟩⟩
theorem mw_724 : Cond.methodLinkNest RX5 60 yX6_isGroup "LeaseServer" ∈ lw_ok := ok_in 724 (by decide +kernel) (by decide +kernel)
theorem Lk_X5_60 : LkN RX5 60 yX6_isGroup "LeaseServer" cX6_isGroup 1 (some .boolean) 1 := ⟨⟨mw_724, mw_430, mw_42, mw_431⟩, ⟨by decide +kernel, by decide +kernel, by decide +kernel⟩⟩
theorem mw_725 : Cond.methodLink RX6 181 yX5_beginLease ∈ lw_ok := ok_in 725 (by decide +kernel) (by decide +kernel)
theorem mw_728 : Cond.code yX5_beginLease cX5_beginLease 2 none ∈ lw_ok := ok_in 728 (by decide +kernel) (by decide +kernel)
theorem mw_726 : Cond.instanceMethod yX5_beginLease ∈ lw_ok := ok_in 726 (by decide +kernel) (by decide +kernel)
theorem mw_727 : Cond.selects RX5 yX5_beginLease yX5_beginLease ∈ lw_ok := ok_in 727 (by decide +kernel) (by decide +kernel)
theorem Lk_X6_181 : LkV RX6 181 yX5_beginLease cX5_beginLease 2 none 1 := ⟨⟨mw_725, mw_726, mw_727, mw_44, mw_728⟩, ⟨by decide +kernel, by decide +kernel, by decide +kernel⟩⟩
theorem mw_729 : Cond.methodLink RX5 179 yX5_startTerm ∈ lw_ok := ok_in 729 (by decide +kernel) (by decide +kernel)
theorem mw_732 : Cond.code yX5_startTerm cX5_startTerm 4 none ∈ lw_ok := ok_in 732 (by decide +kernel) (by decide +kernel)
theorem mw_731 : Cond.instanceMethod yX5_startTerm ∈ lw_ok := ok_in 731 (by decide +kernel) (by decide +kernel)
theorem mw_9 : Cond.selects RX5 yX5_startTerm yX5_startTerm ∈ lw_ok := ok_in 9 (by decide +kernel) (by decide +kernel)
theorem Lk_X5_179 : LkV RX5 179 yX5_startTerm cX5_startTerm 4 none 1 := ⟨⟨mw_729, mw_731, mw_9, mw_44, mw_732⟩, ⟨by decide +kernel, by decide +kernel, by decide +kernel⟩⟩
theorem mw_733 : Cond.methodLink RX5 182 yX3_leaseAt ∈ lw_ok := ok_in 733 (by decide +kernel) (by decide +kernel)
theorem mw_736 : Cond.code yX3_leaseAt cX3_leaseAt 3 (some .int) ∈ lw_ok := ok_in 736 (by decide +kernel) (by decide +kernel)
theorem mw_734 : Cond.instanceMethod yX3_leaseAt ∈ lw_ok := ok_in 734 (by decide +kernel) (by decide +kernel)
theorem mw_735 : Cond.selects RX3 yX3_leaseAt yX3_leaseAt ∈ lw_ok := ok_in 735 (by decide +kernel) (by decide +kernel)
theorem Lk_X5_182 : LkV RX5 182 yX3_leaseAt cX3_leaseAt 3 (some .int) 1 := ⟨⟨mw_733, mw_734, mw_735, mw_45, mw_736⟩, ⟨by decide +kernel, by decide +kernel, by decide +kernel⟩⟩
theorem mw_737 : Cond.methodLink RX5 185 yX1_takeLease ∈ lw_ok := ok_in 737 (by decide +kernel) (by decide +kernel)
theorem mw_740 : Cond.code yX1_takeLease cX1_takeLease 4 none ∈ lw_ok := ok_in 740 (by decide +kernel) (by decide +kernel)
theorem mw_738 : Cond.instanceMethod yX1_takeLease ∈ lw_ok := ok_in 738 (by decide +kernel) (by decide +kernel)
theorem mw_739 : Cond.selects RX1 yX1_takeLease yX1_takeLease ∈ lw_ok := ok_in 739 (by decide +kernel) (by decide +kernel)
theorem Lk_X5_185 : LkV RX5 185 yX1_takeLease cX1_takeLease 4 none 3 := ⟨⟨mw_737, mw_738, mw_739, mw_48, mw_740⟩, ⟨by decide +kernel, by decide +kernel, by decide +kernel⟩⟩
theorem mw_741 : Cond.methodLink RL 175 yL_release ∈ lw_ok := ok_in 741 (by decide +kernel) (by decide +kernel)
theorem mw_743 : Cond.codeWith yL_release cL_release 4 (some .int) [((0 : Nat), (9 : Nat), (12 : Nat), (13 : Nat)), ((0 : Nat), (9 : Nat), (15 : Nat), (30 : Nat))] ∈ lw_ok := ok_in 743 (by decide +kernel) (by decide +kernel)
theorem mw_742 : Cond.static yL_release ∈ lw_ok := ok_in 742 (by decide +kernel) (by decide +kernel)
theorem Lk_L_175 : LkW RL 175 yL_release cL_release 4 (some .int) [((0 : Nat), (9 : Nat), (12 : Nat), (13 : Nat)), ((0 : Nat), (9 : Nat), (15 : Nat), (30 : Nat))] 3 := ⟨⟨mw_741, mw_742, mw_41, mw_743⟩, ⟨by decide +kernel, by decide +kernel, by decide +kernel⟩⟩
theorem mw_744 : Cond.methodLink RL 58 yX6_release ∈ lw_ok := ok_in 744 (by decide +kernel) (by decide +kernel)
theorem mw_747 : Cond.code yX6_release cX6_release 3 (some .int) ∈ lw_ok := ok_in 747 (by decide +kernel) (by decide +kernel)
theorem mw_745 : Cond.instanceMethod yX6_release ∈ lw_ok := ok_in 745 (by decide +kernel) (by decide +kernel)
theorem mw_746 : Cond.selects RX6 yX6_release yX6_release ∈ lw_ok := ok_in 746 (by decide +kernel) (by decide +kernel)
theorem Lk_L_58 : LkV RL 58 yX6_release cX6_release 3 (some .int) 1 := ⟨⟨mw_744, mw_745, mw_746, mw_42, mw_747⟩, ⟨by decide +kernel, by decide +kernel, by decide +kernel⟩⟩
theorem mw_748 : Cond.methodLink RX6 187 yX6_requireBound ∈ lw_ok := ok_in 748 (by decide +kernel) (by decide +kernel)
theorem mw_751 : Cond.code yX6_requireBound cX6_requireBound 2 none ∈ lw_ok := ok_in 751 (by decide +kernel) (by decide +kernel)
theorem mw_750 : Cond.instanceMethod yX6_requireBound ∈ lw_ok := ok_in 750 (by decide +kernel) (by decide +kernel)
theorem mw_10 : Cond.selects RX6 yX6_requireBound yX6_requireBound ∈ lw_ok := ok_in 10 (by decide +kernel) (by decide +kernel)
theorem Lk_X6_187 : LkV RX6 187 yX6_requireBound cX6_requireBound 2 none 1 := ⟨⟨mw_748, mw_750, mw_10, mw_42, mw_751⟩, ⟨by decide +kernel, by decide +kernel, by decide +kernel⟩⟩
theorem mw_753 : Cond.methodLink RX6 190 yX5_endHolding ∈ lw_ok := ok_in 753 (by decide +kernel) (by decide +kernel)
theorem Lk_X6_190 : LkV RX6 190 yX5_endHolding cX5_endHolding 2 none 1 := ⟨⟨mw_753, mw_644, mw_645, mw_44, mw_646⟩, ⟨by decide +kernel, by decide +kernel, by decide +kernel⟩⟩
theorem mw_754 : Cond.methodLink RX6 193 yX2_write ∈ lw_ok := ok_in 754 (by decide +kernel) (by decide +kernel)
theorem Lk_X6_193 : LkV RX6 193 yX2_write cX2_write 3 none 2 := ⟨⟨mw_754, mw_694, mw_695, mw_43, mw_696⟩, ⟨by decide +kernel, by decide +kernel, by decide +kernel⟩⟩
theorem mw_755 : Cond.methodLink RL 178 yL_decline ∈ lw_ok := ok_in 755 (by decide +kernel) (by decide +kernel)
theorem mw_757 : Cond.codeWith yL_decline cL_decline 4 (some .int) [((0 : Nat), (9 : Nat), (12 : Nat), (13 : Nat)), ((0 : Nat), (9 : Nat), (15 : Nat), (30 : Nat))] ∈ lw_ok := ok_in 757 (by decide +kernel) (by decide +kernel)
theorem mw_756 : Cond.static yL_decline ∈ lw_ok := ok_in 756 (by decide +kernel) (by decide +kernel)
theorem Lk_L_178 : LkW RL 178 yL_decline cL_decline 4 (some .int) [((0 : Nat), (9 : Nat), (12 : Nat), (13 : Nat)), ((0 : Nat), (9 : Nat), (15 : Nat), (30 : Nat))] 3 := ⟨⟨mw_755, mw_756, mw_41, mw_757⟩, ⟨by decide +kernel, by decide +kernel, by decide +kernel⟩⟩
theorem mw_758 : Cond.methodLink RL 61 yX6_decline ∈ lw_ok := ok_in 758 (by decide +kernel) (by decide +kernel)
theorem mw_761 : Cond.code yX6_decline cX6_decline 3 (some .int) ∈ lw_ok := ok_in 761 (by decide +kernel) (by decide +kernel)
theorem mw_759 : Cond.instanceMethod yX6_decline ∈ lw_ok := ok_in 759 (by decide +kernel) (by decide +kernel)
theorem mw_760 : Cond.selects RX6 yX6_decline yX6_decline ∈ lw_ok := ok_in 760 (by decide +kernel) (by decide +kernel)
theorem Lk_L_61 : LkV RL 61 yX6_decline cX6_decline 3 (some .int) 1 := ⟨⟨mw_758, mw_759, mw_760, mw_42, mw_761⟩, ⟨by decide +kernel, by decide +kernel, by decide +kernel⟩⟩
theorem mw_762 : Cond.methodLink RX6 196 yX5_declineLease ∈ lw_ok := ok_in 762 (by decide +kernel) (by decide +kernel)
theorem mw_765 : Cond.code yX5_declineLease cX5_declineLease 3 none ∈ lw_ok := ok_in 765 (by decide +kernel) (by decide +kernel)
theorem mw_763 : Cond.instanceMethod yX5_declineLease ∈ lw_ok := ok_in 763 (by decide +kernel) (by decide +kernel)
theorem mw_764 : Cond.selects RX5 yX5_declineLease yX5_declineLease ∈ lw_ok := ok_in 764 (by decide +kernel) (by decide +kernel)
theorem Lk_X6_196 : LkV RX6 196 yX5_declineLease cX5_declineLease 3 none 1 := ⟨⟨mw_762, mw_763, mw_764, mw_44, mw_765⟩, ⟨by decide +kernel, by decide +kernel, by decide +kernel⟩⟩
theorem mw_766 : Cond.methodLink RL 181 yL_renew ∈ lw_ok := ok_in 766 (by decide +kernel) (by decide +kernel)
theorem mw_768 : Cond.codeWith yL_renew cL_renew 4 (some .int) [((0 : Nat), (16 : Nat), (19 : Nat), (13 : Nat)), ((0 : Nat), (16 : Nat), (22 : Nat), (30 : Nat)), ((0 : Nat), (16 : Nat), (25 : Nat), (17 : Nat))] ∈ lw_ok := ok_in 768 (by decide +kernel) (by decide +kernel)
theorem mw_767 : Cond.static yL_renew ∈ lw_ok := ok_in 767 (by decide +kernel) (by decide +kernel)
theorem Lk_L_181 : LkW RL 181 yL_renew cL_renew 4 (some .int) [((0 : Nat), (16 : Nat), (19 : Nat), (13 : Nat)), ((0 : Nat), (16 : Nat), (22 : Nat), (30 : Nat)), ((0 : Nat), (16 : Nat), (25 : Nat), (17 : Nat))] 3 := ⟨⟨mw_766, mw_767, mw_41, mw_768⟩, ⟨by decide +kernel, by decide +kernel, by decide +kernel⟩⟩
theorem mw_769 : Cond.methodLink RL 64 yX6_renew ∈ lw_ok := ok_in 769 (by decide +kernel) (by decide +kernel)
theorem mw_772 : Cond.code yX6_renew cX6_renew 2 (some .boolean) ∈ lw_ok := ok_in 772 (by decide +kernel) (by decide +kernel)
theorem mw_770 : Cond.instanceMethod yX6_renew ∈ lw_ok := ok_in 770 (by decide +kernel) (by decide +kernel)
theorem mw_771 : Cond.selects RX6 yX6_renew yX6_renew ∈ lw_ok := ok_in 771 (by decide +kernel) (by decide +kernel)
theorem Lk_L_64 : LkV RL 64 yX6_renew cX6_renew 2 (some .boolean) 1 := ⟨⟨mw_769, mw_770, mw_771, mw_42, mw_772⟩, ⟨by decide +kernel, by decide +kernel, by decide +kernel⟩⟩
theorem mw_773 : Cond.methodLink RX6 199 yX5_directUpFor ∈ lw_ok := ok_in 773 (by decide +kernel) (by decide +kernel)
theorem mw_776 : Cond.code yX5_directUpFor cX5_directUpFor 3 (some .boolean) ∈ lw_ok := ok_in 776 (by decide +kernel) (by decide +kernel)
theorem mw_774 : Cond.instanceMethod yX5_directUpFor ∈ lw_ok := ok_in 774 (by decide +kernel) (by decide +kernel)
theorem mw_775 : Cond.selects RX5 yX5_directUpFor yX5_directUpFor ∈ lw_ok := ok_in 775 (by decide +kernel) (by decide +kernel)
theorem Lk_X6_199 : LkV RX6 199 yX5_directUpFor cX5_directUpFor 3 (some .boolean) 1 := ⟨⟨mw_773, mw_774, mw_775, mw_44, mw_776⟩, ⟨by decide +kernel, by decide +kernel, by decide +kernel⟩⟩
theorem mw_778 : Cond.methodLink RX6 204 yX5_renewOrRefuse ∈ lw_ok := ok_in 778 (by decide +kernel) (by decide +kernel)
theorem mw_781 : Cond.code yX5_renewOrRefuse cX5_renewOrRefuse 3 (some .boolean) ∈ lw_ok := ok_in 781 (by decide +kernel) (by decide +kernel)
theorem mw_779 : Cond.instanceMethod yX5_renewOrRefuse ∈ lw_ok := ok_in 779 (by decide +kernel) (by decide +kernel)
theorem mw_780 : Cond.selects RX5 yX5_renewOrRefuse yX5_renewOrRefuse ∈ lw_ok := ok_in 780 (by decide +kernel) (by decide +kernel)
theorem Lk_X6_204 : LkV RX6 204 yX5_renewOrRefuse cX5_renewOrRefuse 3 (some .boolean) 1 := ⟨⟨mw_778, mw_779, mw_780, mw_44, mw_781⟩, ⟨by decide +kernel, by decide +kernel, by decide +kernel⟩⟩
theorem mw_782 : Cond.methodLink RL 184 yL_advance ∈ lw_ok := ok_in 782 (by decide +kernel) (by decide +kernel)
theorem mw_784 : Cond.codeWith yL_advance cL_advance 4 (some .int) [((0 : Nat), (9 : Nat), (12 : Nat), (15 : Nat)), ((0 : Nat), (9 : Nat), (15 : Nat), (17 : Nat))] ∈ lw_ok := ok_in 784 (by decide +kernel) (by decide +kernel)
theorem mw_783 : Cond.static yL_advance ∈ lw_ok := ok_in 783 (by decide +kernel) (by decide +kernel)
theorem Lk_L_184 : LkW RL 184 yL_advance cL_advance 4 (some .int) [((0 : Nat), (9 : Nat), (12 : Nat), (15 : Nat)), ((0 : Nat), (9 : Nat), (15 : Nat), (17 : Nat))] 3 := ⟨⟨mw_782, mw_783, mw_41, mw_784⟩, ⟨by decide +kernel, by decide +kernel, by decide +kernel⟩⟩
theorem mw_785 : Cond.methodLink RL 68 yX6_advance ∈ lw_ok := ok_in 785 (by decide +kernel) (by decide +kernel)
theorem mw_788 : Cond.code yX6_advance cX6_advance 3 (some .int) ∈ lw_ok := ok_in 788 (by decide +kernel) (by decide +kernel)
theorem mw_786 : Cond.instanceMethod yX6_advance ∈ lw_ok := ok_in 786 (by decide +kernel) (by decide +kernel)
theorem mw_787 : Cond.selects RX6 yX6_advance yX6_advance ∈ lw_ok := ok_in 787 (by decide +kernel) (by decide +kernel)
theorem Lk_L_68 : LkV RL 68 yX6_advance cX6_advance 3 (some .int) 1 := ⟨⟨mw_785, mw_786, mw_787, mw_42, mw_788⟩, ⟨by decide +kernel, by decide +kernel, by decide +kernel⟩⟩
theorem mw_792 : Cond.methodLink RX6 215 yX5_passTimeTo ∈ lw_ok := ok_in 792 (by decide +kernel) (by decide +kernel)
theorem mw_795 : Cond.code yX5_passTimeTo cX5_passTimeTo 5 (some .int) ∈ lw_ok := ok_in 795 (by decide +kernel) (by decide +kernel)
theorem mw_793 : Cond.instanceMethod yX5_passTimeTo ∈ lw_ok := ok_in 793 (by decide +kernel) (by decide +kernel)
theorem mw_794 : Cond.selects RX5 yX5_passTimeTo yX5_passTimeTo ∈ lw_ok := ok_in 794 (by decide +kernel) (by decide +kernel)
theorem Lk_X6_215 : LkV RX6 215 yX5_passTimeTo cX5_passTimeTo 5 (some .int) 1 := ⟨⟨mw_792, mw_793, mw_794, mw_44, mw_795⟩, ⟨by decide +kernel, by decide +kernel, by decide +kernel⟩⟩
theorem mw_796 : Cond.methodLink RX5 202 yX0_earliestQuarantineEnd ∈ lw_ok := ok_in 796 (by decide +kernel) (by decide +kernel)
theorem mw_799 : Cond.code yX0_earliestQuarantineEnd cX0_earliestQuarantineEnd 3 (some .int) ∈ lw_ok := ok_in 799 (by decide +kernel) (by decide +kernel)
theorem mw_797 : Cond.instanceMethod yX0_earliestQuarantineEnd ∈ lw_ok := ok_in 797 (by decide +kernel) (by decide +kernel)
theorem mw_798 : Cond.selects RX0 yX0_earliestQuarantineEnd yX0_earliestQuarantineEnd ∈ lw_ok := ok_in 798 (by decide +kernel) (by decide +kernel)
theorem Lk_X5_202 : LkV RX5 202 yX0_earliestQuarantineEnd cX0_earliestQuarantineEnd 3 (some .int) 0 := ⟨⟨mw_796, mw_797, mw_798, mw_46, mw_799⟩, ⟨by decide +kernel, by decide +kernel, by decide +kernel⟩⟩
theorem mw_801 : Cond.methodLinkNest RX0 59 yX6_eventAt "LeaseServer" ∈ lw_ok := ok_in 801 (by decide +kernel) (by decide +kernel)
theorem mw_803 : Cond.code yX6_eventAt cX6_eventAt 3 (some .int) ∈ lw_ok := ok_in 803 (by decide +kernel) (by decide +kernel)
theorem mw_802 : Cond.static yX6_eventAt ∈ lw_ok := ok_in 802 (by decide +kernel) (by decide +kernel)
theorem Lk_X0_59 : LkN RX0 59 yX6_eventAt "LeaseServer" cX6_eventAt 3 (some .int) 3 := ⟨⟨mw_801, mw_802, mw_42, mw_803⟩, ⟨by decide +kernel, by decide +kernel, by decide +kernel⟩⟩
theorem mw_804 : Cond.methodLink RX0 63 yJ9_min_7cf53 ∈ lw_ok := ok_in 804 (by decide +kernel) (by decide +kernel)
theorem Lk_X0_63 : LkS RX0 63 yJ9_min_7cf53 cJ9_min_7cf53 2 (some .int) 2 := ⟨⟨mw_804, mw_315, mw_59, mw_316⟩, ⟨by decide +kernel, by decide +kernel, by decide +kernel⟩⟩
theorem mw_806 : Cond.methodLink RX5 198 yX5_earliestEventOfClients ∈ lw_ok := ok_in 806 (by decide +kernel) (by decide +kernel)
theorem mw_809 : Cond.code yX5_earliestEventOfClients cX5_earliestEventOfClients 3 (some .int) ∈ lw_ok := ok_in 809 (by decide +kernel) (by decide +kernel)
theorem mw_808 : Cond.instanceMethod yX5_earliestEventOfClients ∈ lw_ok := ok_in 808 (by decide +kernel) (by decide +kernel)
theorem mw_11 : Cond.selects RX5 yX5_earliestEventOfClients yX5_earliestEventOfClients ∈ lw_ok := ok_in 11 (by decide +kernel) (by decide +kernel)
theorem Lk_X5_198 : LkV RX5 198 yX5_earliestEventOfClients cX5_earliestEventOfClients 3 (some .int) 0 := ⟨⟨mw_806, mw_808, mw_11, mw_44, mw_809⟩, ⟨by decide +kernel, by decide +kernel, by decide +kernel⟩⟩
theorem mw_811 : Cond.methodLink RX5 212 yX5_eventOfClient ∈ lw_ok := ok_in 811 (by decide +kernel) (by decide +kernel)
theorem mw_814 : Cond.code yX5_eventOfClient cX5_eventOfClient 3 (some .int) ∈ lw_ok := ok_in 814 (by decide +kernel) (by decide +kernel)
theorem mw_813 : Cond.instanceMethod yX5_eventOfClient ∈ lw_ok := ok_in 813 (by decide +kernel) (by decide +kernel)
theorem mw_12 : Cond.selects RX5 yX5_eventOfClient yX5_eventOfClient ∈ lw_ok := ok_in 12 (by decide +kernel) (by decide +kernel)
theorem Lk_X5_212 : LkV RX5 212 yX5_eventOfClient cX5_eventOfClient 3 (some .int) 1 := ⟨⟨mw_811, mw_813, mw_12, mw_44, mw_814⟩, ⟨by decide +kernel, by decide +kernel, by decide +kernel⟩⟩
theorem mw_815 : Cond.methodLinkNest RX5 215 yX6_eventAt "LeaseServer" ∈ lw_ok := ok_in 815 (by decide +kernel) (by decide +kernel)
theorem Lk_X5_215 : LkN RX5 215 yX6_eventAt "LeaseServer" cX6_eventAt 3 (some .int) 3 := ⟨⟨mw_815, mw_802, mw_42, mw_803⟩, ⟨by decide +kernel, by decide +kernel, by decide +kernel⟩⟩
theorem mw_816 : Cond.methodLink RX5 205 yJ9_min_7cf53 ∈ lw_ok := ok_in 816 (by decide +kernel) (by decide +kernel)
theorem Lk_X5_205 : LkS RX5 205 yJ9_min_7cf53 cJ9_min_7cf53 2 (some .int) 2 := ⟨⟨mw_816, mw_315, mw_59, mw_316⟩, ⟨by decide +kernel, by decide +kernel, by decide +kernel⟩⟩
theorem mw_817 : Cond.methodLinkNest RX5 225 yX6_timeOfEvent "LeaseServer" ∈ lw_ok := ok_in 817 (by decide +kernel) (by decide +kernel)
theorem mw_819 : Cond.code yX6_timeOfEvent cX6_timeOfEvent 1 (some .int) ∈ lw_ok := ok_in 819 (by decide +kernel) (by decide +kernel)
theorem mw_818 : Cond.static yX6_timeOfEvent ∈ lw_ok := ok_in 818 (by decide +kernel) (by decide +kernel)
theorem Lk_X5_225 : LkN RX5 225 yX6_timeOfEvent "LeaseServer" cX6_timeOfEvent 1 (some .int) 1 := ⟨⟨mw_817, mw_818, mw_42, mw_819⟩, ⟨by decide +kernel, by decide +kernel, by decide +kernel⟩⟩
theorem mw_820 : Cond.methodLink RX5 228 yX5_carryOut ∈ lw_ok := ok_in 820 (by decide +kernel) (by decide +kernel)
theorem mw_823 : Cond.code yX5_carryOut cX5_carryOut 3 none ∈ lw_ok := ok_in 823 (by decide +kernel) (by decide +kernel)
theorem mw_822 : Cond.instanceMethod yX5_carryOut ∈ lw_ok := ok_in 822 (by decide +kernel) (by decide +kernel)
theorem mw_13 : Cond.selects RX5 yX5_carryOut yX5_carryOut ∈ lw_ok := ok_in 13 (by decide +kernel) (by decide +kernel)
theorem Lk_X5_228 : LkV RX5 228 yX5_carryOut cX5_carryOut 3 none 1 := ⟨⟨mw_820, mw_822, mw_13, mw_44, mw_823⟩, ⟨by decide +kernel, by decide +kernel, by decide +kernel⟩⟩
theorem mw_824 : Cond.methodLinkNest RX5 234 yX6_addressOfEvent "LeaseServer" ∈ lw_ok := ok_in 824 (by decide +kernel) (by decide +kernel)
theorem mw_826 : Cond.code yX6_addressOfEvent cX6_addressOfEvent 1 (some .int) ∈ lw_ok := ok_in 826 (by decide +kernel) (by decide +kernel)
theorem mw_825 : Cond.static yX6_addressOfEvent ∈ lw_ok := ok_in 825 (by decide +kernel) (by decide +kernel)
theorem Lk_X5_234 : LkN RX5 234 yX6_addressOfEvent "LeaseServer" cX6_addressOfEvent 1 (some .int) 1 := ⟨⟨mw_824, mw_825, mw_42, mw_826⟩, ⟨by decide +kernel, by decide +kernel, by decide +kernel⟩⟩
theorem mw_827 : Cond.methodLinkNest RX5 231 yX6_kindOfEvent "LeaseServer" ∈ lw_ok := ok_in 827 (by decide +kernel) (by decide +kernel)
theorem mw_829 : Cond.code yX6_kindOfEvent cX6_kindOfEvent 1 (some .int) ∈ lw_ok := ok_in 829 (by decide +kernel) (by decide +kernel)
theorem mw_828 : Cond.static yX6_kindOfEvent ∈ lw_ok := ok_in 828 (by decide +kernel) (by decide +kernel)
theorem Lk_X5_231 : LkN RX5 231 yX6_kindOfEvent "LeaseServer" cX6_kindOfEvent 1 (some .int) 1 := ⟨⟨mw_827, mw_828, mw_42, mw_829⟩, ⟨by decide +kernel, by decide +kernel, by decide +kernel⟩⟩
theorem mw_830 : Cond.methodLink RX5 240 yX5_carryOutForHolder ∈ lw_ok := ok_in 830 (by decide +kernel) (by decide +kernel)
theorem mw_833 : Cond.code yX5_carryOutForHolder cX5_carryOutForHolder 4 none ∈ lw_ok := ok_in 833 (by decide +kernel) (by decide +kernel)
theorem mw_832 : Cond.instanceMethod yX5_carryOutForHolder ∈ lw_ok := ok_in 832 (by decide +kernel) (by decide +kernel)
theorem mw_14 : Cond.selects RX5 yX5_carryOutForHolder yX5_carryOutForHolder ∈ lw_ok := ok_in 14 (by decide +kernel) (by decide +kernel)
theorem Lk_X5_240 : LkV RX5 240 yX5_carryOutForHolder cX5_carryOutForHolder 4 none 3 := ⟨⟨mw_830, mw_832, mw_14, mw_44, mw_833⟩, ⟨by decide +kernel, by decide +kernel, by decide +kernel⟩⟩
theorem mw_834 : Cond.methodLink RX5 243 yX5_directUpFor ∈ lw_ok := ok_in 834 (by decide +kernel) (by decide +kernel)
theorem Lk_X5_243 : LkV RX5 243 yX5_directUpFor cX5_directUpFor 3 (some .boolean) 1 := ⟨⟨mw_834, mw_774, mw_775, mw_44, mw_776⟩, ⟨by decide +kernel, by decide +kernel, by decide +kernel⟩⟩
theorem mw_835 : Cond.methodLink RX5 246 yX5_renewOrTurn ∈ lw_ok := ok_in 835 (by decide +kernel) (by decide +kernel)
theorem mw_838 : Cond.code yX5_renewOrTurn cX5_renewOrTurn 4 none ∈ lw_ok := ok_in 838 (by decide +kernel) (by decide +kernel)
theorem mw_837 : Cond.instanceMethod yX5_renewOrTurn ∈ lw_ok := ok_in 837 (by decide +kernel) (by decide +kernel)
theorem mw_15 : Cond.selects RX5 yX5_renewOrTurn yX5_renewOrTurn ∈ lw_ok := ok_in 15 (by decide +kernel) (by decide +kernel)
theorem Lk_X5_246 : LkV RX5 246 yX5_renewOrTurn cX5_renewOrTurn 4 none 3 := ⟨⟨mw_835, mw_837, mw_15, mw_44, mw_838⟩, ⟨by decide +kernel, by decide +kernel, by decide +kernel⟩⟩
theorem mw_839 : Cond.methodLink RX5 253 yX5_renewOrRefuse ∈ lw_ok := ok_in 839 (by decide +kernel) (by decide +kernel)
theorem Lk_X5_253 : LkV RX5 253 yX5_renewOrRefuse cX5_renewOrRefuse 3 (some .boolean) 1 := ⟨⟨mw_839, mw_779, mw_780, mw_44, mw_781⟩, ⟨by decide +kernel, by decide +kernel, by decide +kernel⟩⟩
theorem mw_840 : Cond.methodLink RX5 250 yX5_relayUpFor ∈ lw_ok := ok_in 840 (by decide +kernel) (by decide +kernel)
theorem Lk_X5_250 : LkV RX5 250 yX5_relayUpFor cX5_relayUpFor 3 (some .boolean) 1 := ⟨⟨mw_840, mw_717, mw_718, mw_44, mw_719⟩, ⟨by decide +kernel, by decide +kernel, by decide +kernel⟩⟩
theorem mw_841 : Cond.methodLink RL 187 yL_advanceToEvent ∈ lw_ok := ok_in 841 (by decide +kernel) (by decide +kernel)
theorem mw_843 : Cond.codeWith yL_advanceToEvent cL_advanceToEvent 3 (some .int) [((0 : Nat), (8 : Nat), (11 : Nat), (30 : Nat)), ((0 : Nat), (8 : Nat), (14 : Nat), (17 : Nat))] ∈ lw_ok := ok_in 843 (by decide +kernel) (by decide +kernel)
theorem mw_842 : Cond.static yL_advanceToEvent ∈ lw_ok := ok_in 842 (by decide +kernel) (by decide +kernel)
theorem Lk_L_187 : LkW RL 187 yL_advanceToEvent cL_advanceToEvent 3 (some .int) [((0 : Nat), (8 : Nat), (11 : Nat), (30 : Nat)), ((0 : Nat), (8 : Nat), (14 : Nat), (17 : Nat))] 2 := ⟨⟨mw_841, mw_842, mw_41, mw_843⟩, ⟨by decide +kernel, by decide +kernel, by decide +kernel⟩⟩
theorem mw_844 : Cond.methodLink RL 71 yX6_advanceToEvent ∈ lw_ok := ok_in 844 (by decide +kernel) (by decide +kernel)
theorem mw_847 : Cond.code yX6_advanceToEvent cX6_advanceToEvent 3 (some .int) ∈ lw_ok := ok_in 847 (by decide +kernel) (by decide +kernel)
theorem mw_845 : Cond.instanceMethod yX6_advanceToEvent ∈ lw_ok := ok_in 845 (by decide +kernel) (by decide +kernel)
theorem mw_846 : Cond.selects RX6 yX6_advanceToEvent yX6_advanceToEvent ∈ lw_ok := ok_in 846 (by decide +kernel) (by decide +kernel)
theorem Lk_L_71 : LkV RL 71 yX6_advanceToEvent cX6_advanceToEvent 3 (some .int) 0 := ⟨⟨mw_844, mw_845, mw_846, mw_42, mw_847⟩, ⟨by decide +kernel, by decide +kernel, by decide +kernel⟩⟩
theorem mw_848 : Cond.methodLink RX6 218 yX5_earliestEvent ∈ lw_ok := ok_in 848 (by decide +kernel) (by decide +kernel)
theorem mw_851 : Cond.code yX5_earliestEvent cX5_earliestEvent 1 (some .int) ∈ lw_ok := ok_in 851 (by decide +kernel) (by decide +kernel)
theorem mw_849 : Cond.instanceMethod yX5_earliestEvent ∈ lw_ok := ok_in 849 (by decide +kernel) (by decide +kernel)
theorem mw_850 : Cond.selects RX5 yX5_earliestEvent yX5_earliestEvent ∈ lw_ok := ok_in 850 (by decide +kernel) (by decide +kernel)
theorem Lk_X6_218 : LkV RX6 218 yX5_earliestEvent cX5_earliestEvent 1 (some .int) 0 := ⟨⟨mw_848, mw_849, mw_850, mw_44, mw_851⟩, ⟨by decide +kernel, by decide +kernel, by decide +kernel⟩⟩
theorem mw_854 : Cond.methodLink RX6 225 yX6_timeOfEvent ∈ lw_ok := ok_in 854 (by decide +kernel) (by decide +kernel)
theorem Lk_X6_225 : LkS RX6 225 yX6_timeOfEvent cX6_timeOfEvent 1 (some .int) 1 := ⟨⟨mw_854, mw_818, mw_42, mw_819⟩, ⟨by decide +kernel, by decide +kernel, by decide +kernel⟩⟩
theorem mw_855 : Cond.methodLink RL 195 yL_clientState ∈ lw_ok := ok_in 855 (by decide +kernel) (by decide +kernel)
theorem mw_857 : Cond.codeWith yL_clientState cL_clientState 4 (some .int) [((0 : Nat), (9 : Nat), (12 : Nat), (13 : Nat))] ∈ lw_ok := ok_in 857 (by decide +kernel) (by decide +kernel)
theorem mw_856 : Cond.static yL_clientState ∈ lw_ok := ok_in 856 (by decide +kernel) (by decide +kernel)
theorem Lk_L_195 : LkW RL 195 yL_clientState cL_clientState 4 (some .int) [((0 : Nat), (9 : Nat), (12 : Nat), (13 : Nat))] 3 := ⟨⟨mw_855, mw_856, mw_41, mw_857⟩, ⟨by decide +kernel, by decide +kernel, by decide +kernel⟩⟩
theorem mw_858 : Cond.methodLink RL 75 yX6_clientState ∈ lw_ok := ok_in 858 (by decide +kernel) (by decide +kernel)
theorem mw_861 : Cond.code yX6_clientState cX6_clientState 2 (some .int) ∈ lw_ok := ok_in 861 (by decide +kernel) (by decide +kernel)
theorem mw_859 : Cond.instanceMethod yX6_clientState ∈ lw_ok := ok_in 859 (by decide +kernel) (by decide +kernel)
theorem mw_860 : Cond.selects RX6 yX6_clientState yX6_clientState ∈ lw_ok := ok_in 860 (by decide +kernel) (by decide +kernel)
theorem Lk_L_75 : LkV RL 75 yX6_clientState cX6_clientState 2 (some .int) 1 := ⟨⟨mw_858, mw_859, mw_860, mw_42, mw_861⟩, ⟨by decide +kernel, by decide +kernel, by decide +kernel⟩⟩
theorem mw_862 : Cond.methodLink RL 198 yL_addressOf ∈ lw_ok := ok_in 862 (by decide +kernel) (by decide +kernel)
theorem mw_864 : Cond.codeWith yL_addressOf cL_addressOf 4 (some .int) [((0 : Nat), (9 : Nat), (12 : Nat), (13 : Nat)), ((0 : Nat), (9 : Nat), (15 : Nat), (30 : Nat))] ∈ lw_ok := ok_in 864 (by decide +kernel) (by decide +kernel)
theorem mw_863 : Cond.static yL_addressOf ∈ lw_ok := ok_in 863 (by decide +kernel) (by decide +kernel)
theorem Lk_L_198 : LkW RL 198 yL_addressOf cL_addressOf 4 (some .int) [((0 : Nat), (9 : Nat), (12 : Nat), (13 : Nat)), ((0 : Nat), (9 : Nat), (15 : Nat), (30 : Nat))] 3 := ⟨⟨mw_862, mw_863, mw_41, mw_864⟩, ⟨by decide +kernel, by decide +kernel, by decide +kernel⟩⟩
theorem mw_865 : Cond.methodLink RL 78 yX6_addressOf ∈ lw_ok := ok_in 865 (by decide +kernel) (by decide +kernel)
theorem mw_868 : Cond.code yX6_addressOf cX6_addressOf 2 (some .int) ∈ lw_ok := ok_in 868 (by decide +kernel) (by decide +kernel)
theorem mw_866 : Cond.instanceMethod yX6_addressOf ∈ lw_ok := ok_in 866 (by decide +kernel) (by decide +kernel)
theorem mw_867 : Cond.selects RX6 yX6_addressOf yX6_addressOf ∈ lw_ok := ok_in 867 (by decide +kernel) (by decide +kernel)
theorem Lk_L_78 : LkV RL 78 yX6_addressOf cX6_addressOf 2 (some .int) 1 := ⟨⟨mw_865, mw_866, mw_867, mw_42, mw_868⟩, ⟨by decide +kernel, by decide +kernel, by decide +kernel⟩⟩
theorem mw_870 : Cond.methodLink RL 201 yL_remembered ∈ lw_ok := ok_in 870 (by decide +kernel) (by decide +kernel)
theorem mw_872 : Cond.codeWith yL_remembered cL_remembered 4 (some .int) [((0 : Nat), (9 : Nat), (12 : Nat), (13 : Nat)), ((0 : Nat), (9 : Nat), (15 : Nat), (30 : Nat))] ∈ lw_ok := ok_in 872 (by decide +kernel) (by decide +kernel)
theorem mw_871 : Cond.static yL_remembered ∈ lw_ok := ok_in 871 (by decide +kernel) (by decide +kernel)
theorem Lk_L_201 : LkW RL 201 yL_remembered cL_remembered 4 (some .int) [((0 : Nat), (9 : Nat), (12 : Nat), (13 : Nat)), ((0 : Nat), (9 : Nat), (15 : Nat), (30 : Nat))] 3 := ⟨⟨mw_870, mw_871, mw_41, mw_872⟩, ⟨by decide +kernel, by decide +kernel, by decide +kernel⟩⟩
theorem mw_873 : Cond.methodLink RL 81 yX6_remembered ∈ lw_ok := ok_in 873 (by decide +kernel) (by decide +kernel)
theorem mw_876 : Cond.code yX6_remembered cX6_remembered 2 (some .int) ∈ lw_ok := ok_in 876 (by decide +kernel) (by decide +kernel)
theorem mw_874 : Cond.instanceMethod yX6_remembered ∈ lw_ok := ok_in 874 (by decide +kernel) (by decide +kernel)
theorem mw_875 : Cond.selects RX6 yX6_remembered yX6_remembered ∈ lw_ok := ok_in 875 (by decide +kernel) (by decide +kernel)
theorem Lk_L_81 : LkV RL 81 yX6_remembered cX6_remembered 2 (some .int) 1 := ⟨⟨mw_873, mw_874, mw_875, mw_42, mw_876⟩, ⟨by decide +kernel, by decide +kernel, by decide +kernel⟩⟩
theorem mw_878 : Cond.methodLink RL 204 yL_timer ∈ lw_ok := ok_in 878 (by decide +kernel) (by decide +kernel)
theorem mw_880 : Cond.codeWith yL_timer cL_timer 5 (some .int) [((0 : Nat), (10 : Nat), (13 : Nat), (13 : Nat)), ((0 : Nat), (10 : Nat), (17 : Nat), (30 : Nat)), ((0 : Nat), (10 : Nat), (21 : Nat), (15 : Nat))] ∈ lw_ok := ok_in 880 (by decide +kernel) (by decide +kernel)
theorem mw_879 : Cond.static yL_timer ∈ lw_ok := ok_in 879 (by decide +kernel) (by decide +kernel)
theorem Lk_L_204 : LkW RL 204 yL_timer cL_timer 5 (some .int) [((0 : Nat), (10 : Nat), (13 : Nat), (13 : Nat)), ((0 : Nat), (10 : Nat), (17 : Nat), (30 : Nat)), ((0 : Nat), (10 : Nat), (21 : Nat), (15 : Nat))] 4 := ⟨⟨mw_878, mw_879, mw_41, mw_880⟩, ⟨by decide +kernel, by decide +kernel, by decide +kernel⟩⟩
theorem mw_881 : Cond.methodLink RL 84 yX6_timer ∈ lw_ok := ok_in 881 (by decide +kernel) (by decide +kernel)
theorem mw_884 : Cond.code yX6_timer cX6_timer 3 (some .int) ∈ lw_ok := ok_in 884 (by decide +kernel) (by decide +kernel)
theorem mw_882 : Cond.instanceMethod yX6_timer ∈ lw_ok := ok_in 882 (by decide +kernel) (by decide +kernel)
theorem mw_883 : Cond.selects RX6 yX6_timer yX6_timer ∈ lw_ok := ok_in 883 (by decide +kernel) (by decide +kernel)
theorem Lk_L_84 : LkV RL 84 yX6_timer cX6_timer 3 (some .int) 2 := ⟨⟨mw_881, mw_882, mw_883, mw_42, mw_884⟩, ⟨by decide +kernel, by decide +kernel, by decide +kernel⟩⟩
theorem mw_885 : Cond.methodLink RX6 241 yX5_leaseEnd ∈ lw_ok := ok_in 885 (by decide +kernel) (by decide +kernel)
theorem mw_888 : Cond.code yX5_leaseEnd cX5_leaseEnd 3 (some .int) ∈ lw_ok := ok_in 888 (by decide +kernel) (by decide +kernel)
theorem mw_886 : Cond.instanceMethod yX5_leaseEnd ∈ lw_ok := ok_in 886 (by decide +kernel) (by decide +kernel)
theorem mw_887 : Cond.selects RX5 yX5_leaseEnd yX5_leaseEnd ∈ lw_ok := ok_in 887 (by decide +kernel) (by decide +kernel)
theorem Lk_X6_241 : LkV RX6 241 yX5_leaseEnd cX5_leaseEnd 3 (some .int) 1 := ⟨⟨mw_885, mw_886, mw_887, mw_44, mw_888⟩, ⟨by decide +kernel, by decide +kernel, by decide +kernel⟩⟩
theorem mw_889 : Cond.methodLink RL 207 yL_addressState ∈ lw_ok := ok_in 889 (by decide +kernel) (by decide +kernel)
theorem mw_891 : Cond.codeWith yL_addressState cL_addressState 4 (some .int) [((0 : Nat), (9 : Nat), (12 : Nat), (13 : Nat)), ((0 : Nat), (9 : Nat), (15 : Nat), (30 : Nat))] ∈ lw_ok := ok_in 891 (by decide +kernel) (by decide +kernel)
theorem mw_890 : Cond.static yL_addressState ∈ lw_ok := ok_in 890 (by decide +kernel) (by decide +kernel)
theorem Lk_L_207 : LkW RL 207 yL_addressState cL_addressState 4 (some .int) [((0 : Nat), (9 : Nat), (12 : Nat), (13 : Nat)), ((0 : Nat), (9 : Nat), (15 : Nat), (30 : Nat))] 3 := ⟨⟨mw_889, mw_890, mw_41, mw_891⟩, ⟨by decide +kernel, by decide +kernel, by decide +kernel⟩⟩
theorem mw_892 : Cond.methodLink RL 87 yX6_addressState ∈ lw_ok := ok_in 892 (by decide +kernel) (by decide +kernel)
theorem mw_895 : Cond.code yX6_addressState cX6_addressState 2 (some .int) ∈ lw_ok := ok_in 895 (by decide +kernel) (by decide +kernel)
theorem mw_893 : Cond.instanceMethod yX6_addressState ∈ lw_ok := ok_in 893 (by decide +kernel) (by decide +kernel)
theorem mw_894 : Cond.selects RX6 yX6_addressState yX6_addressState ∈ lw_ok := ok_in 894 (by decide +kernel) (by decide +kernel)
theorem Lk_L_87 : LkV RL 87 yX6_addressState cX6_addressState 2 (some .int) 1 := ⟨⟨mw_892, mw_893, mw_894, mw_42, mw_895⟩, ⟨by decide +kernel, by decide +kernel, by decide +kernel⟩⟩
theorem mw_896 : Cond.methodLink RL 210 yL_holder ∈ lw_ok := ok_in 896 (by decide +kernel) (by decide +kernel)
theorem mw_898 : Cond.codeWith yL_holder cL_holder 4 (some .int) [((0 : Nat), (9 : Nat), (12 : Nat), (13 : Nat)), ((0 : Nat), (9 : Nat), (15 : Nat), (30 : Nat))] ∈ lw_ok := ok_in 898 (by decide +kernel) (by decide +kernel)
theorem mw_897 : Cond.static yL_holder ∈ lw_ok := ok_in 897 (by decide +kernel) (by decide +kernel)
theorem Lk_L_210 : LkW RL 210 yL_holder cL_holder 4 (some .int) [((0 : Nat), (9 : Nat), (12 : Nat), (13 : Nat)), ((0 : Nat), (9 : Nat), (15 : Nat), (30 : Nat))] 3 := ⟨⟨mw_896, mw_897, mw_41, mw_898⟩, ⟨by decide +kernel, by decide +kernel, by decide +kernel⟩⟩
theorem mw_899 : Cond.methodLink RL 90 yX6_holder ∈ lw_ok := ok_in 899 (by decide +kernel) (by decide +kernel)
theorem mw_902 : Cond.code yX6_holder cX6_holder 2 (some .int) ∈ lw_ok := ok_in 902 (by decide +kernel) (by decide +kernel)
theorem mw_900 : Cond.instanceMethod yX6_holder ∈ lw_ok := ok_in 900 (by decide +kernel) (by decide +kernel)
theorem mw_901 : Cond.selects RX6 yX6_holder yX6_holder ∈ lw_ok := ok_in 901 (by decide +kernel) (by decide +kernel)
theorem Lk_L_90 : LkV RL 90 yX6_holder cX6_holder 2 (some .int) 1 := ⟨⟨mw_899, mw_900, mw_901, mw_42, mw_902⟩, ⟨by decide +kernel, by decide +kernel, by decide +kernel⟩⟩
theorem mw_904 : Cond.methodLink RL 213 yL_until ∈ lw_ok := ok_in 904 (by decide +kernel) (by decide +kernel)
theorem mw_906 : Cond.codeWith yL_until cL_until 4 (some .int) [((0 : Nat), (9 : Nat), (12 : Nat), (13 : Nat)), ((0 : Nat), (9 : Nat), (15 : Nat), (30 : Nat))] ∈ lw_ok := ok_in 906 (by decide +kernel) (by decide +kernel)
theorem mw_905 : Cond.static yL_until ∈ lw_ok := ok_in 905 (by decide +kernel) (by decide +kernel)
theorem Lk_L_213 : LkW RL 213 yL_until cL_until 4 (some .int) [((0 : Nat), (9 : Nat), (12 : Nat), (13 : Nat)), ((0 : Nat), (9 : Nat), (15 : Nat), (30 : Nat))] 3 := ⟨⟨mw_904, mw_905, mw_41, mw_906⟩, ⟨by decide +kernel, by decide +kernel, by decide +kernel⟩⟩
theorem mw_907 : Cond.methodLink RL 93 yX6_until ∈ lw_ok := ok_in 907 (by decide +kernel) (by decide +kernel)
theorem mw_910 : Cond.code yX6_until cX6_until 2 (some .int) ∈ lw_ok := ok_in 910 (by decide +kernel) (by decide +kernel)
theorem mw_908 : Cond.instanceMethod yX6_until ∈ lw_ok := ok_in 908 (by decide +kernel) (by decide +kernel)
theorem mw_909 : Cond.selects RX6 yX6_until yX6_until ∈ lw_ok := ok_in 909 (by decide +kernel) (by decide +kernel)
theorem Lk_L_93 : LkV RL 93 yX6_until cX6_until 2 (some .int) 1 := ⟨⟨mw_907, mw_908, mw_909, mw_42, mw_910⟩, ⟨by decide +kernel, by decide +kernel, by decide +kernel⟩⟩
theorem mw_912 : Cond.methodLink RL 216 yL_freeSince ∈ lw_ok := ok_in 912 (by decide +kernel) (by decide +kernel)
theorem mw_914 : Cond.codeWith yL_freeSince cL_freeSince 4 (some .int) [((0 : Nat), (9 : Nat), (12 : Nat), (13 : Nat)), ((0 : Nat), (9 : Nat), (15 : Nat), (30 : Nat))] ∈ lw_ok := ok_in 914 (by decide +kernel) (by decide +kernel)
theorem mw_913 : Cond.static yL_freeSince ∈ lw_ok := ok_in 913 (by decide +kernel) (by decide +kernel)
theorem Lk_L_216 : LkW RL 216 yL_freeSince cL_freeSince 4 (some .int) [((0 : Nat), (9 : Nat), (12 : Nat), (13 : Nat)), ((0 : Nat), (9 : Nat), (15 : Nat), (30 : Nat))] 3 := ⟨⟨mw_912, mw_913, mw_41, mw_914⟩, ⟨by decide +kernel, by decide +kernel, by decide +kernel⟩⟩
theorem mw_915 : Cond.methodLink RL 96 yX6_freeSince ∈ lw_ok := ok_in 915 (by decide +kernel) (by decide +kernel)
theorem mw_918 : Cond.code yX6_freeSince cX6_freeSince 2 (some .int) ∈ lw_ok := ok_in 918 (by decide +kernel) (by decide +kernel)
theorem mw_916 : Cond.instanceMethod yX6_freeSince ∈ lw_ok := ok_in 916 (by decide +kernel) (by decide +kernel)
theorem mw_917 : Cond.selects RX6 yX6_freeSince yX6_freeSince ∈ lw_ok := ok_in 917 (by decide +kernel) (by decide +kernel)
theorem Lk_L_96 : LkV RL 96 yX6_freeSince cX6_freeSince 2 (some .int) 1 := ⟨⟨mw_915, mw_916, mw_917, mw_42, mw_918⟩, ⟨by decide +kernel, by decide +kernel, by decide +kernel⟩⟩
theorem mw_920 : Cond.methodLink RL 219 yL_nextCandidate ∈ lw_ok := ok_in 920 (by decide +kernel) (by decide +kernel)
theorem mw_922 : Cond.codeWith yL_nextCandidate cL_nextCandidate 5 (some .int) [((0 : Nat), (10 : Nat), (13 : Nat), (13 : Nat)), ((0 : Nat), (10 : Nat), (17 : Nat), (30 : Nat))] ∈ lw_ok := ok_in 922 (by decide +kernel) (by decide +kernel)
theorem mw_921 : Cond.static yL_nextCandidate ∈ lw_ok := ok_in 921 (by decide +kernel) (by decide +kernel)
theorem Lk_L_219 : LkW RL 219 yL_nextCandidate cL_nextCandidate 5 (some .int) [((0 : Nat), (10 : Nat), (13 : Nat), (13 : Nat)), ((0 : Nat), (10 : Nat), (17 : Nat), (30 : Nat))] 4 := ⟨⟨mw_920, mw_921, mw_41, mw_922⟩, ⟨by decide +kernel, by decide +kernel, by decide +kernel⟩⟩
theorem mw_923 : Cond.methodLink RL 99 yX6_nextCandidate ∈ lw_ok := ok_in 923 (by decide +kernel) (by decide +kernel)
theorem mw_926 : Cond.code yX6_nextCandidate cX6_nextCandidate 4 (some .int) ∈ lw_ok := ok_in 926 (by decide +kernel) (by decide +kernel)
theorem mw_924 : Cond.instanceMethod yX6_nextCandidate ∈ lw_ok := ok_in 924 (by decide +kernel) (by decide +kernel)
theorem mw_925 : Cond.selects RX6 yX6_nextCandidate yX6_nextCandidate ∈ lw_ok := ok_in 925 (by decide +kernel) (by decide +kernel)
theorem Lk_L_99 : LkV RL 99 yX6_nextCandidate cX6_nextCandidate 4 (some .int) 2 := ⟨⟨mw_923, mw_924, mw_925, mw_42, mw_926⟩, ⟨by decide +kernel, by decide +kernel, by decide +kernel⟩⟩
theorem mw_927 : Cond.methodLink RX6 260 yX5_firstCandidate ∈ lw_ok := ok_in 927 (by decide +kernel) (by decide +kernel)
theorem Lk_X6_260 : LkV RX6 260 yX5_firstCandidate cX5_firstCandidate 5 (some .int) 3 := ⟨⟨mw_927, mw_654, mw_655, mw_44, mw_656⟩, ⟨by decide +kernel, by decide +kernel, by decide +kernel⟩⟩
theorem mw_929 : Cond.methodLink RL 222 yL_countState ∈ lw_ok := ok_in 929 (by decide +kernel) (by decide +kernel)
theorem mw_931 : Cond.codeWith yL_countState cL_countState 5 (some .int) [((0 : Nat), (10 : Nat), (13 : Nat), (13 : Nat)), ((0 : Nat), (10 : Nat), (17 : Nat), (15 : Nat))] ∈ lw_ok := ok_in 931 (by decide +kernel) (by decide +kernel)
theorem mw_930 : Cond.static yL_countState ∈ lw_ok := ok_in 930 (by decide +kernel) (by decide +kernel)
theorem Lk_L_222 : LkW RL 222 yL_countState cL_countState 5 (some .int) [((0 : Nat), (10 : Nat), (13 : Nat), (13 : Nat)), ((0 : Nat), (10 : Nat), (17 : Nat), (15 : Nat))] 4 := ⟨⟨mw_929, mw_930, mw_41, mw_931⟩, ⟨by decide +kernel, by decide +kernel, by decide +kernel⟩⟩
theorem mw_932 : Cond.methodLink RL 102 yX6_countState ∈ lw_ok := ok_in 932 (by decide +kernel) (by decide +kernel)
theorem mw_935 : Cond.code yX6_countState cX6_countState 3 (some .int) ∈ lw_ok := ok_in 935 (by decide +kernel) (by decide +kernel)
theorem mw_933 : Cond.instanceMethod yX6_countState ∈ lw_ok := ok_in 933 (by decide +kernel) (by decide +kernel)
theorem mw_934 : Cond.selects RX6 yX6_countState yX6_countState ∈ lw_ok := ok_in 934 (by decide +kernel) (by decide +kernel)
theorem Lk_L_102 : LkV RL 102 yX6_countState cX6_countState 3 (some .int) 2 := ⟨⟨mw_932, mw_933, mw_934, mw_42, mw_935⟩, ⟨by decide +kernel, by decide +kernel, by decide +kernel⟩⟩
theorem mw_937 : Cond.methodLink RX6 267 yX5_countInGroup ∈ lw_ok := ok_in 937 (by decide +kernel) (by decide +kernel)
theorem mw_940 : Cond.code yX5_countInGroup cX5_countInGroup 5 (some .int) ∈ lw_ok := ok_in 940 (by decide +kernel) (by decide +kernel)
theorem mw_938 : Cond.instanceMethod yX5_countInGroup ∈ lw_ok := ok_in 938 (by decide +kernel) (by decide +kernel)
theorem mw_939 : Cond.selects RX5 yX5_countInGroup yX5_countInGroup ∈ lw_ok := ok_in 939 (by decide +kernel) (by decide +kernel)
theorem Lk_X6_267 : LkV RX6 267 yX5_countInGroup cX5_countInGroup 5 (some .int) 2 := ⟨⟨mw_937, mw_938, mw_939, mw_44, mw_940⟩, ⟨by decide +kernel, by decide +kernel, by decide +kernel⟩⟩
theorem mw_941 : Cond.methodLink RX5 100 yX0_countIn ∈ lw_ok := ok_in 941 (by decide +kernel) (by decide +kernel)
theorem Lk_X5_100 : LkV RX5 100 yX0_countIn cX0_countIn 6 (some .int) 3 := ⟨⟨mw_941, mw_519, mw_520, mw_46, mw_521⟩, ⟨by decide +kernel, by decide +kernel, by decide +kernel⟩⟩
theorem mw_942 : Cond.methodLink RL 237 yL_log ∈ lw_ok := ok_in 942 (by decide +kernel) (by decide +kernel)
theorem mw_944 : Cond.codeWith yL_log cL_log 4 (some .int) [((0 : Nat), (9 : Nat), (12 : Nat), (13 : Nat))] ∈ lw_ok := ok_in 944 (by decide +kernel) (by decide +kernel)
theorem mw_943 : Cond.static yL_log ∈ lw_ok := ok_in 943 (by decide +kernel) (by decide +kernel)
theorem Lk_L_237 : LkW RL 237 yL_log cL_log 4 (some .int) [((0 : Nat), (9 : Nat), (12 : Nat), (13 : Nat))] 3 := ⟨⟨mw_942, mw_943, mw_41, mw_944⟩, ⟨by decide +kernel, by decide +kernel, by decide +kernel⟩⟩
theorem mw_945 : Cond.methodLink RL 105 yX6_log ∈ lw_ok := ok_in 945 (by decide +kernel) (by decide +kernel)
theorem mw_948 : Cond.code yX6_log cX6_log 2 (some .int) ∈ lw_ok := ok_in 948 (by decide +kernel) (by decide +kernel)
theorem mw_946 : Cond.instanceMethod yX6_log ∈ lw_ok := ok_in 946 (by decide +kernel) (by decide +kernel)
theorem mw_947 : Cond.selects RX6 yX6_log yX6_log ∈ lw_ok := ok_in 947 (by decide +kernel) (by decide +kernel)
theorem Lk_L_105 : LkV RL 105 yX6_log cX6_log 2 (some .int) 1 := ⟨⟨mw_945, mw_946, mw_947, mw_42, mw_948⟩, ⟨by decide +kernel, by decide +kernel, by decide +kernel⟩⟩
theorem mw_950 : Cond.methodLink RX6 284 yX2_read ∈ lw_ok := ok_in 950 (by decide +kernel) (by decide +kernel)
theorem mw_953 : Cond.code yX2_read cX2_read 2 (some .int) ∈ lw_ok := ok_in 953 (by decide +kernel) (by decide +kernel)
theorem mw_951 : Cond.instanceMethod yX2_read ∈ lw_ok := ok_in 951 (by decide +kernel) (by decide +kernel)
theorem mw_952 : Cond.selects RX2 yX2_read yX2_read ∈ lw_ok := ok_in 952 (by decide +kernel) (by decide +kernel)
theorem Lk_X6_284 : LkV RX6 284 yX2_read cX2_read 2 (some .int) 1 := ⟨⟨mw_950, mw_951, mw_952, mw_43, mw_953⟩, ⟨by decide +kernel, by decide +kernel, by decide +kernel⟩⟩
theorem mw_954 : Cond.methodLink RX2 28 yJ9_floorMod_7cf53 ∈ lw_ok := ok_in 954 (by decide +kernel) (by decide +kernel)
theorem mw_956 : Cond.code yJ9_floorMod_7cf53 cJ9_floorMod_7cf53 3 (some .int) ∈ lw_ok := ok_in 956 (by decide +kernel) (by decide +kernel)
theorem mw_955 : Cond.static yJ9_floorMod_7cf53 ∈ lw_ok := ok_in 955 (by decide +kernel) (by decide +kernel)
theorem Lk_X2_28 : LkS RX2 28 yJ9_floorMod_7cf53 cJ9_floorMod_7cf53 3 (some .int) 2 := ⟨⟨mw_954, mw_955, mw_59, mw_956⟩, ⟨by decide +kernel, by decide +kernel, by decide +kernel⟩⟩
theorem mw_957 : Cond.methodLink RL 240 yL_utilization ∈ lw_ok := ok_in 957 (by decide +kernel) (by decide +kernel)
theorem mw_959 : Cond.codeWith yL_utilization cL_utilization 4 (some .int) [((0 : Nat), (8 : Nat), (11 : Nat), (13 : Nat)), ((0 : Nat), (8 : Nat), (14 : Nat), (112 : Nat))] ∈ lw_ok := ok_in 959 (by decide +kernel) (by decide +kernel)
theorem mw_958 : Cond.static yL_utilization ∈ lw_ok := ok_in 958 (by decide +kernel) (by decide +kernel)
theorem Lk_L_240 : LkW RL 240 yL_utilization cL_utilization 4 (some .int) [((0 : Nat), (8 : Nat), (11 : Nat), (13 : Nat)), ((0 : Nat), (8 : Nat), (14 : Nat), (112 : Nat))] 3 := ⟨⟨mw_957, mw_958, mw_41, mw_959⟩, ⟨by decide +kernel, by decide +kernel, by decide +kernel⟩⟩
theorem mw_974 : Cond.methodLink RL 108 yX6_utilization ∈ lw_ok := ok_in 974 (by decide +kernel) (by decide +kernel)
theorem mw_977 : Cond.code yX6_utilization cX6_utilization 3 (some .double) ∈ lw_ok := ok_in 977 (by decide +kernel) (by decide +kernel)
theorem mw_975 : Cond.instanceMethod yX6_utilization ∈ lw_ok := ok_in 975 (by decide +kernel) (by decide +kernel)
theorem mw_976 : Cond.selects RX6 yX6_utilization yX6_utilization ∈ lw_ok := ok_in 976 (by decide +kernel) (by decide +kernel)
theorem Lk_L_108 : LkV RL 108 yX6_utilization cX6_utilization 3 (some .double) 1 := ⟨⟨mw_974, mw_975, mw_976, mw_42, mw_977⟩, ⟨by decide +kernel, by decide +kernel, by decide +kernel⟩⟩
theorem mw_978 : Cond.methodLink RX6 287 yX3_countAddresses ∈ lw_ok := ok_in 978 (by decide +kernel) (by decide +kernel)
theorem mw_981 : Cond.code yX3_countAddresses cX3_countAddresses 4 (some .int) ∈ lw_ok := ok_in 981 (by decide +kernel) (by decide +kernel)
theorem mw_979 : Cond.instanceMethod yX3_countAddresses ∈ lw_ok := ok_in 979 (by decide +kernel) (by decide +kernel)
theorem mw_980 : Cond.selects RX3 yX3_countAddresses yX3_countAddresses ∈ lw_ok := ok_in 980 (by decide +kernel) (by decide +kernel)
theorem Lk_X6_287 : LkV RX6 287 yX3_countAddresses cX3_countAddresses 4 (some .int) 1 := ⟨⟨mw_978, mw_979, mw_980, mw_45, mw_981⟩, ⟨by decide +kernel, by decide +kernel, by decide +kernel⟩⟩
theorem mw_985 : Cond.methodLink RL 244 yL_averageRest ∈ lw_ok := ok_in 985 (by decide +kernel) (by decide +kernel)
theorem mw_987 : Cond.codeWith yL_averageRest cL_averageRest 3 (some .int) [((0 : Nat), (8 : Nat), (11 : Nat), (112 : Nat))] ∈ lw_ok := ok_in 987 (by decide +kernel) (by decide +kernel)
theorem mw_986 : Cond.static yL_averageRest ∈ lw_ok := ok_in 986 (by decide +kernel) (by decide +kernel)
theorem Lk_L_244 : LkW RL 244 yL_averageRest cL_averageRest 3 (some .int) [((0 : Nat), (8 : Nat), (11 : Nat), (112 : Nat))] 2 := ⟨⟨mw_985, mw_986, mw_41, mw_987⟩, ⟨by decide +kernel, by decide +kernel, by decide +kernel⟩⟩
theorem mw_988 : Cond.methodLink RL 114 yX6_averageRest ∈ lw_ok := ok_in 988 (by decide +kernel) (by decide +kernel)
theorem mw_991 : Cond.code yX6_averageRest cX6_averageRest 2 (some .float) ∈ lw_ok := ok_in 991 (by decide +kernel) (by decide +kernel)
theorem mw_989 : Cond.instanceMethod yX6_averageRest ∈ lw_ok := ok_in 989 (by decide +kernel) (by decide +kernel)
theorem mw_990 : Cond.selects RX6 yX6_averageRest yX6_averageRest ∈ lw_ok := ok_in 990 (by decide +kernel) (by decide +kernel)
theorem Lk_L_114 : LkV RL 114 yX6_averageRest cX6_averageRest 2 (some .float) 0 := ⟨⟨mw_988, mw_989, mw_990, mw_42, mw_991⟩, ⟨by decide +kernel, by decide +kernel, by decide +kernel⟩⟩
theorem mw_993 : Cond.methodLink RX6 297 yX5_sumOfRests ∈ lw_ok := ok_in 993 (by decide +kernel) (by decide +kernel)
theorem mw_996 : Cond.code yX5_sumOfRests cX5_sumOfRests 3 (some .int) ∈ lw_ok := ok_in 996 (by decide +kernel) (by decide +kernel)
theorem mw_994 : Cond.instanceMethod yX5_sumOfRests ∈ lw_ok := ok_in 994 (by decide +kernel) (by decide +kernel)
theorem mw_995 : Cond.selects RX5 yX5_sumOfRests yX5_sumOfRests ∈ lw_ok := ok_in 995 (by decide +kernel) (by decide +kernel)
theorem Lk_X6_297 : LkV RX6 297 yX5_sumOfRests cX5_sumOfRests 3 (some .int) 0 := ⟨⟨mw_993, mw_994, mw_995, mw_44, mw_996⟩, ⟨by decide +kernel, by decide +kernel, by decide +kernel⟩⟩
theorem mw_997 : Cond.methodLink RX5 104 yX1_isBound ∈ lw_ok := ok_in 997 (by decide +kernel) (by decide +kernel)
theorem Lk_X5_104 : LkV RX5 104 yX1_isBound cX1_isBound 2 (some .boolean) 1 := ⟨⟨mw_997, mw_285, mw_286, mw_48, mw_287⟩, ⟨by decide +kernel, by decide +kernel, by decide +kernel⟩⟩
theorem mw_998 : Cond.methodLink RX5 107 yX5_leaseEnd ∈ lw_ok := ok_in 998 (by decide +kernel) (by decide +kernel)
theorem Lk_X5_107 : LkV RX5 107 yX5_leaseEnd cX5_leaseEnd 3 (some .int) 1 := ⟨⟨mw_998, mw_886, mw_887, mw_44, mw_888⟩, ⟨by decide +kernel, by decide +kernel, by decide +kernel⟩⟩
theorem mw_999 : Cond.methodLink RL 252 yL_restore ∈ lw_ok := ok_in 999 (by decide +kernel) (by decide +kernel)
theorem mw_1001 : Cond.codeWith yL_restore cL_restore 3 (some .int) [((0 : Nat), (8 : Nat), (11 : Nat), (17 : Nat))] ∈ lw_ok := ok_in 1001 (by decide +kernel) (by decide +kernel)
theorem mw_1000 : Cond.static yL_restore ∈ lw_ok := ok_in 1000 (by decide +kernel) (by decide +kernel)
theorem Lk_L_252 : LkW RL 252 yL_restore cL_restore 3 (some .int) [((0 : Nat), (8 : Nat), (11 : Nat), (17 : Nat))] 2 := ⟨⟨mw_999, mw_1000, mw_41, mw_1001⟩, ⟨by decide +kernel, by decide +kernel, by decide +kernel⟩⟩
theorem mw_1002 : Cond.methodLink RL 118 yX6_restore ∈ lw_ok := ok_in 1002 (by decide +kernel) (by decide +kernel)
theorem mw_1005 : Cond.code yX6_restore cX6_restore 1 (some .int) ∈ lw_ok := ok_in 1005 (by decide +kernel) (by decide +kernel)
theorem mw_1003 : Cond.instanceMethod yX6_restore ∈ lw_ok := ok_in 1003 (by decide +kernel) (by decide +kernel)
theorem mw_1004 : Cond.selects RX6 yX6_restore yX6_restore ∈ lw_ok := ok_in 1004 (by decide +kernel) (by decide +kernel)
theorem Lk_L_118 : LkV RL 118 yX6_restore cX6_restore 1 (some .int) 0 := ⟨⟨mw_1002, mw_1003, mw_1004, mw_42, mw_1005⟩, ⟨by decide +kernel, by decide +kernel, by decide +kernel⟩⟩
theorem mw_1009 : Cond.methodLink RL 124 yX7_init ∈ lw_ok := ok_in 1009 (by decide +kernel) (by decide +kernel)
theorem mw_50 : Cond.initialized RX7 ∈ lw_ok := ok_in 50 (by decide +kernel) (by decide +kernel)
theorem mw_1011 : Cond.code yX7_init cX7_init 2 none ∈ lw_ok := ok_in 1011 (by decide +kernel) (by decide +kernel)
theorem mw_1010 : Cond.instanceMethod yX7_init ∈ lw_ok := ok_in 1010 (by decide +kernel) (by decide +kernel)
theorem Lk_L_124 : LkI RL 124 yX7_init cX7_init 2 0 := ⟨⟨mw_1009, mw_1010, mw_50, mw_1011⟩, ⟨by decide +kernel, by decide +kernel, by decide +kernel⟩⟩
theorem mw_1013 : Cond.fieldLink RX7 19 "LeaseServerModel" "thrown" "I" ∈ lw_ok := ok_in 1013 (by decide +kernel) (by decide +kernel)
theorem FL_X7_19 : FL RX7 19 7 0 RX7 TX7 6 := ⟨rfl, by decide, uws_X7, mw_1013⟩
theorem mw_1014 : Cond.fieldLink RX7 9 "LeaseServerModel" "now" "[I" ∈ lw_ok := ok_in 1014 (by decide +kernel) (by decide +kernel)
theorem FL_X7_9 : FL RX7 9 7 1 RX7 TX7 6 := ⟨rfl, by decide, uws_X7, mw_1014⟩
theorem mw_1015 : Cond.fieldLink RX7 13 "LeaseServerModel" "saved" "[I" ∈ lw_ok := ok_in 1015 (by decide +kernel) (by decide +kernel)
theorem FL_X7_13 : FL RX7 13 7 2 RX7 TX7 6 := ⟨rfl, by decide, uws_X7, mw_1015⟩
theorem mw_1016 : Cond.fieldLink RX7 124 "LeaseServerModel" "isSaved" "Z" ∈ lw_ok := ok_in 1016 (by decide +kernel) (by decide +kernel)
theorem FL_X7_124 : FL RX7 124 7 3 RX7 TX7 6 := ⟨rfl, by decide, uws_X7, mw_1016⟩
theorem mw_1017 : Cond.fieldLink RX7 16 "LeaseServerModel" "log" "[I" ∈ lw_ok := ok_in 1017 (by decide +kernel) (by decide +kernel)
theorem FL_X7_16 : FL RX7 16 7 4 RX7 TX7 6 := ⟨rfl, by decide, uws_X7, mw_1017⟩
theorem mw_1018 : Cond.fieldLink RX7 27 "LeaseServerModel" "logged" "I" ∈ lw_ok := ok_in 1018 (by decide +kernel) (by decide +kernel)
theorem FL_X7_27 : FL RX7 27 7 5 RX7 TX7 6 := ⟨rfl, by decide, uws_X7, mw_1018⟩
theorem mw_1032 : Cond.methodLink RL 131 yX7_thrown ∈ lw_ok := ok_in 1032 (by decide +kernel) (by decide +kernel)
theorem mw_1035 : Cond.code yX7_thrown cX7_thrown 1 (some .int) ∈ lw_ok := ok_in 1035 (by decide +kernel) (by decide +kernel)
theorem mw_1033 : Cond.instanceMethod yX7_thrown ∈ lw_ok := ok_in 1033 (by decide +kernel) (by decide +kernel)
theorem mw_1034 : Cond.selects RX7 yX7_thrown yX7_thrown ∈ lw_ok := ok_in 1034 (by decide +kernel) (by decide +kernel)
theorem Lk_L_131 : LkV RL 131 yX7_thrown cX7_thrown 1 (some .int) 0 := ⟨⟨mw_1032, mw_1033, mw_1034, mw_50, mw_1035⟩, ⟨by decide +kernel, by decide +kernel, by decide +kernel⟩⟩
theorem mw_1036 : Cond.methodLink RL 130 yX7_addPool ∈ lw_ok := ok_in 1036 (by decide +kernel) (by decide +kernel)
theorem mw_1039 : Cond.code yX7_addPool cX7_addPool 7 (some .int) ∈ lw_ok := ok_in 1039 (by decide +kernel) (by decide +kernel)
theorem mw_1037 : Cond.instanceMethod yX7_addPool ∈ lw_ok := ok_in 1037 (by decide +kernel) (by decide +kernel)
theorem mw_1038 : Cond.selects RX7 yX7_addPool yX7_addPool ∈ lw_ok := ok_in 1038 (by decide +kernel) (by decide +kernel)
theorem Lk_L_130 : LkV RL 130 yX7_addPool cX7_addPool 7 (some .int) 4 := ⟨⟨mw_1036, mw_1037, mw_1038, mw_50, mw_1039⟩, ⟨by decide +kernel, by decide +kernel, by decide +kernel⟩⟩
theorem mw_1040 : Cond.methodLink RX7 37 yX7_isGroup ∈ lw_ok := ok_in 1040 (by decide +kernel) (by decide +kernel)
theorem mw_1042 : Cond.code yX7_isGroup cX7_isGroup 1 (some .boolean) ∈ lw_ok := ok_in 1042 (by decide +kernel) (by decide +kernel)
theorem mw_1041 : Cond.static yX7_isGroup ∈ lw_ok := ok_in 1041 (by decide +kernel) (by decide +kernel)
theorem Lk_X7_37 : LkS RX7 37 yX7_isGroup cX7_isGroup 1 (some .boolean) 1 := ⟨⟨mw_1040, mw_1041, mw_50, mw_1042⟩, ⟨by decide +kernel, by decide +kernel, by decide +kernel⟩⟩
theorem mw_1043 : Cond.methodLink RX7 23 yX7_in ∈ lw_ok := ok_in 1043 (by decide +kernel) (by decide +kernel)
theorem mw_1045 : Cond.code yX7_in cX7_in 3 (some .boolean) ∈ lw_ok := ok_in 1045 (by decide +kernel) (by decide +kernel)
theorem mw_1044 : Cond.static yX7_in ∈ lw_ok := ok_in 1044 (by decide +kernel) (by decide +kernel)
theorem Lk_X7_23 : LkS RX7 23 yX7_in cX7_in 3 (some .boolean) 3 := ⟨⟨mw_1043, mw_1044, mw_50, mw_1045⟩, ⟨by decide +kernel, by decide +kernel, by decide +kernel⟩⟩
theorem mw_1046 : Cond.methodLink RX7 41 yX7_raises ∈ lw_ok := ok_in 1046 (by decide +kernel) (by decide +kernel)
theorem mw_1049 : Cond.code yX7_raises cX7_raises 2 (some .int) ∈ lw_ok := ok_in 1049 (by decide +kernel) (by decide +kernel)
theorem mw_1048 : Cond.instanceMethod yX7_raises ∈ lw_ok := ok_in 1048 (by decide +kernel) (by decide +kernel)
theorem mw_16 : Cond.selects RX7 yX7_raises yX7_raises ∈ lw_ok := ok_in 16 (by decide +kernel) (by decide +kernel)
theorem Lk_X7_41 : LkV RX7 41 yX7_raises cX7_raises 2 (some .int) 1 := ⟨⟨mw_1046, mw_1048, mw_16, mw_50, mw_1049⟩, ⟨by decide +kernel, by decide +kernel, by decide +kernel⟩⟩
theorem mw_1050 : Cond.methodLink RX7 44 yX7_isAddress ∈ lw_ok := ok_in 1050 (by decide +kernel) (by decide +kernel)
theorem mw_1052 : Cond.code yX7_isAddress cX7_isAddress 1 (some .boolean) ∈ lw_ok := ok_in 1052 (by decide +kernel) (by decide +kernel)
theorem mw_1051 : Cond.static yX7_isAddress ∈ lw_ok := ok_in 1051 (by decide +kernel) (by decide +kernel)
theorem Lk_X7_44 : LkS RX7 44 yX7_isAddress cX7_isAddress 1 (some .boolean) 1 := ⟨⟨mw_1050, mw_1051, mw_50, mw_1052⟩, ⟨by decide +kernel, by decide +kernel, by decide +kernel⟩⟩
theorem mw_1053 : Cond.methodLink RX7 34 yX7_owner ∈ lw_ok := ok_in 1053 (by decide +kernel) (by decide +kernel)
theorem mw_1056 : Cond.code yX7_owner cX7_owner 3 (some .int) ∈ lw_ok := ok_in 1056 (by decide +kernel) (by decide +kernel)
theorem mw_1055 : Cond.instanceMethod yX7_owner ∈ lw_ok := ok_in 1055 (by decide +kernel) (by decide +kernel)
theorem mw_17 : Cond.selects RX7 yX7_owner yX7_owner ∈ lw_ok := ok_in 17 (by decide +kernel) (by decide +kernel)
theorem Lk_X7_34 : LkV RX7 34 yX7_owner cX7_owner 3 (some .int) 1 := ⟨⟨mw_1053, mw_1055, mw_17, mw_50, mw_1056⟩, ⟨by decide +kernel, by decide +kernel, by decide +kernel⟩⟩
theorem mw_1057 : Cond.methodLink RX7 30 yX7_pool ∈ lw_ok := ok_in 1057 (by decide +kernel) (by decide +kernel)
theorem mw_1060 : Cond.code yX7_pool cX7_pool 2 (some .int) ∈ lw_ok := ok_in 1060 (by decide +kernel) (by decide +kernel)
theorem mw_1059 : Cond.instanceMethod yX7_pool ∈ lw_ok := ok_in 1059 (by decide +kernel) (by decide +kernel)
theorem mw_18 : Cond.selects RX7 yX7_pool yX7_pool ∈ lw_ok := ok_in 18 (by decide +kernel) (by decide +kernel)
theorem Lk_X7_30 : LkV RX7 30 yX7_pool cX7_pool 2 (some .int) 1 := ⟨⟨mw_1057, mw_1059, mw_18, mw_50, mw_1060⟩, ⟨by decide +kernel, by decide +kernel, by decide +kernel⟩⟩
theorem mw_1061 : Cond.methodLink RL 137 yX7_removePool ∈ lw_ok := ok_in 1061 (by decide +kernel) (by decide +kernel)
theorem mw_1064 : Cond.code yX7_removePool cX7_removePool 3 (some .int) ∈ lw_ok := ok_in 1064 (by decide +kernel) (by decide +kernel)
theorem mw_1062 : Cond.instanceMethod yX7_removePool ∈ lw_ok := ok_in 1062 (by decide +kernel) (by decide +kernel)
theorem mw_1063 : Cond.selects RX7 yX7_removePool yX7_removePool ∈ lw_ok := ok_in 1063 (by decide +kernel) (by decide +kernel)
theorem Lk_L_137 : LkV RL 137 yX7_removePool cX7_removePool 3 (some .int) 1 := ⟨⟨mw_1061, mw_1062, mw_1063, mw_50, mw_1064⟩, ⟨by decide +kernel, by decide +kernel, by decide +kernel⟩⟩
theorem mw_1065 : Cond.methodLink RX7 47 yX7_isPool ∈ lw_ok := ok_in 1065 (by decide +kernel) (by decide +kernel)
theorem mw_1068 : Cond.code yX7_isPool cX7_isPool 2 (some .boolean) ∈ lw_ok := ok_in 1068 (by decide +kernel) (by decide +kernel)
theorem mw_1067 : Cond.instanceMethod yX7_isPool ∈ lw_ok := ok_in 1067 (by decide +kernel) (by decide +kernel)
theorem mw_19 : Cond.selects RX7 yX7_isPool yX7_isPool ∈ lw_ok := ok_in 19 (by decide +kernel) (by decide +kernel)
theorem Lk_X7_47 : LkV RX7 47 yX7_isPool cX7_isPool 2 (some .boolean) 1 := ⟨⟨mw_1065, mw_1067, mw_19, mw_50, mw_1068⟩, ⟨by decide +kernel, by decide +kernel, by decide +kernel⟩⟩
theorem mw_1069 : Cond.methodLink RL 141 yX7_poolCount ∈ lw_ok := ok_in 1069 (by decide +kernel) (by decide +kernel)
theorem mw_1072 : Cond.code yX7_poolCount cX7_poolCount 1 (some .int) ∈ lw_ok := ok_in 1072 (by decide +kernel) (by decide +kernel)
theorem mw_1070 : Cond.instanceMethod yX7_poolCount ∈ lw_ok := ok_in 1070 (by decide +kernel) (by decide +kernel)
theorem mw_1071 : Cond.selects RX7 yX7_poolCount yX7_poolCount ∈ lw_ok := ok_in 1071 (by decide +kernel) (by decide +kernel)
theorem Lk_L_141 : LkV RL 141 yX7_poolCount cX7_poolCount 1 (some .int) 0 := ⟨⟨mw_1069, mw_1070, mw_1071, mw_50, mw_1072⟩, ⟨by decide +kernel, by decide +kernel, by decide +kernel⟩⟩
theorem mw_1073 : Cond.methodLink RL 145 yX7_pool_ ∈ lw_ok := ok_in 1073 (by decide +kernel) (by decide +kernel)
theorem mw_1076 : Cond.code yX7_pool_ cX7_pool_ 5 (some .int) ∈ lw_ok := ok_in 1076 (by decide +kernel) (by decide +kernel)
theorem mw_1074 : Cond.instanceMethod yX7_pool_ ∈ lw_ok := ok_in 1074 (by decide +kernel) (by decide +kernel)
theorem mw_1075 : Cond.selects RX7 yX7_pool_ yX7_pool_ ∈ lw_ok := ok_in 1075 (by decide +kernel) (by decide +kernel)
theorem Lk_L_145 : LkV RL 145 yX7_pool_ cX7_pool_ 5 (some .int) 2 := ⟨⟨mw_1073, mw_1074, mw_1075, mw_50, mw_1076⟩, ⟨by decide +kernel, by decide +kernel, by decide +kernel⟩⟩
theorem mw_1077 : Cond.methodLink RX7 53 yX7_isCandidate ∈ lw_ok := ok_in 1077 (by decide +kernel) (by decide +kernel)
theorem mw_1080 : Cond.code yX7_isCandidate cX7_isCandidate 3 (some .boolean) ∈ lw_ok := ok_in 1080 (by decide +kernel) (by decide +kernel)
theorem mw_1079 : Cond.instanceMethod yX7_isCandidate ∈ lw_ok := ok_in 1079 (by decide +kernel) (by decide +kernel)
theorem mw_20 : Cond.selects RX7 yX7_isCandidate yX7_isCandidate ∈ lw_ok := ok_in 20 (by decide +kernel) (by decide +kernel)
theorem Lk_X7_53 : LkV RX7 53 yX7_isCandidate cX7_isCandidate 3 (some .boolean) 2 := ⟨⟨mw_1077, mw_1079, mw_20, mw_50, mw_1080⟩, ⟨by decide +kernel, by decide +kernel, by decide +kernel⟩⟩
theorem mw_1081 : Cond.methodLink RX7 50 yX7_groupOf ∈ lw_ok := ok_in 1081 (by decide +kernel) (by decide +kernel)
theorem mw_1084 : Cond.code yX7_groupOf cX7_groupOf 3 (some .int) ∈ lw_ok := ok_in 1084 (by decide +kernel) (by decide +kernel)
theorem mw_1083 : Cond.instanceMethod yX7_groupOf ∈ lw_ok := ok_in 1083 (by decide +kernel) (by decide +kernel)
theorem mw_21 : Cond.selects RX7 yX7_groupOf yX7_groupOf ∈ lw_ok := ok_in 21 (by decide +kernel) (by decide +kernel)
theorem Lk_X7_50 : LkV RX7 50 yX7_groupOf cX7_groupOf 3 (some .int) 1 := ⟨⟨mw_1081, mw_1083, mw_21, mw_50, mw_1084⟩, ⟨by decide +kernel, by decide +kernel, by decide +kernel⟩⟩
theorem mw_1085 : Cond.methodLink RL 148 yX7_poolOf ∈ lw_ok := ok_in 1085 (by decide +kernel) (by decide +kernel)
theorem mw_1088 : Cond.code yX7_poolOf cX7_poolOf 2 (some .int) ∈ lw_ok := ok_in 1088 (by decide +kernel) (by decide +kernel)
theorem mw_1086 : Cond.instanceMethod yX7_poolOf ∈ lw_ok := ok_in 1086 (by decide +kernel) (by decide +kernel)
theorem mw_1087 : Cond.selects RX7 yX7_poolOf yX7_poolOf ∈ lw_ok := ok_in 1087 (by decide +kernel) (by decide +kernel)
theorem Lk_L_148 : LkV RL 148 yX7_poolOf cX7_poolOf 2 (some .int) 1 := ⟨⟨mw_1085, mw_1086, mw_1087, mw_50, mw_1088⟩, ⟨by decide +kernel, by decide +kernel, by decide +kernel⟩⟩
theorem mw_1089 : Cond.methodLink RL 152 yX7_exclude ∈ lw_ok := ok_in 1089 (by decide +kernel) (by decide +kernel)
theorem mw_1092 : Cond.code yX7_exclude cX7_exclude 3 (some .boolean) ∈ lw_ok := ok_in 1092 (by decide +kernel) (by decide +kernel)
theorem mw_1090 : Cond.instanceMethod yX7_exclude ∈ lw_ok := ok_in 1090 (by decide +kernel) (by decide +kernel)
theorem mw_1091 : Cond.selects RX7 yX7_exclude yX7_exclude ∈ lw_ok := ok_in 1091 (by decide +kernel) (by decide +kernel)
theorem Lk_L_152 : LkV RL 152 yX7_exclude cX7_exclude 3 (some .boolean) 2 := ⟨⟨mw_1089, mw_1090, mw_1091, mw_50, mw_1092⟩, ⟨by decide +kernel, by decide +kernel, by decide +kernel⟩⟩
theorem mw_1093 : Cond.methodLink RX7 61 yX7_flips ∈ lw_ok := ok_in 1093 (by decide +kernel) (by decide +kernel)
theorem mw_1096 : Cond.code yX7_flips cX7_flips 4 (some .boolean) ∈ lw_ok := ok_in 1096 (by decide +kernel) (by decide +kernel)
theorem mw_1095 : Cond.instanceMethod yX7_flips ∈ lw_ok := ok_in 1095 (by decide +kernel) (by decide +kernel)
theorem mw_22 : Cond.selects RX7 yX7_flips yX7_flips ∈ lw_ok := ok_in 22 (by decide +kernel) (by decide +kernel)
theorem Lk_X7_61 : LkV RX7 61 yX7_flips cX7_flips 4 (some .boolean) 3 := ⟨⟨mw_1093, mw_1095, mw_22, mw_50, mw_1096⟩, ⟨by decide +kernel, by decide +kernel, by decide +kernel⟩⟩
theorem mw_1097 : Cond.methodLink RX7 57 yX7_sets ∈ lw_ok := ok_in 1097 (by decide +kernel) (by decide +kernel)
theorem mw_1100 : Cond.code yX7_sets cX7_sets 4 (some .int) ∈ lw_ok := ok_in 1100 (by decide +kernel) (by decide +kernel)
theorem mw_1099 : Cond.instanceMethod yX7_sets ∈ lw_ok := ok_in 1099 (by decide +kernel) (by decide +kernel)
theorem mw_23 : Cond.selects RX7 yX7_sets yX7_sets ∈ lw_ok := ok_in 23 (by decide +kernel) (by decide +kernel)
theorem Lk_X7_57 : LkV RX7 57 yX7_sets cX7_sets 4 (some .int) 2 := ⟨⟨mw_1097, mw_1099, mw_23, mw_50, mw_1100⟩, ⟨by decide +kernel, by decide +kernel, by decide +kernel⟩⟩
theorem mw_1101 : Cond.methodLink RL 155 yX7_setStranger ∈ lw_ok := ok_in 1101 (by decide +kernel) (by decide +kernel)
theorem mw_1104 : Cond.code yX7_setStranger cX7_setStranger 3 (some .boolean) ∈ lw_ok := ok_in 1104 (by decide +kernel) (by decide +kernel)
theorem mw_1102 : Cond.instanceMethod yX7_setStranger ∈ lw_ok := ok_in 1102 (by decide +kernel) (by decide +kernel)
theorem mw_1103 : Cond.selects RX7 yX7_setStranger yX7_setStranger ∈ lw_ok := ok_in 1103 (by decide +kernel) (by decide +kernel)
theorem Lk_L_155 : LkV RL 155 yX7_setStranger cX7_setStranger 3 (some .boolean) 2 := ⟨⟨mw_1101, mw_1102, mw_1103, mw_50, mw_1104⟩, ⟨by decide +kernel, by decide +kernel, by decide +kernel⟩⟩
theorem mw_1105 : Cond.methodLink RL 158 yX7_setHold ∈ lw_ok := ok_in 1105 (by decide +kernel) (by decide +kernel)
theorem mw_1108 : Cond.code yX7_setHold cX7_setHold 2 (some .int) ∈ lw_ok := ok_in 1108 (by decide +kernel) (by decide +kernel)
theorem mw_1106 : Cond.instanceMethod yX7_setHold ∈ lw_ok := ok_in 1106 (by decide +kernel) (by decide +kernel)
theorem mw_1107 : Cond.selects RX7 yX7_setHold yX7_setHold ∈ lw_ok := ok_in 1107 (by decide +kernel) (by decide +kernel)
theorem Lk_L_158 : LkV RL 158 yX7_setHold cX7_setHold 2 (some .int) 1 := ⟨⟨mw_1105, mw_1106, mw_1107, mw_50, mw_1108⟩, ⟨by decide +kernel, by decide +kernel, by decide +kernel⟩⟩
theorem mw_1109 : Cond.methodLink RL 161 yX7_setQuarantine ∈ lw_ok := ok_in 1109 (by decide +kernel) (by decide +kernel)
theorem mw_1112 : Cond.code yX7_setQuarantine cX7_setQuarantine 2 (some .int) ∈ lw_ok := ok_in 1112 (by decide +kernel) (by decide +kernel)
theorem mw_1110 : Cond.instanceMethod yX7_setQuarantine ∈ lw_ok := ok_in 1110 (by decide +kernel) (by decide +kernel)
theorem mw_1111 : Cond.selects RX7 yX7_setQuarantine yX7_setQuarantine ∈ lw_ok := ok_in 1111 (by decide +kernel) (by decide +kernel)
theorem Lk_L_161 : LkV RL 161 yX7_setQuarantine cX7_setQuarantine 2 (some .int) 1 := ⟨⟨mw_1109, mw_1110, mw_1111, mw_50, mw_1112⟩, ⟨by decide +kernel, by decide +kernel, by decide +kernel⟩⟩
theorem mw_1113 : Cond.methodLink RL 164 yX7_setDirect ∈ lw_ok := ok_in 1113 (by decide +kernel) (by decide +kernel)
theorem mw_1116 : Cond.code yX7_setDirect cX7_setDirect 3 (some .boolean) ∈ lw_ok := ok_in 1116 (by decide +kernel) (by decide +kernel)
theorem mw_1114 : Cond.instanceMethod yX7_setDirect ∈ lw_ok := ok_in 1114 (by decide +kernel) (by decide +kernel)
theorem mw_1115 : Cond.selects RX7 yX7_setDirect yX7_setDirect ∈ lw_ok := ok_in 1115 (by decide +kernel) (by decide +kernel)
theorem Lk_L_164 : LkV RL 164 yX7_setDirect cX7_setDirect 3 (some .boolean) 2 := ⟨⟨mw_1113, mw_1114, mw_1115, mw_50, mw_1116⟩, ⟨by decide +kernel, by decide +kernel, by decide +kernel⟩⟩
theorem mw_1117 : Cond.methodLink RL 167 yX7_setRelay ∈ lw_ok := ok_in 1117 (by decide +kernel) (by decide +kernel)
theorem mw_1120 : Cond.code yX7_setRelay cX7_setRelay 3 (some .boolean) ∈ lw_ok := ok_in 1120 (by decide +kernel) (by decide +kernel)
theorem mw_1118 : Cond.instanceMethod yX7_setRelay ∈ lw_ok := ok_in 1118 (by decide +kernel) (by decide +kernel)
theorem mw_1119 : Cond.selects RX7 yX7_setRelay yX7_setRelay ∈ lw_ok := ok_in 1119 (by decide +kernel) (by decide +kernel)
theorem Lk_L_167 : LkV RL 167 yX7_setRelay cX7_setRelay 3 (some .boolean) 2 := ⟨⟨mw_1117, mw_1118, mw_1119, mw_50, mw_1120⟩, ⟨by decide +kernel, by decide +kernel, by decide +kernel⟩⟩
theorem mw_1121 : Cond.methodLink RL 171 yX7_discover ∈ lw_ok := ok_in 1121 (by decide +kernel) (by decide +kernel)
theorem mw_1124 : Cond.code yX7_discover cX7_discover 5 (some .int) ∈ lw_ok := ok_in 1124 (by decide +kernel) (by decide +kernel)
theorem mw_1122 : Cond.instanceMethod yX7_discover ∈ lw_ok := ok_in 1122 (by decide +kernel) (by decide +kernel)
theorem mw_1123 : Cond.selects RX7 yX7_discover yX7_discover ∈ lw_ok := ok_in 1123 (by decide +kernel) (by decide +kernel)
theorem Lk_L_171 : LkV RL 171 yX7_discover cX7_discover 5 (some .int) 3 := ⟨⟨mw_1121, mw_1122, mw_1123, mw_50, mw_1124⟩, ⟨by decide +kernel, by decide +kernel, by decide +kernel⟩⟩
theorem mw_1125 : Cond.methodLink RX7 65 yX7_isClient ∈ lw_ok := ok_in 1125 (by decide +kernel) (by decide +kernel)
theorem mw_1127 : Cond.code yX7_isClient cX7_isClient 1 (some .boolean) ∈ lw_ok := ok_in 1127 (by decide +kernel) (by decide +kernel)
theorem mw_1126 : Cond.static yX7_isClient ∈ lw_ok := ok_in 1126 (by decide +kernel) (by decide +kernel)
theorem Lk_X7_65 : LkS RX7 65 yX7_isClient cX7_isClient 1 (some .boolean) 1 := ⟨⟨mw_1125, mw_1126, mw_50, mw_1127⟩, ⟨by decide +kernel, by decide +kernel, by decide +kernel⟩⟩
theorem mw_1128 : Cond.methodLink RX7 68 yX7_isBound ∈ lw_ok := ok_in 1128 (by decide +kernel) (by decide +kernel)
theorem mw_1131 : Cond.code yX7_isBound cX7_isBound 2 (some .boolean) ∈ lw_ok := ok_in 1131 (by decide +kernel) (by decide +kernel)
theorem mw_1130 : Cond.instanceMethod yX7_isBound ∈ lw_ok := ok_in 1130 (by decide +kernel) (by decide +kernel)
theorem mw_24 : Cond.selects RX7 yX7_isBound yX7_isBound ∈ lw_ok := ok_in 24 (by decide +kernel) (by decide +kernel)
theorem Lk_X7_68 : LkV RX7 68 yX7_isBound cX7_isBound 2 (some .boolean) 1 := ⟨⟨mw_1128, mw_1130, mw_24, mw_50, mw_1131⟩, ⟨by decide +kernel, by decide +kernel, by decide +kernel⟩⟩
theorem mw_1132 : Cond.methodLink RX7 71 yX7_frees ∈ lw_ok := ok_in 1132 (by decide +kernel) (by decide +kernel)
theorem mw_1135 : Cond.code yX7_frees cX7_frees 3 none ∈ lw_ok := ok_in 1135 (by decide +kernel) (by decide +kernel)
theorem mw_1134 : Cond.instanceMethod yX7_frees ∈ lw_ok := ok_in 1134 (by decide +kernel) (by decide +kernel)
theorem mw_25 : Cond.selects RX7 yX7_frees yX7_frees ∈ lw_ok := ok_in 25 (by decide +kernel) (by decide +kernel)
theorem Lk_X7_71 : LkV RX7 71 yX7_frees cX7_frees 3 none 2 := ⟨⟨mw_1132, mw_1134, mw_25, mw_50, mw_1135⟩, ⟨by decide +kernel, by decide +kernel, by decide +kernel⟩⟩
theorem mw_1136 : Cond.methodLink RX7 75 yX7_candidate ∈ lw_ok := ok_in 1136 (by decide +kernel) (by decide +kernel)
theorem mw_1139 : Cond.code yX7_candidate cX7_candidate 7 (some .int) ∈ lw_ok := ok_in 1139 (by decide +kernel) (by decide +kernel)
theorem mw_1138 : Cond.instanceMethod yX7_candidate ∈ lw_ok := ok_in 1138 (by decide +kernel) (by decide +kernel)
theorem mw_26 : Cond.selects RX7 yX7_candidate yX7_candidate ∈ lw_ok := ok_in 26 (by decide +kernel) (by decide +kernel)
theorem Lk_X7_75 : LkV RX7 75 yX7_candidate cX7_candidate 7 (some .int) 3 := ⟨⟨mw_1136, mw_1138, mw_26, mw_50, mw_1139⟩, ⟨by decide +kernel, by decide +kernel, by decide +kernel⟩⟩
theorem mw_1140 : Cond.methodLink RX7 79 yX7_declines ∈ lw_ok := ok_in 1140 (by decide +kernel) (by decide +kernel)
theorem mw_1143 : Cond.code yX7_declines cX7_declines 2 none ∈ lw_ok := ok_in 1143 (by decide +kernel) (by decide +kernel)
theorem mw_1142 : Cond.instanceMethod yX7_declines ∈ lw_ok := ok_in 1142 (by decide +kernel) (by decide +kernel)
theorem mw_27 : Cond.selects RX7 yX7_declines yX7_declines ∈ lw_ok := ok_in 27 (by decide +kernel) (by decide +kernel)
theorem Lk_X7_79 : LkV RX7 79 yX7_declines cX7_declines 2 none 1 := ⟨⟨mw_1140, mw_1142, mw_27, mw_50, mw_1143⟩, ⟨by decide +kernel, by decide +kernel, by decide +kernel⟩⟩
theorem mw_1144 : Cond.methodLink RX7 83 yX7_logs ∈ lw_ok := ok_in 1144 (by decide +kernel) (by decide +kernel)
theorem mw_1147 : Cond.code yX7_logs cX7_logs 4 none ∈ lw_ok := ok_in 1147 (by decide +kernel) (by decide +kernel)
theorem mw_1146 : Cond.instanceMethod yX7_logs ∈ lw_ok := ok_in 1146 (by decide +kernel) (by decide +kernel)
theorem mw_28 : Cond.selects RX7 yX7_logs yX7_logs ∈ lw_ok := ok_in 28 (by decide +kernel) (by decide +kernel)
theorem Lk_X7_83 : LkV RX7 83 yX7_logs cX7_logs 4 none 2 := ⟨⟨mw_1144, mw_1146, mw_28, mw_50, mw_1147⟩, ⟨by decide +kernel, by decide +kernel, by decide +kernel⟩⟩
theorem mw_1148 : Cond.methodLink RL 174 yX7_accept ∈ lw_ok := ok_in 1148 (by decide +kernel) (by decide +kernel)
theorem mw_1151 : Cond.code yX7_accept cX7_accept 3 (some .int) ∈ lw_ok := ok_in 1151 (by decide +kernel) (by decide +kernel)
theorem mw_1149 : Cond.instanceMethod yX7_accept ∈ lw_ok := ok_in 1149 (by decide +kernel) (by decide +kernel)
theorem mw_1150 : Cond.selects RX7 yX7_accept yX7_accept ∈ lw_ok := ok_in 1150 (by decide +kernel) (by decide +kernel)
theorem Lk_L_174 : LkV RL 174 yX7_accept cX7_accept 3 (some .int) 1 := ⟨⟨mw_1148, mw_1149, mw_1150, mw_50, mw_1151⟩, ⟨by decide +kernel, by decide +kernel, by decide +kernel⟩⟩
theorem mw_1152 : Cond.methodLink RX7 86 yX7_lasts ∈ lw_ok := ok_in 1152 (by decide +kernel) (by decide +kernel)
theorem mw_1155 : Cond.code yX7_lasts cX7_lasts 5 none ∈ lw_ok := ok_in 1155 (by decide +kernel) (by decide +kernel)
theorem mw_1154 : Cond.instanceMethod yX7_lasts ∈ lw_ok := ok_in 1154 (by decide +kernel) (by decide +kernel)
theorem mw_29 : Cond.selects RX7 yX7_lasts yX7_lasts ∈ lw_ok := ok_in 29 (by decide +kernel) (by decide +kernel)
theorem Lk_X7_86 : LkV RX7 86 yX7_lasts cX7_lasts 5 none 2 := ⟨⟨mw_1152, mw_1154, mw_29, mw_50, mw_1155⟩, ⟨by decide +kernel, by decide +kernel, by decide +kernel⟩⟩
theorem mw_1156 : Cond.methodLink RL 177 yX7_release ∈ lw_ok := ok_in 1156 (by decide +kernel) (by decide +kernel)
theorem mw_1159 : Cond.code yX7_release cX7_release 3 (some .int) ∈ lw_ok := ok_in 1159 (by decide +kernel) (by decide +kernel)
theorem mw_1157 : Cond.instanceMethod yX7_release ∈ lw_ok := ok_in 1157 (by decide +kernel) (by decide +kernel)
theorem mw_1158 : Cond.selects RX7 yX7_release yX7_release ∈ lw_ok := ok_in 1158 (by decide +kernel) (by decide +kernel)
theorem Lk_L_177 : LkV RL 177 yX7_release cX7_release 3 (some .int) 1 := ⟨⟨mw_1156, mw_1157, mw_1158, mw_50, mw_1159⟩, ⟨by decide +kernel, by decide +kernel, by decide +kernel⟩⟩
theorem mw_1160 : Cond.methodLink RX7 89 yX7_lacksLease ∈ lw_ok := ok_in 1160 (by decide +kernel) (by decide +kernel)
theorem mw_1163 : Cond.code yX7_lacksLease cX7_lacksLease 2 (some .int) ∈ lw_ok := ok_in 1163 (by decide +kernel) (by decide +kernel)
theorem mw_1162 : Cond.instanceMethod yX7_lacksLease ∈ lw_ok := ok_in 1162 (by decide +kernel) (by decide +kernel)
theorem mw_30 : Cond.selects RX7 yX7_lacksLease yX7_lacksLease ∈ lw_ok := ok_in 30 (by decide +kernel) (by decide +kernel)
theorem Lk_X7_89 : LkV RX7 89 yX7_lacksLease cX7_lacksLease 2 (some .int) 1 := ⟨⟨mw_1160, mw_1162, mw_30, mw_50, mw_1163⟩, ⟨by decide +kernel, by decide +kernel, by decide +kernel⟩⟩
theorem mw_1164 : Cond.methodLink RL 180 yX7_decline ∈ lw_ok := ok_in 1164 (by decide +kernel) (by decide +kernel)
theorem mw_1167 : Cond.code yX7_decline cX7_decline 3 (some .int) ∈ lw_ok := ok_in 1167 (by decide +kernel) (by decide +kernel)
theorem mw_1165 : Cond.instanceMethod yX7_decline ∈ lw_ok := ok_in 1165 (by decide +kernel) (by decide +kernel)
theorem mw_1166 : Cond.selects RX7 yX7_decline yX7_decline ∈ lw_ok := ok_in 1166 (by decide +kernel) (by decide +kernel)
theorem Lk_L_180 : LkV RL 180 yX7_decline cX7_decline 3 (some .int) 1 := ⟨⟨mw_1164, mw_1165, mw_1166, mw_50, mw_1167⟩, ⟨by decide +kernel, by decide +kernel, by decide +kernel⟩⟩
theorem mw_1168 : Cond.methodLink RL 183 yX7_renew ∈ lw_ok := ok_in 1168 (by decide +kernel) (by decide +kernel)
theorem mw_1171 : Cond.code yX7_renew cX7_renew 2 (some .boolean) ∈ lw_ok := ok_in 1171 (by decide +kernel) (by decide +kernel)
theorem mw_1169 : Cond.instanceMethod yX7_renew ∈ lw_ok := ok_in 1169 (by decide +kernel) (by decide +kernel)
theorem mw_1170 : Cond.selects RX7 yX7_renew yX7_renew ∈ lw_ok := ok_in 1170 (by decide +kernel) (by decide +kernel)
theorem Lk_L_183 : LkV RL 183 yX7_renew cX7_renew 2 (some .boolean) 1 := ⟨⟨mw_1168, mw_1169, mw_1170, mw_50, mw_1171⟩, ⟨by decide +kernel, by decide +kernel, by decide +kernel⟩⟩
theorem mw_1172 : Cond.methodLink RX7 92 yX7_renews ∈ lw_ok := ok_in 1172 (by decide +kernel) (by decide +kernel)
theorem mw_1175 : Cond.code yX7_renews cX7_renews 4 (some .boolean) ∈ lw_ok := ok_in 1175 (by decide +kernel) (by decide +kernel)
theorem mw_1174 : Cond.instanceMethod yX7_renews ∈ lw_ok := ok_in 1174 (by decide +kernel) (by decide +kernel)
theorem mw_31 : Cond.selects RX7 yX7_renews yX7_renews ∈ lw_ok := ok_in 31 (by decide +kernel) (by decide +kernel)
theorem Lk_X7_92 : LkV RX7 92 yX7_renews cX7_renews 4 (some .boolean) 2 := ⟨⟨mw_1172, mw_1174, mw_31, mw_50, mw_1175⟩, ⟨by decide +kernel, by decide +kernel, by decide +kernel⟩⟩
theorem mw_1176 : Cond.methodLink RL 186 yX7_advance ∈ lw_ok := ok_in 1176 (by decide +kernel) (by decide +kernel)
theorem mw_1179 : Cond.code yX7_advance cX7_advance 4 (some .int) ∈ lw_ok := ok_in 1179 (by decide +kernel) (by decide +kernel)
theorem mw_1177 : Cond.instanceMethod yX7_advance ∈ lw_ok := ok_in 1177 (by decide +kernel) (by decide +kernel)
theorem mw_1178 : Cond.selects RX7 yX7_advance yX7_advance ∈ lw_ok := ok_in 1178 (by decide +kernel) (by decide +kernel)
theorem Lk_L_186 : LkV RL 186 yX7_advance cX7_advance 4 (some .int) 1 := ⟨⟨mw_1176, mw_1177, mw_1178, mw_50, mw_1179⟩, ⟨by decide +kernel, by decide +kernel, by decide +kernel⟩⟩
theorem mw_1181 : Cond.methodLink RX7 108 yX7_earliest ∈ lw_ok := ok_in 1181 (by decide +kernel) (by decide +kernel)
theorem mw_1184 : Cond.code yX7_earliest cX7_earliest 3 (some .int) ∈ lw_ok := ok_in 1184 (by decide +kernel) (by decide +kernel)
theorem mw_1183 : Cond.instanceMethod yX7_earliest ∈ lw_ok := ok_in 1183 (by decide +kernel) (by decide +kernel)
theorem mw_32 : Cond.selects RX7 yX7_earliest yX7_earliest ∈ lw_ok := ok_in 32 (by decide +kernel) (by decide +kernel)
theorem Lk_X7_108 : LkV RX7 108 yX7_earliest cX7_earliest 3 (some .int) 0 := ⟨⟨mw_1181, mw_1183, mw_32, mw_50, mw_1184⟩, ⟨by decide +kernel, by decide +kernel, by decide +kernel⟩⟩
theorem mw_1185 : Cond.methodLink RX7 98 yX7_due ∈ lw_ok := ok_in 1185 (by decide +kernel) (by decide +kernel)
theorem mw_1188 : Cond.code yX7_due cX7_due 4 (some .int) ∈ lw_ok := ok_in 1188 (by decide +kernel) (by decide +kernel)
theorem mw_1187 : Cond.instanceMethod yX7_due ∈ lw_ok := ok_in 1187 (by decide +kernel) (by decide +kernel)
theorem mw_33 : Cond.selects RX7 yX7_due yX7_due ∈ lw_ok := ok_in 33 (by decide +kernel) (by decide +kernel)
theorem Lk_X7_98 : LkV RX7 98 yX7_due cX7_due 4 (some .int) 1 := ⟨⟨mw_1185, mw_1187, mw_33, mw_50, mw_1188⟩, ⟨by decide +kernel, by decide +kernel, by decide +kernel⟩⟩
theorem mw_1189 : Cond.methodLink RX7 95 yX7_stateOf ∈ lw_ok := ok_in 1189 (by decide +kernel) (by decide +kernel)
theorem mw_1192 : Cond.code yX7_stateOf cX7_stateOf 2 (some .int) ∈ lw_ok := ok_in 1192 (by decide +kernel) (by decide +kernel)
theorem mw_1191 : Cond.instanceMethod yX7_stateOf ∈ lw_ok := ok_in 1191 (by decide +kernel) (by decide +kernel)
theorem mw_34 : Cond.selects RX7 yX7_stateOf yX7_stateOf ∈ lw_ok := ok_in 34 (by decide +kernel) (by decide +kernel)
theorem Lk_X7_95 : LkV RX7 95 yX7_stateOf cX7_stateOf 2 (some .int) 1 := ⟨⟨mw_1189, mw_1191, mw_34, mw_50, mw_1192⟩, ⟨by decide +kernel, by decide +kernel, by decide +kernel⟩⟩
theorem mw_1193 : Cond.methodLink RX7 112 yX7_happen ∈ lw_ok := ok_in 1193 (by decide +kernel) (by decide +kernel)
theorem mw_1196 : Cond.code yX7_happen cX7_happen 5 (some .int) ∈ lw_ok := ok_in 1196 (by decide +kernel) (by decide +kernel)
theorem mw_1195 : Cond.instanceMethod yX7_happen ∈ lw_ok := ok_in 1195 (by decide +kernel) (by decide +kernel)
theorem mw_35 : Cond.selects RX7 yX7_happen yX7_happen ∈ lw_ok := ok_in 35 (by decide +kernel) (by decide +kernel)
theorem Lk_X7_112 : LkV RX7 112 yX7_happen cX7_happen 5 (some .int) 1 := ⟨⟨mw_1193, mw_1195, mw_35, mw_50, mw_1196⟩, ⟨by decide +kernel, by decide +kernel, by decide +kernel⟩⟩
theorem mw_1197 : Cond.methodLink RX7 101 yX7_kind ∈ lw_ok := ok_in 1197 (by decide +kernel) (by decide +kernel)
theorem mw_1200 : Cond.code yX7_kind cX7_kind 3 (some .int) ∈ lw_ok := ok_in 1200 (by decide +kernel) (by decide +kernel)
theorem mw_1199 : Cond.instanceMethod yX7_kind ∈ lw_ok := ok_in 1199 (by decide +kernel) (by decide +kernel)
theorem mw_36 : Cond.selects RX7 yX7_kind yX7_kind ∈ lw_ok := ok_in 36 (by decide +kernel) (by decide +kernel)
theorem Lk_X7_101 : LkV RX7 101 yX7_kind cX7_kind 3 (some .int) 1 := ⟨⟨mw_1197, mw_1199, mw_36, mw_50, mw_1200⟩, ⟨by decide +kernel, by decide +kernel, by decide +kernel⟩⟩
theorem mw_1201 : Cond.methodLink RX7 104 yX7_happens ∈ lw_ok := ok_in 1201 (by decide +kernel) (by decide +kernel)
theorem mw_1204 : Cond.code yX7_happens cX7_happens 4 none ∈ lw_ok := ok_in 1204 (by decide +kernel) (by decide +kernel)
theorem mw_1203 : Cond.instanceMethod yX7_happens ∈ lw_ok := ok_in 1203 (by decide +kernel) (by decide +kernel)
theorem mw_37 : Cond.selects RX7 yX7_happens yX7_happens ∈ lw_ok := ok_in 37 (by decide +kernel) (by decide +kernel)
theorem Lk_X7_104 : LkV RX7 104 yX7_happens cX7_happens 4 none 2 := ⟨⟨mw_1201, mw_1203, mw_37, mw_50, mw_1204⟩, ⟨by decide +kernel, by decide +kernel, by decide +kernel⟩⟩
theorem mw_1205 : Cond.methodLink RL 190 yX7_advanceToEvent ∈ lw_ok := ok_in 1205 (by decide +kernel) (by decide +kernel)
theorem mw_1208 : Cond.code yX7_advanceToEvent cX7_advanceToEvent 2 (some .int) ∈ lw_ok := ok_in 1208 (by decide +kernel) (by decide +kernel)
theorem mw_1206 : Cond.instanceMethod yX7_advanceToEvent ∈ lw_ok := ok_in 1206 (by decide +kernel) (by decide +kernel)
theorem mw_1207 : Cond.selects RX7 yX7_advanceToEvent yX7_advanceToEvent ∈ lw_ok := ok_in 1207 (by decide +kernel) (by decide +kernel)
theorem Lk_L_190 : LkV RL 190 yX7_advanceToEvent cX7_advanceToEvent 2 (some .int) 0 := ⟨⟨mw_1205, mw_1206, mw_1207, mw_50, mw_1208⟩, ⟨by decide +kernel, by decide +kernel, by decide +kernel⟩⟩
theorem mw_1209 : Cond.methodLink RL 194 yX7_time ∈ lw_ok := ok_in 1209 (by decide +kernel) (by decide +kernel)
theorem mw_1212 : Cond.code yX7_time cX7_time 1 (some .int) ∈ lw_ok := ok_in 1212 (by decide +kernel) (by decide +kernel)
theorem mw_1210 : Cond.instanceMethod yX7_time ∈ lw_ok := ok_in 1210 (by decide +kernel) (by decide +kernel)
theorem mw_1211 : Cond.selects RX7 yX7_time yX7_time ∈ lw_ok := ok_in 1211 (by decide +kernel) (by decide +kernel)
theorem Lk_L_194 : LkV RL 194 yX7_time cX7_time 1 (some .int) 0 := ⟨⟨mw_1209, mw_1210, mw_1211, mw_50, mw_1212⟩, ⟨by decide +kernel, by decide +kernel, by decide +kernel⟩⟩
theorem mw_1213 : Cond.methodLink RL 197 yX7_clientState ∈ lw_ok := ok_in 1213 (by decide +kernel) (by decide +kernel)
theorem mw_1216 : Cond.code yX7_clientState cX7_clientState 2 (some .int) ∈ lw_ok := ok_in 1216 (by decide +kernel) (by decide +kernel)
theorem mw_1214 : Cond.instanceMethod yX7_clientState ∈ lw_ok := ok_in 1214 (by decide +kernel) (by decide +kernel)
theorem mw_1215 : Cond.selects RX7 yX7_clientState yX7_clientState ∈ lw_ok := ok_in 1215 (by decide +kernel) (by decide +kernel)
theorem Lk_L_197 : LkV RL 197 yX7_clientState cX7_clientState 2 (some .int) 1 := ⟨⟨mw_1213, mw_1214, mw_1215, mw_50, mw_1216⟩, ⟨by decide +kernel, by decide +kernel, by decide +kernel⟩⟩
theorem mw_1217 : Cond.methodLink RL 200 yX7_addressOf ∈ lw_ok := ok_in 1217 (by decide +kernel) (by decide +kernel)
theorem mw_1220 : Cond.code yX7_addressOf cX7_addressOf 2 (some .int) ∈ lw_ok := ok_in 1220 (by decide +kernel) (by decide +kernel)
theorem mw_1218 : Cond.instanceMethod yX7_addressOf ∈ lw_ok := ok_in 1218 (by decide +kernel) (by decide +kernel)
theorem mw_1219 : Cond.selects RX7 yX7_addressOf yX7_addressOf ∈ lw_ok := ok_in 1219 (by decide +kernel) (by decide +kernel)
theorem Lk_L_200 : LkV RL 200 yX7_addressOf cX7_addressOf 2 (some .int) 1 := ⟨⟨mw_1217, mw_1218, mw_1219, mw_50, mw_1220⟩, ⟨by decide +kernel, by decide +kernel, by decide +kernel⟩⟩
theorem mw_1221 : Cond.methodLink RL 203 yX7_remembered ∈ lw_ok := ok_in 1221 (by decide +kernel) (by decide +kernel)
theorem mw_1224 : Cond.code yX7_remembered cX7_remembered 2 (some .int) ∈ lw_ok := ok_in 1224 (by decide +kernel) (by decide +kernel)
theorem mw_1222 : Cond.instanceMethod yX7_remembered ∈ lw_ok := ok_in 1222 (by decide +kernel) (by decide +kernel)
theorem mw_1223 : Cond.selects RX7 yX7_remembered yX7_remembered ∈ lw_ok := ok_in 1223 (by decide +kernel) (by decide +kernel)
theorem Lk_L_203 : LkV RL 203 yX7_remembered cX7_remembered 2 (some .int) 1 := ⟨⟨mw_1221, mw_1222, mw_1223, mw_50, mw_1224⟩, ⟨by decide +kernel, by decide +kernel, by decide +kernel⟩⟩
theorem mw_1225 : Cond.methodLink RL 206 yX7_timer ∈ lw_ok := ok_in 1225 (by decide +kernel) (by decide +kernel)
theorem mw_1228 : Cond.code yX7_timer cX7_timer 3 (some .int) ∈ lw_ok := ok_in 1228 (by decide +kernel) (by decide +kernel)
theorem mw_1226 : Cond.instanceMethod yX7_timer ∈ lw_ok := ok_in 1226 (by decide +kernel) (by decide +kernel)
theorem mw_1227 : Cond.selects RX7 yX7_timer yX7_timer ∈ lw_ok := ok_in 1227 (by decide +kernel) (by decide +kernel)
theorem Lk_L_206 : LkV RL 206 yX7_timer cX7_timer 3 (some .int) 2 := ⟨⟨mw_1225, mw_1226, mw_1227, mw_50, mw_1228⟩, ⟨by decide +kernel, by decide +kernel, by decide +kernel⟩⟩
theorem mw_1229 : Cond.methodLink RL 209 yX7_addressState ∈ lw_ok := ok_in 1229 (by decide +kernel) (by decide +kernel)
theorem mw_1232 : Cond.code yX7_addressState cX7_addressState 2 (some .int) ∈ lw_ok := ok_in 1232 (by decide +kernel) (by decide +kernel)
theorem mw_1230 : Cond.instanceMethod yX7_addressState ∈ lw_ok := ok_in 1230 (by decide +kernel) (by decide +kernel)
theorem mw_1231 : Cond.selects RX7 yX7_addressState yX7_addressState ∈ lw_ok := ok_in 1231 (by decide +kernel) (by decide +kernel)
theorem Lk_L_209 : LkV RL 209 yX7_addressState cX7_addressState 2 (some .int) 1 := ⟨⟨mw_1229, mw_1230, mw_1231, mw_50, mw_1232⟩, ⟨by decide +kernel, by decide +kernel, by decide +kernel⟩⟩
theorem mw_1233 : Cond.methodLink RX7 115 yX7_lacks ∈ lw_ok := ok_in 1233 (by decide +kernel) (by decide +kernel)
theorem mw_1236 : Cond.code yX7_lacks cX7_lacks 2 (some .int) ∈ lw_ok := ok_in 1236 (by decide +kernel) (by decide +kernel)
theorem mw_1235 : Cond.instanceMethod yX7_lacks ∈ lw_ok := ok_in 1235 (by decide +kernel) (by decide +kernel)
theorem mw_38 : Cond.selects RX7 yX7_lacks yX7_lacks ∈ lw_ok := ok_in 38 (by decide +kernel) (by decide +kernel)
theorem Lk_X7_115 : LkV RX7 115 yX7_lacks cX7_lacks 2 (some .int) 1 := ⟨⟨mw_1233, mw_1235, mw_38, mw_50, mw_1236⟩, ⟨by decide +kernel, by decide +kernel, by decide +kernel⟩⟩
theorem mw_1237 : Cond.methodLink RL 212 yX7_holder ∈ lw_ok := ok_in 1237 (by decide +kernel) (by decide +kernel)
theorem mw_1240 : Cond.code yX7_holder cX7_holder 2 (some .int) ∈ lw_ok := ok_in 1240 (by decide +kernel) (by decide +kernel)
theorem mw_1238 : Cond.instanceMethod yX7_holder ∈ lw_ok := ok_in 1238 (by decide +kernel) (by decide +kernel)
theorem mw_1239 : Cond.selects RX7 yX7_holder yX7_holder ∈ lw_ok := ok_in 1239 (by decide +kernel) (by decide +kernel)
theorem Lk_L_212 : LkV RL 212 yX7_holder cX7_holder 2 (some .int) 1 := ⟨⟨mw_1237, mw_1238, mw_1239, mw_50, mw_1240⟩, ⟨by decide +kernel, by decide +kernel, by decide +kernel⟩⟩
theorem mw_1241 : Cond.methodLink RL 215 yX7_until ∈ lw_ok := ok_in 1241 (by decide +kernel) (by decide +kernel)
theorem mw_1244 : Cond.code yX7_until cX7_until 2 (some .int) ∈ lw_ok := ok_in 1244 (by decide +kernel) (by decide +kernel)
theorem mw_1242 : Cond.instanceMethod yX7_until ∈ lw_ok := ok_in 1242 (by decide +kernel) (by decide +kernel)
theorem mw_1243 : Cond.selects RX7 yX7_until yX7_until ∈ lw_ok := ok_in 1243 (by decide +kernel) (by decide +kernel)
theorem Lk_L_215 : LkV RL 215 yX7_until cX7_until 2 (some .int) 1 := ⟨⟨mw_1241, mw_1242, mw_1243, mw_50, mw_1244⟩, ⟨by decide +kernel, by decide +kernel, by decide +kernel⟩⟩
theorem mw_1245 : Cond.methodLink RL 218 yX7_freeSince ∈ lw_ok := ok_in 1245 (by decide +kernel) (by decide +kernel)
theorem mw_1248 : Cond.code yX7_freeSince cX7_freeSince 2 (some .int) ∈ lw_ok := ok_in 1248 (by decide +kernel) (by decide +kernel)
theorem mw_1246 : Cond.instanceMethod yX7_freeSince ∈ lw_ok := ok_in 1246 (by decide +kernel) (by decide +kernel)
theorem mw_1247 : Cond.selects RX7 yX7_freeSince yX7_freeSince ∈ lw_ok := ok_in 1247 (by decide +kernel) (by decide +kernel)
theorem Lk_L_218 : LkV RL 218 yX7_freeSince cX7_freeSince 2 (some .int) 1 := ⟨⟨mw_1245, mw_1246, mw_1247, mw_50, mw_1248⟩, ⟨by decide +kernel, by decide +kernel, by decide +kernel⟩⟩
theorem mw_1249 : Cond.methodLink RL 221 yX7_nextCandidate ∈ lw_ok := ok_in 1249 (by decide +kernel) (by decide +kernel)
theorem mw_1252 : Cond.code yX7_nextCandidate cX7_nextCandidate 4 (some .int) ∈ lw_ok := ok_in 1252 (by decide +kernel) (by decide +kernel)
theorem mw_1250 : Cond.instanceMethod yX7_nextCandidate ∈ lw_ok := ok_in 1250 (by decide +kernel) (by decide +kernel)
theorem mw_1251 : Cond.selects RX7 yX7_nextCandidate yX7_nextCandidate ∈ lw_ok := ok_in 1251 (by decide +kernel) (by decide +kernel)
theorem Lk_L_221 : LkV RL 221 yX7_nextCandidate cX7_nextCandidate 4 (some .int) 2 := ⟨⟨mw_1249, mw_1250, mw_1251, mw_50, mw_1252⟩, ⟨by decide +kernel, by decide +kernel, by decide +kernel⟩⟩
theorem mw_1253 : Cond.methodLink RL 224 yX7_countState ∈ lw_ok := ok_in 1253 (by decide +kernel) (by decide +kernel)
theorem mw_1256 : Cond.code yX7_countState cX7_countState 3 (some .int) ∈ lw_ok := ok_in 1256 (by decide +kernel) (by decide +kernel)
theorem mw_1254 : Cond.instanceMethod yX7_countState ∈ lw_ok := ok_in 1254 (by decide +kernel) (by decide +kernel)
theorem mw_1255 : Cond.selects RX7 yX7_countState yX7_countState ∈ lw_ok := ok_in 1255 (by decide +kernel) (by decide +kernel)
theorem Lk_L_224 : LkV RL 224 yX7_countState cX7_countState 3 (some .int) 2 := ⟨⟨mw_1253, mw_1254, mw_1255, mw_50, mw_1256⟩, ⟨by decide +kernel, by decide +kernel, by decide +kernel⟩⟩
theorem mw_1257 : Cond.methodLink RX7 118 yX7_count ∈ lw_ok := ok_in 1257 (by decide +kernel) (by decide +kernel)
theorem mw_1260 : Cond.code yX7_count cX7_count 5 (some .int) ∈ lw_ok := ok_in 1260 (by decide +kernel) (by decide +kernel)
theorem mw_1259 : Cond.instanceMethod yX7_count ∈ lw_ok := ok_in 1259 (by decide +kernel) (by decide +kernel)
theorem mw_39 : Cond.selects RX7 yX7_count yX7_count ∈ lw_ok := ok_in 39 (by decide +kernel) (by decide +kernel)
theorem Lk_X7_118 : LkV RX7 118 yX7_count cX7_count 5 (some .int) 2 := ⟨⟨mw_1257, mw_1259, mw_39, mw_50, mw_1260⟩, ⟨by decide +kernel, by decide +kernel, by decide +kernel⟩⟩
theorem mw_1261 : Cond.methodLink RL 228 yX7_bound ∈ lw_ok := ok_in 1261 (by decide +kernel) (by decide +kernel)
theorem mw_1264 : Cond.code yX7_bound cX7_bound 1 (some .int) ∈ lw_ok := ok_in 1264 (by decide +kernel) (by decide +kernel)
theorem mw_1262 : Cond.instanceMethod yX7_bound ∈ lw_ok := ok_in 1262 (by decide +kernel) (by decide +kernel)
theorem mw_1263 : Cond.selects RX7 yX7_bound yX7_bound ∈ lw_ok := ok_in 1263 (by decide +kernel) (by decide +kernel)
theorem Lk_L_228 : LkV RL 228 yX7_bound cX7_bound 1 (some .int) 0 := ⟨⟨mw_1261, mw_1262, mw_1263, mw_50, mw_1264⟩, ⟨by decide +kernel, by decide +kernel, by decide +kernel⟩⟩
theorem mw_1265 : Cond.methodLink RX7 121 yX7_boundOnes ∈ lw_ok := ok_in 1265 (by decide +kernel) (by decide +kernel)
theorem mw_1268 : Cond.code yX7_boundOnes cX7_boundOnes 3 (some .int) ∈ lw_ok := ok_in 1268 (by decide +kernel) (by decide +kernel)
theorem mw_1267 : Cond.instanceMethod yX7_boundOnes ∈ lw_ok := ok_in 1267 (by decide +kernel) (by decide +kernel)
theorem mw_40 : Cond.selects RX7 yX7_boundOnes yX7_boundOnes ∈ lw_ok := ok_in 40 (by decide +kernel) (by decide +kernel)
theorem Lk_X7_121 : LkV RX7 121 yX7_boundOnes cX7_boundOnes 3 (some .int) 0 := ⟨⟨mw_1265, mw_1267, mw_40, mw_50, mw_1268⟩, ⟨by decide +kernel, by decide +kernel, by decide +kernel⟩⟩
theorem mw_1269 : Cond.methodLink RL 232 yX7_conflicts ∈ lw_ok := ok_in 1269 (by decide +kernel) (by decide +kernel)
theorem mw_1272 : Cond.code yX7_conflicts cX7_conflicts 1 (some .int) ∈ lw_ok := ok_in 1272 (by decide +kernel) (by decide +kernel)
theorem mw_1270 : Cond.instanceMethod yX7_conflicts ∈ lw_ok := ok_in 1270 (by decide +kernel) (by decide +kernel)
theorem mw_1271 : Cond.selects RX7 yX7_conflicts yX7_conflicts ∈ lw_ok := ok_in 1271 (by decide +kernel) (by decide +kernel)
theorem Lk_L_232 : LkV RL 232 yX7_conflicts cX7_conflicts 1 (some .int) 0 := ⟨⟨mw_1269, mw_1270, mw_1271, mw_50, mw_1272⟩, ⟨by decide +kernel, by decide +kernel, by decide +kernel⟩⟩
theorem mw_1273 : Cond.methodLink RL 236 yX7_logSize ∈ lw_ok := ok_in 1273 (by decide +kernel) (by decide +kernel)
theorem mw_1276 : Cond.code yX7_logSize cX7_logSize 1 (some .int) ∈ lw_ok := ok_in 1276 (by decide +kernel) (by decide +kernel)
theorem mw_1274 : Cond.instanceMethod yX7_logSize ∈ lw_ok := ok_in 1274 (by decide +kernel) (by decide +kernel)
theorem mw_1275 : Cond.selects RX7 yX7_logSize yX7_logSize ∈ lw_ok := ok_in 1275 (by decide +kernel) (by decide +kernel)
theorem Lk_L_236 : LkV RL 236 yX7_logSize cX7_logSize 1 (some .int) 0 := ⟨⟨mw_1273, mw_1274, mw_1275, mw_50, mw_1276⟩, ⟨by decide +kernel, by decide +kernel, by decide +kernel⟩⟩
theorem mw_1277 : Cond.methodLink RL 239 yX7_log ∈ lw_ok := ok_in 1277 (by decide +kernel) (by decide +kernel)
theorem mw_1280 : Cond.code yX7_log cX7_log 2 (some .int) ∈ lw_ok := ok_in 1280 (by decide +kernel) (by decide +kernel)
theorem mw_1278 : Cond.instanceMethod yX7_log ∈ lw_ok := ok_in 1278 (by decide +kernel) (by decide +kernel)
theorem mw_1279 : Cond.selects RX7 yX7_log yX7_log ∈ lw_ok := ok_in 1279 (by decide +kernel) (by decide +kernel)
theorem Lk_L_239 : LkV RL 239 yX7_log cX7_log 2 (some .int) 1 := ⟨⟨mw_1277, mw_1278, mw_1279, mw_50, mw_1280⟩, ⟨by decide +kernel, by decide +kernel, by decide +kernel⟩⟩
theorem mw_1281 : Cond.methodLink RL 243 yX7_utilization ∈ lw_ok := ok_in 1281 (by decide +kernel) (by decide +kernel)
theorem mw_1284 : Cond.code yX7_utilization cX7_utilization 3 (some .double) ∈ lw_ok := ok_in 1284 (by decide +kernel) (by decide +kernel)
theorem mw_1282 : Cond.instanceMethod yX7_utilization ∈ lw_ok := ok_in 1282 (by decide +kernel) (by decide +kernel)
theorem mw_1283 : Cond.selects RX7 yX7_utilization yX7_utilization ∈ lw_ok := ok_in 1283 (by decide +kernel) (by decide +kernel)
theorem Lk_L_243 : LkV RL 243 yX7_utilization cX7_utilization 3 (some .double) 1 := ⟨⟨mw_1281, mw_1282, mw_1283, mw_50, mw_1284⟩, ⟨by decide +kernel, by decide +kernel, by decide +kernel⟩⟩
theorem mw_1285 : Cond.methodLink RL 247 yX7_averageRest ∈ lw_ok := ok_in 1285 (by decide +kernel) (by decide +kernel)
theorem mw_1288 : Cond.code yX7_averageRest cX7_averageRest 3 (some .float) ∈ lw_ok := ok_in 1288 (by decide +kernel) (by decide +kernel)
theorem mw_1286 : Cond.instanceMethod yX7_averageRest ∈ lw_ok := ok_in 1286 (by decide +kernel) (by decide +kernel)
theorem mw_1287 : Cond.selects RX7 yX7_averageRest yX7_averageRest ∈ lw_ok := ok_in 1287 (by decide +kernel) (by decide +kernel)
theorem Lk_L_247 : LkV RL 247 yX7_averageRest cX7_averageRest 3 (some .float) 0 := ⟨⟨mw_1285, mw_1286, mw_1287, mw_50, mw_1288⟩, ⟨by decide +kernel, by decide +kernel, by decide +kernel⟩⟩
theorem mw_1289 : Cond.methodLink RL 251 yX7_save ∈ lw_ok := ok_in 1289 (by decide +kernel) (by decide +kernel)
theorem mw_1292 : Cond.code yX7_save cX7_save 2 (some .int) ∈ lw_ok := ok_in 1292 (by decide +kernel) (by decide +kernel)
theorem mw_1290 : Cond.instanceMethod yX7_save ∈ lw_ok := ok_in 1290 (by decide +kernel) (by decide +kernel)
theorem mw_1291 : Cond.selects RX7 yX7_save yX7_save ∈ lw_ok := ok_in 1291 (by decide +kernel) (by decide +kernel)
theorem Lk_L_251 : LkV RL 251 yX7_save cX7_save 2 (some .int) 0 := ⟨⟨mw_1289, mw_1290, mw_1291, mw_50, mw_1292⟩, ⟨by decide +kernel, by decide +kernel, by decide +kernel⟩⟩
theorem mw_1293 : Cond.methodLink RL 254 yX7_restore ∈ lw_ok := ok_in 1293 (by decide +kernel) (by decide +kernel)
theorem mw_1296 : Cond.code yX7_restore cX7_restore 2 (some .int) ∈ lw_ok := ok_in 1296 (by decide +kernel) (by decide +kernel)
theorem mw_1294 : Cond.instanceMethod yX7_restore ∈ lw_ok := ok_in 1294 (by decide +kernel) (by decide +kernel)
theorem mw_1295 : Cond.selects RX7 yX7_restore yX7_restore ∈ lw_ok := ok_in 1295 (by decide +kernel) (by decide +kernel)
theorem Lk_L_254 : LkV RL 254 yX7_restore cX7_restore 2 (some .int) 0 := ⟨⟨mw_1293, mw_1294, mw_1295, mw_50, mw_1296⟩, ⟨by decide +kernel, by decide +kernel, by decide +kernel⟩⟩
theorem mw_790 : Cond.constant RX6 212 (100000) ∈ lw_ok := ok_in 790 (by decide +kernel) (by decide +kernel)
theorem Co_X6_212 : Cond.constant RX6 212 (100000) ∈ lw_ok := mw_790
theorem mw_800 : Cond.constant RX0 58 (2147483647) ∈ lw_ok := ok_in 800 (by decide +kernel) (by decide +kernel)
theorem Co_X0_58 : Cond.constant RX0 58 (2147483647) ∈ lw_ok := mw_800
theorem mw_805 : Cond.constant RX5 224 (1000000) ∈ lw_ok := ok_in 805 (by decide +kernel) (by decide +kernel)
theorem Co_X5_224 : Cond.constant RX5 224 (1000000) ∈ lw_ok := mw_805
theorem mw_810 : Cond.constant RX5 208 (2147483647) ∈ lw_ok := ok_in 810 (by decide +kernel) (by decide +kernel)
theorem Co_X5_208 : Cond.constant RX5 208 (2147483647) ∈ lw_ok := mw_810
theorem mw_852 : Cond.constant RX6 222 (2147483647) ∈ lw_ok := ok_in 852 (by decide +kernel) (by decide +kernel)
theorem Co_X6_222 : Cond.constant RX6 222 (2147483647) ∈ lw_ok := mw_852
theorem mw_1180 : Cond.constant RX7 107 (100000) ∈ lw_ok := ok_in 1180 (by decide +kernel) (by decide +kernel)
theorem Co_X7_107 : Cond.constant RX7 107 (100000) ∈ lw_ok := mw_1180
theorem mw_68 : Cond.methodLink RX6 1 objectInit ∈ lw_ok := ok_in 68 (by decide +kernel) (by decide +kernel)
theorem Oi_X6_1 : Cond.methodLink RX6 1 objectInit ∈ lw_ok := mw_68
theorem mw_76 : Cond.methodLink RX2 3 objectInit ∈ lw_ok := ok_in 76 (by decide +kernel) (by decide +kernel)
theorem Oi_X2_3 : Cond.methodLink RX2 3 objectInit ∈ lw_ok := mw_76
theorem mw_94 : Cond.methodLink RX5 3 objectInit ∈ lw_ok := ok_in 94 (by decide +kernel) (by decide +kernel)
theorem Oi_X5_3 : Cond.methodLink RX5 3 objectInit ∈ lw_ok := mw_94
theorem mw_100 : Cond.methodLink RX3 3 objectInit ∈ lw_ok := ok_in 100 (by decide +kernel) (by decide +kernel)
theorem Oi_X3_3 : Cond.methodLink RX3 3 objectInit ∈ lw_ok := mw_100
theorem mw_131 : Cond.methodLink RX0 3 objectInit ∈ lw_ok := ok_in 131 (by decide +kernel) (by decide +kernel)
theorem Oi_X0_3 : Cond.methodLink RX0 3 objectInit ∈ lw_ok := mw_131
theorem mw_170 : Cond.methodLink RX1 3 objectInit ∈ lw_ok := ok_in 170 (by decide +kernel) (by decide +kernel)
theorem Oi_X1_3 : Cond.methodLink RX1 3 objectInit ∈ lw_ok := mw_170
theorem mw_203 : Cond.methodLink RX4 3 objectInit ∈ lw_ok := ok_in 203 (by decide +kernel) (by decide +kernel)
theorem Oi_X4_3 : Cond.methodLink RX4 3 objectInit ∈ lw_ok := mw_203
theorem Ma_X6_331 : Cond.methodLink RX6 331 Lib.Math.min.name ∈ lw_ok := mw_314
theorem mw_317 : Cond.methodLink RX6 336 arraycopyName ∈ lw_ok := ok_in 317 (by decide +kernel) (by decide +kernel)
theorem Ac_X6_336 : Cond.methodLink RX6 336 arraycopyName ∈ lw_ok := mw_317
theorem Ma_X0_37 : Cond.methodLink RX0 37 Lib.Math.max.name ∈ lw_ok := mw_490
theorem Ma_X5_129 : Cond.methodLink RX5 129 Lib.Math.max.name ∈ lw_ok := mw_675
theorem Ma_X2_22 : Cond.methodLink RX2 22 Lib.Math.min.name ∈ lw_ok := mw_697
theorem Ma_X0_63 : Cond.methodLink RX0 63 Lib.Math.min.name ∈ lw_ok := mw_804
theorem Ma_X5_205 : Cond.methodLink RX5 205 Lib.Math.min.name ∈ lw_ok := mw_816
theorem mw_1012 : Cond.methodLink RX7 3 objectInit ∈ lw_ok := ok_in 1012 (by decide +kernel) (by decide +kernel)
theorem Oi_X7_3 : Cond.methodLink RX7 3 objectInit ∈ lw_ok := mw_1012
theorem Ms_max : Cond.static Lib.Math.max.name ∈ lw_ok := ok_in 491 (by decide +kernel) (by decide +kernel)
theorem Mc_max : Cond.code Lib.Math.max.name Lib.Math.max.code 2 (some .int) ∈ lw_ok := ok_in 492 (by decide +kernel) (by decide +kernel)
theorem Ms_min : Cond.static Lib.Math.min.name ∈ lw_ok := ok_in 315 (by decide +kernel) (by decide +kernel)
theorem Mc_min : Cond.code Lib.Math.min.name Lib.Math.min.code 2 (some .int) ∈ lw_ok := ok_in 316 (by decide +kernel) (by decide +kernel)
theorem Mi_math : Cond.initialized "java/lang/Math" ∈ lw_ok := ok_in 59 (by decide +kernel) (by decide +kernel)
theorem An_copy : Cond.native arraycopyName ∈ lw_ok := ok_in 319 (by decide +kernel) (by decide +kernel)
theorem As_copy : Cond.static arraycopyName ∈ lw_ok := ok_in 318 (by decide +kernel) (by decide +kernel)
theorem Ai_copy : Cond.initialized "java/lang/System" ∈ lw_ok := ok_in 62 (by decide +kernel) (by decide +kernel)
theorem Oi_inst : Cond.instanceMethod objectInit ∈ lw_ok := ok_in 69 (by decide +kernel) (by decide +kernel)
theorem Oi_code : Cond.code objectInit ⟨#[0xb1]⟩ 1 none ∈ lw_ok := ok_in 70 (by decide +kernel) (by decide +kernel)
theorem Cl_L_8 : Cond.classLink RL 8 RX6 ∈ lw_ok := ok_in 63 (by decide +kernel) (by decide +kernel)
theorem In_X6 : Cond.instantiable RX6 4 ∈ lw_ok ∧ Cond.initialized RX6 ∈ lw_ok := ⟨ok_in 64 (by decide +kernel) (by decide +kernel), mw_42⟩
theorem Cl_X6_7 : Cond.classLink RX6 7 RX2 ∈ lw_ok := ok_in 71 (by decide +kernel) (by decide +kernel)
theorem In_X2 : Cond.instantiable RX2 3 ∈ lw_ok ∧ Cond.initialized RX2 ∈ lw_ok := ⟨ok_in 72 (by decide +kernel) (by decide +kernel), mw_43⟩
theorem Ar_int : Cond.arrayClass .int ∈ lw_ok := ok_in 88 (by decide +kernel) (by decide +kernel)
theorem Cl_X6_16 : Cond.classLink RX6 16 RX5 ∈ lw_ok := ok_in 89 (by decide +kernel) (by decide +kernel)
theorem In_X5 : Cond.instantiable RX5 5 ∈ lw_ok ∧ Cond.initialized RX5 ∈ lw_ok := ⟨ok_in 90 (by decide +kernel) (by decide +kernel), mw_44⟩
theorem Cl_X5_9 : Cond.classLink RX5 9 RX3 ∈ lw_ok := ok_in 95 (by decide +kernel) (by decide +kernel)
theorem In_X3 : Cond.instantiable RX3 5 ∈ lw_ok ∧ Cond.initialized RX3 ∈ lw_ok := ⟨ok_in 96 (by decide +kernel) (by decide +kernel), mw_45⟩
theorem Cl_X5_18 : Cond.classLink RX5 18 RX0 ∈ lw_ok := ok_in 126 (by decide +kernel) (by decide +kernel)
theorem In_X0 : Cond.instantiable RX0 6 ∈ lw_ok ∧ Cond.initialized RX0 ∈ lw_ok := ⟨ok_in 127 (by decide +kernel) (by decide +kernel), mw_46⟩
theorem Ar_boolean : Cond.arrayClass .boolean ∈ lw_ok := ok_in 164 (by decide +kernel) (by decide +kernel)
theorem Cl_X5_25 : Cond.classLink RX5 25 RX1 ∈ lw_ok := ok_in 165 (by decide +kernel) (by decide +kernel)
theorem In_X1 : Cond.instantiable RX1 5 ∈ lw_ok ∧ Cond.initialized RX1 ∈ lw_ok := ⟨ok_in 166 (by decide +kernel) (by decide +kernel), mw_48⟩
theorem Cl_X5_32 : Cond.classLink RX5 32 RX4 ∈ lw_ok := ok_in 198 (by decide +kernel) (by decide +kernel)
theorem In_X4 : Cond.instantiable RX4 6 ∈ lw_ok ∧ Cond.initialized RX4 ∈ lw_ok := ⟨ok_in 199 (by decide +kernel) (by decide +kernel), mw_49⟩
theorem Cl_L_13 : Cond.classLink RL 13 "java/lang/IndexOutOfBoundsException" ∈ lw_ok := ok_in 341 (by decide +kernel) (by decide +kernel)
theorem Cl_L_15 : Cond.classLink RL 15 "java/lang/IllegalArgumentException" ∈ lw_ok := ok_in 420 (by decide +kernel) (by decide +kernel)
theorem Cl_L_17 : Cond.classLink RL 17 "java/lang/IllegalStateException" ∈ lw_ok := ok_in 421 (by decide +kernel) (by decide +kernel)
theorem Cl_X6_279 : Cond.classLink RX6 279 "java/lang/IndexOutOfBoundsException" ∈ lw_ok := ok_in 432 (by decide +kernel) (by decide +kernel)
theorem Cl_X6_36 : Cond.classLink RX6 36 "java/lang/IllegalArgumentException" ∈ lw_ok := ok_in 448 (by decide +kernel) (by decide +kernel)
theorem Cl_X6_55 : Cond.classLink RX6 55 "java/lang/IllegalStateException" ∈ lw_ok := ok_in 465 (by decide +kernel) (by decide +kernel)
theorem Cl_L_30 : Cond.classLink RL 30 "java/util/NoSuchElementException" ∈ lw_ok := ok_in 547 (by decide +kernel) (by decide +kernel)
theorem Cl_X6_169 : Cond.classLink RX6 169 "java/util/NoSuchElementException" ∈ lw_ok := ok_in 564 (by decide +kernel) (by decide +kernel)
theorem Cl_L_112 : Cond.classLink RL 112 "java/lang/ArithmeticException" ∈ lw_ok := ok_in 960 (by decide +kernel) (by decide +kernel)
theorem Cl_X6_290 : Cond.classLink RX6 290 "java/lang/ArithmeticException" ∈ lw_ok := ok_in 982 (by decide +kernel) (by decide +kernel)
theorem Cl_L_122 : Cond.classLink RL 122 RX7 ∈ lw_ok := ok_in 1007 (by decide +kernel) (by decide +kernel)
theorem In_X7 : Cond.instantiable RX7 6 ∈ lw_ok ∧ Cond.initialized RX7 ∈ lw_ok := ⟨ok_in 1008 (by decide +kernel) (by decide +kernel), mw_50⟩
theorem Ar_long : Cond.arrayClass .long ∈ lw_ok := ok_in 1297 (by decide +kernel) (by decide +kernel)
theorem Ar_double : Cond.arrayClass .double ∈ lw_ok := ok_in 1298 (by decide +kernel) (by decide +kernel)
end
section
/-! THE LAYER: the machine's judgement W seen as a judgement G over a whole world, a pc, the locals and the stack; contracts KM (returns) and KT (returns or throws) with one outcome and one world behind it. -/
theorem ok_args {w : Cond} (h : okw w = true) {A A' : Array Value} {U : State} (hb : w.before A U = true) : w.before A' U = true := by
  cases w <;> first
    | exact va_tabs rfl rfl hb
    | exact hb
    | (simp [okw, goodWord, Cond.onTables] at h)
def TB (U : State) : Prop := ∀ w ∈ lw_ok, w.before #[] U = true
theorem TB.ts {s : State} (h : TB s) {args : Array Value} : ∀ w ∈ lw_ok, w.before args s = true := fun w hw => ok_args (List.mem_filter.mp hw).2 (h w hw)
theorem TB.warm {s U : State} (hW : s.WarmedH U.vm) (h : TB s) : TB U := by
  intro w hw
  have h1 := h w hw
  have h2 := (List.mem_filter.mp hw).2
  by_cases hg : goodWord w = true
  · exact word_at hW (good_of_word hg) h1
  · cases w <;> first
      | exact va_Nw.warmM hW h1
      | exact va_Nw.warmC hW h1
      | exact va_Nw.warmD hW h1
      | exact absurd h2 hg
def strs : List (Nat × String) := [(38, "the addresses are not a range of addresses"), (43, "the lease time is out of range"), (57, "there are no more pools to add"), (64, "a pool has one of the addresses"), (94, "an address of the pool is not free"), (110, "the part is out of range"), (128, "the hold time is out of range"), (139, "the quarantine is out of range"), (162, "the client is bound"), (164, "the relay path is down"), (171, "there is no candidate without a conflict"), (176, "the client has no offer"), (202, "the direct path is down"), (207, "the ticks are out of range"), (213, "the time would be too great"), (223, "nothing ends by time"), (228, "the client is idle"), (233, "the client remembers none"), (248, "the address is neither offered nor leased"), (250, "the address is free"), (255, "the address is not free"), (263, "there is no candidate"), (265, "the state is out of range"), (281, "there is no such entry"), (292, "the group has no addresses"), (295, "there are no leases"), (308, "nothing was saved"), (310, "there is no such address"), (315, "there is no such client"), (320, "there is no such group"), (325, "there is no such pool"), (327, "the address belongs to no pool"), (329, "the client is not bound")]
def SK (U : State) : Prop := ∀ q ∈ strs, ∃ a : Nat, vk_R RX6 q.1 q.2 a U
theorem SK.warm {s U : State} (hW : s.WarmedH U.vm) (h : SK s) : SK U := fun q hq => by
  obtain ⟨a, ha⟩ := h q hq
  exact ⟨a, vk_R.warm hW ha⟩
abbrev kE : Type := va_G × (Nat → ClassId)
abbrev kty (E : kE) : List (ClassId × FieldType) := [(E.2 0, .int), (E.2 1, .boolean), (E.2 2, .long), (E.2 3, .double)]
abbrev ia (E : kE) (n : Nat) (f : Nat → Int32) : va_E := .inl (E.2 0, (n, .inl f))
abbrev za (E : kE) (n : Nat) (f : Nat → Int32) : va_E := .inl (E.2 1, (n, .inl f))
abbrev la (E : kE) (n : Nat) (f : Nat → Int64) : va_E := .inl (E.2 2, (n, .inr (.inl f)))
abbrev da (E : kE) (n : Nat) (f : Nat → UInt64) : va_E := .inl (E.2 3, (n, .inr (.inr (.inr (.inl f)))))
abbrev ob (ci : Nat) (fs : List Value) : va_E := .inr (ci, fs)
def KX (E : kE) (U : State) : Prop := va_K E.1 kcl (kty E) U ∧ TB U ∧ SK U
theorem KX.warm {E : kE} {s U : State} (hW : s.WarmedH U.vm) (h : KX E s) : KX E U := ⟨h.1.moved hW.alike, h.2.1.warm hW, h.2.2.warm hW⟩
/-- what holds of a method's run throughout -/
def CX (E : kE) (A : Nat → Prop) (own : String) (cc : ByteArray) (nL : Nat) (p : Program) (s : State) (m : MethodId) (meth : Method) (c : Code) : Prop :=
  p.tables.exec = Jvm.exec ∧ c.code = cc ∧ c.maxLocals = nL ∧ s.vm.findClass own = some m.cls ∧ KX E s ∧ meth.locks = false ∧ ∀ q : Nat, s.heap.size ≤ q → A q
def G (E : kE) (A : Nat → Prop) (nL : Nat) (p : Program) (l : Launch) (e : Env) (R : Room) (s : State) (m : MethodId) (args : Array Value) (below : List Frame) (meth : Method) (c : Code) (Q : State → Prop) (k n : Nat) (ws : va_W) (pc : Nat) (lv : List (Nat × Value)) (st : List Value) : Prop :=
  ∀ (H : Heap) (locs : List Loc) (ls : Array Slot), va_P E.1 kcl ws H → va_D A ws → va_S A s.heap H locs → lv_has ls nL lv → W p l e R s m args below meth c H locs k n Q (F0 m pc ls st)
def lk : List (Nat × Value) → Nat → Option Value
  | [], _ => none
  | q :: r, i => bif Nat.beq q.1 i then some q.2 else lk r i
theorem lk_mem : ∀ {lv : List (Nat × Value)} {i : Nat} {v : Value}, lk lv i = some v → (i, v) ∈ lv
  | [], _, _, h => by simp [lk] at h
  | q :: r, i, v, h => by
    unfold lk at h
    cases hb : Nat.beq q.1 i with
    | true =>
      rw [hb] at h
      have e1 : q.1 = i := Nat.eq_of_beq_eq_true hb
      have e2 : q.2 = v := Option.some.inj h
      rw [← e1, ← e2]
      exact List.mem_cons_self
    | false =>
      rw [hb] at h
      exact List.mem_cons_of_mem _ (lk_mem h)
abbrev sl (i : Nat) (v : Value) (lv : List (Nat × Value)) : List (Nat × Value) := (i, v) :: lv.filter (fun q => !(q.1 == i) && !(q.1 + 1 == i && q.2.category == 2))
def bi (b : Bool) : Int32 := bif b then 1 else 0
theorem bi_nar (b : Bool) : narrow .boolean (.int (bi b)) = .int (bi b) := by cases b <;> rfl
theorem bi_vp (b : Bool) : vp_nar .boolean (bi b) = bi b := by cases b <;> rfl
section GR
variable {E : kE} {A : Nat → Prop} {own : String} {cc : ByteArray} {nL : Nat} {p : Program} {l : Launch} {e : Env} {R : Room} {s : State} {m : MethodId} {args : Array Value} {below : List Frame} {meth : Method} {c : Code} {Q : State → Prop} {k n : Nat} {ws : va_W} {pc : Nat} {lv : List (Nat × Value)} {st : List Value}
theorem g_iconst (X : CX E A own cc nL p s m meth c) {i : Int} (d : decode cc pc = .ok (.iconst i, 1)) (q : Nat) (hq : pc + 1 = q) {v : Int32} (hv : Int32.ofInt i = v) (kk : G E A nL p l e R s m args below meth c Q k n ws q lv (.int v :: st)) : G E A nL p l e R s m args below meth c Q k n ws pc lv st := by
  subst hq; exact fun H locs ls hP hD hS hl => lv_iconst X.1 X.2.1 d hv (kk H locs ls hP hD hS hl)
theorem g_bipush (X : CX E A own cc nL p s m meth c) {i : Int} (d : decode cc pc = .ok (.bipush i, 2)) (q : Nat) (hq : pc + 2 = q) {v : Int32} (hv : (Int8.ofInt i).toInt32 = v) (kk : G E A nL p l e R s m args below meth c Q k n ws q lv (.int v :: st)) : G E A nL p l e R s m args below meth c Q k n ws pc lv st := by
  subst hq; exact fun H locs ls hP hD hS hl => lv_bipush X.1 X.2.1 d hv (kk H locs ls hP hD hS hl)
theorem g_sipush (X : CX E A own cc nL p s m meth c) {i : Int} (d : decode cc pc = .ok (.sipush i, 3)) (q : Nat) (hq : pc + 3 = q) {v : Int32} (hv : (Int16.ofInt i).toInt32 = v) (kk : G E A nL p l e R s m args below meth c Q k n ws q lv (.int v :: st)) : G E A nL p l e R s m args below meth c Q k n ws pc lv st := by
  subst hq; exact fun H locs ls hP hD hS hl => lv_sipush X.1 X.2.1 d hv (kk H locs ls hP hD hS hl)
theorem g_ldc (X : CX E A own cc nL p s m meth c) {i : Nat} {v : Int32} (hc : Cond.constant own i v ∈ lw_ok) (d : decode cc pc = .ok (.ldc i, 2)) (q : Nat) (hq : pc + 2 = q) (kk : G E A nL p l e R s m args below meth c Q k n ws q lv (.int v :: st)) : G E A nL p l e R s m args below meth c Q k n ws pc lv st := by
  subst hq; exact fun H locs ls hP hD hS hl => lv_ldc X.1 X.2.1 X.2.2.2.1 (X.2.2.2.2.1.2.1.ts _ hc) d (kk H locs ls hP hD hS hl)
theorem g_lconst (X : CX E A own cc nL p s m meth c) {i : Fin 2} (d : decode cc pc = .ok (.lconst i, 1)) (q : Nat) (hq : pc + 1 = q) {v : Int64} (hv : Int64.ofNat (i : Nat) = v) (kk : G E A nL p l e R s m args below meth c Q k n ws q lv (.long v :: st)) : G E A nL p l e R s m args below meth c Q k n ws pc lv st := by
  subst hq; exact fun H locs ls hP hD hS hl => lv_lconst X.1 X.2.1 d hv (kk H locs ls hP hD hS hl)
theorem g_iload (X : CX E A own cc nL p s m meth c) {i : Nat} (d : decode cc pc = .ok (.iload i, 2)) (q : Nat) (hq : pc + 2 = q) {x : Int32} (hv : lk lv i = some (.int x)) (kk : G E A nL p l e R s m args below meth c Q k n ws q lv (.int x :: st)) : G E A nL p l e R s m args below meth c Q k n ws pc lv st := by
  subst hq; exact fun H locs ls hP hD hS hl => lv_iload X.1 X.2.1 d (hl.2.2 _ (lk_mem hv)) (kk H locs ls hP hD hS hl)
theorem g_iload_n (X : CX E A own cc nL p s m meth c) {i : Fin 4} (d : decode cc pc = .ok (.iload_n i, 1)) (q : Nat) (hq : pc + 1 = q) {x : Int32} (hv : lk lv (i : Nat) = some (.int x)) (kk : G E A nL p l e R s m args below meth c Q k n ws q lv (.int x :: st)) : G E A nL p l e R s m args below meth c Q k n ws pc lv st := by
  subst hq; exact fun H locs ls hP hD hS hl => lv_iload_n X.1 X.2.1 d rfl (hl.2.2 _ (lk_mem hv)) (kk H locs ls hP hD hS hl)
theorem g_aload (X : CX E A own cc nL p s m meth c) {i : Nat} (d : decode cc pc = .ok (.aload i, 2)) (q : Nat) (hq : pc + 2 = q) {x : Nat} (hv : lk lv i = some (.ref x)) (kk : G E A nL p l e R s m args below meth c Q k n ws q lv (.ref x :: st)) : G E A nL p l e R s m args below meth c Q k n ws pc lv st := by
  subst hq; exact fun H locs ls hP hD hS hl => lv_aload X.1 X.2.1 d (hl.2.2 _ (lk_mem hv)) (kk H locs ls hP hD hS hl)
theorem g_aload_n (X : CX E A own cc nL p s m meth c) {i : Fin 4} (d : decode cc pc = .ok (.aload_n i, 1)) (q : Nat) (hq : pc + 1 = q) {x : Nat} (hv : lk lv (i : Nat) = some (.ref x)) (kk : G E A nL p l e R s m args below meth c Q k n ws q lv (.ref x :: st)) : G E A nL p l e R s m args below meth c Q k n ws pc lv st := by
  subst hq; exact fun H locs ls hP hD hS hl => lv_aload_n X.1 X.2.1 d rfl (hl.2.2 _ (lk_mem hv)) (kk H locs ls hP hD hS hl)
theorem g_istore (X : CX E A own cc nL p s m meth c) {i : Nat} (d : decode cc pc = .ok (.istore i, 2)) (q : Nat) (hq : pc + 2 = q) (hn : i < nL) {x : Int32} (lv' : List (Nat × Value)) (hv : sl i (.int x) lv = lv') (kk : G E A nL p l e R s m args below meth c Q k n ws q lv' st) : G E A nL p l e R s m args below meth c Q k n ws pc lv (.int x :: st) := by
  subst hq; exact fun H locs ls hP hD hS hl => lv_istore X.1 X.2.1 d hl hn hv (fun ls' hl' => kk H locs ls' hP hD hS hl')
theorem g_istore_n (X : CX E A own cc nL p s m meth c) {i : Fin 4} (d : decode cc pc = .ok (.istore_n i, 1)) (q : Nat) (hq : pc + 1 = q) (hn : (i : Nat) < nL) {x : Int32} (lv' : List (Nat × Value)) (hv : sl (i : Nat) (.int x) lv = lv') (kk : G E A nL p l e R s m args below meth c Q k n ws q lv' st) : G E A nL p l e R s m args below meth c Q k n ws pc lv (.int x :: st) := by
  subst hq; exact fun H locs ls hP hD hS hl => lv_istore_n X.1 X.2.1 d rfl hl hn hv (fun ls' hl' => kk H locs ls' hP hD hS hl')
theorem g_astore (X : CX E A own cc nL p s m meth c) {i : Nat} (d : decode cc pc = .ok (.astore i, 2)) (q : Nat) (hq : pc + 2 = q) (hn : i < nL) {x : Nat} (lv' : List (Nat × Value)) (hv : sl i (.ref x) lv = lv') (kk : G E A nL p l e R s m args below meth c Q k n ws q lv' st) : G E A nL p l e R s m args below meth c Q k n ws pc lv (.ref x :: st) := by
  subst hq; exact fun H locs ls hP hD hS hl => lv_astore X.1 X.2.1 d hl hn hv (fun ls' hl' => kk H locs ls' hP hD hS hl')
theorem g_astore_n (X : CX E A own cc nL p s m meth c) {i : Fin 4} (d : decode cc pc = .ok (.astore_n i, 1)) (q : Nat) (hq : pc + 1 = q) (hn : (i : Nat) < nL) {x : Nat} (lv' : List (Nat × Value)) (hv : sl (i : Nat) (.ref x) lv = lv') (kk : G E A nL p l e R s m args below meth c Q k n ws q lv' st) : G E A nL p l e R s m args below meth c Q k n ws pc lv (.ref x :: st) := by
  subst hq; exact fun H locs ls hP hD hS hl => lv_astore_n X.1 X.2.1 d rfl hl hn hv (fun ls' hl' => kk H locs ls' hP hD hS hl')
theorem g_iinc (X : CX E A own cc nL p s m meth c) {i : Nat} {z : Int} (d : decode cc pc = .ok (.iinc i z, 3)) (q : Nat) (hq : pc + 3 = q) (hn : i < nL) (j : Nat) {x v : Int32} (hj : lv[j]? = some (i, .int x)) (hx : x + Int32.ofInt z = v) (lv' : List (Nat × Value)) (hv : sl i (.int v) lv = lv') (kk : G E A nL p l e R s m args below meth c Q k n ws q lv' st) : G E A nL p l e R s m args below meth c Q k n ws pc lv st := by
  subst hq; exact fun H locs ls hP hD hS hl => lv_iinc X.1 X.2.1 d hl hj hx hn hv (fun ls' hl' => kk H locs ls' hP hD hS hl')
theorem g_iadd (X : CX E A own cc nL p s m meth c) (d : decode cc pc = .ok (.iadd, 1)) (q : Nat) (hq : pc + 1 = q) {x y : Int32} (kk : G E A nL p l e R s m args below meth c Q k n ws q lv (.int (x + y) :: st)) : G E A nL p l e R s m args below meth c Q k n ws pc lv (.int y :: .int x :: st) := by
  subst hq; exact fun H locs ls hP hD hS hl => lv_iadd X.1 X.2.1 d (kk H locs ls hP hD hS hl)
theorem g_isub (X : CX E A own cc nL p s m meth c) (d : decode cc pc = .ok (.isub, 1)) (q : Nat) (hq : pc + 1 = q) {x y : Int32} (kk : G E A nL p l e R s m args below meth c Q k n ws q lv (.int (x - y) :: st)) : G E A nL p l e R s m args below meth c Q k n ws pc lv (.int y :: .int x :: st) := by
  subst hq; exact fun H locs ls hP hD hS hl => lv_isub X.1 X.2.1 d (kk H locs ls hP hD hS hl)
theorem g_imul (X : CX E A own cc nL p s m meth c) (d : decode cc pc = .ok (.imul, 1)) (q : Nat) (hq : pc + 1 = q) {x y : Int32} (kk : G E A nL p l e R s m args below meth c Q k n ws q lv (.int (x * y) :: st)) : G E A nL p l e R s m args below meth c Q k n ws pc lv (.int y :: .int x :: st) := by
  subst hq; exact fun H locs ls hP hD hS hl => lv_imul X.1 X.2.1 d (kk H locs ls hP hD hS hl)
theorem g_idiv (X : CX E A own cc nL p s m meth c) (d : decode cc pc = .ok (.idiv, 1)) (q : Nat) (hq : pc + 1 = q) {x y : Int32} (hy : ¬ y = 0) (kk : G E A nL p l e R s m args below meth c Q k n ws q lv (.int (x / y) :: st)) : G E A nL p l e R s m args below meth c Q k n ws pc lv (.int y :: .int x :: st) := by
  subst hq; exact fun H locs ls hP hD hS hl => lv_idiv X.1 X.2.1 d hy (kk H locs ls hP hD hS hl)
theorem g_irem (X : CX E A own cc nL p s m meth c) (d : decode cc pc = .ok (.irem, 1)) (q : Nat) (hq : pc + 1 = q) {x y : Int32} (hy : ¬ y = 0) (kk : G E A nL p l e R s m args below meth c Q k n ws q lv (.int (x - x / y * y) :: st)) : G E A nL p l e R s m args below meth c Q k n ws pc lv (.int y :: .int x :: st) := by
  subst hq; exact fun H locs ls hP hD hS hl => lv_irem X.1 X.2.1 d hy (kk H locs ls hP hD hS hl)
theorem g_iand (X : CX E A own cc nL p s m meth c) (d : decode cc pc = .ok (.iand, 1)) (q : Nat) (hq : pc + 1 = q) {x y : Int32} (kk : G E A nL p l e R s m args below meth c Q k n ws q lv (.int (x &&& y) :: st)) : G E A nL p l e R s m args below meth c Q k n ws pc lv (.int y :: .int x :: st) := by
  subst hq; exact fun H locs ls hP hD hS hl => lv_iand X.1 X.2.1 d (kk H locs ls hP hD hS hl)
theorem g_ixor (X : CX E A own cc nL p s m meth c) (d : decode cc pc = .ok (.ixor, 1)) (q : Nat) (hq : pc + 1 = q) {x y : Int32} (kk : G E A nL p l e R s m args below meth c Q k n ws q lv (.int (x ^^^ y) :: st)) : G E A nL p l e R s m args below meth c Q k n ws pc lv (.int y :: .int x :: st) := by
  subst hq; exact fun H locs ls hP hD hS hl => lv_ixor X.1 X.2.1 d (kk H locs ls hP hD hS hl)
theorem g_i2l (X : CX E A own cc nL p s m meth c) (d : decode cc pc = .ok (.i2l, 1)) (q : Nat) (hq : pc + 1 = q) {x : Int32} (kk : G E A nL p l e R s m args below meth c Q k n ws q lv (.long x.toInt64 :: st)) : G E A nL p l e R s m args below meth c Q k n ws pc lv (.int x :: st) := by
  subst hq; exact fun H locs ls hP hD hS hl => lv_i2l X.1 X.2.1 d rfl (kk H locs ls hP hD hS hl)
theorem g_lcmp (X : CX E A own cc nL p s m meth c) (d : decode cc pc = .ok (.lcmp, 1)) (q : Nat) (hq : pc + 1 = q) {x y : Int64} (kk : G E A nL p l e R s m args below meth c Q k n ws q lv (.int (lg_cmp x y) :: st)) : G E A nL p l e R s m args below meth c Q k n ws pc lv (.long y :: .long x :: st) := by
  subst hq; exact fun H locs ls hP hD hS hl => W.lcmp X.1 X.2.1 d (kk H locs ls hP hD hS hl)
theorem g_dup (X : CX E A own cc nL p s m meth c) (d : decode cc pc = .ok (.dup, 1)) (q : Nat) (hq : pc + 1 = q) {x : Value} (h1 : x.category = 1) (kk : G E A nL p l e R s m args below meth c Q k n ws q lv (x :: x :: st)) : G E A nL p l e R s m args below meth c Q k n ws pc lv (x :: st) := by
  subst hq; exact fun H locs ls hP hD hS hl => lv_dup X.1 X.2.1 d h1 (kk H locs ls hP hD hS hl)
theorem g_dup2 (X : CX E A own cc nL p s m meth c) (d : decode cc pc = .ok (.dup2, 1)) (q : Nat) (hq : pc + 1 = q) {x y : Value} (h1 : x.category = 1) (h2 : y.category = 1) (kk : G E A nL p l e R s m args below meth c Q k n ws q lv (x :: y :: x :: y :: st)) : G E A nL p l e R s m args below meth c Q k n ws pc lv (x :: y :: st) := by
  subst hq; exact fun H locs ls hP hD hS hl => lv_dup2_11 X.1 X.2.1 d h1 h2 (kk H locs ls hP hD hS hl)
theorem g_dup_x2 (X : CX E A own cc nL p s m meth c) (d : decode cc pc = .ok (.dup_x2, 1)) (q : Nat) (hq : pc + 1 = q) {x y z : Value} (h1 : x.category = 1) (h2 : y.category = 1) (h3 : z.category = 1) (kk : G E A nL p l e R s m args below meth c Q k n ws q lv (x :: y :: z :: x :: st)) : G E A nL p l e R s m args below meth c Q k n ws pc lv (x :: y :: z :: st) := by
  subst hq; exact fun H locs ls hP hD hS hl => lv_dup_x2 X.1 X.2.1 d h1 h2 h3 (kk H locs ls hP hD hS hl)
theorem g_pop (X : CX E A own cc nL p s m meth c) (d : decode cc pc = .ok (.pop, 1)) (q : Nat) (hq : pc + 1 = q) {x : Value} (h1 : x.category = 1) (kk : G E A nL p l e R s m args below meth c Q k n ws q lv st) : G E A nL p l e R s m args below meth c Q k n ws pc lv (x :: st) := by
  subst hq; exact fun H locs ls hP hD hS hl => lv_pop X.1 X.2.1 d h1 (kk H locs ls hP hD hS hl)
theorem g_goto (X : CX E A own cc nL p s m meth c) {off : Int} (d : decode cc pc = .ok (.goto off, 3)) (t : Nat) (ht : (pc : Int) + off = (t : Int)) (kk : G E A nL p l e R s m args below meth c Q k n ws t lv st) : G E A nL p l e R s m args below meth c Q k n ws pc lv st :=
  fun H locs ls hP hD hS hl => lv_goto X.1 X.2.1 d ht (kk H locs ls hP hD hS hl)
theorem g_if_eq (X : CX E A own cc nL p s m meth c) {off : Int} {x : Int32} (d : decode cc pc = .ok (.ifCond .eq off, 3)) (t q : Nat) (ht : (pc : Int) + off = (t : Int)) (hq : pc + 3 = q) (kt : x = 0 → G E A nL p l e R s m args below meth c Q k n ws t lv st) (kf : ¬ x = 0 → G E A nL p l e R s m args below meth c Q k n ws q lv st) : G E A nL p l e R s m args below meth c Q k n ws pc lv (.int x :: st) := by
  subst hq; exact fun H locs ls hP hD hS hl => lv_if_eq X.1 X.2.1 d ht (fun h => kt h H locs ls hP hD hS hl) (fun h => kf h H locs ls hP hD hS hl)
theorem g_if_ne (X : CX E A own cc nL p s m meth c) {off : Int} {x : Int32} (d : decode cc pc = .ok (.ifCond .ne off, 3)) (t q : Nat) (ht : (pc : Int) + off = (t : Int)) (hq : pc + 3 = q) (kt : ¬ x = 0 → G E A nL p l e R s m args below meth c Q k n ws t lv st) (kf : x = 0 → G E A nL p l e R s m args below meth c Q k n ws q lv st) : G E A nL p l e R s m args below meth c Q k n ws pc lv (.int x :: st) := by
  subst hq; exact fun H locs ls hP hD hS hl => lv_if_ne X.1 X.2.1 d ht (fun h => kt h H locs ls hP hD hS hl) (fun h => kf h H locs ls hP hD hS hl)
theorem g_if_lt (X : CX E A own cc nL p s m meth c) {off : Int} {x : Int32} (d : decode cc pc = .ok (.ifCond .lt off, 3)) (t q : Nat) (ht : (pc : Int) + off = (t : Int)) (hq : pc + 3 = q) (kt : x < 0 → G E A nL p l e R s m args below meth c Q k n ws t lv st) (kf : ¬ x < 0 → G E A nL p l e R s m args below meth c Q k n ws q lv st) : G E A nL p l e R s m args below meth c Q k n ws pc lv (.int x :: st) := by
  subst hq; exact fun H locs ls hP hD hS hl => lv_if_lt X.1 X.2.1 d ht (fun h => kt h H locs ls hP hD hS hl) (fun h => kf h H locs ls hP hD hS hl)
theorem g_if_ge (X : CX E A own cc nL p s m meth c) {off : Int} {x : Int32} (d : decode cc pc = .ok (.ifCond .ge off, 3)) (t q : Nat) (ht : (pc : Int) + off = (t : Int)) (hq : pc + 3 = q) (kt : 0 ≤ x → G E A nL p l e R s m args below meth c Q k n ws t lv st) (kf : ¬ 0 ≤ x → G E A nL p l e R s m args below meth c Q k n ws q lv st) : G E A nL p l e R s m args below meth c Q k n ws pc lv (.int x :: st) := by
  subst hq; exact fun H locs ls hP hD hS hl => lv_if_ge X.1 X.2.1 d ht (fun h => kt h H locs ls hP hD hS hl) (fun h => kf h H locs ls hP hD hS hl)
theorem g_if_gt (X : CX E A own cc nL p s m meth c) {off : Int} {x : Int32} (d : decode cc pc = .ok (.ifCond .gt off, 3)) (t q : Nat) (ht : (pc : Int) + off = (t : Int)) (hq : pc + 3 = q) (kt : 0 < x → G E A nL p l e R s m args below meth c Q k n ws t lv st) (kf : ¬ 0 < x → G E A nL p l e R s m args below meth c Q k n ws q lv st) : G E A nL p l e R s m args below meth c Q k n ws pc lv (.int x :: st) := by
  subst hq; exact fun H locs ls hP hD hS hl => lv_if_gt X.1 X.2.1 d ht (fun h => kt h H locs ls hP hD hS hl) (fun h => kf h H locs ls hP hD hS hl)
theorem g_if_le (X : CX E A own cc nL p s m meth c) {off : Int} {x : Int32} (d : decode cc pc = .ok (.ifCond .le off, 3)) (t q : Nat) (ht : (pc : Int) + off = (t : Int)) (hq : pc + 3 = q) (kt : x ≤ 0 → G E A nL p l e R s m args below meth c Q k n ws t lv st) (kf : ¬ x ≤ 0 → G E A nL p l e R s m args below meth c Q k n ws q lv st) : G E A nL p l e R s m args below meth c Q k n ws pc lv (.int x :: st) := by
  subst hq; exact fun H locs ls hP hD hS hl => lv_if_le X.1 X.2.1 d ht (fun h => kt h H locs ls hP hD hS hl) (fun h => kf h H locs ls hP hD hS hl)
theorem g_ic_eq (X : CX E A own cc nL p s m meth c) {off : Int} {x y : Int32} (d : decode cc pc = .ok (.if_icmp .eq off, 3)) (t q : Nat) (ht : (pc : Int) + off = (t : Int)) (hq : pc + 3 = q) (kt : x = y → G E A nL p l e R s m args below meth c Q k n ws t lv st) (kf : ¬ x = y → G E A nL p l e R s m args below meth c Q k n ws q lv st) : G E A nL p l e R s m args below meth c Q k n ws pc lv (.int y :: .int x :: st) := by
  subst hq; exact fun H locs ls hP hD hS hl => lv_icmp_eq X.1 X.2.1 d ht (fun h => kt h H locs ls hP hD hS hl) (fun h => kf h H locs ls hP hD hS hl)
theorem g_ic_ne (X : CX E A own cc nL p s m meth c) {off : Int} {x y : Int32} (d : decode cc pc = .ok (.if_icmp .ne off, 3)) (t q : Nat) (ht : (pc : Int) + off = (t : Int)) (hq : pc + 3 = q) (kt : ¬ x = y → G E A nL p l e R s m args below meth c Q k n ws t lv st) (kf : x = y → G E A nL p l e R s m args below meth c Q k n ws q lv st) : G E A nL p l e R s m args below meth c Q k n ws pc lv (.int y :: .int x :: st) := by
  subst hq; exact fun H locs ls hP hD hS hl => lv_icmp_ne X.1 X.2.1 d ht (fun h => kt h H locs ls hP hD hS hl) (fun h => kf h H locs ls hP hD hS hl)
theorem g_ic_lt (X : CX E A own cc nL p s m meth c) {off : Int} {x y : Int32} (d : decode cc pc = .ok (.if_icmp .lt off, 3)) (t q : Nat) (ht : (pc : Int) + off = (t : Int)) (hq : pc + 3 = q) (kt : x < y → G E A nL p l e R s m args below meth c Q k n ws t lv st) (kf : ¬ x < y → G E A nL p l e R s m args below meth c Q k n ws q lv st) : G E A nL p l e R s m args below meth c Q k n ws pc lv (.int y :: .int x :: st) := by
  subst hq; exact fun H locs ls hP hD hS hl => lv_icmp_lt X.1 X.2.1 d ht (fun h => kt h H locs ls hP hD hS hl) (fun h => kf h H locs ls hP hD hS hl)
theorem g_ic_ge (X : CX E A own cc nL p s m meth c) {off : Int} {x y : Int32} (d : decode cc pc = .ok (.if_icmp .ge off, 3)) (t q : Nat) (ht : (pc : Int) + off = (t : Int)) (hq : pc + 3 = q) (kt : y ≤ x → G E A nL p l e R s m args below meth c Q k n ws t lv st) (kf : ¬ y ≤ x → G E A nL p l e R s m args below meth c Q k n ws q lv st) : G E A nL p l e R s m args below meth c Q k n ws pc lv (.int y :: .int x :: st) := by
  subst hq; exact fun H locs ls hP hD hS hl => lv_icmp_ge X.1 X.2.1 d ht (fun h => kt h H locs ls hP hD hS hl) (fun h => kf h H locs ls hP hD hS hl)
theorem g_ic_gt (X : CX E A own cc nL p s m meth c) {off : Int} {x y : Int32} (d : decode cc pc = .ok (.if_icmp .gt off, 3)) (t q : Nat) (ht : (pc : Int) + off = (t : Int)) (hq : pc + 3 = q) (kt : y < x → G E A nL p l e R s m args below meth c Q k n ws t lv st) (kf : ¬ y < x → G E A nL p l e R s m args below meth c Q k n ws q lv st) : G E A nL p l e R s m args below meth c Q k n ws pc lv (.int y :: .int x :: st) := by
  subst hq; exact fun H locs ls hP hD hS hl => lv_icmp_gt X.1 X.2.1 d ht (fun h => kt h H locs ls hP hD hS hl) (fun h => kf h H locs ls hP hD hS hl)
theorem g_ic_le (X : CX E A own cc nL p s m meth c) {off : Int} {x y : Int32} (d : decode cc pc = .ok (.if_icmp .le off, 3)) (t q : Nat) (ht : (pc : Int) + off = (t : Int)) (hq : pc + 3 = q) (kt : x ≤ y → G E A nL p l e R s m args below meth c Q k n ws t lv st) (kf : ¬ x ≤ y → G E A nL p l e R s m args below meth c Q k n ws q lv st) : G E A nL p l e R s m args below meth c Q k n ws pc lv (.int y :: .int x :: st) := by
  subst hq; exact fun H locs ls hP hD hS hl => lv_icmp_le X.1 X.2.1 d ht (fun h => kt h H locs ls hP hD hS hl) (fun h => kf h H locs ls hP hD hS hl)
theorem g_ifb_eq (X : CX E A own cc nL p s m meth c) {off : Int} {x : Bool} (d : decode cc pc = .ok (.ifCond .eq off, 3)) (t q : Nat) (ht : (pc : Int) + off = (t : Int)) (hq : pc + 3 = q) (kt : x = false → G E A nL p l e R s m args below meth c Q k n ws t lv st) (kf : x = true → G E A nL p l e R s m args below meth c Q k n ws q lv st) : G E A nL p l e R s m args below meth c Q k n ws pc lv (.int (bi x) :: st) := by
  refine g_if_eq X d t q ht hq (fun h => kt ?_) (fun h => kf ?_) <;> cases x <;> first | rfl | (exact absurd h (by decide)) | (exact absurd rfl h)
theorem g_ifb_ne (X : CX E A own cc nL p s m meth c) {off : Int} {x : Bool} (d : decode cc pc = .ok (.ifCond .ne off, 3)) (t q : Nat) (ht : (pc : Int) + off = (t : Int)) (hq : pc + 3 = q) (kt : x = true → G E A nL p l e R s m args below meth c Q k n ws t lv st) (kf : x = false → G E A nL p l e R s m args below meth c Q k n ws q lv st) : G E A nL p l e R s m args below meth c Q k n ws pc lv (.int (bi x) :: st) := by
  refine g_if_ne X d t q ht hq (fun h => kt ?_) (fun h => kf ?_) <;> cases x <;> first | rfl | (exact absurd h (by decide)) | (exact absurd rfl h)
theorem g_tableIn (X : CX E A own cc nL p s m meth c) {dflt lo hi : Int} {offs : Array Int} {len : Nat} {x : Int32} (d : decode cc pc = .ok (.tableswitch dflt lo hi offs, len)) (off : Int) (h1 : ¬ x.toInt < lo) (h2 : ¬ hi < x.toInt) (ho : offs[(x.toInt - lo).toNat]? = some off) (t : Nat) (ht : (pc : Int) + off = (t : Int)) (kk : G E A nL p l e R s m args below meth c Q k n ws t lv st) : G E A nL p l e R s m args below meth c Q k n ws pc lv (.int x :: st) :=
  fun H locs ls hP hD hS hl => lv_tableIn X.1 X.2.1 d h1 h2 ho ht (kk H locs ls hP hD hS hl)
theorem g_tableOut (X : CX E A own cc nL p s m meth c) {dflt lo hi : Int} {offs : Array Int} {len : Nat} {x : Int32} (d : decode cc pc = .ok (.tableswitch dflt lo hi offs, len)) (h : x.toInt < lo ∨ hi < x.toInt) (t : Nat) (ht : (pc : Int) + dflt = (t : Int)) (kk : G E A nL p l e R s m args below meth c Q k n ws t lv st) : G E A nL p l e R s m args below meth c Q k n ws pc lv (.int x :: st) :=
  fun H locs ls hP hD hS hl => lv_tableOut X.1 X.2.1 d h ht (kk H locs ls hP hD hS hl)
theorem g_get (X : CX E A own cc nL p s m meth c) {idx ci fk N : Nat} {C : String} {T : u_T} (F : FL own idx ci fk C T N) (d : decode cc pc = .ok (.getfield idx, 3)) (q : Nat) (hq : pc + 3 = q) (q0 : Nat) {a : Nat} {fs : List Value} (he : ws[q0]? = some (a, .inr (ci, fs))) {v : Value} (hv : fs[fk]? = some v) (kk : G E A nL p l e R s m args below meth c Q k n ws q lv (v :: st)) : G E A nL p l e R s m args below meth c Q k n ws pc lv (.ref a :: st) := by
  subst hq
  exact fun H locs ls hP hD hS hl => va_get (D := E.1) (cl := kcl) X.1 X.2.1 (X.2.2.2.2.1.2.1.ts) F.2.2.1 X.2.2.2.1 X.2.2.2.2.1.1 hP q0 he F.1 fk F.2.1 (X.2.2.2.2.1.2.1.ts _ F.2.2.2) (fun _ h => h) hv d (kk H locs ls hP hD hS hl)
theorem g_put (X : CX E A own cc nL p s m meth c) {idx ci fk N : Nat} {C : String} {T : u_T} {ty0 : Nat → FieldType} (F : FL own idx ci fk C T N) (K : FK C T N ty0) (d : decode cc pc = .ok (.putfield idx, 3)) (q : Nat) (hq : pc + 3 = q) (hfin : (T fk).2.2.2 = false) (q0 : Nat) {a : Nat} {fs : List Value} (he : ws[q0]? = some (a, .inr (ci, fs))) {v : Value} (hn : narrow (ty0 fk) v = v) (hfit : fits (ty0 fk) v = true) (hl9 : fk < fs.length) (ws' : va_W) (hw : ws.set q0 (a, .inr (ci, fs.set fk v)) = ws') (kk : G E A nL p l e R s m args below meth c Q k n ws' q lv st) : G E A nL p l e R s m args below meth c Q k n ws pc lv (v :: .ref a :: st) := by
  subst hq; subst hw
  exact fun H locs ls hP hD hS hl => va_put (D := E.1) (cl := kcl) X.1 X.2.1 (X.2.2.2.2.1.2.1.ts) F.2.2.1 ty0 K.1 K.2 X.2.2.2.1 X.2.2.2.2.1.1 hP hD hS q0 he F.1 fk F.2.1 (X.2.2.2.2.1.2.1.ts _ F.2.2.2) (fun _ h => h) hfin (K.1 fk F.2.1) hn hfit hl9 d (fun H1 locs1 hP1 hD1 hS1 => kk H1 locs1 ls hP1 hD1 hS1 hl)
theorem g_putF (X : CX E A own cc nL p s m meth c) {idx ci fk N : Nat} {C : String} {T : u_T} {ty0 : Nat → FieldType} (F : FL own idx ci fk C T N) (K : FK C T N ty0) (d : decode cc pc = .ok (.putfield idx, 3)) (q : Nat) (hq : pc + 3 = q) (hfin : (T fk).2.2.2 = true) (hin : meth.name = "<init>") (hdecl : (T fk).1 = own) (q0 : Nat) {a : Nat} {fs : List Value} (he : ws[q0]? = some (a, .inr (ci, fs))) {v : Value} (hn : narrow (ty0 fk) v = v) (hfit : fits (ty0 fk) v = true) (hl9 : fk < fs.length) (ws' : va_W) (hw : ws.set q0 (a, .inr (ci, fs.set fk v)) = ws') (kk : G E A nL p l e R s m args below meth c Q k n ws' q lv st) : G E A nL p l e R s m args below meth c Q k n ws pc lv (v :: .ref a :: st) := by
  subst hq; subst hw
  exact fun H locs ls hP hD hS hl => va_putF (D := E.1) (cl := kcl) X.1 X.2.1 (X.2.2.2.2.1.2.1.ts) F.2.2.1 ty0 K.1 K.2 X.2.2.2.1 X.2.2.2.2.1.1 hP hD hS q0 he F.1 fk F.2.1 (X.2.2.2.2.1.2.1.ts _ F.2.2.2) (fun _ h => h) hfin hin hdecl (K.1 fk F.2.1) hn hfit hl9 d (fun H1 locs1 hP1 hD1 hS1 => kk H1 locs1 ls hP1 hD1 hS1 hl)
theorem g_iald (X : CX E A own cc nL p s m meth c) (d : decode cc pc = .ok (.iaload, 1)) (q : Nat) (hq : pc + 1 = q) (q0 : Nat) {a N : Nat} {f : Nat → Int32} (he : ws[q0]? = some (a, ia E N f)) {i : Int32} (hi : vp_in i N) (kk : G E A nL p l e R s m args below meth c Q k n ws q lv (.int (f i.toNatClampNeg) :: st)) : G E A nL p l e R s m args below meth c Q k n ws pc lv (.int i :: .ref a :: st) := by
  subst hq; exact fun H locs ls hP hD hS hl => va_iald X.1 X.2.1 X.2.2.2.2.1.1 hP q0 0 he rfl hi d (kk H locs ls hP hD hS hl)
theorem g_zald (X : CX E A own cc nL p s m meth c) (d : decode cc pc = .ok (.baload, 1)) (q : Nat) (hq : pc + 1 = q) (q0 : Nat) {a N : Nat} {f : Nat → Int32} (he : ws[q0]? = some (a, za E N f)) {i : Int32} (hi : vp_in i N) (kk : G E A nL p l e R s m args below meth c Q k n ws q lv (.int (f i.toNatClampNeg) :: st)) : G E A nL p l e R s m args below meth c Q k n ws pc lv (.int i :: .ref a :: st) := by
  subst hq; exact fun H locs ls hP hD hS hl => va_zald X.1 X.2.1 X.2.2.2.2.1.1 hP q0 1 he rfl hi d (kk H locs ls hP hD hS hl)
theorem g_lald (X : CX E A own cc nL p s m meth c) (d : decode cc pc = .ok (.laload, 1)) (q : Nat) (hq : pc + 1 = q) (q0 : Nat) {a N : Nat} {f : Nat → Int64} (he : ws[q0]? = some (a, la E N f)) {i : Int32} (hi : vp_in i N) (kk : G E A nL p l e R s m args below meth c Q k n ws q lv (.long (f i.toNatClampNeg) :: st)) : G E A nL p l e R s m args below meth c Q k n ws pc lv (.int i :: .ref a :: st) := by
  subst hq; exact fun H locs ls hP hD hS hl => va_lald X.1 X.2.1 X.2.2.2.2.1.1 hP q0 2 he rfl hi d (kk H locs ls hP hD hS hl)
theorem g_iast (X : CX E A own cc nL p s m meth c) (d : decode cc pc = .ok (.iastore, 1)) (q : Nat) (hq : pc + 1 = q) (q0 : Nat) {a N : Nat} {f : Nat → Int32} (he : ws[q0]? = some (a, ia E N f)) {i x : Int32} (hi : vp_in i N) (ws' : va_W) (hw : ws.set q0 (a, ia E N (upd f i.toNatClampNeg x)) = ws') (kk : G E A nL p l e R s m args below meth c Q k n ws' q lv st) : G E A nL p l e R s m args below meth c Q k n ws pc lv (.int x :: .int i :: .ref a :: st) := by
  subst hq; subst hw; exact fun H locs ls hP hD hS hl => va_iast X.1 X.2.1 X.2.2.2.2.1.1 hP hD hS q0 0 he rfl hi d (fun H1 locs1 hP1 hD1 hS1 => kk H1 locs1 ls hP1 hD1 hS1 hl)
theorem g_zast (X : CX E A own cc nL p s m meth c) (d : decode cc pc = .ok (.bastore, 1)) (q : Nat) (hq : pc + 1 = q) (q0 : Nat) {a N : Nat} {f : Nat → Int32} (he : ws[q0]? = some (a, za E N f)) {i x : Int32} (hi : vp_in i N) (hx : vp_nar .boolean x = x) (ws' : va_W) (hw : ws.set q0 (a, za E N (upd f i.toNatClampNeg x)) = ws') (kk : G E A nL p l e R s m args below meth c Q k n ws' q lv st) : G E A nL p l e R s m args below meth c Q k n ws pc lv (.int x :: .int i :: .ref a :: st) := by
  subst hq; subst hw
  exact fun H locs ls hP hD hS hl => va_zast X.1 X.2.1 X.2.2.2.2.1.1 hP hD hS q0 1 he rfl hi d (fun H1 locs1 hP1 hD1 hS1 => kk H1 locs1 ls (by rw [hx] at hP1; exact hP1) (by rw [hx] at hD1; exact hD1) hS1 hl)
theorem g_last (X : CX E A own cc nL p s m meth c) (d : decode cc pc = .ok (.lastore, 1)) (q : Nat) (hq : pc + 1 = q) (q0 : Nat) {a N : Nat} {f : Nat → Int64} (he : ws[q0]? = some (a, la E N f)) {i : Int32} {x : Int64} (hi : vp_in i N) (ws' : va_W) (hw : ws.set q0 (a, la E N (vp_updL f i.toNatClampNeg x)) = ws') (kk : G E A nL p l e R s m args below meth c Q k n ws' q lv st) : G E A nL p l e R s m args below meth c Q k n ws pc lv (.long x :: .int i :: .ref a :: st) := by
  subst hq; subst hw; exact fun H locs ls hP hD hS hl => va_last X.1 X.2.1 X.2.2.2.2.1.1 hP hD hS q0 2 he rfl hi d (fun H1 locs1 hP1 hD1 hS1 => kk H1 locs1 ls hP1 hD1 hS1 hl)
theorem g_alenI (X : CX E A own cc nL p s m meth c) (d : decode cc pc = .ok (.arraylength, 1)) (q : Nat) (hq : pc + 1 = q) (q0 : Nat) {a N : Nat} {f : Nat → Int32} (he : ws[q0]? = some (a, ia E N f)) (kk : G E A nL p l e R s m args below meth c Q k n ws q lv (.int (Int32.ofNat N) :: st)) : G E A nL p l e R s m args below meth c Q k n ws pc lv (.ref a :: st) := by
  subst hq; exact fun H locs ls hP hD hS hl => va_alen X.1 X.2.1 X.2.2.2.2.1.1 hP q0 0 he rfl rfl d (kk H locs ls hP hD hS hl)
theorem g_alenZ (X : CX E A own cc nL p s m meth c) (d : decode cc pc = .ok (.arraylength, 1)) (q : Nat) (hq : pc + 1 = q) (q0 : Nat) {a N : Nat} {f : Nat → Int32} (he : ws[q0]? = some (a, za E N f)) (kk : G E A nL p l e R s m args below meth c Q k n ws q lv (.int (Int32.ofNat N) :: st)) : G E A nL p l e R s m args below meth c Q k n ws pc lv (.ref a :: st) := by
  subst hq; exact fun H locs ls hP hD hS hl => va_alen X.1 X.2.1 X.2.2.2.2.1.1 hP q0 1 he rfl rfl d (kk H locs ls hP hD hS hl)
theorem g_max (X : CX E A own cc nL p s m meth c) {i : Nat} (hl9 : Cond.methodLink own i Lib.Math.max.name ∈ lw_ok) (d : decode cc pc = .ok (.invokestatic i, 3)) (q : Nat) (hq : pc + 3 = q) (hf : 1 ≤ R.frames) (hlo : (st.map fun v => v.category).sum + 13 ≤ R.locals) (hc : k ≤ R.cells ∧ n ≤ R.slots) {x y : Int32} (kk : G E A nL p l e R s m args below meth c Q k n ws q lv (.int (if x < y then y else x) :: st)) : G E A nL p l e R s m args below meth c Q k n ws pc lv (.int y :: .int x :: st) := by
  subst hq
  have ts := X.2.2.2.2.1.2.1.ts (args := args)
  exact fun H locs ls hP hD hS hl => va_mmax X.1 X.2.1 (by rw [X.2.2.1]; exact hl.1.symm) X.2.2.2.1 (ts _ hl9) (ts _ Ms_max) (ts _ Mi_math) (ts _ Mc_max) hf hlo hc.1 hc.2 d (kk H locs ls hP hD hS hl)
theorem g_min (X : CX E A own cc nL p s m meth c) {i : Nat} (hl9 : Cond.methodLink own i Lib.Math.min.name ∈ lw_ok) (d : decode cc pc = .ok (.invokestatic i, 3)) (q : Nat) (hq : pc + 3 = q) (hf : 1 ≤ R.frames) (hlo : (st.map fun v => v.category).sum + 13 ≤ R.locals) (hc : k ≤ R.cells ∧ n ≤ R.slots) {x y : Int32} (kk : G E A nL p l e R s m args below meth c Q k n ws q lv (.int (if y < x then y else x) :: st)) : G E A nL p l e R s m args below meth c Q k n ws pc lv (.int y :: .int x :: st) := by
  subst hq
  have ts := X.2.2.2.2.1.2.1.ts (args := args)
  exact fun H locs ls hP hD hS hl => va_mmin X.1 X.2.1 (by rw [X.2.2.1]; exact hl.1.symm) X.2.2.2.1 (ts _ hl9) (ts _ Ms_min) (ts _ Mi_math) (ts _ Mc_min) hf hlo hc.1 hc.2 d (kk H locs ls hP hD hS hl)
theorem g_copyi (X : CX E A own cc nL p s m meth c) {i : Nat} (hl9 : Cond.methodLink own i arraycopyName ∈ lw_ok) (d : decode cc pc = .ok (.invokestatic i, 3)) (q : Nat) (hq : pc + 3 = q) (hf : 1 ≤ R.frames) (hlo : (st.map fun v => v.category).sum + (nativeFrameWords "java/lang/System" "arraycopy" 5 + 11) ≤ R.locals) (q0 q1 : Nat) {a0 a1 N0 N1 : Nat} {f g : Nat → Int32} (he0 : ws[q0]? = some (a0, ia E N0 f)) (he1 : ws[q1]? = some (a1, ia E N1 g)) {w : Int32} (h3 : ¬ w < 0) (h4 : w.toNatClampNeg ≤ N0) (h5 : w.toNatClampNeg ≤ N1) (ws' : va_W) (hw : ws.set q1 (a1, ia E N1 (va_cpy f g 0 0 w.toNatClampNeg)) = ws') (kk : G E A nL p l e R s m args below meth c Q k n ws' q lv st) : G E A nL p l e R s m args below meth c Q k n ws pc lv (.int w :: .int 0 :: .ref a1 :: .int 0 :: .ref a0 :: st) := by
  subst hq; subst hw
  have ts := X.2.2.2.2.1.2.1.ts (args := args)
  exact fun H locs ls hP hD hS hl => va_copyi X.1 X.2.1 (by rw [X.2.2.1]; exact hl.1.symm) X.2.2.2.1 (ts _ hl9) (ts _ An_copy) (ts _ As_copy) (ts _ Ai_copy) X.2.2.2.2.1.1 hP hD hS q0 q1 0 0 (ty := .int) he0 he1 rfl rfl rfl (by decide) (by decide) h3 (by show 0 + w.toNatClampNeg ≤ N0; omega) (by show 0 + w.toNatClampNeg ≤ N1; omega) (fun _ _ => rfl) hf hlo d (fun H1 locs1 hP1 hD1 hS1 => kk H1 locs1 ls hP1 hD1 hS1 hl)
theorem g_objInit (X : CX E A own cc nL p s m meth c) {i : Nat} (hl9 : Cond.methodLink own i objectInit ∈ lw_ok) (d : decode cc pc = .ok (.invokespecial i, 3)) (q : Nat) (hq : pc + 3 = q) (hf : 1 ≤ R.frames) (hlo : (st.map fun v => v.category).sum + 12 ≤ R.locals) {a : Nat} (kk : G E A nL p l e R s m args below meth c Q k n ws q lv st) : G E A nL p l e R s m args below meth c Q k n ws pc lv (.ref a :: st) := by
  subst hq
  have ts := X.2.2.2.2.1.2.1.ts (args := args)
  exact fun H locs ls hP hD hS hl => W.objInit X.1 X.2.1 X.2.2.2.1 (ts _ hl9) (ts _ Oi_inst) (ts _ Oi_code) rfl (by rw [X.2.2.1]; exact hl.1) rfl d hf (by show 2 * 0 + _ + 12 ≤ _; omega) (kk H locs ls hP hD hS hl)
theorem g_new (X : CX E A own cc nL p s m meth c) {idx ci N : Nat} {C : String} {T : u_T} {ty0 : Nat → FieldType} (hcl : Cond.classLink own idx C ∈ lw_ok) (hin : Cond.instantiable C N ∈ lw_ok ∧ Cond.initialized C ∈ lw_ok) (hu : ∀ w ∈ u_ws C T N, w ∈ lw_ok) (K : FK C T N ty0) (hc : kcl[ci]? = some (C, T, N)) (d : decode cc pc = .ok (.new idx, 3)) (q : Nat) (hq : pc + 3 = q) (fs : List Value) (hfs : ∀ j, j < N → defaultValue (ty0 j) = vp_V fs j) (hk : k + 1 ≤ R.cells) (hn : n + N ≤ R.slots) (kk : ∀ a : Nat, G E A nL p l e R s m args below meth c Q (k + 1) (n + N) (ws ++ [(a, .inr (ci, fs))]) q lv (.ref a :: st)) : G E A nL p l e R s m args below meth c Q k n ws pc lv st := by
  subst hq
  have ts := X.2.2.2.2.1.2.1.ts (args := args)
  exact fun H locs ls hP hD hS hl => va_new X.1 X.2.1 ts hu ty0 K.1 X.2.2.2.1 (ts _ hcl) (ts _ hin.1) (ts _ hin.2) X.2.2.2.2.1.1 hP hD hS X.2.2.2.2.2.2 hc hfs hk hn d (fun a H1 hP1 hD1 hS1 => kk a H1 locs ls hP1 hD1 hS1 hl)
/-- the array classes are the tables' own -/
theorem arr_one {U : State} {D : va_G} {cl : List vw_C} {tys : List (ClassId × FieldType)} (h : va_K D cl tys U) {t0 t1 : Nat} {c0 c1 : ClassId} {ty : FieldType} (h0 : tys[t0]? = some (c0, ty)) (h1 : tys[t1]? = some (c1, ty)) (hp : refKind ty = false) : c0 = c1 := by
  have a := (h.2 t0 _ h0).2
  have b := (h.2 t1 _ h1).2
  cases ty <;> first
    | (exact Option.some.inj (Eq.trans (Eq.symm a) b))
    | (simp [refKind] at hp)
theorem g_newaI (X : CX E A own cc nL p s m meth c) (d : decode cc pc = .ok (.newarray .int, 2)) (q : Nat) (hq : pc + 2 = q) (N : Nat) {w : Int32} (hw : ¬ w < 0) (hN : w.toNatClampNeg = N) (hb : N * 4 ≤ 536870912) (hk : k + 1 ≤ R.cells) (hn : n + N ≤ R.slots) (kk : ∀ a : Nat, G E A nL p l e R s m args below meth c Q (k + 1) (n + N) (ws ++ [(a, ia E N (fun _ => 0))]) q lv (.ref a :: st)) : G E A nL p l e R s m args below meth c Q k n ws pc lv (.int w :: st) := by
  subst hq
  have ts := X.2.2.2.2.1.2.1.ts (args := args)
  refine fun H locs ls hP hD hS hl => va_newa (atype := .int) (ty := .int) (N' := N) (a0 := (N, .inl (fun _ => 0))) X.1 X.2.1 (ts _ Ar_int) rfl X.2.2.2.2.1.1 hP hD hS X.2.2.2.2.2.2 (fun _ => rfl) hw hN hb hk hn d (fun a cA H1 hK1 hP1 hD1 hS1 => ?_)
  have e1 : E.2 0 = cA := arr_one hK1 (t0 := 0) (t1 := 4) rfl rfl rfl
  subst e1
  exact kk a H1 locs ls hP1 hD1 hS1 hl
theorem g_newaZ (X : CX E A own cc nL p s m meth c) (d : decode cc pc = .ok (.newarray .boolean, 2)) (q : Nat) (hq : pc + 2 = q) (N : Nat) {w : Int32} (hw : ¬ w < 0) (hN : w.toNatClampNeg = N) (hb : N * 1 ≤ 536870912) (hk : k + 1 ≤ R.cells) (hn : n + N ≤ R.slots) (kk : ∀ a : Nat, G E A nL p l e R s m args below meth c Q (k + 1) (n + N) (ws ++ [(a, za E N (fun _ => 0))]) q lv (.ref a :: st)) : G E A nL p l e R s m args below meth c Q k n ws pc lv (.int w :: st) := by
  subst hq
  have ts := X.2.2.2.2.1.2.1.ts (args := args)
  refine fun H locs ls hP hD hS hl => va_newa (atype := .boolean) (ty := .boolean) (N' := N) (a0 := (N, .inl (fun _ => 0))) X.1 X.2.1 (ts _ Ar_boolean) rfl X.2.2.2.2.1.1 hP hD hS X.2.2.2.2.2.2 (fun _ => rfl) hw hN hb hk hn d (fun a cA H1 hK1 hP1 hD1 hS1 => ?_)
  have e1 : E.2 1 = cA := arr_one hK1 (t0 := 1) (t1 := 4) rfl rfl rfl
  subst e1
  exact kk a H1 locs ls hP1 hD1 hS1 hl
theorem g_widen {k' n' : Nat} (h1 : k ≤ k') (h2 : n ≤ n') (kk : G E A nL p l e R s m args below meth c Q k' n' ws pc lv st) : G E A nL p l e R s m args below meth c Q k n ws pc lv st :=
  fun H locs ls hP hD hS hl => W.widen h1 h2 (kk H locs ls hP hD hS hl)
/-- fewer locals, another list of the same world -/
theorem g_lsub (js : List Nat) (lv' : List (Nat × Value)) (h : lv_pick lv js = lv') (kk : G E A nL p l e R s m args below meth c Q k n ws pc lv' st) : G E A nL p l e R s m args below meth c Q k n ws pc lv st :=
  fun H locs ls hP hD hS hl => kk H locs ls hP hD hS (lv_sub hl js h)
end GR
end
section
/-! CONTRACTS over whole worlds -/
def KP (E : kE) (w0 : va_W) (sz : Nat) (As : List Value) : Array Value → State → Prop := va_Pc As (fun U => U.heap.size = sz ∧ va_P E.1 kcl w0 U.heap ∧ KX E U ∧ va_D (fun _ => True) w0)
def KQ (E : kE) (w0 : va_W) (sz : Nat) {S : Type} (o : S → Option Value) (w1 : S → va_W) : Array Value → State → Outcome → State → Prop := fun _ st oc t => ∃ u : S, oc = .returned (o u) ∧ va_P E.1 kcl (w1 u) t.heap ∧ va_D (va_A w0 sz) (w1 u) ∧ va_F (va_A w0 sz) st t
/-- the method, at these arguments in the world w0, returns 'o u' and leaves 'w1 u', for some u -/
def KN (E : kE) (l : Launch) (y : MethodName) (bytes : ByteArray) (maxL : Nat) (ret : Option FieldType) (fr lo mc ms : Nat) (As : List Value) (w0 : va_W) {S : Type} (o : S → Option Value) (w1 : S → va_W) : Prop :=
  ∀ sz : Nat, Met l y [Cond.code y bytes maxL ret] ({ frames := fr, cells := mc, slots := ms, locals := lo }) (KP E w0 sz As) (KQ E w0 sz o w1) mc ms (va_A w0 sz)
/-- .. with one answer and one world -/
abbrev KM (E : kE) (l : Launch) (y : MethodName) (bytes : ByteArray) (maxL : Nat) (ret : Option FieldType) (fr lo mc ms : Nat) (As : List Value) (w0 : va_W) (o : Option Value) (w1 : va_W) : Prop :=
  KN E l y bytes maxL ret fr lo mc ms As w0 (fun _ : Unit => o) (fun _ => w1)
theorem KP_blind {E : kE} {w0 : va_W} {sz : Nat} {As : List Value} : FrameBlind (KP E w0 sz As) := fun a U g mk h => ⟨h.1, h.2.1, h.2.2.1, KX.warm (U := U.calling g mk a) (State.WarmedH.refl U) h.2.2.2.1, h.2.2.2.2⟩
def ZQ (A : Nat → Prop) (U : State) : Prop := vx_Zq Bundle.tN "UNASSIGNED_STACK" Bundle.steD A U U.heap ∧ vx_Zq Bundle.tN "SUPPRESSED_SENTINEL" Bundle.listD A U U.heap
def KPT (E : kE) (w0 : va_W) (sz : Nat) (As : List Value) : Array Value → State → Prop := va_Pc As (fun U => U.heap.size = sz ∧ va_P E.1 kcl w0 U.heap ∧ KX E U ∧ va_D (fun _ => True) w0 ∧ ZQ (va_A w0 sz) U)
theorem KPT_blind {E : kE} {w0 : va_W} {sz : Nat} {As : List Value} : FrameBlind (KPT E w0 sz As) := fun a U g mk h => ⟨h.1, h.2.1, h.2.2.1, KX.warm (U := U.calling g mk a) (State.WarmedH.refl U) h.2.2.2.1, h.2.2.2.2.1, vx_Zq.moved (u := U) (U := U.calling g mk a) (Vm.Alike.refl U.vm) h.2.2.2.2.2.1, vx_Zq.moved (u := U) (U := U.calling g mk a) (Vm.Alike.refl U.vm) h.2.2.2.2.2.2⟩
abbrev OT : Type := Option Value ⊕ String
def KTQ (E : kE) (w0 : va_W) (sz : Nat) (o : OT) (w1 : va_W) : Array Value → State → Outcome → State → Prop := fun _ st oc t => (∃ v, o = .inl v ∧ oc = .returned v) ∧ va_P E.1 kcl w1 t.heap ∧ va_D (va_A w0 sz) w1 ∧ va_F (va_A w0 sz) st t
def KTX (E : kE) (w0 : va_W) (sz : Nat) (o : OT) (w1 : va_W) : String → State → State → Prop := fun cls st t => o = .inr cls ∧ va_P E.1 kcl w1 t.heap ∧ va_D (va_A w0 sz) w1 ∧ va_F (va_A w0 sz) st t
/-- the method returns or throws, as o says, and leaves w1 -/
def KT (E : kE) (l : Launch) (y : MethodName) (bytes : ByteArray) (maxL : Nat) (ret : Option FieldType) (fr lo mc ms : Nat) (As : List Value) (w0 : va_W) (o : OT) (w1 : va_W) : Prop :=
  ∀ sz : Nat, vx_Met l y [Cond.code y bytes maxL ret] ({ frames := fr, cells := mc, slots := ms, locals := lo }) (KPT E w0 sz As) (KTQ E w0 sz o w1) (KTX E w0 sz o w1) mc ms (va_A w0 sz)
/-- a method with a table of its own, that returns -/
def KW (E : kE) (l : Launch) (y : MethodName) (bytes : ByteArray) (maxL : Nat) (ret : Option FieldType) (hh : List (Nat × Nat × Nat × Nat)) (fr lo mc ms : Nat) (As : List Value) (w0 : va_W) (o : Option Value) (w1 : va_W) : Prop :=
  ∀ sz : Nat, Met l y [Cond.codeWith y bytes maxL ret hh] ({ frames := fr, cells := mc, slots := ms, locals := lo }) (KPT E w0 sz As) (KQ E w0 sz (fun _ : Unit => o) (fun _ => w1)) mc ms (va_A w0 sz)
theorem free_in {E : kE} {A : Nat → Prop} {own : String} {cc : ByteArray} {nL : Nat} {p : Program} {s : State} {m : MethodId} {meth : Method} {c : Code} (X : CX E A own cc nL p s m meth c) {ws : va_W} {H : Heap} {locs : List Loc} (hD : va_D A ws) (hS : va_S A s.heap H locs) : ∀ q, va_A ws H.size q → A q := by
  intro q h
  rcases h with ⟨k, e, h⟩ | h
  · exact hD.2 k (q, e) h
  · exact X.2.2.2.2.2.2 q (Nat.le_trans hS.1 h)
theorem ZQ.sub {A : Nat → Prop} {s U : State} {ws : va_W} {H : Heap} {locs : List Loc} (h : ZQ A s) (hU : U.heap = H) (hW : s.WarmedH U.vm) (hS : va_S A s.heap H locs) (hF : ∀ q, va_A ws H.size q → A q) : ZQ (va_A ws H.size) U := by
  subst hU
  exact ⟨(vx_Zq.moved hW.alike (h.1.kept hS.2.1)).narrow hF, (vx_Zq.moved hW.alike (h.2.kept hS.2.1)).narrow hF⟩
/-- a method's frame with an exception over it -/
def GX (E : kE) (A : Nat → Prop) (nL : Nat) (p : Program) (l : Launch) (e : Env) (R : Room) (s : State) (m : MethodId) (args : Array Value) (below : List Frame) (meth : Method) (c : Code) (Q : State → Prop) (k n : Nat) (ws : va_W) (cls : String) (pc : Nat) (lv : List (Nat × Value)) (st : List Value) : Prop :=
  ∀ (H : Heap) (locs : List Loc) (ls : Array Slot) (q : Nat) (ce : Cell), va_P E.1 kcl ws H → va_D A ws → va_S A s.heap H locs → lv_has ls nL lv → H[q]? = some ce → ce.vm = .none → s.vm.findClass cls = some ce.cls → vx_W p l e R s m args below meth c H locs k n Q (F0 m pc ls st) q
section KR
variable {E : kE} {A : Nat → Prop} {own : String} {cc : ByteArray} {nL : Nat} {p : Program} {l : Launch} {e : Env} {R : Room} {s : State} {m : MethodId} {args : Array Value} {below : List Frame} {meth : Method} {c : Code} {Q : State → Prop} {k n : Nat} {ws : va_W} {pc : Nat} {lv : List (Nat × Value)} {st st0 : List Value}
variable {idx n0 maxL fr lo mc ms : Nat} {y : MethodName} {bytes : ByteArray} {ret : Option FieldType} {As : List Value}
theorem one_word {w : Cond} (X : CX E A own cc nL p s m meth c) (h : w ∈ lw_ok) (hg : goodWord w = true) : ∀ w' ∈ [w], ∀ (a' : Array Value) (U : State), s.WarmedH U.vm → w'.before a' U = true := by
  intro w' hw' a' U hW
  rw [List.mem_singleton.mp hw']
  exact word_at hW (good_of_word hg) (X.2.2.2.2.1.2.1 _ h)
theorem call_W (X : CX E A own cc nL p s m meth c) (L : LkV own idx y bytes maxL ret n0) (hR : fr + 1 ≤ R.frames ∧ 8 + (maxL + 11) + lo ≤ R.locals) : CallW R s args own y.cls idx y bytes maxL ret [Cond.code y bytes maxL ret] ({ frames := fr, cells := mc, slots := ms, locals := lo }) mc ms n0 := by
  obtain ⟨⟨h1, h2, h3, h4, h5⟩, h6, h7, h8⟩ := L
  have ts := X.2.2.2.2.1.2.1.ts (args := args)
  refine ⟨⟨rfl, rfl, hR.1, hR.2, one_word X h5 rfl, List.mem_singleton.mpr rfl, ts _ h5, ts _ h4, ⟨h6, h7⟩, fun sig h => ?_, ts _ h1⟩, ts _ h2, ts _ h3⟩
  rw [h] at h8
  exact (Option.some.inj h8).symm
theorem call_S (X : CX E A own cc nL p s m meth c) (L : LkS own idx y bytes maxL ret n0) (hR : fr + 1 ≤ R.frames ∧ 8 + (maxL + 11) + lo ≤ R.locals) : CallB R s args own idx y bytes maxL ret [Cond.code y bytes maxL ret] ({ frames := fr, cells := mc, slots := ms, locals := lo }) mc ms n0 ∧ (Cond.static y).before args s = true := by
  obtain ⟨⟨h1, h2, h3, h4⟩, h6, h7, h8⟩ := L
  have ts := X.2.2.2.2.1.2.1.ts (args := args)
  refine ⟨⟨rfl, rfl, hR.1, hR.2, one_word X h4 rfl, List.mem_singleton.mpr rfl, ts _ h4, ts _ h3, ⟨h6, h7⟩, fun sig h => ?_, ts _ h1⟩, ts _ h2⟩
  rw [h] at h8
  exact (Option.some.inj h8).symm
theorem call_N {host : String} (X : CX E A own cc nL p s m meth c) (L : LkN own idx y host bytes maxL ret n0) (hR : fr + 1 ≤ R.frames ∧ 8 + (maxL + 11) + lo ≤ R.locals) : va_CN R s args own idx y host bytes maxL ret [Cond.code y bytes maxL ret] ({ frames := fr, cells := mc, slots := ms, locals := lo }) mc ms n0 ∧ (Cond.static y).before args s = true ∧ True := by
  obtain ⟨⟨h1, h2, h3, h4⟩, h6, h7, h8⟩ := L
  have ts := X.2.2.2.2.1.2.1.ts (args := args)
  refine ⟨⟨⟨rfl, rfl, hR.1, hR.2, one_word X h4 rfl, List.mem_singleton.mpr rfl⟩, ts _ h4, ts _ h3, ⟨h6, h7⟩, fun sig h => ?_, ts _ h1⟩, ts _ h2, trivial⟩
  rw [h] at h8
  exact (Option.some.inj h8).symm
theorem call_I (X : CX E A own cc nL p s m meth c) (L : LkI own idx y bytes maxL n0) (hi : y.name = "<init>") (hR : fr + 1 ≤ R.frames ∧ 8 + (maxL + 11) + lo ≤ R.locals) : CallB R s args own idx y bytes maxL none [Cond.code y bytes maxL none] ({ frames := fr, cells := mc, slots := ms, locals := lo }) mc ms n0 ∧ y.name = "<init>" ∧ (Cond.instanceMethod y).before args s = true := by
  obtain ⟨⟨h1, h2, h3, h4⟩, h6, h7, h8⟩ := L
  have ts := X.2.2.2.2.1.2.1.ts (args := args)
  refine ⟨⟨rfl, rfl, hR.1, hR.2, one_word X h4 rfl, List.mem_singleton.mpr rfl, ts _ h4, ts _ h3, ⟨h6, h7⟩, fun sig h => ?_, ts _ h1⟩, hi, ts _ h2⟩
  rw [h] at h8
  exact (Option.some.inj h8).symm
/-- what a call leaves -/
theorem g_go {S : Type} {o : S → Option Value} {w1 : S → va_W} {rest : List Value} {av : Array Value} {H : Heap} {locs : List Loc} {ls : Array Slot} (X : CX E A own cc nL p s m meth c) (hD : va_D A ws) (hS : va_S A s.heap H locs) (hl : lv_has ls nL lv)
    (hr : va_Run p l e R s m args below meth c H locs k n mc ms (F0 m pc ls st0) rest (KQ E ws H.size o w1 av) (va_A ws H.size)) (kk : ∀ u : S, G E A nL p l e R s m args below meth c Q (k + mc) (n + ms) (w1 u) (pc + 3) lv ((o u).toList ++ rest)) : W p l e R s m args below meth c H locs k n Q (F0 m pc ls st0) := by
  intro T hT Y
  obtain ⟨v, st₀, t, T', L9, h0, Y', hL, e1, e2, ⟨u, hv, hP1, hD1, hF⟩, go⟩ := hr T hT Y
  cases hv
  have hf := free_in X hD hS
  obtain ⟨k1, k2, k3⟩ := vx_keep h0 e1 hS (fun q _ h => hf q h) hf hL hF
  obtain ⟨t2, a1, b1⟩ := kk u T'.heap (locs ++ L9) ls (by rw [e1]; exact hP1) (hD1.weaken (fun _ q _ h => hf q.1 h)) k3 hl T' rfl Y'
  exact ⟨t2, go t2 a1, b1⟩
theorem recv_in (X : CX E A own cc nL p s m meth c) {C : String} {T : u_T} {N ci q0 b : Nat} {fs : List Value} {H : Heap} (hP : va_P E.1 kcl ws H) (he : ws[q0]? = some (b, .inr (ci, fs))) (hc : kcl[ci]? = some (C, T, N)) : ∃ cellB : Cell, H[b]? = some cellB ∧ cellB.vm.isStatics = false ∧ s.vm.findClass C = some cellB.cls := va_recv X.2.2.2.2.1.1 hP hc he
theorem g_callV {S : Type} {o : S → Option Value} {w1 : S → va_W} (X : CX E A own cc nL p s m meth c) {b : Nat} (L : LkV own idx y bytes maxL ret n0) (hM : KN E l y bytes maxL ret fr lo mc ms (.ref b :: As) ws o w1) (d : decode cc pc = .ok (.invokevirtual idx, 3)) (hn : As.length = n0) (q0 : Nat) {ci N : Nat} {T : u_T} {fs : List Value} (he : ws[q0]? = some (b, .inr (ci, fs))) (hc : kcl[ci]? = some (y.cls, T, N)) (hst : st0 = As.reverse ++ .ref b :: st) (hcat : (st.map fun v => v.category).sum ≤ 8) (hR : fr + 1 ≤ R.frames ∧ 8 + (maxL + 11) + lo ≤ R.locals) (hf : k + mc ≤ R.cells ∧ n + ms ≤ R.slots) (kk : ∀ u : S, G E A nL p l e R s m args below meth c Q (k + mc) (n + ms) (w1 u) (pc + 3) lv ((o u).toList ++ st)) : G E A nL p l e R s m args below meth c Q k n ws pc lv st0 :=
  fun H locs ls hP hD hS hl => g_go X hD hS hl (va_runV (own := own) (Ts := lw_ok) (nL := nL) (cc := cc) ⟨X.1, X.2.1, X.2.2.1, X.2.2.2.1, X.2.2.2.2.1.2.1.ts⟩ (hM H.size) (call_W X L hR) ⟨KP_blind, recv_in X hP he hc, fun U hU hW => ⟨rfl, by rw [hU], by rw [hU]; exact hP, KX.warm hW X.2.2.2.2.1, hD.weaken (fun _ _ _ _ => trivial)⟩⟩ rfl hn hl.1 hst (lv_room hcat) d hf) kk
theorem g_callS {S : Type} {o : S → Option Value} {w1 : S → va_W} (X : CX E A own cc nL p s m meth c) (L : LkS own idx y bytes maxL ret n0) (hM : KN E l y bytes maxL ret fr lo mc ms As ws o w1) (d : decode cc pc = .ok (.invokestatic idx, 3)) (hn : As.length = n0) (hst : st0 = As.reverse ++ st) (hcat : (st.map fun v => v.category).sum ≤ 8) (hR : fr + 1 ≤ R.frames ∧ 8 + (maxL + 11) + lo ≤ R.locals) (hf : k + mc ≤ R.cells ∧ n + ms ≤ R.slots) (kk : ∀ u : S, G E A nL p l e R s m args below meth c Q (k + mc) (n + ms) (w1 u) (pc + 3) lv ((o u).toList ++ st)) : G E A nL p l e R s m args below meth c Q k n ws pc lv st0 :=
  fun H locs ls hP hD hS hl => g_go X hD hS hl (va_runS (own := own) (Ts := lw_ok) (nL := nL) (cc := cc) ⟨X.1, X.2.1, X.2.2.1, X.2.2.2.1, X.2.2.2.2.1.2.1.ts⟩ (hM H.size) (call_S X L hR) ⟨KP_blind, fun U hU hW => ⟨rfl, by rw [hU], by rw [hU]; exact hP, KX.warm hW X.2.2.2.2.1, hD.weaken (fun _ _ _ _ => trivial)⟩⟩ rfl hn hl.1 hst (lv_room hcat) d hf) kk
theorem g_callN {S : Type} {o : S → Option Value} {w1 : S → va_W} {host : String} (X : CX E A own cc nL p s m meth c) (L : LkN own idx y host bytes maxL ret n0) (hM : KN E l y bytes maxL ret fr lo mc ms As ws o w1) (d : decode cc pc = .ok (.invokestatic idx, 3)) (hn : As.length = n0) (hst : st0 = As.reverse ++ st) (hcat : (st.map fun v => v.category).sum ≤ 8) (hR : fr + 1 ≤ R.frames ∧ 8 + (maxL + 11) + lo ≤ R.locals) (hf : k + mc ≤ R.cells ∧ n + ms ≤ R.slots) (kk : ∀ u : S, G E A nL p l e R s m args below meth c Q (k + mc) (n + ms) (w1 u) (pc + 3) lv ((o u).toList ++ st)) : G E A nL p l e R s m args below meth c Q k n ws pc lv st0 :=
  fun H locs ls hP hD hS hl => g_go X hD hS hl (va_runSN (own := own) (Ts := lw_ok) (nL := nL) (cc := cc) ⟨X.1, X.2.1, X.2.2.1, X.2.2.2.1, X.2.2.2.2.1.2.1.ts⟩ (hM H.size) (call_N X L hR) ⟨KP_blind, fun U hU hW => ⟨rfl, by rw [hU], by rw [hU]; exact hP, KX.warm hW X.2.2.2.2.1, hD.weaken (fun _ _ _ _ => trivial)⟩⟩ rfl hn hl.1 hst (lv_room hcat) d hf) kk
theorem g_callI {S : Type} {o : S → Option Value} {w1 : S → va_W} (X : CX E A own cc nL p s m meth c) {b : Nat} (L : LkI own idx y bytes maxL n0) (hi : y.name = "<init>") (hM : KN E l y bytes maxL none fr lo mc ms (.ref b :: As) ws o w1) (d : decode cc pc = .ok (.invokespecial idx, 3)) (hn : As.length = n0) (hst : st0 = As.reverse ++ .ref b :: st) (hcat : (st.map fun v => v.category).sum ≤ 8) (hR : fr + 1 ≤ R.frames ∧ 8 + (maxL + 11) + lo ≤ R.locals) (hf : k + mc ≤ R.cells ∧ n + ms ≤ R.slots) (kk : ∀ u : S, G E A nL p l e R s m args below meth c Q (k + mc) (n + ms) (w1 u) (pc + 3) lv ((o u).toList ++ st)) : G E A nL p l e R s m args below meth c Q k n ws pc lv st0 :=
  fun H locs ls hP hD hS hl => g_go X hD hS hl (va_runI (own := own) (Ts := lw_ok) (nL := nL) (cc := cc) ⟨X.1, X.2.1, X.2.2.1, X.2.2.2.1, X.2.2.2.2.1.2.1.ts⟩ (hM H.size) (call_I X L hi hR) ⟨KP_blind, fun U hU hW => ⟨rfl, by rw [hU], by rw [hU]; exact hP, KX.warm hW X.2.2.2.2.1, hD.weaken (fun _ _ _ _ => trivial)⟩⟩ rfl hn hl.1 hst (lv_room hcat) d hf) kk
/-- a method's start -/
theorem K_start {S : Type} {o : S → Option Value} {w1 : S → va_W} {w0 : va_W} (hy : plainName y.cls = true) (hown : y.cls = own) (lv0 : List (Nat × Value)) (hlv : lv_args 0 As = lv0) (hmx : (lg_sl As).length ≤ maxL)
    (body : ∀ (p : Program) (e : Env) (s : State) (m : MethodId) (below : List Frame) (meth : Method) (c : Code), CX E (va_A w0 s.heap.size) own bytes maxL p s m meth c → meth.sig.returnType = ret → meth.name = y.name → G E (va_A w0 s.heap.size) maxL p l e ({ frames := fr, cells := mc, slots := ms, locals := lo }) s m As.toArray below meth c (MQ below (KQ E w0 s.heap.size o w1) As.toArray s mc ms (va_A w0 s.heap.size)) 0 0 w0 0 lv0 []) :
    KN E l y bytes maxL ret fr lo mc ms As w0 o w1 := by
  intro sz
  refine Met.ofW (cc := bytes) (maxL := maxL) (ret := ret) hy rfl ?_
  intro p e s m args below meth c s₁ B hml hv
  obtain ⟨rfl, hsz, hP, hK, hD0⟩ := hv
  subst hsz
  have X : CX E (va_A w0 s.heap.size) own bytes maxL p s m meth c := ⟨B.exec, B.bytes, hml, hown ▸ findClass_of_methodNamed B.named, hK, B.notSynchronized, fun q h => Or.inr h⟩
  have hl := lv_entry As (n := maxL) hmx
  rw [lg_entry_eq]
  rw [hlv] at hl
  exact body p e s m below meth c X B.returns (name_of_methodNamed B.named B.method).1 s.heap [] _ hP hD0.self va_S.rf hl
theorem g_iret {S : Type} {o : S → Option Value} {w1 : S → va_W} {w0 : va_W} (X : CX E (va_A w0 s.heap.size) own cc nL p s m meth c) (hr : meth.sig.returnType = some .int) {v : Int32} (d : decode cc pc = .ok (.ireturn, 1)) (u : S) (ho : o u = some (.int v)) (hw : ws = w1 u) : G E (va_A w0 s.heap.size) nL p l e R s m args below meth c (MQ below (KQ E w0 s.heap.size o w1) args s k n (va_A w0 s.heap.size)) k n ws pc lv [.int v] := by
  subst hw
  exact fun H locs ls hP hD hS hl => W.iret X.1 X.2.1 hr (fun t ht hW => ⟨u, by rw [ho], by rw [ht]; exact hP, hD, hS.F ht⟩) hS.2.2 d X.2.2.2.2.2.1
theorem g_zret {S : Type} {o : S → Option Value} {w1 : S → va_W} {w0 : va_W} (X : CX E (va_A w0 s.heap.size) own cc nL p s m meth c) (hr : meth.sig.returnType = some .boolean) {v : Int32} (d : decode cc pc = .ok (.ireturn, 1)) (b : Bool) (hb : v = bi b) (u : S) (ho : o u = some (.int v)) (hw : ws = w1 u) : G E (va_A w0 s.heap.size) nL p l e R s m args below meth c (MQ below (KQ E w0 s.heap.size o w1) args s k n (va_A w0 s.heap.size)) k n ws pc lv [.int v] := by
  subst hw
  exact fun H locs ls hP hD hS hl => W.zret X.1 X.2.1 hr (by rw [hb]; exact bi_nar b) (fun t ht hW => ⟨u, by rw [ho], by rw [ht]; exact hP, hD, hS.F ht⟩) hS.2.2 d X.2.2.2.2.2.1
theorem g_vret {S : Type} {o : S → Option Value} {w1 : S → va_W} {w0 : va_W} (X : CX E (va_A w0 s.heap.size) own cc nL p s m meth c) (hr : meth.sig.returnType = none) (d : decode cc pc = .ok (.return_, 1)) (u : S) (ho : o u = none) (hw : ws = w1 u) : G E (va_A w0 s.heap.size) nL p l e R s m args below meth c (MQ below (KQ E w0 s.heap.size o w1) args s k n (va_A w0 s.heap.size)) k n ws pc lv [] := by
  subst hw
  exact fun H locs ls hP hD hS hl => W.vret X.1 X.2.1 hr (fun t ht hW => ⟨u, by rw [ho], by rw [ht]; exact hP, hD, hS.F ht⟩) hS.2.2 d X.2.2.2.2.2.1
-- methods that may throw
theorem KT_start {o : OT} {w0 w1 : va_W} (hy : plainName y.cls = true) (hown : y.cls = own) (lv0 : List (Nat × Value)) (hlv : lv_args 0 As = lv0) (hmx : (lg_sl As).length ≤ maxL)
    (body : ∀ (p : Program) (e : Env) (s : State) (m : MethodId) (below : List Frame) (meth : Method) (c : Code), CX E (va_A w0 s.heap.size) own bytes maxL p s m meth c → meth.sig.returnType = ret → (∀ x ∈ c.exceptionTable.toList, False) → ZQ (va_A w0 s.heap.size) s → G E (va_A w0 s.heap.size) maxL p l e ({ frames := fr, cells := mc, slots := ms, locals := lo }) s m As.toArray below meth c (vx_MQ below (KTQ E w0 s.heap.size o w1) (KTX E w0 s.heap.size o w1) As.toArray s mc ms (va_A w0 s.heap.size)) 0 0 w0 0 lv0 []) :
    KT E l y bytes maxL ret fr lo mc ms As w0 o w1 := by
  intro sz
  refine vx_ofW (cc := bytes) (maxL := maxL) (ret := ret) hy rfl ?_
  intro p e s m args below meth c s₁ B hml hT hv
  obtain ⟨rfl, hsz, hP, hK, hD0, hZ⟩ := hv
  subst hsz
  have X : CX E (va_A w0 s.heap.size) own bytes maxL p s m meth c := ⟨B.exec, B.bytes, hml, hown ▸ findClass_of_methodNamed B.named, hK, B.notSynchronized, fun q h => Or.inr h⟩
  have hl := lv_entry As (n := maxL) hmx
  rw [lg_entry_eq]
  rw [hlv] at hl
  exact body p e s m below meth c X B.returns hT hZ s.heap [] _ hP hD0.self va_S.rf hl
theorem g_iretT {o : OT} {w0 w1 : va_W} (X : CX E (va_A w0 s.heap.size) own cc nL p s m meth c) (hr : meth.sig.returnType = some .int) {v : Int32} (d : decode cc pc = .ok (.ireturn, 1)) (hk : k ≤ mc) (hn : n ≤ ms) (ho : o = .inl (some (.int v))) (hw : ws = w1) : G E (va_A w0 s.heap.size) nL p l e R s m args below meth c (vx_MQ below (KTQ E w0 s.heap.size o w1) (KTX E w0 s.heap.size o w1) args s mc ms (va_A w0 s.heap.size)) k n ws pc lv [.int v] := by
  subst hw
  exact fun H locs ls hP hD hS hl => W.widen hk hn (vx_ret (W.iret X.1 X.2.1 hr (fun t ht hW => ⟨⟨_, ho, rfl⟩, by rw [ht]; exact hP, hD, hS.F ht⟩) hS.2.2 d X.2.2.2.2.2.1))
theorem g_zretT {o : OT} {w0 w1 : va_W} (X : CX E (va_A w0 s.heap.size) own cc nL p s m meth c) (hr : meth.sig.returnType = some .boolean) {v : Int32} (d : decode cc pc = .ok (.ireturn, 1)) (b : Bool) (hb : v = bi b) (hk : k ≤ mc) (hn : n ≤ ms) (ho : o = .inl (some (.int v))) (hw : ws = w1) : G E (va_A w0 s.heap.size) nL p l e R s m args below meth c (vx_MQ below (KTQ E w0 s.heap.size o w1) (KTX E w0 s.heap.size o w1) args s mc ms (va_A w0 s.heap.size)) k n ws pc lv [.int v] := by
  subst hw
  exact fun H locs ls hP hD hS hl => W.widen hk hn (vx_ret (W.zret X.1 X.2.1 hr (by rw [hb]; exact bi_nar b) (fun t ht hW => ⟨⟨_, ho, rfl⟩, by rw [ht]; exact hP, hD, hS.F ht⟩) hS.2.2 d X.2.2.2.2.2.1))
theorem g_vretT {o : OT} {w0 w1 : va_W} (X : CX E (va_A w0 s.heap.size) own cc nL p s m meth c) (hr : meth.sig.returnType = none) (d : decode cc pc = .ok (.return_, 1)) (hk : k ≤ mc) (hn : n ≤ ms) (ho : o = .inl none) (hw : ws = w1) : G E (va_A w0 s.heap.size) nL p l e R s m args below meth c (vx_MQ below (KTQ E w0 s.heap.size o w1) (KTX E w0 s.heap.size o w1) args s mc ms (va_A w0 s.heap.size)) k n ws pc lv [] := by
  subst hw
  exact fun H locs ls hP hD hS hl => W.widen hk hn (vx_ret (W.vret X.1 X.2.1 hr (fun t ht hW => ⟨⟨_, ho, rfl⟩, by rw [ht]; exact hP, hD, hS.F ht⟩) hS.2.2 d X.2.2.2.2.2.1))
/-- the words of a throw -/
def LkX (own : String) (ik ic : Nat) (cls : String) (names : List String) : Prop :=
  (Cond.classLink own ik cls ∈ lw_ok ∧ Cond.initialized cls ∈ lw_ok) ∧ (∀ w ∈ vx_atS own ic cls names, w ∈ lw_ok) ∧ (∀ w ∈ Cond.classLink own ik cls :: Cond.initialized cls :: vx_atS own ic cls names, vx_ot w = true) ∧ Bundle.fit cls = true ∧ ∀ n ∈ names, Bundle.fit n = true
theorem g_throwS {o : OT} {w0 w1 : va_W} (X : CX E (va_A w0 s.heap.size) RX6 cc nL p s m meth c) (hlt : l.stackTraces = false) (hT : ∀ x ∈ c.exceptionTable.toList, False) (hZ : ZQ (va_A w0 s.heap.size) s) {ik ic is : Nat} {cls text : String} {names : List String} (B : LkX RX6 ik ic cls names) (hs : (is, text) ∈ strs)
    (d0 : decode cc pc = .ok (.new ik, 3)) (d3 : decode cc (pc + 3) = .ok (.dup, 1)) (d4 : decode cc (pc + 4) = .ok (.ldc is, 2)) (d6 : decode cc (pc + 6) = .ok (.invokespecial ic, 3)) (d9 : decode cc (pc + 9) = .ok (.athrow, 1))
    (hRf : names.length + 3 < R.frames) (hRl : (st.map fun v => v.category).sum + (13 * (names.length + 1) + 43) ≤ R.locals) (hc : k + 1 ≤ R.cells ∧ n + 6 ≤ R.slots) (hk : k + 1 ≤ mc) (hn : n + 6 ≤ ms) (ho : o = .inr cls) (hw : ws = w1) : G E (va_A w0 s.heap.size) nL p l e R s m args below meth c (vx_MQ below (KTQ E w0 s.heap.size o w1) (KTX E w0 s.heap.size o w1) args s mc ms (va_A w0 s.heap.size)) k n ws pc lv st := by
  subst hw
  obtain ⟨⟨b1, b2⟩, b3, b4, b5, b6⟩ := B
  obtain ⟨sa, hsa⟩ := X.2.2.2.2.1.2.2 _ hs
  have ts := X.2.2.2.2.1.2.1.ts (args := args)
  exact fun H locs ls hP hD hS hl => vx_throwS X.1 X.2.1 hlt X.2.2.2.1 b5 b6 (ts _ b1) (ts _ b2) hsa (fun w hw => ts _ (b3 w hw)) b4 hZ.1 hZ.2 hS (by rw [X.2.2.1]; exact hl.1) d0 d3 d4 d6 d9 (fun x hx => (hT x hx).elim) hRf hRl hc.1 hc.2 X.2.2.2.2.2.1
    (fun t _ hsz hkq => ⟨ho, hP.kept (fun k q hq => hkq q.1 ((hP k q hq).lt)), hD, ⟨Nat.le_trans hS.1 hsz, fun q h1 h2 => (hkq q (Nat.lt_of_lt_of_le h1 hS.1)).trans (hS.2.1 q h1 h2)⟩⟩) hS.2.2 hk hn
theorem g_throwSW {o : OT} {w0 w1 : va_W} (X : CX E (va_A w0 s.heap.size) RX6 cc nL p s m meth c) (hlt : l.stackTraces = false) (hT : ∀ x ∈ c.exceptionTable.toList, False) (hZ : ZQ (va_A w0 s.heap.size) s) {ik ic is : Nat} {cls text : String} {names : List String} (B : LkX RX6 ik ic cls names) (hs : (is, text) ∈ strs)
    (d0 : decode cc pc = .ok (.new ik, 3)) (d3 : decode cc (pc + 3) = .ok (.dup, 1)) (d4 : decode cc (pc + 4) = .ok (.ldc_w is, 3)) (d7 : decode cc (pc + 7) = .ok (.invokespecial ic, 3)) (d10 : decode cc (pc + 10) = .ok (.athrow, 1))
    (hRf : names.length + 3 < R.frames) (hRl : (st.map fun v => v.category).sum + (13 * (names.length + 1) + 43) ≤ R.locals) (hc : k + 1 ≤ R.cells ∧ n + 6 ≤ R.slots) (hk : k + 1 ≤ mc) (hn : n + 6 ≤ ms) (ho : o = .inr cls) (hw : ws = w1) : G E (va_A w0 s.heap.size) nL p l e R s m args below meth c (vx_MQ below (KTQ E w0 s.heap.size o w1) (KTX E w0 s.heap.size o w1) args s mc ms (va_A w0 s.heap.size)) k n ws pc lv st := by
  subst hw
  obtain ⟨⟨b1, b2⟩, b3, b4, b5, b6⟩ := B
  obtain ⟨sa, hsa⟩ := X.2.2.2.2.1.2.2 _ hs
  have ts := X.2.2.2.2.1.2.1.ts (args := args)
  exact fun H locs ls hP hD hS hl => vx_throwSW X.1 X.2.1 hlt X.2.2.2.1 b5 b6 (ts _ b1) (ts _ b2) hsa (fun w hw => ts _ (b3 w hw)) b4 hZ.1 hZ.2 hS (by rw [X.2.2.1]; exact hl.1) d0 d3 d4 d7 d10 (fun x hx => (hT x hx).elim) hRf hRl hc.1 hc.2 X.2.2.2.2.2.1
    (fun t _ hsz hkq => ⟨ho, hP.kept (fun k q hq => hkq q.1 ((hP k q hq).lt)), hD, ⟨Nat.le_trans hS.1 hsz, fun q h1 h2 => (hkq q (Nat.lt_of_lt_of_le h1 hS.1)).trans (hS.2.1 q h1 h2)⟩⟩) hS.2.2 hk hn
/-- what a call leaves that may throw -/
theorem g_goT {o : OT} {w1 : va_W} {rest : List Value} {av : Array Value} {H : Heap} {locs : List Loc} {ls : Array Slot} (X : CX E A own cc nL p s m meth c) (hD : va_D A ws) (hS : va_S A s.heap H locs) (hl : lv_has ls nL lv)
    (hr : vx_Run p l e R s m args below meth c H locs k n mc ms (F0 m pc ls st0) rest (KTQ E ws H.size o w1 av) (KTX E ws H.size o w1) (va_A ws H.size)) (kk : ∀ v, o = .inl v → G E A nL p l e R s m args below meth c Q (k + mc) (n + ms) w1 (pc + 3) lv (v.toList ++ rest)) (kx : ∀ cls, o = .inr cls → GX E A nL p l e R s m args below meth c Q (k + mc) (n + ms) w1 cls pc lv rest) : W p l e R s m args below meth c H locs k n Q (F0 m pc ls st0) := by
  intro T hT Y
  have hf := free_in X hD hS
  rcases hr T hT Y with ⟨v, st₀, t, T', L9, h0, Y', hL, e1, e2, ⟨⟨v2, hv2, hv⟩, hP1, hD1, hF⟩, go⟩ | ⟨q, st₀, t, T', L9, cls, ce, h0, Y', hL, e1, e2, ⟨hv, hP1, hD1, hF⟩, hce, hcv, hcl, go⟩
  · cases hv
    obtain ⟨k1, k2, k3⟩ := vx_keep h0 e1 hS (fun q _ h => hf q h) hf hL hF
    obtain ⟨t2, a1, b1⟩ := kk v hv2 T'.heap (locs ++ L9) ls (by rw [e1]; exact hP1) (hD1.weaken (fun _ q _ h => hf q.1 h)) k3 hl T' rfl Y'
    exact ⟨t2, go t2 a1, b1⟩
  · obtain ⟨k1, k2, k3⟩ := vx_keep h0 e1 hS (fun q _ h => hf q h) hf hL hF
    obtain ⟨t2, a1, b1⟩ := kx cls hv T'.heap (locs ++ L9) ls q ce (by rw [e1]; exact hP1) (hD1.weaken (fun _ q _ h => hf q.1 h)) k3 hl (by rw [e1]; exact hce) hcv hcl T' rfl Y'
    exact ⟨t2, go.trans a1, b1⟩
theorem g_callVT {o : OT} {w1 : va_W} (X : CX E A own cc nL p s m meth c) (hZ : ZQ A s) {b : Nat} (L : LkV own idx y bytes maxL ret n0) (hM : KT E l y bytes maxL ret fr lo mc ms (.ref b :: As) ws o w1) (d : decode cc pc = .ok (.invokevirtual idx, 3)) (hn : As.length = n0) (q0 : Nat) {ci N : Nat} {T : u_T} {fs : List Value} (he : ws[q0]? = some (b, .inr (ci, fs))) (hc : kcl[ci]? = some (y.cls, T, N)) (hst : st0 = As.reverse ++ .ref b :: st) (hcat : (st.map fun v => v.category).sum ≤ 8) (hR : fr + 1 ≤ R.frames ∧ 8 + (maxL + 11) + lo ≤ R.locals) (hf : k + mc ≤ R.cells ∧ n + ms ≤ R.slots) (kk : ∀ v, o = .inl v → G E A nL p l e R s m args below meth c Q (k + mc) (n + ms) w1 (pc + 3) lv (v.toList ++ st)) (kx : ∀ cls, o = .inr cls → GX E A nL p l e R s m args below meth c Q (k + mc) (n + ms) w1 cls pc lv st) : G E A nL p l e R s m args below meth c Q k n ws pc lv st0 :=
  fun H locs ls hP hD hS hl => g_goT X hD hS hl (vx_runV (own := own) (Ts := lw_ok) (nL := nL) (cc := cc) ⟨X.1, X.2.1, X.2.2.1, X.2.2.2.1, X.2.2.2.2.1.2.1.ts⟩ (hM H.size) (call_W X L hR) ⟨KPT_blind, recv_in X hP he hc, fun U hU hW => ⟨rfl, by rw [hU], by rw [hU]; exact hP, KX.warm hW X.2.2.2.2.1, hD.weaken (fun _ _ _ _ => trivial), hZ.sub hU hW hS (free_in X hD hS)⟩⟩ rfl hn hl.1 hst (lv_room hcat) d hf) kk kx
theorem g_callST {o : OT} {w1 : va_W} (X : CX E A own cc nL p s m meth c) (hZ : ZQ A s) (L : LkS own idx y bytes maxL ret n0) (hM : KT E l y bytes maxL ret fr lo mc ms As ws o w1) (d : decode cc pc = .ok (.invokestatic idx, 3)) (hn : As.length = n0) (hst : st0 = As.reverse ++ st) (hcat : (st.map fun v => v.category).sum ≤ 8) (hR : fr + 1 ≤ R.frames ∧ 8 + (maxL + 11) + lo ≤ R.locals) (hf : k + mc ≤ R.cells ∧ n + ms ≤ R.slots) (kk : ∀ v, o = .inl v → G E A nL p l e R s m args below meth c Q (k + mc) (n + ms) w1 (pc + 3) lv (v.toList ++ st)) (kx : ∀ cls, o = .inr cls → GX E A nL p l e R s m args below meth c Q (k + mc) (n + ms) w1 cls pc lv st) : G E A nL p l e R s m args below meth c Q k n ws pc lv st0 :=
  fun H locs ls hP hD hS hl => g_goT X hD hS hl (vx_runS (own := own) (Ts := lw_ok) (nL := nL) (cc := cc) ⟨X.1, X.2.1, X.2.2.1, X.2.2.2.1, X.2.2.2.2.1.2.1.ts⟩ (hM H.size) (call_S X L hR) ⟨KPT_blind, fun U hU hW => ⟨rfl, by rw [hU], by rw [hU]; exact hP, KX.warm hW X.2.2.2.2.1, hD.weaken (fun _ _ _ _ => trivial), hZ.sub hU hW hS (free_in X hD hS)⟩⟩ rfl hn hl.1 hst (lv_room hcat) d hf) kk kx
/-- it goes on to the caller -/
theorem gx_out {o : OT} {w0 w1 : va_W} (X : CX E (va_A w0 s.heap.size) own cc nL p s m meth c) (hT : ∀ x ∈ c.exceptionTable.toList, False) {cls : String} (hk : k ≤ mc) (hn : n ≤ ms) (ho : o = .inr cls) (hw : ws = w1) : GX E (va_A w0 s.heap.size) nL p l e R s m args below meth c (vx_MQ below (KTQ E w0 s.heap.size o w1) (KTX E w0 s.heap.size o w1) args s mc ms (va_A w0 s.heap.size)) k n ws cls pc lv st := by
  subst hw
  exact fun H locs ls q ce hP hD hS hl hce hcv hcl => vx_out (fun x hx => (hT x hx).elim) X.2.2.2.2.2.1 hce hcv hcl (fun t ht _ => ⟨ho, by rw [ht]; exact hP, hD, hS.F ht⟩) hS.2.2 hk hn
end KR
end
section
/-! THE WORLDS: a state of the class, and of the reference, is a function: which row, which place -/
abbrev Sto : Type := Nat → Nat → Int32
def put (σ : Sto) (k : Nat) (f : Nat → Int32) : Sto := fun j => if j = k then f else σ j
def sc (v : Int32) : Nat → Int32 := fun _ => v
abbrev ix (x : Int32) : Nat := x.toNatClampNeg
theorem put_s {σ : Sto} {k : Nat} {f : Nat → Int32} : put σ k f k = f := if_pos rfl
theorem put_n {σ : Sto} {k j : Nat} {f : Nat → Int32} (h : j ≠ k) : put σ k f j = σ j := if_neg h
/-- the class: LeaseServer, its log, its two states. Rows: 0 count, 1 group, 2 first, 3 last, 4 lease, 5 excluded, 6 stranger, 7 state, 8 holder, 9 end, 10 freed, 11 client's state, 12 address, 13 last leased, 14 renewal, 15 rebinding, 16 time, 17 hold, 18 quarantine, 19 conflicts, 20 direct, 21 relay; the saved ones 22 behind; 44 ring, 45 size, 46 next, 47 something saved -/
def WC (E : kE) (a : Nat → Nat) (σ : Sto) (wr : va_W) : va_W :=
  (a 0, ob 6 [.ref (a 1), .ref (a 3), .ref (a 25), .int (σ 47 0)]) ::
  (a 1, ob 2 [.ref (a 2), .int (σ 45 0), .int (σ 46 0)]) ::
  (a 2, ia E 30 (σ 44)) ::
  (a 3, ob 5 [.ref (a 4), .ref (a 9), .ref (a 16), .ref (a 22), .ref (a 1)]) ::
  (a 4, ob 3 [.int (σ 0 0), .ref (a 5), .ref (a 6), .ref (a 7), .ref (a 8)]) ::
  (a 5, ia E 5 (σ 1)) :: (a 6, ia E 5 (σ 2)) :: (a 7, ia E 5 (σ 3)) :: (a 8, ia E 5 (σ 4)) ::
  (a 9, ob 0 [.ref (a 10), .ref (a 11), .ref (a 12), .ref (a 13), .ref (a 14), .ref (a 15)]) ::
  (a 10, za E 100 (σ 5)) :: (a 11, za E 100 (σ 6)) :: (a 12, ia E 100 (σ 7)) :: (a 13, ia E 100 (σ 8)) :: (a 14, ia E 100 (σ 9)) :: (a 15, ia E 100 (σ 10)) ::
  (a 16, ob 1 [.ref (a 17), .ref (a 18), .ref (a 19), .ref (a 20), .ref (a 21)]) ::
  (a 17, ia E 20 (σ 11)) :: (a 18, ia E 20 (σ 12)) :: (a 19, ia E 20 (σ 13)) :: (a 20, ia E 20 (σ 14)) :: (a 21, ia E 20 (σ 15)) ::
  (a 22, ob 4 [.int (σ 16 0), .int (σ 17 0), .int (σ 18 0), .int (σ 19 0), .ref (a 23), .ref (a 24)]) ::
  (a 23, za E 3 (σ 20)) :: (a 24, za E 3 (σ 21)) ::
  (a 25, ob 5 [.ref (a 26), .ref (a 31), .ref (a 38), .ref (a 44), .ref (a 1)]) ::
  (a 26, ob 3 [.int (σ 22 0), .ref (a 27), .ref (a 28), .ref (a 29), .ref (a 30)]) ::
  (a 27, ia E 5 (σ 23)) :: (a 28, ia E 5 (σ 24)) :: (a 29, ia E 5 (σ 25)) :: (a 30, ia E 5 (σ 26)) ::
  (a 31, ob 0 [.ref (a 32), .ref (a 33), .ref (a 34), .ref (a 35), .ref (a 36), .ref (a 37)]) ::
  (a 32, za E 100 (σ 27)) :: (a 33, za E 100 (σ 28)) :: (a 34, ia E 100 (σ 29)) :: (a 35, ia E 100 (σ 30)) :: (a 36, ia E 100 (σ 31)) :: (a 37, ia E 100 (σ 32)) ::
  (a 38, ob 1 [.ref (a 39), .ref (a 40), .ref (a 41), .ref (a 42), .ref (a 43)]) ::
  (a 39, ia E 20 (σ 33)) :: (a 40, ia E 20 (σ 34)) :: (a 41, ia E 20 (σ 35)) :: (a 42, ia E 20 (σ 36)) :: (a 43, ia E 20 (σ 37)) ::
  (a 44, ob 4 [.int (σ 38 0), .int (σ 39 0), .int (σ 40 0), .int (σ 41 0), .ref (a 45), .ref (a 46)]) ::
  (a 45, za E 3 (σ 42)) :: (a 46, za E 3 (σ 43)) :: wr
/-- the reference. Rows: 0 thrown, 1 now, 2 saved, 3 is saved, 4 log, 5 logged -/
def WM (E : kE) (b : Nat → Nat) (μ : Sto) (wr : va_W) : va_W :=
  (b 0, ob 7 [.int (μ 0 0), .ref (b 1), .ref (b 2), .int (μ 3 0), .ref (b 3), .int (μ 5 0)]) ::
  (b 1, ia E 731 (μ 1)) :: (b 2, ia E 731 (μ 2)) :: (b 3, ia E 30 (μ 4)) :: wr
abbrev WW (E : kE) (b : Nat → Nat) (μ : Sto) (a : Nat → Nat) (σ : Sto) (wr : va_W) : va_W := WM E b μ (WC E a σ wr)
-- calls with one answer, one world: the next pc, the cells and slots, the world and the stack are named
section KD
variable {E : kE} {A : Nat → Prop} {own : String} {cc : ByteArray} {nL : Nat} {p : Program} {l : Launch} {e : Env} {R : Room} {s : State} {m : MethodId} {args : Array Value} {below : List Frame} {meth : Method} {c : Code} {Q : State → Prop} {k n : Nat} {ws : va_W} {pc : Nat} {lv : List (Nat × Value)} {st st0 : List Value}
variable {idx n0 maxL fr lo : Nat} {y : MethodName} {bytes : ByteArray} {ret : Option FieldType} {As : List Value}
theorem c_V {o : Option Value} {w1 : va_W} (X : CX E A own cc nL p s m meth c) {b : Nat} (L : LkV own idx y bytes maxL ret n0) (hM : KM E l y bytes maxL ret fr lo 0 0 (.ref b :: As) ws o w1) (d : decode cc pc = .ok (.invokevirtual idx, 3)) (hn : As.length = n0) (q0 : Nat) {ci N : Nat} {T : u_T} {fs : List Value} (he : ws[q0]? = some (b, .inr (ci, fs))) (hc : kcl[ci]? = some (y.cls, T, N)) (hst : st0 = As.reverse ++ .ref b :: st) (hcat : (st.map fun v => v.category).sum ≤ 8) (hR : fr + 1 ≤ R.frames ∧ 8 + (maxL + 11) + lo ≤ R.locals) (hf : k ≤ R.cells ∧ n ≤ R.slots) (q : Nat) (hq : pc + 3 = q) (st' : List Value) (hs : o.toList ++ st = st') (kk : G E A nL p l e R s m args below meth c Q k n w1 q lv st') : G E A nL p l e R s m args below meth c Q k n ws pc lv st0 := by
  subst hq; subst hs
  exact g_callV X L hM d hn q0 he hc hst hcat hR hf (fun _ => kk)
theorem c_S {o : Option Value} {w1 : va_W} (X : CX E A own cc nL p s m meth c) (L : LkS own idx y bytes maxL ret n0) (hM : KM E l y bytes maxL ret fr lo 0 0 As ws o w1) (d : decode cc pc = .ok (.invokestatic idx, 3)) (hn : As.length = n0) (hst : st0 = As.reverse ++ st) (hcat : (st.map fun v => v.category).sum ≤ 8) (hR : fr + 1 ≤ R.frames ∧ 8 + (maxL + 11) + lo ≤ R.locals) (hf : k ≤ R.cells ∧ n ≤ R.slots) (q : Nat) (hq : pc + 3 = q) (st' : List Value) (hs : o.toList ++ st = st') (kk : G E A nL p l e R s m args below meth c Q k n w1 q lv st') : G E A nL p l e R s m args below meth c Q k n ws pc lv st0 := by
  subst hq; subst hs
  exact g_callS X L hM d hn hst hcat hR hf (fun _ => kk)
theorem c_N {o : Option Value} {w1 : va_W} {host : String} (X : CX E A own cc nL p s m meth c) (L : LkN own idx y host bytes maxL ret n0) (hM : KM E l y bytes maxL ret fr lo 0 0 As ws o w1) (d : decode cc pc = .ok (.invokestatic idx, 3)) (hn : As.length = n0) (hst : st0 = As.reverse ++ st) (hcat : (st.map fun v => v.category).sum ≤ 8) (hR : fr + 1 ≤ R.frames ∧ 8 + (maxL + 11) + lo ≤ R.locals) (hf : k ≤ R.cells ∧ n ≤ R.slots) (q : Nat) (hq : pc + 3 = q) (st' : List Value) (hs : o.toList ++ st = st') (kk : G E A nL p l e R s m args below meth c Q k n w1 q lv st') : G E A nL p l e R s m args below meth c Q k n ws pc lv st0 := by
  subst hq; subst hs
  exact g_callN X L hM d hn hst hcat hR hf (fun _ => kk)
end KD
-- indices
def inA (x : Int32) : Bool := !decide (x < 0) && !decide (100 ≤ x)
def inC (x : Int32) : Bool := !decide (x < 0) && !decide (20 ≤ x)
def inG (x : Int32) : Bool := !decide (x < 0) && !decide (3 ≤ x)
theorem vin_of {x N : Int32} {n : Nat} (hn : n < 2 ^ 31) (hN : N = nI n) (h0 : ¬ x < 0) (h1 : ¬ N ≤ x) : vp_in x n := by
  subst hN
  rcases pk_ix x hn with h | h | ⟨j, hj, rfl⟩
  · exact absurd h h0
  · exact absurd h h1
  · exact vp_in_nI hj hn
theorem vA {x : Int32} (h : inA x = true) : vp_in x 100 := by
  simp [inA] at h
  exact vin_of (N := 100) (by decide) rfl (by simpa using h.1) (by simpa using h.2)
theorem vC {x : Int32} (h : inC x = true) : vp_in x 20 := by
  simp [inC] at h
  exact vin_of (N := 20) (by decide) rfl (by simpa using h.1) (by simpa using h.2)
theorem vG {x : Int32} (h : inG x = true) : vp_in x 3 := by
  simp [inG] at h
  exact vin_of (N := 3) (by decide) rfl (by simpa using h.1) (by simpa using h.2)
section KI9
variable {E : kE} {A : Nat → Prop} {own : String} {cc : ByteArray} {nL : Nat} {p : Program} {l : Launch} {e : Env} {R : Room} {s : State} {m : MethodId} {args : Array Value} {below : List Frame} {meth : Method} {c : Code} {Q : State → Prop} {k n : Nat} {ws : va_W} {pc : Nat} {lv : List (Nat × Value)} {st : List Value}
theorem g_ialdN (X : CX E A own cc nL p s m meth c) (d : decode cc pc = .ok (.iaload, 1)) (q : Nat) (hq : pc + 1 = q) (q0 : Nat) {a N j : Nat} {f : Nat → Int32} (he : ws[q0]? = some (a, ia E N f)) (hj : j < N) (hN : N < 2 ^ 31) (kk : G E A nL p l e R s m args below meth c Q k n ws q lv (.int (f j) :: st)) : G E A nL p l e R s m args below meth c Q k n ws pc lv (.int (nI j) :: .ref a :: st) := by
  refine g_iald X d q hq q0 he (vp_in_nI hj hN) ?_
  rw [nI_clamp (Nat.lt_trans hj hN)]
  exact kk
theorem g_zaldN (X : CX E A own cc nL p s m meth c) (d : decode cc pc = .ok (.baload, 1)) (q : Nat) (hq : pc + 1 = q) (q0 : Nat) {a N j : Nat} {f : Nat → Int32} (he : ws[q0]? = some (a, za E N f)) (hj : j < N) (hN : N < 2 ^ 31) (kk : G E A nL p l e R s m args below meth c Q k n ws q lv (.int (f j) :: st)) : G E A nL p l e R s m args below meth c Q k n ws pc lv (.int (nI j) :: .ref a :: st) := by
  refine g_zald X d q hq q0 he (vp_in_nI hj hN) ?_
  rw [nI_clamp (Nat.lt_trans hj hN)]
  exact kk
theorem g_iastN (X : CX E A own cc nL p s m meth c) (d : decode cc pc = .ok (.iastore, 1)) (q : Nat) (hq : pc + 1 = q) (q0 : Nat) {a N j : Nat} {f : Nat → Int32} (he : ws[q0]? = some (a, ia E N f)) {x : Int32} (hj : j < N) (hN : N < 2 ^ 31) (ws' : va_W) (hw : ws.set q0 (a, ia E N (upd f j x)) = ws') (kk : G E A nL p l e R s m args below meth c Q k n ws' q lv st) : G E A nL p l e R s m args below meth c Q k n ws pc lv (.int x :: .int (nI j) :: .ref a :: st) :=
  g_iast X d q hq q0 he (vp_in_nI hj hN) ws' (by rw [nI_clamp (Nat.lt_trans hj hN)]; exact hw) kk
theorem g_zastN (X : CX E A own cc nL p s m meth c) (d : decode cc pc = .ok (.bastore, 1)) (q : Nat) (hq : pc + 1 = q) (q0 : Nat) {a N j : Nat} {f : Nat → Int32} (he : ws[q0]? = some (a, za E N f)) {x : Int32} (hj : j < N) (hN : N < 2 ^ 31) (hx : vp_nar .boolean x = x) (ws' : va_W) (hw : ws.set q0 (a, za E N (upd f j x)) = ws') (kk : G E A nL p l e R s m args below meth c Q k n ws' q lv st) : G E A nL p l e R s m args below meth c Q k n ws pc lv (.int x :: .int (nI j) :: .ref a :: st) :=
  g_zast X d q hq q0 he (vp_in_nI hj hN) hx ws' (by rw [nI_clamp (Nat.lt_trans hj hN)]; exact hw) kk
end KI9
end
section
/-! LEAVES of the class: what each answers, and what it leaves -/
def eventK (t k x : Int32) : Int32 := (t * 5 + k) * 100 + x
def isP (σ : Sto) (p : Int32) : Bool := !decide (p < 0) && !decide (σ 0 0 ≤ p) && !decide (5 ≤ p)
/-- the pool that has x, from pool i on, r pools at most -/
def numL (σ : Sto) (x : Int32) : Nat → Nat → Int32
  | _, 0 => -1
  | i, r + 1 => if σ 0 0 ≤ nI i then -1 else if x < σ 2 i then numL σ x (i + 1) r else if σ 3 i < x then numL σ x (i + 1) r else nI i
def numAt (σ : Sto) (x : Int32) : Int32 := numL σ x 0 5
def grpAt (σ : Sto) (x : Int32) : Int32 := bif isP σ (numAt σ x) then σ 1 (ix (numAt σ x)) else -1
def leaAt (σ : Sto) (x : Int32) : Int32 := bif isP σ (numAt σ x) then σ 4 (ix (numAt σ x)) else 0
theorem vP {σ : Sto} {x : Int32} (h : isP σ x = true) : vp_in x 5 := by
  simp [isP] at h
  exact vin_of (N := 5) (by decide) rfl (by simpa using h.1.1) (by simpa using h.2)
/-- has a pool one of the addresses from x to y -/
def ovL (σ : Sto) (x y : Int32) : Nat → Nat → Bool
  | _, 0 => false
  | i, r + 1 => if σ 0 0 ≤ nI i then false else if y < σ 2 i then ovL σ x y (i + 1) r else if σ 3 i < x then ovL σ x y (i + 1) r else true
def frees (σ : Sto) (x t : Int32) : Sto := bif inA x then put (put (put σ 7 (upd (σ 7) (ix x) 0)) 8 (upd (σ 8) (ix x) (-1))) 10 (upd (σ 10) (ix x) t) else σ
def helds (σ : Sto) (x v c t : Int32) : Sto := bif inA x then put (put (put σ 7 (upd (σ 7) (ix x) v)) 8 (upd (σ 8) (ix x) c)) 9 (upd (σ 9) (ix x) t) else σ
def isOff (σ : Sto) (x : Int32) : Bool := inA x && decide (σ 7 (ix x) = 0) && decide (σ 5 (ix x) = 0)
def isFL (σ : Sto) (x y : Int32) : Bool := inA x && inA y && (decide (σ 10 (ix x) < σ 10 (ix y)) || (decide (σ 10 (ix x) = σ 10 (ix y)) && !decide (y ≤ x)))
def isBd (σ : Sto) (x : Int32) : Bool := inC x && !decide (σ 11 (ix x) < 2)
def idles (σ : Sto) (x : Int32) : Sto := bif inC x then put (put σ 11 (upd (σ 11) (ix x) 0)) 12 (upd (σ 12) (ix x) (-1)) else σ
def offs (σ : Sto) (x y : Int32) : Sto := bif inC x then put (put σ 11 (upd (σ 11) (ix x) 1)) 12 (upd (σ 12) (ix x) y) else σ
def leases (σ : Sto) (x t d : Int32) : Sto := bif inC x then put (put (put (put σ 11 (upd (σ 11) (ix x) 2)) 13 (upd (σ 13) (ix x) (σ 12 (ix x)))) 14 (upd (σ 14) (ix x) (t + d / 2))) 15 (upd (σ 15) (ix x) (t + d * 7 / 8)) else σ
theorem tsw_4 (x : Int32) : x = 0 ∨ x = 1 ∨ x = 2 ∨ x = 3 ∨ (x.toInt < 0 ∨ 3 < x.toInt) := by
  by_cases h : x.toInt < 0 ∨ 3 < x.toInt
  · exact Or.inr (Or.inr (Or.inr (Or.inr h)))
  · have h1 : 0 ≤ x.toInt := by omega
    have h2 : x.toInt ≤ 3 := by omega
    rcases (show x.toInt = 0 ∨ x.toInt = 1 ∨ x.toInt = 2 ∨ x.toInt = 3 by omega) with e | e | e | e
    · exact Or.inl (Int32.toInt_inj.mp e)
    · exact Or.inr (Or.inl (Int32.toInt_inj.mp e))
    · exact Or.inr (Or.inr (Or.inl (Int32.toInt_inj.mp e)))
    · exact Or.inr (Or.inr (Or.inr (Or.inl (Int32.toInt_inj.mp e))))
set_option maxHeartbeats 4000000 in
set_option maxRecDepth 100000 in
theorem k_X6_isAddress (E : kE) (l : Launch) (wr : va_W) (b : Nat → Nat) (μ : Sto) (a : Nat → Nat) (σ : Sto) (x : Int32) : KM E l yX6_isAddress cX6_isAddress 1 (some .boolean) 0 0 0 0 [.int x] (WW E b μ a σ wr) (some (.int (bi (inA x)))) (WW E b μ a σ wr) := by
  refine K_start (own := RX6) (by decide +kernel) rfl [(0, .int x)] rfl (Nat.le_of_ble_eq_true rfl) (fun p e s m below meth c X hr hin => ?_)
  refine g_iload_n X dX6_isAddress_0 1 rfl rfl ?_
  refine g_if_lt X dX6_isAddress_1 14 4 rfl rfl (fun c1 => ?_) (fun c1 => ?_)
  · skip
    refine g_iconst X dX6_isAddress_14 15 rfl (v := 0) rfl ?_
    exact g_zret X hr dX6_isAddress_15 false rfl () (by simp [inA, bi, c1]) rfl
  · skip
    refine g_iload_n X dX6_isAddress_4 5 rfl rfl ?_
    refine g_bipush X dX6_isAddress_5 7 rfl (v := 100) rfl ?_
    refine g_ic_ge X dX6_isAddress_7 14 10 rfl rfl (fun c2 => ?_) (fun c2 => ?_)
    · skip
      refine g_iconst X dX6_isAddress_14 15 rfl (v := 0) rfl ?_
      exact g_zret X hr dX6_isAddress_15 false rfl () (by simp [inA, bi, c1, c2]) rfl
    · skip
      refine g_iconst X dX6_isAddress_10 11 rfl (v := 1) rfl ?_
      refine g_goto X dX6_isAddress_11 15 rfl ?_
      exact g_zret X hr dX6_isAddress_15 true rfl () (by simp [inA, bi, c1, c2]) rfl

set_option maxHeartbeats 4000000 in
set_option maxRecDepth 100000 in
theorem k_X6_isClient (E : kE) (l : Launch) (wr : va_W) (b : Nat → Nat) (μ : Sto) (a : Nat → Nat) (σ : Sto) (x : Int32) : KM E l yX6_isClient cX6_isClient 1 (some .boolean) 0 0 0 0 [.int x] (WW E b μ a σ wr) (some (.int (bi (inC x)))) (WW E b μ a σ wr) := by
  refine K_start (own := RX6) (by decide +kernel) rfl [(0, .int x)] rfl (Nat.le_of_ble_eq_true rfl) (fun p e s m below meth c X hr hin => ?_)
  refine g_iload_n X dX6_isClient_0 1 rfl rfl ?_
  refine g_if_lt X dX6_isClient_1 14 4 rfl rfl (fun c1 => ?_) (fun c1 => ?_)
  · skip
    refine g_iconst X dX6_isClient_14 15 rfl (v := 0) rfl ?_
    exact g_zret X hr dX6_isClient_15 false rfl () (by simp [inC, bi, c1]) rfl
  · skip
    refine g_iload_n X dX6_isClient_4 5 rfl rfl ?_
    refine g_bipush X dX6_isClient_5 7 rfl (v := 20) rfl ?_
    refine g_ic_ge X dX6_isClient_7 14 10 rfl rfl (fun c2 => ?_) (fun c2 => ?_)
    · skip
      refine g_iconst X dX6_isClient_14 15 rfl (v := 0) rfl ?_
      exact g_zret X hr dX6_isClient_15 false rfl () (by simp [inC, bi, c1, c2]) rfl
    · skip
      refine g_iconst X dX6_isClient_10 11 rfl (v := 1) rfl ?_
      refine g_goto X dX6_isClient_11 15 rfl ?_
      exact g_zret X hr dX6_isClient_15 true rfl () (by simp [inC, bi, c1, c2]) rfl

set_option maxHeartbeats 4000000 in
set_option maxRecDepth 100000 in
theorem k_X6_isGroup (E : kE) (l : Launch) (wr : va_W) (b : Nat → Nat) (μ : Sto) (a : Nat → Nat) (σ : Sto) (x : Int32) : KM E l yX6_isGroup cX6_isGroup 1 (some .boolean) 0 0 0 0 [.int x] (WW E b μ a σ wr) (some (.int (bi (inG x)))) (WW E b μ a σ wr) := by
  refine K_start (own := RX6) (by decide +kernel) rfl [(0, .int x)] rfl (Nat.le_of_ble_eq_true rfl) (fun p e s m below meth c X hr hin => ?_)
  refine g_iload_n X dX6_isGroup_0 1 rfl rfl ?_
  refine g_if_lt X dX6_isGroup_1 13 4 rfl rfl (fun c1 => ?_) (fun c1 => ?_)
  · skip
    refine g_iconst X dX6_isGroup_13 14 rfl (v := 0) rfl ?_
    exact g_zret X hr dX6_isGroup_14 false rfl () (by simp [inG, bi, c1]) rfl
  · skip
    refine g_iload_n X dX6_isGroup_4 5 rfl rfl ?_
    refine g_iconst X dX6_isGroup_5 6 rfl (v := 3) rfl ?_
    refine g_ic_ge X dX6_isGroup_6 13 9 rfl rfl (fun c2 => ?_) (fun c2 => ?_)
    · skip
      refine g_iconst X dX6_isGroup_13 14 rfl (v := 0) rfl ?_
      exact g_zret X hr dX6_isGroup_14 false rfl () (by simp [inG, bi, c1, c2]) rfl
    · skip
      refine g_iconst X dX6_isGroup_9 10 rfl (v := 1) rfl ?_
      refine g_goto X dX6_isGroup_10 14 rfl ?_
      exact g_zret X hr dX6_isGroup_14 true rfl () (by simp [inG, bi, c1, c2]) rfl

set_option maxHeartbeats 4000000 in
set_option maxRecDepth 100000 in
theorem k_X6_eventAt (E : kE) (l : Launch) (wr : va_W) (b : Nat → Nat) (μ : Sto) (a : Nat → Nat) (σ : Sto) (t : Int32) (q : Int32) (x : Int32) : KM E l yX6_eventAt cX6_eventAt 3 (some .int) 0 0 0 0 [.int t, .int q, .int x] (WW E b μ a σ wr) (some (.int (eventK t q x))) (WW E b μ a σ wr) := by
  refine K_start (own := RX6) (by decide +kernel) rfl [(0, .int t), (1, .int q), (2, .int x)] rfl (Nat.le_of_ble_eq_true rfl) (fun p e s m below meth c X hr hin => ?_)
  refine g_iload_n X dX6_eventAt_0 1 rfl rfl ?_
  refine g_iconst X dX6_eventAt_1 2 rfl (v := 5) rfl ?_
  refine g_imul X dX6_eventAt_2 3 rfl ?_
  refine g_iload_n X dX6_eventAt_3 4 rfl rfl ?_
  refine g_iadd X dX6_eventAt_4 5 rfl ?_
  refine g_bipush X dX6_eventAt_5 7 rfl (v := 100) rfl ?_
  refine g_imul X dX6_eventAt_7 8 rfl ?_
  refine g_iload_n X dX6_eventAt_8 9 rfl rfl ?_
  refine g_iadd X dX6_eventAt_9 10 rfl ?_
  exact g_iret X hr dX6_eventAt_10 () rfl rfl

set_option maxHeartbeats 4000000 in
set_option maxRecDepth 100000 in
theorem k_X6_timeOfEvent (E : kE) (l : Launch) (wr : va_W) (b : Nat → Nat) (μ : Sto) (a : Nat → Nat) (σ : Sto) (x : Int32) : KM E l yX6_timeOfEvent cX6_timeOfEvent 1 (some .int) 0 0 0 0 [.int x] (WW E b μ a σ wr) (some (.int (x / 100 / 5))) (WW E b μ a σ wr) := by
  refine K_start (own := RX6) (by decide +kernel) rfl [(0, .int x)] rfl (Nat.le_of_ble_eq_true rfl) (fun p e s m below meth c X hr hin => ?_)
  refine g_iload_n X dX6_timeOfEvent_0 1 rfl rfl ?_
  refine g_bipush X dX6_timeOfEvent_1 3 rfl (v := 100) rfl ?_
  refine g_idiv X dX6_timeOfEvent_3 4 rfl (by decide) ?_
  refine g_iconst X dX6_timeOfEvent_4 5 rfl (v := 5) rfl ?_
  refine g_idiv X dX6_timeOfEvent_5 6 rfl (by decide) ?_
  exact g_iret X hr dX6_timeOfEvent_6 () rfl rfl

set_option maxHeartbeats 4000000 in
set_option maxRecDepth 100000 in
theorem k_X6_kindOfEvent (E : kE) (l : Launch) (wr : va_W) (b : Nat → Nat) (μ : Sto) (a : Nat → Nat) (σ : Sto) (x : Int32) : KM E l yX6_kindOfEvent cX6_kindOfEvent 1 (some .int) 0 0 0 0 [.int x] (WW E b μ a σ wr) (some (.int (x / 100 - x / 100 / 5 * 5))) (WW E b μ a σ wr) := by
  refine K_start (own := RX6) (by decide +kernel) rfl [(0, .int x)] rfl (Nat.le_of_ble_eq_true rfl) (fun p e s m below meth c X hr hin => ?_)
  refine g_iload_n X dX6_kindOfEvent_0 1 rfl rfl ?_
  refine g_bipush X dX6_kindOfEvent_1 3 rfl (v := 100) rfl ?_
  refine g_idiv X dX6_kindOfEvent_3 4 rfl (by decide) ?_
  refine g_iconst X dX6_kindOfEvent_4 5 rfl (v := 5) rfl ?_
  refine g_irem X dX6_kindOfEvent_5 6 rfl (by decide) ?_
  exact g_iret X hr dX6_kindOfEvent_6 () rfl rfl

set_option maxHeartbeats 4000000 in
set_option maxRecDepth 100000 in
theorem k_X6_addressOfEvent (E : kE) (l : Launch) (wr : va_W) (b : Nat → Nat) (μ : Sto) (a : Nat → Nat) (σ : Sto) (x : Int32) : KM E l yX6_addressOfEvent cX6_addressOfEvent 1 (some .int) 0 0 0 0 [.int x] (WW E b μ a σ wr) (some (.int (x - x / 100 * 100))) (WW E b μ a σ wr) := by
  refine K_start (own := RX6) (by decide +kernel) rfl [(0, .int x)] rfl (Nat.le_of_ble_eq_true rfl) (fun p e s m below meth c X hr hin => ?_)
  refine g_iload_n X dX6_addressOfEvent_0 1 rfl rfl ?_
  refine g_bipush X dX6_addressOfEvent_1 3 rfl (v := 100) rfl ?_
  refine g_irem X dX6_addressOfEvent_3 4 rfl (by decide) ?_
  exact g_iret X hr dX6_addressOfEvent_4 () rfl rfl

set_option maxHeartbeats 4000000 in
set_option maxRecDepth 100000 in
theorem k_X3_isPool (E : kE) (l : Launch) (wr : va_W) (b : Nat → Nat) (μ : Sto) (a : Nat → Nat) (σ : Sto) (x : Int32) : KM E l yX3_isPool cX3_isPool 2 (some .boolean) 0 0 0 0 [.ref (a 4), .int x] (WW E b μ a σ wr) (some (.int (bi (isP σ x)))) (WW E b μ a σ wr) := by
  refine K_start (own := RX3) (by decide +kernel) rfl [(0, .ref (a 4)), (1, .int x)] rfl (Nat.le_of_ble_eq_true rfl) (fun p e s m below meth c X hr hin => ?_)
  refine g_iload_n X dX3_isPool_0 1 rfl rfl ?_
  refine g_if_lt X dX3_isPool_1 21 4 rfl rfl (fun c1 => ?_) (fun c1 => ?_)
  · skip
    refine g_iconst X dX3_isPool_21 22 rfl (v := 0) rfl ?_
    exact g_zret X hr dX3_isPool_22 false rfl () (by simp [isP, bi, c1]) rfl
  · skip
    refine g_iload_n X dX3_isPool_4 5 rfl rfl ?_
    refine g_aload_n X dX3_isPool_5 6 rfl rfl ?_
    refine g_get X FL_X3_24 dX3_isPool_6 9 rfl 8 rfl (v := .int (σ 0 0)) rfl ?_
    refine g_ic_ge X dX3_isPool_9 21 12 rfl rfl (fun c2 => ?_) (fun c2 => ?_)
    · skip
      refine g_iconst X dX3_isPool_21 22 rfl (v := 0) rfl ?_
      exact g_zret X hr dX3_isPool_22 false rfl () (by simp [isP, bi, c1, c2]) rfl
    · skip
      refine g_iload_n X dX3_isPool_12 13 rfl rfl ?_
      refine g_iconst X dX3_isPool_13 14 rfl (v := 5) rfl ?_
      refine g_ic_ge X dX3_isPool_14 21 17 rfl rfl (fun c3 => ?_) (fun c3 => ?_)
      · skip
        refine g_iconst X dX3_isPool_21 22 rfl (v := 0) rfl ?_
        exact g_zret X hr dX3_isPool_22 false rfl () (by simp [isP, bi, c1, c2, c3]) rfl
      · skip
        refine g_iconst X dX3_isPool_17 18 rfl (v := 1) rfl ?_
        refine g_goto X dX3_isPool_18 22 rfl ?_
        exact g_zret X hr dX3_isPool_22 true rfl () (by simp [isP, bi, c1, c2, c3]) rfl

set_option maxHeartbeats 4000000 in
set_option maxRecDepth 100000 in
theorem k_X3_numberAt (E : kE) (l : Launch) (wr : va_W) (b : Nat → Nat) (μ : Sto) (a : Nat → Nat) (σ : Sto) (x : Int32) : KM E l yX3_numberAt cX3_numberAt 3 (some .int) 0 0 0 0 [.ref (a 4), .int x] (WW E b μ a σ wr) (some (.int (numAt σ x))) (WW E b μ a σ wr) := by
  refine K_start (own := RX3) (by decide +kernel) rfl [(0, .ref (a 4)), (1, .int x)] rfl (Nat.le_of_ble_eq_true rfl) (fun p e s m below meth c X hr hin => ?_)
  refine g_iconst X dX3_numberAt_0 1 rfl (v := 0) rfl ?_
  refine g_istore_n X dX3_numberAt_1 2 rfl (by decide) [(2, .int 0), (0, .ref (a 4)), (1, .int x)] rfl ?_
  have Lp : ∀ (r i : Nat), (i + r = 5) → (numL σ x i r = numAt σ x) →  G E (va_A (WW E b μ a σ wr) s.heap.size) 3 p l e ({ frames := 0, cells := 0, slots := 0, locals := 0 } : Room) s m (([.ref (a 4), .int x] : List Value).toArray) below meth c (MQ below (KQ E (WW E b μ a σ wr) s.heap.size (fun _ : Unit => (some (.int (numAt σ x)))) (fun _ => WW E b μ a σ wr)) (([.ref (a 4), .int x] : List Value).toArray) s 0 0 (va_A (WW E b μ a σ wr) s.heap.size)) 0 0 (WW E b μ a σ wr) 2 [(2, .int (nI i)), (0, .ref (a 4)), (1, .int x)] [] := by
    intro r
    induction r with
    | zero =>
      intro i hi hv
      obtain rfl : i = 5 := by omega
      refine g_iload_n X dX3_numberAt_2 3 rfl rfl ?_
      refine g_iconst X dX3_numberAt_3 4 rfl (v := 5) rfl ?_
      refine g_ic_ge X dX3_numberAt_4 43 7 rfl rfl (fun c1 => ?_) (fun c1 => absurd (by decide) c1)
      refine g_iconst X dX3_numberAt_43 44 rfl (v := -1) rfl ?_
      exact g_iret X hr dX3_numberAt_44 () (by rw [← hv]; rfl) rfl
    | succ r ih =>
      intro i hi hv
      refine g_iload_n X dX3_numberAt_2 3 rfl rfl ?_
      refine g_iconst X dX3_numberAt_3 4 rfl (v := 5) rfl ?_
      refine g_ic_ge X dX3_numberAt_4 43 7 rfl rfl (fun c2 => absurd c2 (nI_ge (b := 5) (by omega) (by decide))) (fun c2 => ?_)
      refine g_iload_n X dX3_numberAt_7 8 rfl rfl ?_
      refine g_aload_n X dX3_numberAt_8 9 rfl rfl ?_
      refine g_get X FL_X3_24 dX3_numberAt_9 12 rfl 8 rfl (v := .int (σ 0 0)) rfl ?_
      refine g_ic_ge X dX3_numberAt_12 43 15 rfl rfl (fun c3 => ?_) (fun c3 => ?_)
      · skip
        refine g_iconst X dX3_numberAt_43 44 rfl (v := -1) rfl ?_
        exact g_iret X hr dX3_numberAt_44 () (by rw [← hv]; simp [numL, c2, c3]) rfl
      · skip
        refine g_aload_n X dX3_numberAt_15 16 rfl rfl ?_
        refine g_get X FL_X3_15 dX3_numberAt_16 19 rfl 8 rfl (v := .ref (a 6)) rfl ?_
        refine g_iload_n X dX3_numberAt_19 20 rfl rfl ?_
        refine g_ialdN X dX3_numberAt_20 21 rfl 10 rfl (by omega) (by decide) ?_
        refine g_iload_n X dX3_numberAt_21 22 rfl rfl ?_
        refine g_ic_gt X dX3_numberAt_22 37 25 rfl rfl (fun c4 => ?_) (fun c4 => ?_)
        · skip
          refine g_iinc X dX3_numberAt_37 40 rfl (by decide) 0 rfl (nI_1 _) [(2, .int (nI (i + 1))), (0, .ref (a 4)), (1, .int x)] rfl ?_
          refine g_goto X dX3_numberAt_40 2 rfl ?_
          exact ih (i + 1) (by omega) (by rw [← hv]; simp [numL, c2, c3, c4])
        · skip
          refine g_iload_n X dX3_numberAt_25 26 rfl rfl ?_
          refine g_aload_n X dX3_numberAt_26 27 rfl rfl ?_
          refine g_get X FL_X3_18 dX3_numberAt_27 30 rfl 8 rfl (v := .ref (a 7)) rfl ?_
          refine g_iload_n X dX3_numberAt_30 31 rfl rfl ?_
          refine g_ialdN X dX3_numberAt_31 32 rfl 11 rfl (by omega) (by decide) ?_
          refine g_ic_gt X dX3_numberAt_32 37 35 rfl rfl (fun c5 => ?_) (fun c5 => ?_)
          · skip
            refine g_iinc X dX3_numberAt_37 40 rfl (by decide) 0 rfl (nI_1 _) [(2, .int (nI (i + 1))), (0, .ref (a 4)), (1, .int x)] rfl ?_
            refine g_goto X dX3_numberAt_40 2 rfl ?_
            exact ih (i + 1) (by omega) (by rw [← hv]; simp [numL, c2, c3, c4, c5])
          · skip
            refine g_iload_n X dX3_numberAt_35 36 rfl rfl ?_
            exact g_iret X hr dX3_numberAt_36 () (by rw [← hv]; simp [numL, c2, c3, c4, c5]) rfl
  exact Lp 5 0 rfl rfl

set_option maxHeartbeats 4000000 in
set_option maxRecDepth 100000 in
theorem k_X3_groupAt (E : kE) (l : Launch) (wr : va_W) (b : Nat → Nat) (μ : Sto) (a : Nat → Nat) (σ : Sto) (x : Int32) : KM E l yX3_groupAt cX3_groupAt 3 (some .int) 1 22 0 0 [.ref (a 4), .int x] (WW E b μ a σ wr) (some (.int (grpAt σ x))) (WW E b μ a σ wr) := by
  refine K_start (own := RX3) (by decide +kernel) rfl [(0, .ref (a 4)), (1, .int x)] rfl (Nat.le_of_ble_eq_true rfl) (fun p e s m below meth c X hr hin => ?_)
  refine g_aload_n X dX3_groupAt_0 1 rfl rfl ?_
  refine g_iload_n X dX3_groupAt_1 2 rfl rfl ?_
  refine c_V X Lk_X3_28 (k_X3_numberAt E l wr b μ a σ x) dX3_groupAt_2 rfl 8 rfl rfl rfl (Nat.le_of_ble_eq_true rfl) ⟨(Nat.le_of_ble_eq_true rfl), (Nat.le_of_ble_eq_true rfl)⟩ ⟨Nat.zero_le _, Nat.zero_le _⟩ 5 rfl [.int (numAt σ x)] rfl ?_
  refine g_istore_n X dX3_groupAt_5 6 rfl (by decide) [(2, .int (numAt σ x)), (0, .ref (a 4)), (1, .int x)] rfl ?_
  refine g_aload_n X dX3_groupAt_6 7 rfl rfl ?_
  refine g_iload_n X dX3_groupAt_7 8 rfl rfl ?_
  refine c_V X Lk_X3_32 (k_X3_isPool E l wr b μ a σ (numAt σ x)) dX3_groupAt_8 rfl 8 rfl rfl rfl (Nat.le_of_ble_eq_true rfl) ⟨(Nat.le_of_ble_eq_true rfl), (Nat.le_of_ble_eq_true rfl)⟩ ⟨Nat.zero_le _, Nat.zero_le _⟩ 11 rfl [.int (bi (isP σ (numAt σ x)))] rfl ?_
  refine g_ifb_eq X dX3_groupAt_11 23 14 rfl rfl (fun c1 => ?_) (fun c1 => ?_)
  · skip
    refine g_iconst X dX3_groupAt_23 24 rfl (v := -1) rfl ?_
    exact g_iret X hr dX3_groupAt_24 () (by simp [grpAt, c1]) rfl
  · skip
    refine g_aload_n X dX3_groupAt_14 15 rfl rfl ?_
    refine g_get X FL_X3_9 dX3_groupAt_15 18 rfl 8 rfl (v := .ref (a 5)) rfl ?_
    refine g_iload_n X dX3_groupAt_18 19 rfl rfl ?_
    refine g_iald X dX3_groupAt_19 20 rfl 9 rfl (vP ‹_›) ?_
    refine g_goto X dX3_groupAt_20 24 rfl ?_
    exact g_iret X hr dX3_groupAt_24 () (by simp [grpAt, c1]) rfl

set_option maxHeartbeats 4000000 in
set_option maxRecDepth 100000 in
theorem k_X3_leaseAt (E : kE) (l : Launch) (wr : va_W) (b : Nat → Nat) (μ : Sto) (a : Nat → Nat) (σ : Sto) (x : Int32) : KM E l yX3_leaseAt cX3_leaseAt 3 (some .int) 1 22 0 0 [.ref (a 4), .int x] (WW E b μ a σ wr) (some (.int (leaAt σ x))) (WW E b μ a σ wr) := by
  refine K_start (own := RX3) (by decide +kernel) rfl [(0, .ref (a 4)), (1, .int x)] rfl (Nat.le_of_ble_eq_true rfl) (fun p e s m below meth c X hr hin => ?_)
  refine g_aload_n X dX3_leaseAt_0 1 rfl rfl ?_
  refine g_iload_n X dX3_leaseAt_1 2 rfl rfl ?_
  refine c_V X Lk_X3_28 (k_X3_numberAt E l wr b μ a σ x) dX3_leaseAt_2 rfl 8 rfl rfl rfl (Nat.le_of_ble_eq_true rfl) ⟨(Nat.le_of_ble_eq_true rfl), (Nat.le_of_ble_eq_true rfl)⟩ ⟨Nat.zero_le _, Nat.zero_le _⟩ 5 rfl [.int (numAt σ x)] rfl ?_
  refine g_istore_n X dX3_leaseAt_5 6 rfl (by decide) [(2, .int (numAt σ x)), (0, .ref (a 4)), (1, .int x)] rfl ?_
  refine g_aload_n X dX3_leaseAt_6 7 rfl rfl ?_
  refine g_iload_n X dX3_leaseAt_7 8 rfl rfl ?_
  refine c_V X Lk_X3_32 (k_X3_isPool E l wr b μ a σ (numAt σ x)) dX3_leaseAt_8 rfl 8 rfl rfl rfl (Nat.le_of_ble_eq_true rfl) ⟨(Nat.le_of_ble_eq_true rfl), (Nat.le_of_ble_eq_true rfl)⟩ ⟨Nat.zero_le _, Nat.zero_le _⟩ 11 rfl [.int (bi (isP σ (numAt σ x)))] rfl ?_
  refine g_ifb_eq X dX3_leaseAt_11 23 14 rfl rfl (fun c1 => ?_) (fun c1 => ?_)
  · skip
    refine g_iconst X dX3_leaseAt_23 24 rfl (v := 0) rfl ?_
    exact g_iret X hr dX3_leaseAt_24 () (by simp [leaAt, c1]) rfl
  · skip
    refine g_aload_n X dX3_leaseAt_14 15 rfl rfl ?_
    refine g_get X FL_X3_21 dX3_leaseAt_15 18 rfl 8 rfl (v := .ref (a 8)) rfl ?_
    refine g_iload_n X dX3_leaseAt_18 19 rfl rfl ?_
    refine g_iald X dX3_leaseAt_19 20 rfl 12 rfl (vP ‹_›) ?_
    refine g_goto X dX3_leaseAt_20 24 rfl ?_
    exact g_iret X hr dX3_leaseAt_24 () (by simp [leaAt, c1]) rfl

set_option maxHeartbeats 4000000 in
set_option maxRecDepth 100000 in
theorem k_X3_overlap (E : kE) (l : Launch) (wr : va_W) (b : Nat → Nat) (μ : Sto) (a : Nat → Nat) (σ : Sto) (x : Int32) (y : Int32) : KM E l yX3_overlap cX3_overlap 4 (some .boolean) 0 0 0 0 [.ref (a 4), .int x, .int y] (WW E b μ a σ wr) (some (.int (bi (ovL σ x y 0 5)))) (WW E b μ a σ wr) := by
  refine K_start (own := RX3) (by decide +kernel) rfl [(0, .ref (a 4)), (1, .int x), (2, .int y)] rfl (Nat.le_of_ble_eq_true rfl) (fun p e s m below meth c X hr hin => ?_)
  refine g_iconst X dX3_overlap_0 1 rfl (v := 0) rfl ?_
  refine g_istore_n X dX3_overlap_1 2 rfl (by decide) [(3, .int 0), (0, .ref (a 4)), (1, .int x), (2, .int y)] rfl ?_
  have Lp : ∀ (r i : Nat), (i + r = 5) → (ovL σ x y i r = ovL σ x y 0 5) →  G E (va_A (WW E b μ a σ wr) s.heap.size) 4 p l e ({ frames := 0, cells := 0, slots := 0, locals := 0 } : Room) s m (([.ref (a 4), .int x, .int y] : List Value).toArray) below meth c (MQ below (KQ E (WW E b μ a σ wr) s.heap.size (fun _ : Unit => (some (.int (bi (ovL σ x y 0 5))))) (fun _ => WW E b μ a σ wr)) (([.ref (a 4), .int x, .int y] : List Value).toArray) s 0 0 (va_A (WW E b μ a σ wr) s.heap.size)) 0 0 (WW E b μ a σ wr) 2 [(3, .int (nI i)), (0, .ref (a 4)), (1, .int x), (2, .int y)] [] := by
    intro r
    induction r with
    | zero =>
      intro i hi hv
      obtain rfl : i = 5 := by omega
      refine g_iload_n X dX3_overlap_2 3 rfl rfl ?_
      refine g_iconst X dX3_overlap_3 4 rfl (v := 5) rfl ?_
      refine g_ic_ge X dX3_overlap_4 43 7 rfl rfl (fun c1 => ?_) (fun c1 => absurd (by decide) c1)
      refine g_iconst X dX3_overlap_43 44 rfl (v := 0) rfl ?_
      exact g_zret X hr dX3_overlap_44 false rfl () (by rw [← hv]; rfl) rfl
    | succ r ih =>
      intro i hi hv
      refine g_iload_n X dX3_overlap_2 3 rfl rfl ?_
      refine g_iconst X dX3_overlap_3 4 rfl (v := 5) rfl ?_
      refine g_ic_ge X dX3_overlap_4 43 7 rfl rfl (fun c2 => absurd c2 (nI_ge (b := 5) (by omega) (by decide))) (fun c2 => ?_)
      refine g_iload_n X dX3_overlap_7 8 rfl rfl ?_
      refine g_aload_n X dX3_overlap_8 9 rfl rfl ?_
      refine g_get X FL_X3_24 dX3_overlap_9 12 rfl 8 rfl (v := .int (σ 0 0)) rfl ?_
      refine g_ic_ge X dX3_overlap_12 43 15 rfl rfl (fun c3 => ?_) (fun c3 => ?_)
      · skip
        refine g_iconst X dX3_overlap_43 44 rfl (v := 0) rfl ?_
        exact g_zret X hr dX3_overlap_44 false rfl () (by rw [← hv]; simp [ovL, bi, c2, c3]) rfl
      · skip
        refine g_aload_n X dX3_overlap_15 16 rfl rfl ?_
        refine g_get X FL_X3_15 dX3_overlap_16 19 rfl 8 rfl (v := .ref (a 6)) rfl ?_
        refine g_iload_n X dX3_overlap_19 20 rfl rfl ?_
        refine g_ialdN X dX3_overlap_20 21 rfl 10 rfl (by omega) (by decide) ?_
        refine g_iload_n X dX3_overlap_21 22 rfl rfl ?_
        refine g_ic_gt X dX3_overlap_22 37 25 rfl rfl (fun c4 => ?_) (fun c4 => ?_)
        · skip
          refine g_iinc X dX3_overlap_37 40 rfl (by decide) 0 rfl (nI_1 _) [(3, .int (nI (i + 1))), (0, .ref (a 4)), (1, .int x), (2, .int y)] rfl ?_
          refine g_goto X dX3_overlap_40 2 rfl ?_
          exact ih (i + 1) (by omega) (by rw [← hv]; simp [ovL, c2, c3, c4])
        · skip
          refine g_iload_n X dX3_overlap_25 26 rfl rfl ?_
          refine g_aload_n X dX3_overlap_26 27 rfl rfl ?_
          refine g_get X FL_X3_18 dX3_overlap_27 30 rfl 8 rfl (v := .ref (a 7)) rfl ?_
          refine g_iload_n X dX3_overlap_30 31 rfl rfl ?_
          refine g_ialdN X dX3_overlap_31 32 rfl 11 rfl (by omega) (by decide) ?_
          refine g_ic_gt X dX3_overlap_32 37 35 rfl rfl (fun c5 => ?_) (fun c5 => ?_)
          · skip
            refine g_iinc X dX3_overlap_37 40 rfl (by decide) 0 rfl (nI_1 _) [(3, .int (nI (i + 1))), (0, .ref (a 4)), (1, .int x), (2, .int y)] rfl ?_
            refine g_goto X dX3_overlap_40 2 rfl ?_
            exact ih (i + 1) (by omega) (by rw [← hv]; simp [ovL, c2, c3, c4, c5])
          · skip
            refine g_iconst X dX3_overlap_35 36 rfl (v := 1) rfl ?_
            exact g_zret X hr dX3_overlap_36 true rfl () (by rw [← hv]; simp [ovL, bi, c2, c3, c4, c5]) rfl
  exact Lp 5 0 rfl rfl

set_option maxHeartbeats 4000000 in
set_option maxRecDepth 100000 in
theorem k_X0_becomeFree (E : kE) (l : Launch) (wr : va_W) (b : Nat → Nat) (μ : Sto) (a : Nat → Nat) (σ : Sto) (x : Int32) (t : Int32) : KM E l yX0_becomeFree cX0_becomeFree 3 none 1 20 0 0 [.ref (a 9), .int x, .int t] (WW E b μ a σ wr) none (WW E b μ a (frees σ x t) wr) := by
  refine K_start (own := RX0) (by decide +kernel) rfl [(0, .ref (a 9)), (1, .int x), (2, .int t)] rfl (Nat.le_of_ble_eq_true rfl) (fun p e s m below meth c X hr hin => ?_)
  refine g_iload_n X dX0_becomeFree_0 1 rfl rfl ?_
  refine c_N X Lk_X0_47 (k_X6_isAddress E l wr b μ a σ x) dX0_becomeFree_1 rfl rfl (Nat.le_of_ble_eq_true rfl) ⟨(Nat.le_of_ble_eq_true rfl), (Nat.le_of_ble_eq_true rfl)⟩ ⟨Nat.zero_le _, Nat.zero_le _⟩ 4 rfl [.int (bi (inA x))] rfl ?_
  refine g_ifb_eq X dX0_becomeFree_4 28 7 rfl rfl (fun c1 => ?_) (fun c1 => ?_)
  · skip
    exact g_vret X hr dX0_becomeFree_28 () rfl (by simp [frees, c1])
  · skip
    refine g_aload_n X dX0_becomeFree_7 8 rfl rfl ?_
    refine g_get X FL_X0_18 dX0_becomeFree_8 11 rfl 13 rfl (v := .ref (a 12)) rfl ?_
    refine g_iload_n X dX0_becomeFree_11 12 rfl rfl ?_
    refine g_iconst X dX0_becomeFree_12 13 rfl (v := 0) rfl ?_
    refine g_iast X dX0_becomeFree_13 14 rfl 16 rfl (by first | exact vA ‹_› | exact vC ‹_› | exact vG ‹_› | assumption | exact vp_in_nI (by omega) (by omega)) (WW E b μ a (put σ 7 (upd (σ 7) (ix x) 0)) wr) rfl ?_
    refine g_aload_n X dX0_becomeFree_14 15 rfl rfl ?_
    refine g_get X FL_X0_22 dX0_becomeFree_15 18 rfl 13 rfl (v := .ref (a 13)) rfl ?_
    refine g_iload_n X dX0_becomeFree_18 19 rfl rfl ?_
    refine g_iconst X dX0_becomeFree_19 20 rfl (v := -1) rfl ?_
    refine g_iast X dX0_becomeFree_20 21 rfl 17 rfl (by first | exact vA ‹_› | exact vC ‹_› | exact vG ‹_› | assumption | exact vp_in_nI (by omega) (by omega)) (WW E b μ a (put (put σ 7 (upd (σ 7) (ix x) 0)) 8 (upd (σ 8) (ix x) (-1))) wr) rfl ?_
    refine g_aload_n X dX0_becomeFree_21 22 rfl rfl ?_
    refine g_get X FL_X0_28 dX0_becomeFree_22 25 rfl 13 rfl (v := .ref (a 15)) rfl ?_
    refine g_iload_n X dX0_becomeFree_25 26 rfl rfl ?_
    refine g_iload_n X dX0_becomeFree_26 27 rfl rfl ?_
    refine g_iast X dX0_becomeFree_27 28 rfl 19 rfl (by first | exact vA ‹_› | exact vC ‹_› | exact vG ‹_› | assumption | exact vp_in_nI (by omega) (by omega)) (WW E b μ a (put (put (put σ 7 (upd (σ 7) (ix x) 0)) 8 (upd (σ 8) (ix x) (-1))) 10 (upd (σ 10) (ix x) t)) wr) rfl ?_
    exact g_vret X hr dX0_becomeFree_28 () rfl (by simp [frees, c1])

set_option maxHeartbeats 4000000 in
set_option maxRecDepth 100000 in
theorem k_X0_becomeHeld (E : kE) (l : Launch) (wr : va_W) (b : Nat → Nat) (μ : Sto) (a : Nat → Nat) (σ : Sto) (x : Int32) (v : Int32) (q : Int32) (t : Int32) : KM E l yX0_becomeHeld cX0_becomeHeld 5 none 1 20 0 0 [.ref (a 9), .int x, .int v, .int q, .int t] (WW E b μ a σ wr) none (WW E b μ a (helds σ x v q t) wr) := by
  refine K_start (own := RX0) (by decide +kernel) rfl [(0, .ref (a 9)), (1, .int x), (2, .int v), (3, .int q), (4, .int t)] rfl (Nat.le_of_ble_eq_true rfl) (fun p e s m below meth c X hr hin => ?_)
  refine g_iload_n X dX0_becomeHeld_0 1 rfl rfl ?_
  refine c_N X Lk_X0_47 (k_X6_isAddress E l wr b μ a σ x) dX0_becomeHeld_1 rfl rfl (Nat.le_of_ble_eq_true rfl) ⟨(Nat.le_of_ble_eq_true rfl), (Nat.le_of_ble_eq_true rfl)⟩ ⟨Nat.zero_le _, Nat.zero_le _⟩ 4 rfl [.int (bi (inA x))] rfl ?_
  refine g_ifb_eq X dX0_becomeHeld_4 29 7 rfl rfl (fun c1 => ?_) (fun c1 => ?_)
  · skip
    exact g_vret X hr dX0_becomeHeld_29 () rfl (by simp [helds, c1])
  · skip
    refine g_aload_n X dX0_becomeHeld_7 8 rfl rfl ?_
    refine g_get X FL_X0_18 dX0_becomeHeld_8 11 rfl 13 rfl (v := .ref (a 12)) rfl ?_
    refine g_iload_n X dX0_becomeHeld_11 12 rfl rfl ?_
    refine g_iload_n X dX0_becomeHeld_12 13 rfl rfl ?_
    refine g_iast X dX0_becomeHeld_13 14 rfl 16 rfl (by first | exact vA ‹_› | exact vC ‹_› | exact vG ‹_› | assumption | exact vp_in_nI (by omega) (by omega)) (WW E b μ a (put σ 7 (upd (σ 7) (ix x) v)) wr) rfl ?_
    refine g_aload_n X dX0_becomeHeld_14 15 rfl rfl ?_
    refine g_get X FL_X0_22 dX0_becomeHeld_15 18 rfl 13 rfl (v := .ref (a 13)) rfl ?_
    refine g_iload_n X dX0_becomeHeld_18 19 rfl rfl ?_
    refine g_iload_n X dX0_becomeHeld_19 20 rfl rfl ?_
    refine g_iast X dX0_becomeHeld_20 21 rfl 17 rfl (by first | exact vA ‹_› | exact vC ‹_› | exact vG ‹_› | assumption | exact vp_in_nI (by omega) (by omega)) (WW E b μ a (put (put σ 7 (upd (σ 7) (ix x) v)) 8 (upd (σ 8) (ix x) q)) wr) rfl ?_
    refine g_aload_n X dX0_becomeHeld_21 22 rfl rfl ?_
    refine g_get X FL_X0_25 dX0_becomeHeld_22 25 rfl 13 rfl (v := .ref (a 14)) rfl ?_
    refine g_iload_n X dX0_becomeHeld_25 26 rfl rfl ?_
    refine g_iload X dX0_becomeHeld_26 28 rfl rfl ?_
    refine g_iast X dX0_becomeHeld_28 29 rfl 18 rfl (by first | exact vA ‹_› | exact vC ‹_› | exact vG ‹_› | assumption | exact vp_in_nI (by omega) (by omega)) (WW E b μ a (put (put (put σ 7 (upd (σ 7) (ix x) v)) 8 (upd (σ 8) (ix x) q)) 9 (upd (σ 9) (ix x) t)) wr) rfl ?_
    exact g_vret X hr dX0_becomeHeld_29 () rfl (by simp [helds, c1])

set_option maxHeartbeats 4000000 in
set_option maxRecDepth 100000 in
theorem k_X0_becomeDeclined (E : kE) (l : Launch) (wr : va_W) (b : Nat → Nat) (μ : Sto) (a : Nat → Nat) (σ : Sto) (x : Int32) (t : Int32) : KM E l yX0_becomeDeclined cX0_becomeDeclined 3 none 2 44 0 0 [.ref (a 9), .int x, .int t] (WW E b μ a σ wr) none (WW E b μ a (helds σ x 3 (-1) t) wr) := by
  refine K_start (own := RX0) (by decide +kernel) rfl [(0, .ref (a 9)), (1, .int x), (2, .int t)] rfl (Nat.le_of_ble_eq_true rfl) (fun p e s m below meth c X hr hin => ?_)
  refine g_aload_n X dX0_becomeDeclined_0 1 rfl rfl ?_
  refine g_iload_n X dX0_becomeDeclined_1 2 rfl rfl ?_
  refine g_iconst X dX0_becomeDeclined_2 3 rfl (v := 3) rfl ?_
  refine g_iconst X dX0_becomeDeclined_3 4 rfl (v := -1) rfl ?_
  refine g_iload_n X dX0_becomeDeclined_4 5 rfl rfl ?_
  refine c_V X Lk_X0_51 (k_X0_becomeHeld E l wr b μ a σ x 3 (-1) t) dX0_becomeDeclined_5 rfl 13 rfl rfl rfl (Nat.le_of_ble_eq_true rfl) ⟨(Nat.le_of_ble_eq_true rfl), (Nat.le_of_ble_eq_true rfl)⟩ ⟨Nat.zero_le _, Nat.zero_le _⟩ 8 rfl [] rfl ?_
  exact g_vret X hr dX0_becomeDeclined_8 () rfl rfl

set_option maxHeartbeats 4000000 in
set_option maxRecDepth 100000 in
theorem k_X0_isOfferable (E : kE) (l : Launch) (wr : va_W) (b : Nat → Nat) (μ : Sto) (a : Nat → Nat) (σ : Sto) (x : Int32) : KM E l yX0_isOfferable cX0_isOfferable 2 (some .boolean) 1 20 0 0 [.ref (a 9), .int x] (WW E b μ a σ wr) (some (.int (bi (isOff σ x)))) (WW E b μ a σ wr) := by
  refine K_start (own := RX0) (by decide +kernel) rfl [(0, .ref (a 9)), (1, .int x)] rfl (Nat.le_of_ble_eq_true rfl) (fun p e s m below meth c X hr hin => ?_)
  refine g_iload_n X dX0_isOfferable_0 1 rfl rfl ?_
  refine c_N X Lk_X0_47 (k_X6_isAddress E l wr b μ a σ x) dX0_isOfferable_1 rfl rfl (Nat.le_of_ble_eq_true rfl) ⟨(Nat.le_of_ble_eq_true rfl), (Nat.le_of_ble_eq_true rfl)⟩ ⟨Nat.zero_le _, Nat.zero_le _⟩ 4 rfl [.int (bi (inA x))] rfl ?_
  refine g_ifb_eq X dX0_isOfferable_4 29 7 rfl rfl (fun c1 => ?_) (fun c1 => ?_)
  · skip
    refine g_iconst X dX0_isOfferable_29 30 rfl (v := 0) rfl ?_
    exact g_zret X hr dX0_isOfferable_30 false rfl () (by simp [isOff, bi, c1]) rfl
  · skip
    refine g_aload_n X dX0_isOfferable_7 8 rfl rfl ?_
    refine g_get X FL_X0_18 dX0_isOfferable_8 11 rfl 13 rfl (v := .ref (a 12)) rfl ?_
    refine g_iload_n X dX0_isOfferable_11 12 rfl rfl ?_
    refine g_iald X dX0_isOfferable_12 13 rfl 16 rfl (by first | exact vA ‹_› | exact vC ‹_› | exact vG ‹_› | assumption | exact vp_in_nI (by omega) (by omega)) ?_
    refine g_if_ne X dX0_isOfferable_13 29 16 rfl rfl (fun c2 => ?_) (fun c2 => ?_)
    · skip
      refine g_iconst X dX0_isOfferable_29 30 rfl (v := 0) rfl ?_
      exact g_zret X hr dX0_isOfferable_30 false rfl () (by simp [isOff, bi, c1, c2]) rfl
    · skip
      refine g_aload_n X dX0_isOfferable_16 17 rfl rfl ?_
      refine g_get X FL_X0_9 dX0_isOfferable_17 20 rfl 13 rfl (v := .ref (a 10)) rfl ?_
      refine g_iload_n X dX0_isOfferable_20 21 rfl rfl ?_
      refine g_zald X dX0_isOfferable_21 22 rfl 14 rfl (by first | exact vA ‹_› | exact vC ‹_› | exact vG ‹_› | assumption | exact vp_in_nI (by omega) (by omega)) ?_
      refine g_if_ne X dX0_isOfferable_22 29 25 rfl rfl (fun c3 => ?_) (fun c3 => ?_)
      · skip
        refine g_iconst X dX0_isOfferable_29 30 rfl (v := 0) rfl ?_
        exact g_zret X hr dX0_isOfferable_30 false rfl () (by simp [isOff, bi, c1, c2, c3]) rfl
      · skip
        refine g_iconst X dX0_isOfferable_25 26 rfl (v := 1) rfl ?_
        refine g_goto X dX0_isOfferable_26 30 rfl ?_
        exact g_zret X hr dX0_isOfferable_30 true rfl () (by simp [isOff, bi, c1, c2, c3]) rfl

set_option maxHeartbeats 4000000 in
set_option maxRecDepth 100000 in
theorem k_X0_isFreeLonger (E : kE) (l : Launch) (wr : va_W) (b : Nat → Nat) (μ : Sto) (a : Nat → Nat) (σ : Sto) (x : Int32) (y : Int32) : KM E l yX0_isFreeLonger cX0_isFreeLonger 3 (some .boolean) 1 20 0 0 [.ref (a 9), .int x, .int y] (WW E b μ a σ wr) (some (.int (bi (isFL σ x y)))) (WW E b μ a σ wr) := by
  refine K_start (own := RX0) (by decide +kernel) rfl [(0, .ref (a 9)), (1, .int x), (2, .int y)] rfl (Nat.le_of_ble_eq_true rfl) (fun p e s m below meth c X hr hin => ?_)
  refine g_iload_n X dX0_isFreeLonger_0 1 rfl rfl ?_
  refine c_N X Lk_X0_47 (k_X6_isAddress E l wr b μ a σ x) dX0_isFreeLonger_1 rfl rfl (Nat.le_of_ble_eq_true rfl) ⟨(Nat.le_of_ble_eq_true rfl), (Nat.le_of_ble_eq_true rfl)⟩ ⟨Nat.zero_le _, Nat.zero_le _⟩ 4 rfl [.int (bi (inA x))] rfl ?_
  refine g_ifb_eq X dX0_isFreeLonger_4 14 7 rfl rfl (fun c1 => ?_) (fun c1 => ?_)
  · skip
    refine g_iconst X dX0_isFreeLonger_14 15 rfl (v := 0) rfl ?_
    exact g_zret X hr dX0_isFreeLonger_15 false rfl () (by simp [isFL, bi, c1]) rfl
  · skip
    refine g_iload_n X dX0_isFreeLonger_7 8 rfl rfl ?_
    refine c_N X Lk_X0_47 (k_X6_isAddress E l wr b μ a σ y) dX0_isFreeLonger_8 rfl rfl (Nat.le_of_ble_eq_true rfl) ⟨(Nat.le_of_ble_eq_true rfl), (Nat.le_of_ble_eq_true rfl)⟩ ⟨Nat.zero_le _, Nat.zero_le _⟩ 11 rfl [.int (bi (inA y))] rfl ?_
    refine g_ifb_ne X dX0_isFreeLonger_11 16 14 rfl rfl (fun c2 => ?_) (fun c2 => ?_)
    · skip
      refine g_aload_n X dX0_isFreeLonger_16 17 rfl rfl ?_
      refine g_get X FL_X0_28 dX0_isFreeLonger_17 20 rfl 13 rfl (v := .ref (a 15)) rfl ?_
      refine g_iload_n X dX0_isFreeLonger_20 21 rfl rfl ?_
      refine g_iald X dX0_isFreeLonger_21 22 rfl 19 rfl (by first | exact vA ‹_› | exact vC ‹_› | exact vG ‹_› | assumption | exact vp_in_nI (by omega) (by omega)) ?_
      refine g_aload_n X dX0_isFreeLonger_22 23 rfl rfl ?_
      refine g_get X FL_X0_28 dX0_isFreeLonger_23 26 rfl 13 rfl (v := .ref (a 15)) rfl ?_
      refine g_iload_n X dX0_isFreeLonger_26 27 rfl rfl ?_
      refine g_iald X dX0_isFreeLonger_27 28 rfl 19 rfl (by first | exact vA ‹_› | exact vC ‹_› | exact vG ‹_› | assumption | exact vp_in_nI (by omega) (by omega)) ?_
      refine g_ic_lt X dX0_isFreeLonger_28 51 31 rfl rfl (fun c3 => ?_) (fun c3 => ?_)
      · skip
        refine g_iconst X dX0_isFreeLonger_51 52 rfl (v := 1) rfl ?_
        refine g_goto X dX0_isFreeLonger_52 56 rfl ?_
        exact g_zret X hr dX0_isFreeLonger_56 true rfl () (by simp [isFL, bi, c1, c2, c3]) rfl
      · skip
        refine g_aload_n X dX0_isFreeLonger_31 32 rfl rfl ?_
        refine g_get X FL_X0_28 dX0_isFreeLonger_32 35 rfl 13 rfl (v := .ref (a 15)) rfl ?_
        refine g_iload_n X dX0_isFreeLonger_35 36 rfl rfl ?_
        refine g_iald X dX0_isFreeLonger_36 37 rfl 19 rfl (by first | exact vA ‹_› | exact vC ‹_› | exact vG ‹_› | assumption | exact vp_in_nI (by omega) (by omega)) ?_
        refine g_aload_n X dX0_isFreeLonger_37 38 rfl rfl ?_
        refine g_get X FL_X0_28 dX0_isFreeLonger_38 41 rfl 13 rfl (v := .ref (a 15)) rfl ?_
        refine g_iload_n X dX0_isFreeLonger_41 42 rfl rfl ?_
        refine g_iald X dX0_isFreeLonger_42 43 rfl 19 rfl (by first | exact vA ‹_› | exact vC ‹_› | exact vG ‹_› | assumption | exact vp_in_nI (by omega) (by omega)) ?_
        refine g_ic_ne X dX0_isFreeLonger_43 55 46 rfl rfl (fun c4 => ?_) (fun c4 => ?_)
        · skip
          refine g_iconst X dX0_isFreeLonger_55 56 rfl (v := 0) rfl ?_
          exact g_zret X hr dX0_isFreeLonger_56 false rfl () (by simp [isFL, bi, c1, c2, c3, c4]) rfl
        · skip
          refine g_iload_n X dX0_isFreeLonger_46 47 rfl rfl ?_
          refine g_iload_n X dX0_isFreeLonger_47 48 rfl rfl ?_
          refine g_ic_ge X dX0_isFreeLonger_48 55 51 rfl rfl (fun c5 => ?_) (fun c5 => ?_)
          · skip
            refine g_iconst X dX0_isFreeLonger_55 56 rfl (v := 0) rfl ?_
            exact g_zret X hr dX0_isFreeLonger_56 false rfl () (by simp [isFL, bi, c1, c2, c3, c4, c5]) rfl
          · skip
            refine g_iconst X dX0_isFreeLonger_51 52 rfl (v := 1) rfl ?_
            refine g_goto X dX0_isFreeLonger_52 56 rfl ?_
            exact g_zret X hr dX0_isFreeLonger_56 true rfl () (by simp [isFL, bi, c1, c2, c3, c4, c5]) rfl
    · skip
      refine g_iconst X dX0_isFreeLonger_14 15 rfl (v := 0) rfl ?_
      exact g_zret X hr dX0_isFreeLonger_15 false rfl () (by simp [isFL, bi, c1, c2]) rfl

set_option maxHeartbeats 4000000 in
set_option maxRecDepth 100000 in
theorem k_X1_isBound (E : kE) (l : Launch) (wr : va_W) (b : Nat → Nat) (μ : Sto) (a : Nat → Nat) (σ : Sto) (x : Int32) : KM E l yX1_isBound cX1_isBound 2 (some .boolean) 1 20 0 0 [.ref (a 16), .int x] (WW E b μ a σ wr) (some (.int (bi (isBd σ x)))) (WW E b μ a σ wr) := by
  refine K_start (own := RX1) (by decide +kernel) rfl [(0, .ref (a 16)), (1, .int x)] rfl (Nat.le_of_ble_eq_true rfl) (fun p e s m below meth c X hr hin => ?_)
  refine g_iload_n X dX1_isBound_0 1 rfl rfl ?_
  refine c_N X Lk_X1_33 (k_X6_isClient E l wr b μ a σ x) dX1_isBound_1 rfl rfl (Nat.le_of_ble_eq_true rfl) ⟨(Nat.le_of_ble_eq_true rfl), (Nat.le_of_ble_eq_true rfl)⟩ ⟨Nat.zero_le _, Nat.zero_le _⟩ 4 rfl [.int (bi (inC x))] rfl ?_
  refine g_ifb_eq X dX1_isBound_4 21 7 rfl rfl (fun c1 => ?_) (fun c1 => ?_)
  · skip
    refine g_iconst X dX1_isBound_21 22 rfl (v := 0) rfl ?_
    exact g_zret X hr dX1_isBound_22 false rfl () (by simp [isBd, bi, c1]) rfl
  · skip
    refine g_aload_n X dX1_isBound_7 8 rfl rfl ?_
    refine g_get X FL_X1_9 dX1_isBound_8 11 rfl 20 rfl (v := .ref (a 17)) rfl ?_
    refine g_iload_n X dX1_isBound_11 12 rfl rfl ?_
    refine g_iald X dX1_isBound_12 13 rfl 21 rfl (by first | exact vA ‹_› | exact vC ‹_› | exact vG ‹_› | assumption | exact vp_in_nI (by omega) (by omega)) ?_
    refine g_iconst X dX1_isBound_13 14 rfl (v := 2) rfl ?_
    refine g_ic_lt X dX1_isBound_14 21 17 rfl rfl (fun c2 => ?_) (fun c2 => ?_)
    · skip
      refine g_iconst X dX1_isBound_21 22 rfl (v := 0) rfl ?_
      exact g_zret X hr dX1_isBound_22 false rfl () (by simp [isBd, bi, c1, c2]) rfl
    · skip
      refine g_iconst X dX1_isBound_17 18 rfl (v := 1) rfl ?_
      refine g_goto X dX1_isBound_18 22 rfl ?_
      exact g_zret X hr dX1_isBound_22 true rfl () (by simp [isBd, bi, c1, c2]) rfl

set_option maxHeartbeats 4000000 in
set_option maxRecDepth 100000 in
theorem k_X1_becomeIdle (E : kE) (l : Launch) (wr : va_W) (b : Nat → Nat) (μ : Sto) (a : Nat → Nat) (σ : Sto) (x : Int32) : KM E l yX1_becomeIdle cX1_becomeIdle 2 none 1 20 0 0 [.ref (a 16), .int x] (WW E b μ a σ wr) none (WW E b μ a (idles σ x) wr) := by
  refine K_start (own := RX1) (by decide +kernel) rfl [(0, .ref (a 16)), (1, .int x)] rfl (Nat.le_of_ble_eq_true rfl) (fun p e s m below meth c X hr hin => ?_)
  refine g_iload_n X dX1_becomeIdle_0 1 rfl rfl ?_
  refine c_N X Lk_X1_33 (k_X6_isClient E l wr b μ a σ x) dX1_becomeIdle_1 rfl rfl (Nat.le_of_ble_eq_true rfl) ⟨(Nat.le_of_ble_eq_true rfl), (Nat.le_of_ble_eq_true rfl)⟩ ⟨Nat.zero_le _, Nat.zero_le _⟩ 4 rfl [.int (bi (inC x))] rfl ?_
  refine g_ifb_eq X dX1_becomeIdle_4 21 7 rfl rfl (fun c1 => ?_) (fun c1 => ?_)
  · skip
    exact g_vret X hr dX1_becomeIdle_21 () rfl (by simp [idles, c1])
  · skip
    refine g_aload_n X dX1_becomeIdle_7 8 rfl rfl ?_
    refine g_get X FL_X1_9 dX1_becomeIdle_8 11 rfl 20 rfl (v := .ref (a 17)) rfl ?_
    refine g_iload_n X dX1_becomeIdle_11 12 rfl rfl ?_
    refine g_iconst X dX1_becomeIdle_12 13 rfl (v := 0) rfl ?_
    refine g_iast X dX1_becomeIdle_13 14 rfl 21 rfl (by first | exact vA ‹_› | exact vC ‹_› | exact vG ‹_› | assumption | exact vp_in_nI (by omega) (by omega)) (WW E b μ a (put σ 11 (upd (σ 11) (ix x) 0)) wr) rfl ?_
    refine g_aload_n X dX1_becomeIdle_14 15 rfl rfl ?_
    refine g_get X FL_X1_15 dX1_becomeIdle_15 18 rfl 20 rfl (v := .ref (a 18)) rfl ?_
    refine g_iload_n X dX1_becomeIdle_18 19 rfl rfl ?_
    refine g_iconst X dX1_becomeIdle_19 20 rfl (v := -1) rfl ?_
    refine g_iast X dX1_becomeIdle_20 21 rfl 22 rfl (by first | exact vA ‹_› | exact vC ‹_› | exact vG ‹_› | assumption | exact vp_in_nI (by omega) (by omega)) (WW E b μ a (put (put σ 11 (upd (σ 11) (ix x) 0)) 12 (upd (σ 12) (ix x) (-1))) wr) rfl ?_
    exact g_vret X hr dX1_becomeIdle_21 () rfl (by simp [idles, c1])

set_option maxHeartbeats 4000000 in
set_option maxRecDepth 100000 in
theorem k_X1_takeOffer (E : kE) (l : Launch) (wr : va_W) (b : Nat → Nat) (μ : Sto) (a : Nat → Nat) (σ : Sto) (x : Int32) (y : Int32) : KM E l yX1_takeOffer cX1_takeOffer 3 none 1 20 0 0 [.ref (a 16), .int x, .int y] (WW E b μ a σ wr) none (WW E b μ a (offs σ x y) wr) := by
  refine K_start (own := RX1) (by decide +kernel) rfl [(0, .ref (a 16)), (1, .int x), (2, .int y)] rfl (Nat.le_of_ble_eq_true rfl) (fun p e s m below meth c X hr hin => ?_)
  refine g_iload_n X dX1_takeOffer_0 1 rfl rfl ?_
  refine c_N X Lk_X1_33 (k_X6_isClient E l wr b μ a σ x) dX1_takeOffer_1 rfl rfl (Nat.le_of_ble_eq_true rfl) ⟨(Nat.le_of_ble_eq_true rfl), (Nat.le_of_ble_eq_true rfl)⟩ ⟨Nat.zero_le _, Nat.zero_le _⟩ 4 rfl [.int (bi (inC x))] rfl ?_
  refine g_ifb_eq X dX1_takeOffer_4 21 7 rfl rfl (fun c1 => ?_) (fun c1 => ?_)
  · skip
    exact g_vret X hr dX1_takeOffer_21 () rfl (by simp [offs, c1])
  · skip
    refine g_aload_n X dX1_takeOffer_7 8 rfl rfl ?_
    refine g_get X FL_X1_9 dX1_takeOffer_8 11 rfl 20 rfl (v := .ref (a 17)) rfl ?_
    refine g_iload_n X dX1_takeOffer_11 12 rfl rfl ?_
    refine g_iconst X dX1_takeOffer_12 13 rfl (v := 1) rfl ?_
    refine g_iast X dX1_takeOffer_13 14 rfl 21 rfl (by first | exact vA ‹_› | exact vC ‹_› | exact vG ‹_› | assumption | exact vp_in_nI (by omega) (by omega)) (WW E b μ a (put σ 11 (upd (σ 11) (ix x) 1)) wr) rfl ?_
    refine g_aload_n X dX1_takeOffer_14 15 rfl rfl ?_
    refine g_get X FL_X1_15 dX1_takeOffer_15 18 rfl 20 rfl (v := .ref (a 18)) rfl ?_
    refine g_iload_n X dX1_takeOffer_18 19 rfl rfl ?_
    refine g_iload_n X dX1_takeOffer_19 20 rfl rfl ?_
    refine g_iast X dX1_takeOffer_20 21 rfl 22 rfl (by first | exact vA ‹_› | exact vC ‹_› | exact vG ‹_› | assumption | exact vp_in_nI (by omega) (by omega)) (WW E b μ a (put (put σ 11 (upd (σ 11) (ix x) 1)) 12 (upd (σ 12) (ix x) y)) wr) rfl ?_
    exact g_vret X hr dX1_takeOffer_21 () rfl (by simp [offs, c1])

set_option maxHeartbeats 4000000 in
set_option maxRecDepth 100000 in
theorem k_X1_takeLease (E : kE) (l : Launch) (wr : va_W) (b : Nat → Nat) (μ : Sto) (a : Nat → Nat) (σ : Sto) (x : Int32) (t : Int32) (q : Int32) : KM E l yX1_takeLease cX1_takeLease 4 none 1 20 0 0 [.ref (a 16), .int x, .int t, .int q] (WW E b μ a σ wr) none (WW E b μ a (leases σ x t q) wr) := by
  refine K_start (own := RX1) (by decide +kernel) rfl [(0, .ref (a 16)), (1, .int x), (2, .int t), (3, .int q)] rfl (Nat.le_of_ble_eq_true rfl) (fun p e s m below meth c X hr hin => ?_)
  refine g_iload_n X dX1_takeLease_0 1 rfl rfl ?_
  refine c_N X Lk_X1_33 (k_X6_isClient E l wr b μ a σ x) dX1_takeLease_1 rfl rfl (Nat.le_of_ble_eq_true rfl) ⟨(Nat.le_of_ble_eq_true rfl), (Nat.le_of_ble_eq_true rfl)⟩ ⟨Nat.zero_le _, Nat.zero_le _⟩ 4 rfl [.int (bi (inC x))] rfl ?_
  refine g_ifb_eq X dX1_takeLease_4 52 7 rfl rfl (fun c1 => ?_) (fun c1 => ?_)
  · skip
    exact g_vret X hr dX1_takeLease_52 () rfl (by simp [leases, c1])
  · skip
    refine g_aload_n X dX1_takeLease_7 8 rfl rfl ?_
    refine g_get X FL_X1_9 dX1_takeLease_8 11 rfl 20 rfl (v := .ref (a 17)) rfl ?_
    refine g_iload_n X dX1_takeLease_11 12 rfl rfl ?_
    refine g_iconst X dX1_takeLease_12 13 rfl (v := 2) rfl ?_
    refine g_iast X dX1_takeLease_13 14 rfl 21 rfl (by first | exact vA ‹_› | exact vC ‹_› | exact vG ‹_› | assumption | exact vp_in_nI (by omega) (by omega)) (WW E b μ a (put σ 11 (upd (σ 11) (ix x) 2)) wr) rfl ?_
    refine g_aload_n X dX1_takeLease_14 15 rfl rfl ?_
    refine g_get X FL_X1_18 dX1_takeLease_15 18 rfl 20 rfl (v := .ref (a 19)) rfl ?_
    refine g_iload_n X dX1_takeLease_18 19 rfl rfl ?_
    refine g_aload_n X dX1_takeLease_19 20 rfl rfl ?_
    refine g_get X FL_X1_15 dX1_takeLease_20 23 rfl 20 rfl (v := .ref (a 18)) rfl ?_
    refine g_iload_n X dX1_takeLease_23 24 rfl rfl ?_
    refine g_iald X dX1_takeLease_24 25 rfl 22 rfl (by first | exact vA ‹_› | exact vC ‹_› | exact vG ‹_› | assumption | exact vp_in_nI (by omega) (by omega)) ?_
    refine g_iast X dX1_takeLease_25 26 rfl 23 rfl (by first | exact vA ‹_› | exact vC ‹_› | exact vG ‹_› | assumption | exact vp_in_nI (by omega) (by omega)) (WW E b μ a (put (put σ 11 (upd (σ 11) (ix x) 2)) 13 (upd (σ 13) (ix x) (σ 12 (ix x)))) wr) rfl ?_
    refine g_aload_n X dX1_takeLease_26 27 rfl rfl ?_
    refine g_get X FL_X1_21 dX1_takeLease_27 30 rfl 20 rfl (v := .ref (a 20)) rfl ?_
    refine g_iload_n X dX1_takeLease_30 31 rfl rfl ?_
    refine g_iload_n X dX1_takeLease_31 32 rfl rfl ?_
    refine g_iload_n X dX1_takeLease_32 33 rfl rfl ?_
    refine g_iconst X dX1_takeLease_33 34 rfl (v := 2) rfl ?_
    refine g_idiv X dX1_takeLease_34 35 rfl (by decide) ?_
    refine g_iadd X dX1_takeLease_35 36 rfl ?_
    refine g_iast X dX1_takeLease_36 37 rfl 24 rfl (by first | exact vA ‹_› | exact vC ‹_› | exact vG ‹_› | assumption | exact vp_in_nI (by omega) (by omega)) (WW E b μ a (put (put (put σ 11 (upd (σ 11) (ix x) 2)) 13 (upd (σ 13) (ix x) (σ 12 (ix x)))) 14 (upd (σ 14) (ix x) (t + (q / 2)))) wr) rfl ?_
    refine g_aload_n X dX1_takeLease_37 38 rfl rfl ?_
    refine g_get X FL_X1_24 dX1_takeLease_38 41 rfl 20 rfl (v := .ref (a 21)) rfl ?_
    refine g_iload_n X dX1_takeLease_41 42 rfl rfl ?_
    refine g_iload_n X dX1_takeLease_42 43 rfl rfl ?_
    refine g_iload_n X dX1_takeLease_43 44 rfl rfl ?_
    refine g_bipush X dX1_takeLease_44 46 rfl (v := 7) rfl ?_
    refine g_imul X dX1_takeLease_46 47 rfl ?_
    refine g_bipush X dX1_takeLease_47 49 rfl (v := 8) rfl ?_
    refine g_idiv X dX1_takeLease_49 50 rfl (by decide) ?_
    refine g_iadd X dX1_takeLease_50 51 rfl ?_
    refine g_iast X dX1_takeLease_51 52 rfl 25 rfl (by first | exact vA ‹_› | exact vC ‹_› | exact vG ‹_› | assumption | exact vp_in_nI (by omega) (by omega)) (WW E b μ a (put (put (put (put σ 11 (upd (σ 11) (ix x) 2)) 13 (upd (σ 13) (ix x) (σ 12 (ix x)))) 14 (upd (σ 14) (ix x) (t + (q / 2)))) 15 (upd (σ 15) (ix x) (t + ((q * 7) / 8)))) wr) rfl ?_
    exact g_vret X hr dX1_takeLease_52 () rfl (by simp [leases, c1])
end
