section
-- ===== PART A: goes FIRST, ahead of the names: the tables' words, and 'selects' of the private methods out of them =====
/-- a private method of a class that the tables say can be made, by its rows of tables_1 -/
def lw_okq (q : MethodName × Nat) : Prop := (q.1.cls ≠ "java/lang/invoke/MethodHandle" ∧ q.1.cls ≠ "java/lang/invoke/VarHandle") ∧ Cond.instantiable q.1.cls q.2 ∈ tables_1 ∧ Cond.privateMethod q.1 ∈ tables_1 ∧ Cond.instanceMethod q.1 ∈ tables_1
theorem lw_p0 : lw_okq (⟨"java/lang/Throwable", "fillInStackTrace", "(I)Ljava/lang/Throwable;"⟩, 6) := ⟨⟨by decide +kernel, by decide +kernel⟩, List.mem_of_getElem? (i := 334) (by decide +kernel), List.mem_of_getElem? (i := 332) (by decide +kernel), List.mem_of_getElem? (i := 333) (by decide +kernel)⟩
theorem lw_p1 : lw_okq (⟨"LeaseServer", "requirePool", "(I)V"⟩, 4) := ⟨⟨by decide +kernel, by decide +kernel⟩, List.mem_of_getElem? (i := 23) (by decide +kernel), List.mem_of_getElem? (i := 469) (by decide +kernel), List.mem_of_getElem? (i := 470) (by decide +kernel)⟩
theorem lw_p2 : lw_okq (⟨"LeaseServer", "requireInPool", "(I)V"⟩, 4) := ⟨⟨by decide +kernel, by decide +kernel⟩, List.mem_of_getElem? (i := 23) (by decide +kernel), List.mem_of_getElem? (i := 516) (by decide +kernel), List.mem_of_getElem? (i := 517) (by decide +kernel)⟩
theorem lw_p3 : lw_okq (⟨"LeaseServer$State", "isCandidate", "(II)Z"⟩, 5) := ⟨⟨by decide +kernel, by decide +kernel⟩, List.mem_of_getElem? (i := 49) (by decide +kernel), List.mem_of_getElem? (i := 617) (by decide +kernel), List.mem_of_getElem? (i := 618) (by decide +kernel)⟩
theorem lw_p4 : lw_okq (⟨"LeaseServer$State", "longestFree", "(I)I"⟩, 5) := ⟨⟨by decide +kernel, by decide +kernel⟩, List.mem_of_getElem? (i := 49) (by decide +kernel), List.mem_of_getElem? (i := 627) (by decide +kernel), List.mem_of_getElem? (i := 628) (by decide +kernel)⟩
theorem lw_p5 : lw_okq (⟨"LeaseServer$State", "longestFreeIn", "(III)I"⟩, 5) := ⟨⟨by decide +kernel, by decide +kernel⟩, List.mem_of_getElem? (i := 49) (by decide +kernel), List.mem_of_getElem? (i := 631) (by decide +kernel), List.mem_of_getElem? (i := 632) (by decide +kernel)⟩
theorem lw_p6 : lw_okq (⟨"LeaseServer$State", "holdFor", "(II)V"⟩, 5) := ⟨⟨by decide +kernel, by decide +kernel⟩, List.mem_of_getElem? (i := 49) (by decide +kernel), List.mem_of_getElem? (i := 641) (by decide +kernel), List.mem_of_getElem? (i := 642) (by decide +kernel)⟩
theorem lw_p7 : lw_okq (⟨"LeaseServer$State", "findConflict", "(I)V"⟩, 5) := ⟨⟨by decide +kernel, by decide +kernel⟩, List.mem_of_getElem? (i := 49) (by decide +kernel), List.mem_of_getElem? (i := 658) (by decide +kernel), List.mem_of_getElem? (i := 659) (by decide +kernel)⟩
theorem lw_p8 : lw_okq (⟨"LeaseServer$State", "groupOfClient", "(I)I"⟩, 5) := ⟨⟨by decide +kernel, by decide +kernel⟩, List.mem_of_getElem? (i := 49) (by decide +kernel), List.mem_of_getElem? (i := 680) (by decide +kernel), List.mem_of_getElem? (i := 681) (by decide +kernel)⟩
theorem lw_p9 : lw_okq (⟨"LeaseServer$State", "startTerm", "(I)V"⟩, 5) := ⟨⟨by decide +kernel, by decide +kernel⟩, List.mem_of_getElem? (i := 49) (by decide +kernel), List.mem_of_getElem? (i := 689) (by decide +kernel), List.mem_of_getElem? (i := 690) (by decide +kernel)⟩
theorem lw_p10 : lw_okq (⟨"LeaseServer", "requireBound", "(I)V"⟩, 4) := ⟨⟨by decide +kernel, by decide +kernel⟩, List.mem_of_getElem? (i := 23) (by decide +kernel), List.mem_of_getElem? (i := 708) (by decide +kernel), List.mem_of_getElem? (i := 709) (by decide +kernel)⟩
theorem lw_p11 : lw_okq (⟨"LeaseServer$State", "earliestEventOfClients", "()I"⟩, 5) := ⟨⟨by decide +kernel, by decide +kernel⟩, List.mem_of_getElem? (i := 49) (by decide +kernel), List.mem_of_getElem? (i := 766) (by decide +kernel), List.mem_of_getElem? (i := 767) (by decide +kernel)⟩
theorem lw_p12 : lw_okq (⟨"LeaseServer$State", "eventOfClient", "(I)I"⟩, 5) := ⟨⟨by decide +kernel, by decide +kernel⟩, List.mem_of_getElem? (i := 49) (by decide +kernel), List.mem_of_getElem? (i := 771) (by decide +kernel), List.mem_of_getElem? (i := 772) (by decide +kernel)⟩
theorem lw_p13 : lw_okq (⟨"LeaseServer$State", "carryOut", "(I)V"⟩, 5) := ⟨⟨by decide +kernel, by decide +kernel⟩, List.mem_of_getElem? (i := 49) (by decide +kernel), List.mem_of_getElem? (i := 780) (by decide +kernel), List.mem_of_getElem? (i := 781) (by decide +kernel)⟩
theorem lw_p14 : lw_okq (⟨"LeaseServer$State", "carryOutForHolder", "(III)V"⟩, 5) := ⟨⟨by decide +kernel, by decide +kernel⟩, List.mem_of_getElem? (i := 49) (by decide +kernel), List.mem_of_getElem? (i := 790) (by decide +kernel), List.mem_of_getElem? (i := 791) (by decide +kernel)⟩
theorem lw_p15 : lw_okq (⟨"LeaseServer$State", "renewOrTurn", "(IZI)V"⟩, 5) := ⟨⟨by decide +kernel, by decide +kernel⟩, List.mem_of_getElem? (i := 49) (by decide +kernel), List.mem_of_getElem? (i := 795) (by decide +kernel), List.mem_of_getElem? (i := 796) (by decide +kernel)⟩
def lw_privs_1 : List (MethodName × Nat) := [(⟨"java/lang/Throwable", "fillInStackTrace", "(I)Ljava/lang/Throwable;"⟩, 6), (⟨"LeaseServer", "requirePool", "(I)V"⟩, 4), (⟨"LeaseServer", "requireInPool", "(I)V"⟩, 4), (⟨"LeaseServer$State", "isCandidate", "(II)Z"⟩, 5), (⟨"LeaseServer$State", "longestFree", "(I)I"⟩, 5), (⟨"LeaseServer$State", "longestFreeIn", "(III)I"⟩, 5), (⟨"LeaseServer$State", "holdFor", "(II)V"⟩, 5), (⟨"LeaseServer$State", "findConflict", "(I)V"⟩, 5), (⟨"LeaseServer$State", "groupOfClient", "(I)I"⟩, 5), (⟨"LeaseServer$State", "startTerm", "(I)V"⟩, 5), (⟨"LeaseServer", "requireBound", "(I)V"⟩, 4), (⟨"LeaseServer$State", "earliestEventOfClients", "()I"⟩, 5), (⟨"LeaseServer$State", "eventOfClient", "(I)I"⟩, 5), (⟨"LeaseServer$State", "carryOut", "(I)V"⟩, 5), (⟨"LeaseServer$State", "carryOutForHolder", "(III)V"⟩, 5), (⟨"LeaseServer$State", "renewOrTurn", "(IZI)V"⟩, 5)]
theorem lw_r1 : ∀ q ∈ lw_privs_1, lw_okq q := List.forall_mem_cons.mpr ⟨lw_p0, List.forall_mem_cons.mpr ⟨lw_p1, List.forall_mem_cons.mpr ⟨lw_p2, List.forall_mem_cons.mpr ⟨lw_p3, List.forall_mem_cons.mpr ⟨lw_p4, List.forall_mem_cons.mpr ⟨lw_p5, List.forall_mem_cons.mpr ⟨lw_p6, List.forall_mem_cons.mpr ⟨lw_p7, List.forall_mem_cons.mpr ⟨lw_p8, List.forall_mem_cons.mpr ⟨lw_p9, List.forall_mem_cons.mpr ⟨lw_p10, List.forall_mem_cons.mpr ⟨lw_p11, List.forall_mem_cons.mpr ⟨lw_p12, List.forall_mem_cons.mpr ⟨lw_p13, List.forall_mem_cons.mpr ⟨lw_p14, List.forall_mem_cons.mpr ⟨lw_p15, fun _ h => absurd h List.not_mem_nil⟩⟩⟩⟩⟩⟩⟩⟩⟩⟩⟩⟩⟩⟩⟩⟩
theorem lw_p16 : lw_okq (⟨"LeaseServerModel", "raises", "(I)I"⟩, 6) := ⟨⟨by decide +kernel, by decide +kernel⟩, List.mem_of_getElem? (i := 967) (by decide +kernel), List.mem_of_getElem? (i := 1006) (by decide +kernel), List.mem_of_getElem? (i := 1007) (by decide +kernel)⟩
theorem lw_p17 : lw_okq (⟨"LeaseServerModel", "owner", "(I)I"⟩, 6) := ⟨⟨by decide +kernel, by decide +kernel⟩, List.mem_of_getElem? (i := 967) (by decide +kernel), List.mem_of_getElem? (i := 1013) (by decide +kernel), List.mem_of_getElem? (i := 1014) (by decide +kernel)⟩
theorem lw_p18 : lw_okq (⟨"LeaseServerModel", "pool", "(I)I"⟩, 6) := ⟨⟨by decide +kernel, by decide +kernel⟩, List.mem_of_getElem? (i := 967) (by decide +kernel), List.mem_of_getElem? (i := 1017) (by decide +kernel), List.mem_of_getElem? (i := 1018) (by decide +kernel)⟩
theorem lw_p19 : lw_okq (⟨"LeaseServerModel", "isPool", "(I)Z"⟩, 6) := ⟨⟨by decide +kernel, by decide +kernel⟩, List.mem_of_getElem? (i := 967) (by decide +kernel), List.mem_of_getElem? (i := 1025) (by decide +kernel), List.mem_of_getElem? (i := 1026) (by decide +kernel)⟩
theorem lw_p20 : lw_okq (⟨"LeaseServerModel", "isCandidate", "(II)Z"⟩, 6) := ⟨⟨by decide +kernel, by decide +kernel⟩, List.mem_of_getElem? (i := 967) (by decide +kernel), List.mem_of_getElem? (i := 1037) (by decide +kernel), List.mem_of_getElem? (i := 1038) (by decide +kernel)⟩
theorem lw_p21 : lw_okq (⟨"LeaseServerModel", "groupOf", "(I)I"⟩, 6) := ⟨⟨by decide +kernel, by decide +kernel⟩, List.mem_of_getElem? (i := 967) (by decide +kernel), List.mem_of_getElem? (i := 1041) (by decide +kernel), List.mem_of_getElem? (i := 1042) (by decide +kernel)⟩
theorem lw_p22 : lw_okq (⟨"LeaseServerModel", "flips", "(ZIZ)Z"⟩, 6) := ⟨⟨by decide +kernel, by decide +kernel⟩, List.mem_of_getElem? (i := 967) (by decide +kernel), List.mem_of_getElem? (i := 1053) (by decide +kernel), List.mem_of_getElem? (i := 1054) (by decide +kernel)⟩
theorem lw_p23 : lw_okq (⟨"LeaseServerModel", "sets", "(II)I"⟩, 6) := ⟨⟨by decide +kernel, by decide +kernel⟩, List.mem_of_getElem? (i := 967) (by decide +kernel), List.mem_of_getElem? (i := 1057) (by decide +kernel), List.mem_of_getElem? (i := 1058) (by decide +kernel)⟩
theorem lw_p24 : lw_okq (⟨"LeaseServerModel", "isBound", "(I)Z"⟩, 6) := ⟨⟨by decide +kernel, by decide +kernel⟩, List.mem_of_getElem? (i := 967) (by decide +kernel), List.mem_of_getElem? (i := 1088) (by decide +kernel), List.mem_of_getElem? (i := 1089) (by decide +kernel)⟩
theorem lw_p25 : lw_okq (⟨"LeaseServerModel", "frees", "(II)V"⟩, 6) := ⟨⟨by decide +kernel, by decide +kernel⟩, List.mem_of_getElem? (i := 967) (by decide +kernel), List.mem_of_getElem? (i := 1092) (by decide +kernel), List.mem_of_getElem? (i := 1093) (by decide +kernel)⟩
theorem lw_p26 : lw_okq (⟨"LeaseServerModel", "candidate", "(III)I"⟩, 6) := ⟨⟨by decide +kernel, by decide +kernel⟩, List.mem_of_getElem? (i := 967) (by decide +kernel), List.mem_of_getElem? (i := 1096) (by decide +kernel), List.mem_of_getElem? (i := 1097) (by decide +kernel)⟩
theorem lw_p27 : lw_okq (⟨"LeaseServerModel", "declines", "(I)V"⟩, 6) := ⟨⟨by decide +kernel, by decide +kernel⟩, List.mem_of_getElem? (i := 967) (by decide +kernel), List.mem_of_getElem? (i := 1100) (by decide +kernel), List.mem_of_getElem? (i := 1101) (by decide +kernel)⟩
theorem lw_p28 : lw_okq (⟨"LeaseServerModel", "logs", "(II)V"⟩, 6) := ⟨⟨by decide +kernel, by decide +kernel⟩, List.mem_of_getElem? (i := 967) (by decide +kernel), List.mem_of_getElem? (i := 1104) (by decide +kernel), List.mem_of_getElem? (i := 1105) (by decide +kernel)⟩
theorem lw_p29 : lw_okq (⟨"LeaseServerModel", "lasts", "(II)V"⟩, 6) := ⟨⟨by decide +kernel, by decide +kernel⟩, List.mem_of_getElem? (i := 967) (by decide +kernel), List.mem_of_getElem? (i := 1112) (by decide +kernel), List.mem_of_getElem? (i := 1113) (by decide +kernel)⟩
theorem lw_p30 : lw_okq (⟨"LeaseServerModel", "lacksLease", "(I)I"⟩, 6) := ⟨⟨by decide +kernel, by decide +kernel⟩, List.mem_of_getElem? (i := 967) (by decide +kernel), List.mem_of_getElem? (i := 1120) (by decide +kernel), List.mem_of_getElem? (i := 1121) (by decide +kernel)⟩
theorem lw_p31 : lw_okq (⟨"LeaseServerModel", "renews", "(II)Z"⟩, 6) := ⟨⟨by decide +kernel, by decide +kernel⟩, List.mem_of_getElem? (i := 967) (by decide +kernel), List.mem_of_getElem? (i := 1132) (by decide +kernel), List.mem_of_getElem? (i := 1133) (by decide +kernel)⟩
def lw_privs_2 : List (MethodName × Nat) := [(⟨"LeaseServerModel", "raises", "(I)I"⟩, 6), (⟨"LeaseServerModel", "owner", "(I)I"⟩, 6), (⟨"LeaseServerModel", "pool", "(I)I"⟩, 6), (⟨"LeaseServerModel", "isPool", "(I)Z"⟩, 6), (⟨"LeaseServerModel", "isCandidate", "(II)Z"⟩, 6), (⟨"LeaseServerModel", "groupOf", "(I)I"⟩, 6), (⟨"LeaseServerModel", "flips", "(ZIZ)Z"⟩, 6), (⟨"LeaseServerModel", "sets", "(II)I"⟩, 6), (⟨"LeaseServerModel", "isBound", "(I)Z"⟩, 6), (⟨"LeaseServerModel", "frees", "(II)V"⟩, 6), (⟨"LeaseServerModel", "candidate", "(III)I"⟩, 6), (⟨"LeaseServerModel", "declines", "(I)V"⟩, 6), (⟨"LeaseServerModel", "logs", "(II)V"⟩, 6), (⟨"LeaseServerModel", "lasts", "(II)V"⟩, 6), (⟨"LeaseServerModel", "lacksLease", "(I)I"⟩, 6), (⟨"LeaseServerModel", "renews", "(II)Z"⟩, 6)]
theorem lw_r2 : ∀ q ∈ lw_privs_2, lw_okq q := List.forall_mem_cons.mpr ⟨lw_p16, List.forall_mem_cons.mpr ⟨lw_p17, List.forall_mem_cons.mpr ⟨lw_p18, List.forall_mem_cons.mpr ⟨lw_p19, List.forall_mem_cons.mpr ⟨lw_p20, List.forall_mem_cons.mpr ⟨lw_p21, List.forall_mem_cons.mpr ⟨lw_p22, List.forall_mem_cons.mpr ⟨lw_p23, List.forall_mem_cons.mpr ⟨lw_p24, List.forall_mem_cons.mpr ⟨lw_p25, List.forall_mem_cons.mpr ⟨lw_p26, List.forall_mem_cons.mpr ⟨lw_p27, List.forall_mem_cons.mpr ⟨lw_p28, List.forall_mem_cons.mpr ⟨lw_p29, List.forall_mem_cons.mpr ⟨lw_p30, List.forall_mem_cons.mpr ⟨lw_p31, fun _ h => absurd h List.not_mem_nil⟩⟩⟩⟩⟩⟩⟩⟩⟩⟩⟩⟩⟩⟩⟩⟩
theorem lw_p32 : lw_okq (⟨"LeaseServerModel", "earliest", "()I"⟩, 6) := ⟨⟨by decide +kernel, by decide +kernel⟩, List.mem_of_getElem? (i := 967) (by decide +kernel), List.mem_of_getElem? (i := 1141) (by decide +kernel), List.mem_of_getElem? (i := 1142) (by decide +kernel)⟩
theorem lw_p33 : lw_okq (⟨"LeaseServerModel", "due", "(I)I"⟩, 6) := ⟨⟨by decide +kernel, by decide +kernel⟩, List.mem_of_getElem? (i := 967) (by decide +kernel), List.mem_of_getElem? (i := 1145) (by decide +kernel), List.mem_of_getElem? (i := 1146) (by decide +kernel)⟩
theorem lw_p34 : lw_okq (⟨"LeaseServerModel", "stateOf", "(I)I"⟩, 6) := ⟨⟨by decide +kernel, by decide +kernel⟩, List.mem_of_getElem? (i := 967) (by decide +kernel), List.mem_of_getElem? (i := 1149) (by decide +kernel), List.mem_of_getElem? (i := 1150) (by decide +kernel)⟩
theorem lw_p35 : lw_okq (⟨"LeaseServerModel", "happen", "(I)I"⟩, 6) := ⟨⟨by decide +kernel, by decide +kernel⟩, List.mem_of_getElem? (i := 967) (by decide +kernel), List.mem_of_getElem? (i := 1153) (by decide +kernel), List.mem_of_getElem? (i := 1154) (by decide +kernel)⟩
theorem lw_p36 : lw_okq (⟨"LeaseServerModel", "kind", "(I)I"⟩, 6) := ⟨⟨by decide +kernel, by decide +kernel⟩, List.mem_of_getElem? (i := 967) (by decide +kernel), List.mem_of_getElem? (i := 1157) (by decide +kernel), List.mem_of_getElem? (i := 1158) (by decide +kernel)⟩
theorem lw_p37 : lw_okq (⟨"LeaseServerModel", "happens", "(II)V"⟩, 6) := ⟨⟨by decide +kernel, by decide +kernel⟩, List.mem_of_getElem? (i := 967) (by decide +kernel), List.mem_of_getElem? (i := 1161) (by decide +kernel), List.mem_of_getElem? (i := 1162) (by decide +kernel)⟩
theorem lw_p38 : lw_okq (⟨"LeaseServerModel", "lacks", "(I)I"⟩, 6) := ⟨⟨by decide +kernel, by decide +kernel⟩, List.mem_of_getElem? (i := 967) (by decide +kernel), List.mem_of_getElem? (i := 1193) (by decide +kernel), List.mem_of_getElem? (i := 1194) (by decide +kernel)⟩
theorem lw_p39 : lw_okq (⟨"LeaseServerModel", "count", "(II)I"⟩, 6) := ⟨⟨by decide +kernel, by decide +kernel⟩, List.mem_of_getElem? (i := 967) (by decide +kernel), List.mem_of_getElem? (i := 1217) (by decide +kernel), List.mem_of_getElem? (i := 1218) (by decide +kernel)⟩
theorem lw_p40 : lw_okq (⟨"LeaseServerModel", "boundOnes", "()I"⟩, 6) := ⟨⟨by decide +kernel, by decide +kernel⟩, List.mem_of_getElem? (i := 967) (by decide +kernel), List.mem_of_getElem? (i := 1225) (by decide +kernel), List.mem_of_getElem? (i := 1226) (by decide +kernel)⟩
def lw_privs_3 : List (MethodName × Nat) := [(⟨"LeaseServerModel", "earliest", "()I"⟩, 6), (⟨"LeaseServerModel", "due", "(I)I"⟩, 6), (⟨"LeaseServerModel", "stateOf", "(I)I"⟩, 6), (⟨"LeaseServerModel", "happen", "(I)I"⟩, 6), (⟨"LeaseServerModel", "kind", "(I)I"⟩, 6), (⟨"LeaseServerModel", "happens", "(II)V"⟩, 6), (⟨"LeaseServerModel", "lacks", "(I)I"⟩, 6), (⟨"LeaseServerModel", "count", "(II)I"⟩, 6), (⟨"LeaseServerModel", "boundOnes", "()I"⟩, 6)]
theorem lw_r3 : ∀ q ∈ lw_privs_3, lw_okq q := List.forall_mem_cons.mpr ⟨lw_p32, List.forall_mem_cons.mpr ⟨lw_p33, List.forall_mem_cons.mpr ⟨lw_p34, List.forall_mem_cons.mpr ⟨lw_p35, List.forall_mem_cons.mpr ⟨lw_p36, List.forall_mem_cons.mpr ⟨lw_p37, List.forall_mem_cons.mpr ⟨lw_p38, List.forall_mem_cons.mpr ⟨lw_p39, List.forall_mem_cons.mpr ⟨lw_p40, fun _ h => absurd h List.not_mem_nil⟩⟩⟩⟩⟩⟩⟩⟩⟩
def lw_privs : List (MethodName × Nat) := lw_privs_1 ++ (lw_privs_2 ++ (lw_privs_3))
def lw_tbl : List Cond := k2_sels lw_privs ++ tables_1
theorem lw_privs_ok : ∀ q ∈ lw_privs, lw_okq q := by
  show ∀ q ∈ lw_privs_1 ++ (lw_privs_2 ++ (lw_privs_3)), lw_okq q
  exact List.forall_mem_append.mpr ⟨lw_r1, List.forall_mem_append.mpr ⟨lw_r2, lw_r3⟩⟩
/-- the streams that the claim lets the run draw from -/
abbrev lw_cs : List Choice := [Jvm.Choice.named "NaN.bits"]
theorem lw_bits : nanBits ∈ lw_cs := by first | decide | exact List.mem_cons_self | simp [lw_cs, nanBits]
end
section
/-! ===== BEGIN words of one list among another's, by their places ===== -/
theorem goodIn_r {big : List Cond} (ws : List Cond) (ps : List Nat) (hp : ws = ps.filterMap (fun i => big[i]?)) (h : ws.all goodWord = true) : GoodIn big ws := by
  intro w hw
  have h1 := List.all_eq_true.mp h w hw
  rw [hp] at hw
  obtain ⟨i, -, hi⟩ := List.mem_filterMap.mp hw
  have hm : w ∈ big := by first | exact List.mem_of_getElem? hi | exact List.getElem?_mem hi
  exact ⟨hm, good_of_word h1⟩
theorem goodIn_app {big a b : List Cond} (ha : GoodIn big a) (hb : GoodIn big b) : GoodIn big (a ++ b) := fun w h => (List.mem_append.mp h).elim (ha w) (hb w)
theorem goodIn_ca {big a b : List Cond} {c : Cond} (ha : GoodIn big (c :: a)) (hb : GoodIn big b) : GoodIn big (c :: (a ++ b)) := fun w h => (List.mem_cons.mp h).elim (fun e => ha w (List.mem_cons.mpr (Or.inl e))) (fun h => (List.mem_append.mp h).elim (fun h => ha w (List.mem_cons.mpr (Or.inr h))) (hb w))
theorem goodIn_sub {big ws : List Cond} (hm : ∀ w ∈ ws, w ∈ big) (h : ws.all goodWord = true) : GoodIn big ws := fun w hw => ⟨hm w hw, good_of_word (List.all_eq_true.mp h w hw)⟩
/-! ===== END ===== -/

/-! ===== BEGIN exceptions that leave a method, and their catching by the caller (launches without stack traces) ===== -/
section VXA
/-! The laws vx_back, vx_callV, vx_callS, vx_callSW, vx_throw0, vx_throwS follow proofs of the library, with one case more: JvmDerived/Free/Laws.lean (Back.of_free), Shelf42/LK1.lean (callV, callS), Shelf/KitTraced.lean (throwNew0V, throwNewS). -/
/-- where a method has thrown q: the class by its name, the cell, what was written, the world -/
def vx_T (XC : String → State → State → Prop) (st : State) (q : Addr) (t : State) (mc ms : Nat) (free : Addr → Prop) : Prop :=
  ∃ (E : String) (ce : Cell) (L : List Loc), XC E st t ∧ t.heap[q]? = some ce ∧ ce.vm = .none ∧ st.vm.findClass E = some ce.cls ∧ st.WarmedH t.vm ∧ st.sameButNew ({ t with vm := st.vm } : State) L mc ms ∧ ∀ z ∈ L, free z.base
def vx_Q (Qc : Array Value → State → Outcome → State → Prop) (XC : String → State → State → Prop) (mc ms : Nat) (free : Addr → Prop) : Array Value → State → Outcome → State → Prop := fun a st o t =>
  (Qc a st o t ∧ ∃ L, FrameEnd st o t L mc ms ∧ ∀ q ∈ L, free q.base) ∨ ∃ q, o = .threw q ∧ vx_T XC st q t mc ms free
/-- a callee that returns or throws -/
def vx_Met (l : Launch) (y : MethodName) (ws : List Cond) (rm : Room) (Pc : Array Value → State → Prop) (Qc : Array Value → State → Outcome → State → Prop) (XC : String → State → State → Prop) (mc ms : Nat) (free : Addr → Prop) : Prop :=
  MetFree l y (headSpec ws rm) Pc (fun _ _ _ _ _ => True) (vx_Q Qc XC mc ms free)
def vx_Post (XC : String → State → State → Prop) (mc ms : Nat) (free : Addr → Prop) : Pt → Array Value → Addr → Pt → Prop := fun A a q B =>
  ∃ (g : JFrame) (mk : MethodId) (t : State) (L : List Loc) (E : String) (ce : Cell), B.U.heap = t.heap ∧ B.U.vm = t.vm ∧ XC E (A.U.calling g mk a) t ∧ t.heap[q]? = some ce ∧ ce.vm = .none ∧ A.U.vm.findClass E = some ce.cls ∧ B.locs = A.locs ++ L ∧ (∀ z ∈ L, free z.base) ∧ B.cells = A.cells + mc ∧ B.slots = A.slots + ms
def vx_Back (l : Launch) (R : Room) (p : Program) (e : Env) (below : List Frame) (s : State) (sargs : Array Value) (y : MethodName) (len W9 : Nat)
    (Pre : Pt → Array Value → Prop) (Post : Pt → Array Value → Option Value → Pt → Prop) (PostX : Pt → Array Value → Addr → Pt → Prop) : Prop :=
  ∀ (m : MethodId) (meth : Method) (c : Code) (A : Pt) (g : JFrame) (ig : Instr) (mk : MethodId) (a : Array Value),
    Stand p l e R s m sargs below meth c A.U A.locs A.cells A.slots → g.method = m → g.locals.size = c.maxLocals → decode c.code g.pc = .ok (ig, len) →
    2 * g.monitorRoom + (g.stack.map fun v => v.category).sum ≤ W9 → A.U.methodNamed? y = some mk → Pre A a →
    (∃ (v : Option Value) (B : Pt), Stand p l e R s m sargs below meth c B.U B.locs B.cells B.slots ∧ Post A a v B ∧
      Steps p.tables e below (doInvoke e (A.U.setTop g) [] mk a).1 (B.U.setTop { g with pc := g.pc + len, stack := v.toList ++ g.stack })) ∨
    (∃ (q : Addr) (B : Pt), Stand p l e R s m sargs below meth c B.U B.locs B.cells B.slots ∧ PostX A a q B ∧
      Steps p.tables e below (doInvoke e (A.U.setTop g) [] mk a).1 ((B.U.setTop g).pushFrame (.throwing q)))
section Payer
variable {l : Launch} {R : Room} {p : Program} {e : Env} {below : List Frame} {s : State} {sargs : Array Value} {y : MethodName} {len W9 : Nat}
theorem vx_back {ws : List Cond} {rm : Room} {Pc : Array Value → State → Prop} {Qc : Array Value → State → Outcome → State → Prop} {XC : String → State → State → Prop} {mc ms : Nat} {free : Addr → Prop} {bytes : ByteArray} {maxL : Nat} {ret : Option FieldType}
    (hM : vx_Met l y ws rm Pc Qc XC mc ms free) (hblind : FrameBlind Pc) (hrc : rm.cells = mc) (hrs : rm.slots = ms)
    (hframes : rm.frames + 1 ≤ R.frames) (hlocals : W9 + (maxL + 11) + rm.locals ≤ R.locals)
    (hws : ∀ w ∈ ws, ∀ a' U, s.WarmedH U.vm → w.before a' U = true) (hcode : Cond.code y bytes maxL ret ∈ ws) (hinit : ∀ a' U, s.WarmedH U.vm → (Cond.initialized y.cls).before a' U = true) :
    vx_Back l R p e below s sargs y len W9 (PreOf R mc ms Pc) (PostOf Qc mc ms free) (vx_Post XC mc ms free) := by
  intro m meth c A g ig mk a X hg hsize hdg hW hn hp
  have h1 : (headSpec ws rm).pre.before a A.U = true := atoms_intro fun w hw => hws w hw _ _ X.warmed
  have h2 : (Cond.code y bytes maxL ret).before a A.U = true := hws _ hcode _ _ X.warmed
  have h3 : (Cond.initialized y.cls).before a A.U = true := hinit _ _ X.warmed
  have h4 : A.cells + (headSpec ws rm).room.cells ≤ R.cells := by rw [show (headSpec ws rm).room.cells = mc from hrc]; exact hp.1
  have h5 : A.slots + (headSpec ws rm).room.slots ≤ R.slots := by rw [show (headSpec ws rm).room.slots = ms from hrs]; exact hp.2.1
  have hPc : Pc a (A.U.calling g mk a) := hblind _ _ _ _ hp.2.2
  obtain ⟨U, Ls, c0, s0⟩ := A
  dsimp only [Pt.U, Pt.locs, Pt.cells, Pt.slots] at h1 h2 h3 h4 h5 X hn hPc ⊢
  obtain ⟨methY, cY, hmY, hcY, -, hlY, -, -, -, -⟩ := Cond.code_spec hn h2
  obtain ⟨kY, hkY, -⟩ := className_of_methodNamed hn
  have hinitY : kY.init = .initialized := Cond.initialized_spec (findClass_of_methodNamed hn) hkY h3
  have h : At U g.method c below := by rw [hg]; exact X.here
  have hlocals9 : W9 + (maxL + 11) + (headSpec ws rm).room.locals ≤ R.locals := hlocals
  have happ : (headSpec ws rm).appliesLoose y e.platform (U.calling g mk a) = true :=
    Spec.appliesLoose_calling (g := g) h hdg hn hkY hinitY
      (X.room_calling (g := g) (R' := (headSpec ws rm).room) hsize hmY hcY hframes (by rw [hlY]; omega) h4 h5) h1
  obtain ⟨mid, hmid⟩ := h.above
  have hfr : (U.setTop g).frames = (.java g :: mid) ++ below := by rw [State.frames_setTop' g h.top, hmid]; rfl
  obtain ⟨o, s₂, hsteps, -, hend, hq⟩ := Steps.callFree hM p X.admits X.cas X.clock (acts := []) hfr happ hPc trivial
  have hq' : vx_Q Qc XC mc ms free a (U.calling g mk a) o s₂ := hq
  rw [State.frames_setTop' g h.top] at hend
  obtain ⟨g₀, hg0⟩ := Option.isSome_iff_exists.mp h.top
  obtain ⟨r, hr⟩ := State.topJava?_eq_some.mp hg0
  have hr' : (({ U with heap := s₂.heap, slotsUsed := s₂.slotsUsed } : State).setVm s₂.vm).frames = .java g₀ :: r := hr
  rcases hq' with ⟨hqc, L, hfe, hL⟩ | ⟨q, rfl, E, ce, L, hx, hce, hcv, hcl, hW₂, hsm, hL⟩
  · obtain ⟨⟨v, rfl⟩, hW₂, e2, q2, q3, q4, q5, q6⟩ := id hfe
    have e3 : s₂ = ({ (U.calling g mk a).setFrames s₂.frames with heap := s₂.heap, slotsUsed := s₂.slotsUsed } : State).setVm s₂.vm := by
      have : s₂ = ({ s₂ with vm := (U.calling g mk a).vm } : State).setVm s₂.vm := rfl
      rw [e2] at this
      exact this
    obtain ⟨c₂, i₂, len₂, hc₂, hd₂, hf₂⟩ := hend
    have hW' : U.WarmedH s₂.vm := hW₂
    have hcc : c₂ = c := by
      have h1 : s₂.code? g.method = U.code? g.method := by
        rw [State.code?_eq, State.code?_eq, hW'.alike.method?]
      exact Option.some.inj (hc₂.symm.trans (h1.trans h.code))
    subst hcc
    have hlen : len₂ = len := by rw [hdg] at hd₂; cases hd₂; rfl
    subst hlen
    have hs₂ : s₂ = (({ U with heap := s₂.heap, slotsUsed := s₂.slotsUsed } : State).setVm s₂.vm).setTop { g with pc := g.pc + len₂, stack := v.toList ++ g.stack } := by
      refine e3.trans ?_
      rw [hf₂, State.calling_eq h.top, State.setFrames_setFrames, State.setTop_of_frames _ hr', hr]
      rfl
    have hsame : U.sameButNew ({ U with heap := s₂.heap, slotsUsed := s₂.slotsUsed } : State) L mc ms := by
      refine ⟨?_, q2, q3, q4, q5, q6⟩
      obtain ⟨t, ht, -⟩ := State.frames_cons hr
      show ({ U with heap := s₂.heap, slotsUsed := s₂.slotsUsed } : State) = { U.setFrames U.frames with heap := s₂.heap, slotsUsed := s₂.slotsUsed }
      rw [State.setFrames_self ht]
    subst hg
    refine Or.inl ⟨v, ⟨(({ U with heap := s₂.heap, slotsUsed := s₂.slotsUsed } : State).setVm s₂.vm), Ls ++ L, c0 + mc, s0 + ms⟩,
      ⟨X.admits, X.cas, X.clock, X.frames, X.room, X.hears, X.method, X.code, (X.here.setHeapUsed s₂.heap s₂.slotsUsed).setVm hW'.alike, X.tail, State.WarmedH.trans X.warmed hW', X.limits, X.bytes, X.same.trans (hsame.setVm s.vm)⟩,
      ⟨g, mk, s₂, L, rfl, rfl, hqc, rfl, hL, rfl, rfl⟩, ?_⟩
    show Steps p.tables e below _ ((({ U with heap := s₂.heap, slotsUsed := s₂.slotsUsed } : State).setVm s₂.vm).setTop { g with pc := g.pc + len₂, stack := v.toList ++ g.stack })
    rw [← hs₂]
    exact hsteps
  · obtain ⟨e2, q2, q3, q4, q5, q6⟩ := id hsm
    have e3 : s₂ = ({ (U.calling g mk a).setFrames s₂.frames with heap := s₂.heap, slotsUsed := s₂.slotsUsed } : State).setVm s₂.vm := by
      have : s₂ = ({ s₂ with vm := (U.calling g mk a).vm } : State).setVm s₂.vm := rfl
      rw [e2] at this
      exact this
    have hf₂ : s₂.frames = .throwing q :: .java g :: U.frames.tail := hend
    have hW' : U.WarmedH s₂.vm := hW₂
    have hs₂ : s₂ = ((({ U with heap := s₂.heap, slotsUsed := s₂.slotsUsed } : State).setVm s₂.vm).setTop g).pushFrame (.throwing q) := by
      refine e3.trans ?_
      rw [hf₂, State.calling_eq h.top, State.setFrames_setFrames, State.pushFrame, State.frames_setTop _ hr', State.setTop_of_frames _ hr', State.setFrames_setFrames, hr]
      rfl
    have hsame : U.sameButNew ({ U with heap := s₂.heap, slotsUsed := s₂.slotsUsed } : State) L mc ms := by
      refine ⟨?_, q2, q3, q4, q5, q6⟩
      obtain ⟨t, ht, -⟩ := State.frames_cons hr
      show ({ U with heap := s₂.heap, slotsUsed := s₂.slotsUsed } : State) = { U.setFrames U.frames with heap := s₂.heap, slotsUsed := s₂.slotsUsed }
      rw [State.setFrames_self ht]
    subst hg
    refine Or.inr ⟨q, ⟨(({ U with heap := s₂.heap, slotsUsed := s₂.slotsUsed } : State).setVm s₂.vm), Ls ++ L, c0 + mc, s0 + ms⟩,
      ⟨X.admits, X.cas, X.clock, X.frames, X.room, X.hears, X.method, X.code, (X.here.setHeapUsed s₂.heap s₂.slotsUsed).setVm hW'.alike, X.tail, State.WarmedH.trans X.warmed hW', X.limits, X.bytes, X.same.trans (hsame.setVm s.vm)⟩,
      ⟨g, mk, s₂, L, E, ce, rfl, rfl, hx, hce, hcv, hcl, rfl, hL, rfl, rfl⟩, ?_⟩
    show Steps p.tables e below _ (((({ U with heap := s₂.heap, slotsUsed := s₂.slotsUsed } : State).setVm s₂.vm).setTop g).pushFrame (.throwing q))
    rw [← hs₂]
    exact hsteps
end Payer
section Calls
variable {p : Program} {l : Launch} {e : Env} {R : Room} {s : State} {m : MethodId} {args : Array Value} {below : List Frame} {meth : Method} {c : Code} {T : State} {locs : List Loc} {cells slots : Nat}
theorem vx_callV (X : Stand p l e R s m args below meth c T locs cells slots) (hexec : p.tables.exec = Jvm.exec) {own C : String} {index : Nat} {y : MethodName} {bytes : ByteArray} {maxL : Nat} {ret : Option FieldType}
    (hown : s.vm.findClass own = some m.cls) (hlink : (Cond.methodLink own index y).before args s = true) (hinst : (Cond.instanceMethod y).before args s = true) (hsel : (Cond.selects C y y).before args s = true)
    (hcode : (Cond.code y bytes maxL ret).before args s = true) (hy : y.cls ≠ "java/lang/invoke/MethodHandle" ∧ y.cls ≠ "java/lang/invoke/VarHandle")
    {W9 : Nat} {Pre : Pt → Array Value → Prop} {Post : Pt → Array Value → Option Value → Pt → Prop} {PostX : Pt → Array Value → Addr → Pt → Prop} (hK : vx_Back l R p e below s args y 3 W9 Pre Post PostX)
    {b : Addr} {cellB : Cell} (hcell : T.heap[b]? = some cellB) (hobj : cellB.vm.isStatics = false) (hcls : s.vm.findClass C = some cellB.cls)
    {g : JFrame} (hg : g.method = m) (hsize : g.locals.size = c.maxLocals) {argsL rest : List Value} (hlen : ∀ sig, parseMethodDescriptor y.desc = some sig → argsL.length = sig.parameters.length)
    (hstack : g.stack = argsL.reverse ++ .ref b :: rest) (hW : 2 * g.monitorRoom + (rest.map fun v => v.category).sum ≤ W9) (hdg : decode c.code g.pc = .ok (.invokevirtual index, 3))
    (hpre : ∀ vm₁, s.WarmedH vm₁ → Pre ⟨T.setVm vm₁, locs, cells, slots⟩ (Value.ref b :: argsL).toArray) :
    (∃ (v : Option Value) (vm₁ : Vm) (B : Pt), s.WarmedH vm₁ ∧ Stand p l e R s m args below meth c B.U B.locs B.cells B.slots ∧ Post ⟨T.setVm vm₁, locs, cells, slots⟩ (Value.ref b :: argsL).toArray v B ∧
      ∀ target, Steps p.tables e below (B.U.setTop { g with pc := g.pc + 3, stack := v.toList ++ rest }) target → Steps p.tables e below (T.setTop g) target) ∨
    (∃ (q : Addr) (vm₁ : Vm) (B : Pt), s.WarmedH vm₁ ∧ Stand p l e R s m args below meth c B.U B.locs B.cells B.slots ∧ PostX ⟨T.setVm vm₁, locs, cells, slots⟩ (Value.ref b :: argsL).toArray q B ∧
      Steps p.tables e below (T.setTop g) ((B.U.setTop { g with stack := rest }).pushFrame (.throwing q))) := by
  obtain ⟨mk, methM, hnamed, hmethM, hstM, habM⟩ := Cond.instanceMethod_spec hinst
  obtain ⟨methM', cM, hmethM', -, -, -, -, -, -, hsigM⟩ := Cond.code_spec hnamed hcode
  cases hmethM.symm.trans hmethM'
  obtain ⟨c2, r2, m2, q1, q2, q3, q4, kP, hkP, hkPi⟩ := Cond.selects_spec hsel
  cases hcls.symm.trans q1
  cases (State.methodFound?_of_named hnamed hy).symm.trans q2
  cases hnamed.symm.trans q3
  have hselP : selectMethod e.platform s.vm cellB.cls mk = .method mk := by rw [Launch.admits_selectMethod X.admits]; exact q4
  obtain ⟨vm₁, X₁, hstep₁⟩ := X.invokevirtual hexec hown hlink hnamed hmethM hstM hkP hkPi hy (a := b) (cell := cellB) hcell
    (fun z h => by rw [h] at hobj; cases hobj) hselP hmethM habM hkP hkPi (g := g) hg (argsL := argsL) (rest := rest) (hlen _ hsigM) hstack hdg
  rcases hK m meth c ⟨T.setVm vm₁, locs, cells, slots⟩ { g with stack := rest } (.invokevirtual index) mk (Value.ref b :: argsL).toArray X₁ hg hsize hdg hW (X₁.named hnamed) (hpre vm₁ X₁.warmed) with ⟨v, B, X', hpost, hsteps⟩ | ⟨q, B, X', hpost, hsteps⟩
  · exact Or.inl ⟨v, vm₁, B, X₁.warmed, X', hpost, fun target h => hstep₁ _ fun acts => by rw [doInvoke_state]; exact hsteps.trans h⟩
  · exact Or.inr ⟨q, vm₁, B, X₁.warmed, X', hpost, hstep₁ _ fun acts => by rw [doInvoke_state]; exact hsteps⟩
theorem vx_callS (X : Stand p l e R s m args below meth c T locs cells slots) (hexec : p.tables.exec = Jvm.exec) {own : String} {index : Nat} {y : MethodName} {bytes : ByteArray} {maxL : Nat} {ret : Option FieldType}
    (hown : s.vm.findClass own = some m.cls) (hlink : (Cond.methodLink own index y).before args s = true) (hstat : (Cond.static y).before args s = true) (hinit : (Cond.initialized y.cls).before args s = true)
    (hcode : (Cond.code y bytes maxL ret).before args s = true) (hy : y.cls ≠ "java/lang/invoke/MethodHandle" ∧ y.cls ≠ "java/lang/invoke/VarHandle")
    {W9 : Nat} {Pre : Pt → Array Value → Prop} {Post : Pt → Array Value → Option Value → Pt → Prop} {PostX : Pt → Array Value → Addr → Pt → Prop} (hK : vx_Back l R p e below s args y 3 W9 Pre Post PostX)
    {g : JFrame} (hg : g.method = m) (hsize : g.locals.size = c.maxLocals) {argsL rest : List Value} (hlen : ∀ sig, parseMethodDescriptor y.desc = some sig → argsL.length = sig.parameters.length)
    (hstack : g.stack = argsL.reverse ++ rest) (hW : 2 * g.monitorRoom + (rest.map fun v => v.category).sum ≤ W9) (hdg : decode c.code g.pc = .ok (.invokestatic index, 3))
    (hpre : ∀ vm₁, s.WarmedH vm₁ → Pre ⟨T.setVm vm₁, locs, cells, slots⟩ argsL.toArray) :
    (∃ (v : Option Value) (vm₁ : Vm) (B : Pt), s.WarmedH vm₁ ∧ Stand p l e R s m args below meth c B.U B.locs B.cells B.slots ∧ Post ⟨T.setVm vm₁, locs, cells, slots⟩ argsL.toArray v B ∧
      ∀ target, Steps p.tables e below (B.U.setTop { g with pc := g.pc + 3, stack := v.toList ++ rest }) target → Steps p.tables e below (T.setTop g) target) ∨
    (∃ (q : Addr) (vm₁ : Vm) (B : Pt), s.WarmedH vm₁ ∧ Stand p l e R s m args below meth c B.U B.locs B.cells B.slots ∧ PostX ⟨T.setVm vm₁, locs, cells, slots⟩ argsL.toArray q B ∧
      Steps p.tables e below (T.setTop g) ((B.U.setTop { g with stack := rest }).pushFrame (.throwing q))) := by
  obtain ⟨mk, hnamed⟩ := Cond.code_named hcode
  obtain ⟨methM, cM, hmethM, -, -, -, -, -, -, hsigM⟩ := Cond.code_spec hnamed hcode
  have hstatic : methM.isStatic = true := Cond.static_spec hnamed hmethM hstat
  obtain ⟨kP, hkP, -⟩ := className_of_methodNamed hnamed
  have hinitP : kP.init = .initialized := Cond.initialized_spec (findClass_of_methodNamed hnamed) hkP hinit
  obtain ⟨vm₁, X₁, hstep₁⟩ := X.invokestatic hexec hown hlink hnamed hmethM hstatic hkP hinitP hy (g := g) hg (argsL := argsL) (rest := rest) (hlen _ hsigM) hstack hdg
  rcases hK m meth c ⟨T.setVm vm₁, locs, cells, slots⟩ { g with stack := rest } (.invokestatic index) mk argsL.toArray X₁ hg hsize hdg hW (X₁.named hnamed) (hpre vm₁ X₁.warmed) with ⟨v, B, X', hpost, hsteps⟩ | ⟨q, B, X', hpost, hsteps⟩
  · exact Or.inl ⟨v, vm₁, B, X₁.warmed, X', hpost, fun target h => hstep₁ _ fun acts => by rw [doInvoke_state]; exact hsteps.trans h⟩
  · exact Or.inr ⟨q, vm₁, B, X₁.warmed, X', hpost, hstep₁ _ fun acts => by rw [doInvoke_state]; exact hsteps⟩
end Calls
theorem vx_cls {s : State} {T : State} {vm₁ : Vm} {E : String} {k : ClassId} (hW : s.WarmedH vm₁) (h : (T.setVm vm₁).vm.findClass E = some k) : s.vm.findClass E = some k := by
  have h1 : vm₁.findClass E = some k := h
  rw [hW.alike.findClass] at h1
  exact h1
/-- the method's frame g, with q thrown over it -/
def vx_W (p : Program) (l : Launch) (e : Env) (R : Room) (s : State) (m : MethodId) (args : Array Value) (below : List Frame) (meth : Method) (c : Code) (H : Heap) (locs : List Loc) (cells slots : Nat) (Q : State → Prop) (g : JFrame) (q : Addr) : Prop :=
  ∀ T : State, T.heap = H → Stand p l e R s m args below meth c T locs cells slots → ∃ t, Steps p.tables e below ((T.setTop g).pushFrame (.throwing q)) t ∧ Q t
def vx_Run (p : Program) (l : Launch) (e : Env) (R : Room) (s : State) (m : MethodId) (args : Array Value) (below : List Frame) (meth : Method) (c : Code) (H : Heap) (locs : List Loc) (cells slots mc ms : Nat) (g : JFrame) (rest : List Value) (Qa : State → Outcome → State → Prop) (XC : String → State → State → Prop) (free : Addr → Prop) : Prop :=
  ∀ T : State, T.heap = H → Stand p l e R s m args below meth c T locs cells slots →
    (∃ (v : Option Value) (st₀ t T' : State) (L : List Loc), st₀.heap = H ∧ Stand p l e R s m args below meth c T' (locs ++ L) (cells + mc) (slots + ms) ∧ (∀ q ∈ L, free q.base) ∧ T'.heap = t.heap ∧ T'.vm = t.vm ∧ Qa st₀ (.returned v) t ∧
      Goes p e below T g T' { g with pc := g.pc + 3, stack := v.toList ++ rest }) ∨
    (∃ (q : Addr) (st₀ t T' : State) (L : List Loc) (E : String) (ce : Cell), st₀.heap = H ∧ Stand p l e R s m args below meth c T' (locs ++ L) (cells + mc) (slots + ms) ∧ (∀ z ∈ L, free z.base) ∧ T'.heap = t.heap ∧ T'.vm = t.vm ∧ XC E st₀ t ∧ t.heap[q]? = some ce ∧ ce.vm = .none ∧ s.vm.findClass E = some ce.cls ∧
      Steps p.tables e below (T.setTop g) ((T'.setTop { g with stack := rest }).pushFrame (.throwing q)))
def vx_X {S : Type} (px : S → Prop) (B : String → S → State → Prop) (A : Nat → Prop) : String → State → State → Prop := fun E st t => ∃ u : S, px u ∧ B E u t ∧ va_F A st t
section Runs
variable {p : Program} {l : Launch} {e : Env} {R : Room} {s : State} {m : MethodId} {args : Array Value} {below : List Frame} {meth : Method} {c : Code} {H : Heap} {locs : List Loc} {cells slots : Nat}
variable {y : MethodName} {bytes cc : ByteArray} {maxL nL mc ms n index : Nat} {ret : Option FieldType} {ws : List Cond} {rm : Room} {Pc : Array Value → State → Prop} {Qc : Array Value → State → Outcome → State → Prop} {XC : String → State → State → Prop} {free : Addr → Prop} {Ts : List Cond} {own C : String} {b : Addr} {As rest : List Value} {g : JFrame}
theorem vx_callBack (cb : CallB R s args own index y bytes maxL ret ws rm mc ms n) (hM : vx_Met l y ws rm Pc Qc XC mc ms free) (hbl : FrameBlind Pc) : vx_Back l R p e below s args y 3 8 (PreOf R mc ms Pc) (PostOf Qc mc ms free) (vx_Post XC mc ms free) := by
  obtain ⟨hrc, hrs, hfr, hlo, hws, hcw, -, hini, -⟩ := cb
  exact vx_back (bytes := bytes) (maxL := maxL) (ret := ret) hM hbl hrc hrs hfr hlo hws hcw (fun a' U hW => word_at hW (Or.inl (by first | rfl | simp [Cond.onTables, Cond.keeps, Cond.steady])) hini)
theorem vx_runV (S : CallFix p m c cc nL s args Ts own) (hM : vx_Met l y ws rm Pc Qc XC mc ms free) (cw : CallW R s args own C index y bytes maxL ret ws rm mc ms n) (hp : PreV s H C b Pc As)
    (hg : g.method = m) (hn : As.length = n) (hsize : g.locals.size = nL) (hstack : g.stack = As.reverse ++ .ref b :: rest) (hW : 2 * g.monitorRoom + (rest.map fun v => v.category).sum ≤ 8) (hdg : decode cc g.pc = .ok (.invokevirtual index, 3)) (hf : cells + mc ≤ R.cells ∧ slots + ms ≤ R.slots) :
    vx_Run p l e R s m args below meth c H locs cells slots mc ms g rest (Qc (Value.ref b :: As).toArray) XC free := by
  have hK : vx_Back l R p e below s args y 3 8 (PreOf R mc ms Pc) (PostOf Qc mc ms free) (vx_Post XC mc ms free) := vx_callBack cw.1 hM hp.1
  obtain ⟨⟨-, -, -, -, -, -, hcode, -, hy, hlen, hl⟩, hin, hse⟩ := cw
  obtain ⟨hx, hb, hml, ho, -⟩ := S
  obtain ⟨-, ⟨cellB, hcB, hoB, hclB⟩, hPc⟩ := hp
  intro T hT X
  rcases vx_callV X hx (C := C) (bytes := bytes) (maxL := maxL) (ret := ret) ho hl hin hse hcode hy hK (by rw [hT]; exact hcB) hoB hclB hg (hsize.trans hml.symm) (argsL := As) (rest := rest) (fun sig h => hn.trans (hlen sig h)) hstack hW (by rw [hb]; exact hdg)
    (fun vm₁ hW₁ => ⟨hf.1, hf.2, hPc (T.setVm vm₁) hT hW₁⟩) with ⟨v, vm₁, ⟨U', l2, c2, s2⟩, hW₁, X', ⟨g', mk, t, L, e1, e2, hq, h1, hL, h2, h3⟩, st⟩ | ⟨q, vm₁, ⟨U', l2, c2, s2⟩, hW₁, X', ⟨g', mk, t, L, E, ce, e1, e2, hq, hce, hcv, hcl, h1, hL, h2, h3⟩, st⟩
  · dsimp only [Pt.U, Pt.locs, Pt.cells, Pt.slots] at X' e1 e2 h1 h2 h3 st
    subst h1; subst h2; subst h3
    exact Or.inl ⟨v, (T.setVm vm₁).calling g' mk (Value.ref b :: As).toArray, t, U', L, hT, X', hL, e1, e2, hq, st⟩
  · dsimp only [Pt.U, Pt.locs, Pt.cells, Pt.slots] at X' e1 e2 h1 h2 h3 st hcl
    subst h1; subst h2; subst h3
    exact Or.inr ⟨q, (T.setVm vm₁).calling g' mk (Value.ref b :: As).toArray, t, U', L, E, ce, hT, X', hL, e1, e2, hq, hce, hcv, vx_cls hW₁ hcl, st⟩
theorem vx_runS (S : CallFix p m c cc nL s args Ts own) (hM : vx_Met l y ws rm Pc Qc XC mc ms free) (cw : CallB R s args own index y bytes maxL ret ws rm mc ms n ∧ (Cond.static y).before args s = true) (hp : PreS s H Pc As)
    (hg : g.method = m) (hn : As.length = n) (hsize : g.locals.size = nL) (hstack : g.stack = As.reverse ++ rest) (hW : 2 * g.monitorRoom + (rest.map fun v => v.category).sum ≤ 8) (hdg : decode cc g.pc = .ok (.invokestatic index, 3)) (hf : cells + mc ≤ R.cells ∧ slots + ms ≤ R.slots) :
    vx_Run p l e R s m args below meth c H locs cells slots mc ms g rest (Qc As.toArray) XC free := by
  have hK : vx_Back l R p e below s args y 3 8 (PreOf R mc ms Pc) (PostOf Qc mc ms free) (vx_Post XC mc ms free) := vx_callBack cw.1 hM hp.1
  obtain ⟨⟨-, -, -, -, -, -, hcode, hini, hy, hlen, hl⟩, hstt⟩ := cw
  obtain ⟨hx, hb, hml, ho, -⟩ := S
  intro T hT X
  rcases vx_callS X hx (bytes := bytes) (maxL := maxL) (ret := ret) ho hl hstt hini hcode hy hK hg (hsize.trans hml.symm) (argsL := As) (rest := rest) (fun sig h => hn.trans (hlen sig h)) hstack hW (by rw [hb]; exact hdg)
    (fun vm₁ hW₁ => ⟨hf.1, hf.2, hp.2 (T.setVm vm₁) hT hW₁⟩) with ⟨v, vm₁, ⟨U', l2, c2, s2⟩, hW₁, X', ⟨g', mk, t, L, e1, e2, hq, h1, hL, h2, h3⟩, st⟩ | ⟨q, vm₁, ⟨U', l2, c2, s2⟩, hW₁, X', ⟨g', mk, t, L, E, ce, e1, e2, hq, hce, hcv, hcl, h1, hL, h2, h3⟩, st⟩
  · dsimp only [Pt.U, Pt.locs, Pt.cells, Pt.slots] at X' e1 e2 h1 h2 h3 st
    subst h1; subst h2; subst h3
    exact Or.inl ⟨v, (T.setVm vm₁).calling g' mk As.toArray, t, U', L, hT, X', hL, e1, e2, hq, st⟩
  · dsimp only [Pt.U, Pt.locs, Pt.cells, Pt.slots] at X' e1 e2 h1 h2 h3 st hcl
    subst h1; subst h2; subst h3
    exact Or.inr ⟨q, (T.setVm vm₁).calling g' mk As.toArray, t, U', L, E, ce, hT, X', hL, e1, e2, hq, hce, hcv, vx_cls hW₁ hcl, st⟩
end Runs
section Rows
variable {p : Program} {l : Launch} {e : Env} {R : Room} {s : State} {m : MethodId} {args : Array Value} {below : List Frame} {meth : Method} {c : Code} {H : Heap} {locs : List Loc} {cells slots : Nat} {Q : State → Prop}
variable {mc ms : Nat} {free : Addr → Prop} {A0 A1 : Nat → Prop} {H0 : Heap} {a : Array Value} {pc : Nat} {ls : Array Slot} {st0 rest : List Value}
theorem vx_keep {st₀ t T' : State} {L : List Loc} (h0 : st₀.heap = H) (e1 : T'.heap = t.heap) (hS : va_S A0 H0 H locs) (hA : ∀ q, q < H.size → A1 q → A0 q) (hf : ∀ q, free q → A0 q) (hL : ∀ q ∈ L, free q.base) (hF : va_F A1 st₀ t) :
    H.size ≤ T'.heap.size ∧ (∀ q : Nat, q < H.size → ¬ A1 q → T'.heap[q]? = H[q]?) ∧ va_S A0 H0 T'.heap (locs ++ L) := by
  obtain ⟨hz, hk⟩ := hF
  rw [h0] at hz hk
  exact ⟨by rw [e1]; exact hz, fun q h1 h2 => by rw [e1]; exact hk q h1 h2,
    ⟨Nat.le_trans hS.1 (by rw [e1]; exact hz), fun q h1 h2 => by rw [e1, hk q (Nat.lt_of_lt_of_le h1 hS.1) (fun z => h2 (hA q (Nat.lt_of_lt_of_le h1 hS.1) z))]; exact hS.2.1 q h1 h2, fun q hq => by
      rcases List.mem_append.mp hq with h | h
      · exact hS.2.2 q h
      · exact hf _ (hL q h)⟩⟩
theorem vx_calli {S SX : Type} {post : Int32 → S → Prop} {px : SX → Prop} {B : S → State → Prop} {BX : String → SX → State → Prop} {AX : Nat → Prop} (hr : vx_Run p l e R s m args below meth c H locs cells slots mc ms (F0 m pc ls st0) rest (va_Qi post B A1 a) (vx_X px BX AX) free) (hS : va_S A0 H0 H locs) (hA : ∀ q, q < H.size → A1 q → A0 q) (hf : ∀ q, free q → A0 q) (hAX : ∀ q, q < H.size → AX q → A0 q)
    (kx : ∀ (E : String) (ce : Cell) (q9 : Addr) (u : SX) (t : State) (H1 : Heap) (locs1 : List Loc), t.heap = H1 → s.vm.Alike t.vm → px u → BX E u t → H.size ≤ H1.size → (∀ q : Nat, q < H.size → ¬ AX q → H1[q]? = H[q]?) → va_S A0 H0 H1 locs1 → H1[q9]? = some ce → ce.vm = .none → s.vm.findClass E = some ce.cls → vx_W p l e R s m args below meth c H1 locs1 (cells + mc) (slots + ms) Q (F0 m pc ls rest) q9)
    (kk : ∀ (r : Int32) (u : S) (t : State) (H1 : Heap) (locs1 : List Loc), t.heap = H1 → s.vm.Alike t.vm → post r u → B u t → H.size ≤ H1.size → (∀ q : Nat, q < H.size → ¬ A1 q → H1[q]? = H[q]?) → va_S A0 H0 H1 locs1 → W p l e R s m args below meth c H1 locs1 (cells + mc) (slots + ms) Q (F0 m (pc + 3) ls (.int r :: rest))) : W p l e R s m args below meth c H locs cells slots Q (F0 m pc ls st0) := by
  intro T hT X
  rcases hr T hT X with ⟨v, st₀, t, T', L, h0, X', hL, e1, e2, ⟨⟨r, u, hv, hp, hb⟩, hF⟩, st⟩ | ⟨q, st₀, t, T', L, E, ce, h0, X', hL, e1, e2, ⟨u, hp, hb, hF⟩, hce, hcv, hcl, st⟩
  · cases hv
    obtain ⟨k1, k2, k3⟩ := vx_keep h0 e1 hS hA hf hL hF
    obtain ⟨t2, a1, b1⟩ := kk r u t T'.heap (locs ++ L) e1.symm (by rw [← e2]; exact X'.warmed.alike) hp hb k1 k2 k3 T' rfl X'
    exact ⟨t2, st t2 a1, b1⟩
  · obtain ⟨k1, k2, k3⟩ := vx_keep h0 e1 hS hAX hf hL hF
    obtain ⟨t2, a1, b1⟩ := kx E ce q u t T'.heap (locs ++ L) e1.symm (by rw [← e2]; exact X'.warmed.alike) hp hb k1 k2 k3 (by rw [e1]; exact hce) hcv hcl T' rfl X'
    exact ⟨t2, st.trans a1, b1⟩
theorem vx_calll {S SX : Type} {post : Int64 → S → Prop} {px : SX → Prop} {B : S → State → Prop} {BX : String → SX → State → Prop} {AX : Nat → Prop} (hr : vx_Run p l e R s m args below meth c H locs cells slots mc ms (F0 m pc ls st0) rest (va_Ql post B A1 a) (vx_X px BX AX) free) (hS : va_S A0 H0 H locs) (hA : ∀ q, q < H.size → A1 q → A0 q) (hf : ∀ q, free q → A0 q) (hAX : ∀ q, q < H.size → AX q → A0 q)
    (kx : ∀ (E : String) (ce : Cell) (q9 : Addr) (u : SX) (t : State) (H1 : Heap) (locs1 : List Loc), t.heap = H1 → s.vm.Alike t.vm → px u → BX E u t → H.size ≤ H1.size → (∀ q : Nat, q < H.size → ¬ AX q → H1[q]? = H[q]?) → va_S A0 H0 H1 locs1 → H1[q9]? = some ce → ce.vm = .none → s.vm.findClass E = some ce.cls → vx_W p l e R s m args below meth c H1 locs1 (cells + mc) (slots + ms) Q (F0 m pc ls rest) q9)
    (kk : ∀ (r : Int64) (u : S) (t : State) (H1 : Heap) (locs1 : List Loc), t.heap = H1 → s.vm.Alike t.vm → post r u → B u t → H.size ≤ H1.size → (∀ q : Nat, q < H.size → ¬ A1 q → H1[q]? = H[q]?) → va_S A0 H0 H1 locs1 → W p l e R s m args below meth c H1 locs1 (cells + mc) (slots + ms) Q (F0 m (pc + 3) ls (.long r :: rest))) : W p l e R s m args below meth c H locs cells slots Q (F0 m pc ls st0) := by
  intro T hT X
  rcases hr T hT X with ⟨v, st₀, t, T', L, h0, X', hL, e1, e2, ⟨⟨r, u, hv, hp, hb⟩, hF⟩, st⟩ | ⟨q, st₀, t, T', L, E, ce, h0, X', hL, e1, e2, ⟨u, hp, hb, hF⟩, hce, hcv, hcl, st⟩
  · cases hv
    obtain ⟨k1, k2, k3⟩ := vx_keep h0 e1 hS hA hf hL hF
    obtain ⟨t2, a1, b1⟩ := kk r u t T'.heap (locs ++ L) e1.symm (by rw [← e2]; exact X'.warmed.alike) hp hb k1 k2 k3 T' rfl X'
    exact ⟨t2, st t2 a1, b1⟩
  · obtain ⟨k1, k2, k3⟩ := vx_keep h0 e1 hS hAX hf hL hF
    obtain ⟨t2, a1, b1⟩ := kx E ce q u t T'.heap (locs ++ L) e1.symm (by rw [← e2]; exact X'.warmed.alike) hp hb k1 k2 k3 (by rw [e1]; exact hce) hcv hcl T' rfl X'
    exact ⟨t2, st.trans a1, b1⟩
theorem vx_callf {S SX : Type} {post : UInt32 → S → Prop} {px : SX → Prop} {B : S → State → Prop} {BX : String → SX → State → Prop} {AX : Nat → Prop} (hr : vx_Run p l e R s m args below meth c H locs cells slots mc ms (F0 m pc ls st0) rest (va_Qf post B A1 a) (vx_X px BX AX) free) (hS : va_S A0 H0 H locs) (hA : ∀ q, q < H.size → A1 q → A0 q) (hf : ∀ q, free q → A0 q) (hAX : ∀ q, q < H.size → AX q → A0 q)
    (kx : ∀ (E : String) (ce : Cell) (q9 : Addr) (u : SX) (t : State) (H1 : Heap) (locs1 : List Loc), t.heap = H1 → s.vm.Alike t.vm → px u → BX E u t → H.size ≤ H1.size → (∀ q : Nat, q < H.size → ¬ AX q → H1[q]? = H[q]?) → va_S A0 H0 H1 locs1 → H1[q9]? = some ce → ce.vm = .none → s.vm.findClass E = some ce.cls → vx_W p l e R s m args below meth c H1 locs1 (cells + mc) (slots + ms) Q (F0 m pc ls rest) q9)
    (kk : ∀ (r : UInt32) (u : S) (t : State) (H1 : Heap) (locs1 : List Loc), t.heap = H1 → s.vm.Alike t.vm → post r u → B u t → H.size ≤ H1.size → (∀ q : Nat, q < H.size → ¬ A1 q → H1[q]? = H[q]?) → va_S A0 H0 H1 locs1 → W p l e R s m args below meth c H1 locs1 (cells + mc) (slots + ms) Q (F0 m (pc + 3) ls (.float r :: rest))) : W p l e R s m args below meth c H locs cells slots Q (F0 m pc ls st0) := by
  intro T hT X
  rcases hr T hT X with ⟨v, st₀, t, T', L, h0, X', hL, e1, e2, ⟨⟨r, u, hv, hp, hb⟩, hF⟩, st⟩ | ⟨q, st₀, t, T', L, E, ce, h0, X', hL, e1, e2, ⟨u, hp, hb, hF⟩, hce, hcv, hcl, st⟩
  · cases hv
    obtain ⟨k1, k2, k3⟩ := vx_keep h0 e1 hS hA hf hL hF
    obtain ⟨t2, a1, b1⟩ := kk r u t T'.heap (locs ++ L) e1.symm (by rw [← e2]; exact X'.warmed.alike) hp hb k1 k2 k3 T' rfl X'
    exact ⟨t2, st t2 a1, b1⟩
  · obtain ⟨k1, k2, k3⟩ := vx_keep h0 e1 hS hAX hf hL hF
    obtain ⟨t2, a1, b1⟩ := kx E ce q u t T'.heap (locs ++ L) e1.symm (by rw [← e2]; exact X'.warmed.alike) hp hb k1 k2 k3 (by rw [e1]; exact hce) hcv hcl T' rfl X'
    exact ⟨t2, st.trans a1, b1⟩
theorem vx_calld {S SX : Type} {post : UInt64 → S → Prop} {px : SX → Prop} {B : S → State → Prop} {BX : String → SX → State → Prop} {AX : Nat → Prop} (hr : vx_Run p l e R s m args below meth c H locs cells slots mc ms (F0 m pc ls st0) rest (va_Qd post B A1 a) (vx_X px BX AX) free) (hS : va_S A0 H0 H locs) (hA : ∀ q, q < H.size → A1 q → A0 q) (hf : ∀ q, free q → A0 q) (hAX : ∀ q, q < H.size → AX q → A0 q)
    (kx : ∀ (E : String) (ce : Cell) (q9 : Addr) (u : SX) (t : State) (H1 : Heap) (locs1 : List Loc), t.heap = H1 → s.vm.Alike t.vm → px u → BX E u t → H.size ≤ H1.size → (∀ q : Nat, q < H.size → ¬ AX q → H1[q]? = H[q]?) → va_S A0 H0 H1 locs1 → H1[q9]? = some ce → ce.vm = .none → s.vm.findClass E = some ce.cls → vx_W p l e R s m args below meth c H1 locs1 (cells + mc) (slots + ms) Q (F0 m pc ls rest) q9)
    (kk : ∀ (r : UInt64) (u : S) (t : State) (H1 : Heap) (locs1 : List Loc), t.heap = H1 → s.vm.Alike t.vm → post r u → B u t → H.size ≤ H1.size → (∀ q : Nat, q < H.size → ¬ A1 q → H1[q]? = H[q]?) → va_S A0 H0 H1 locs1 → W p l e R s m args below meth c H1 locs1 (cells + mc) (slots + ms) Q (F0 m (pc + 3) ls (.double r :: rest))) : W p l e R s m args below meth c H locs cells slots Q (F0 m pc ls st0) := by
  intro T hT X
  rcases hr T hT X with ⟨v, st₀, t, T', L, h0, X', hL, e1, e2, ⟨⟨r, u, hv, hp, hb⟩, hF⟩, st⟩ | ⟨q, st₀, t, T', L, E, ce, h0, X', hL, e1, e2, ⟨u, hp, hb, hF⟩, hce, hcv, hcl, st⟩
  · cases hv
    obtain ⟨k1, k2, k3⟩ := vx_keep h0 e1 hS hA hf hL hF
    obtain ⟨t2, a1, b1⟩ := kk r u t T'.heap (locs ++ L) e1.symm (by rw [← e2]; exact X'.warmed.alike) hp hb k1 k2 k3 T' rfl X'
    exact ⟨t2, st t2 a1, b1⟩
  · obtain ⟨k1, k2, k3⟩ := vx_keep h0 e1 hS hAX hf hL hF
    obtain ⟨t2, a1, b1⟩ := kx E ce q u t T'.heap (locs ++ L) e1.symm (by rw [← e2]; exact X'.warmed.alike) hp hb k1 k2 k3 (by rw [e1]; exact hce) hcv hcl T' rfl X'
    exact ⟨t2, st.trans a1, b1⟩
theorem vx_callv {S SX : Type} {post : S → Prop} {px : SX → Prop} {B : S → State → Prop} {BX : String → SX → State → Prop} {AX : Nat → Prop} (hr : vx_Run p l e R s m args below meth c H locs cells slots mc ms (F0 m pc ls st0) rest (va_Qv post B A1 a) (vx_X px BX AX) free) (hS : va_S A0 H0 H locs) (hA : ∀ q, q < H.size → A1 q → A0 q) (hf : ∀ q, free q → A0 q) (hAX : ∀ q, q < H.size → AX q → A0 q)
    (kx : ∀ (E : String) (ce : Cell) (q9 : Addr) (u : SX) (t : State) (H1 : Heap) (locs1 : List Loc), t.heap = H1 → s.vm.Alike t.vm → px u → BX E u t → H.size ≤ H1.size → (∀ q : Nat, q < H.size → ¬ AX q → H1[q]? = H[q]?) → va_S A0 H0 H1 locs1 → H1[q9]? = some ce → ce.vm = .none → s.vm.findClass E = some ce.cls → vx_W p l e R s m args below meth c H1 locs1 (cells + mc) (slots + ms) Q (F0 m pc ls rest) q9)
    (kk : ∀ (u : S) (t : State) (H1 : Heap) (locs1 : List Loc), t.heap = H1 → s.vm.Alike t.vm → post u → B u t → H.size ≤ H1.size → (∀ q : Nat, q < H.size → ¬ A1 q → H1[q]? = H[q]?) → va_S A0 H0 H1 locs1 → W p l e R s m args below meth c H1 locs1 (cells + mc) (slots + ms) Q (F0 m (pc + 3) ls (rest))) : W p l e R s m args below meth c H locs cells slots Q (F0 m pc ls st0) := by
  intro T hT X
  rcases hr T hT X with ⟨v, st₀, t, T', L, h0, X', hL, e1, e2, ⟨⟨u, hv, hp, hb⟩, hF⟩, st⟩ | ⟨q, st₀, t, T', L, E, ce, h0, X', hL, e1, e2, ⟨u, hp, hb, hF⟩, hce, hcv, hcl, st⟩
  · cases hv
    obtain ⟨k1, k2, k3⟩ := vx_keep h0 e1 hS hA hf hL hF
    obtain ⟨t2, a1, b1⟩ := kk u t T'.heap (locs ++ L) e1.symm (by rw [← e2]; exact X'.warmed.alike) hp hb k1 k2 k3 T' rfl X'
    exact ⟨t2, st t2 a1, b1⟩
  · obtain ⟨k1, k2, k3⟩ := vx_keep h0 e1 hS hAX hf hL hF
    obtain ⟨t2, a1, b1⟩ := kx E ce q u t T'.heap (locs ++ L) e1.symm (by rw [← e2]; exact X'.warmed.alike) hp hb k1 k2 k3 (by rw [e1]; exact hce) hcv hcl T' rfl X'
    exact ⟨t2, st.trans a1, b1⟩
/-- caught by the row x of this method's table; the rows ahead don't take it -/
theorem vx_catch {own name : String} {E : String} {ce : Cell} {q : Addr} (hown : s.vm.findClass own = some m.cls) (pre : List ExceptionTableEntry) (x : ExceptionTableEntry) (suf : List ExceptionTableEntry) (hsplit : c.exceptionTable.toList = pre ++ x :: suf)
    (hpass : ∀ z ∈ pre, covers z pc = false ∨ (z.catchType ≠ 0 ∧ ∃ nm : String, (Cond.classLink own z.catchType nm).before args s = true ∧ va_Nc E nm s)) (hx : covers x pc = true) (h0 : x.catchType ≠ 0)
    (hlink : (Cond.classLink own x.catchType name).before args s = true) (hcast : (Cond.castable E name).before args s = true) (hcell : H[q]? = some ce) (hv : ce.vm = .none) (hcl : s.vm.findClass E = some ce.cls)
    (kk : W p l e R s m args below meth c H locs cells slots Q (F0 m x.handlerPc ls [.ref q])) : vx_W p l e R s m args below meth c H locs cells slots Q (F0 m pc ls rest) q := by
  intro T hT X
  have hpl : e.platform.magicAccessors = ({} : Platform).magicAccessors := by rw [X.admits.platform]
  obtain ⟨c3, c4, hc3, hc4, hasg⟩ := Cond.castable_spec hcast
  cases Option.some.inj (hc3.symm.trans hcl)
  obtain ⟨c5, hc5, hcl5⟩ := Cond.classLink_spec hown hlink e.platform hpl
  cases Option.some.inj (hc4.symm.trans hc5)
  obtain ⟨vm', X', st⟩ := X.thenCaughtThrough q (g := F0 m pc ls rest) rfl (Steps.refl _) (by rw [hT]; exact hcell) (by rw [hv]; rfl) (by obtain ⟨k9, h9, -⟩ := Vm.findClass_spec hcl; exact ⟨k9, h9⟩) pre x suf hsplit
    (fun z hz => by
      rcases hpass z hz with h | ⟨hz0, nm, hl1, hn1⟩
      · exact Or.inl h
      · obtain ⟨c6, hc6, hcl6⟩ := Cond.classLink_spec hown hl1 e.platform hpl
        obtain ⟨a8, b8, h1, h2, h3⟩ := hn1
        cases Option.some.inj (h1.symm.trans hcl)
        cases Option.some.inj (h2.symm.trans hc6)
        exact Or.inr ⟨hz0, _, hcl6, h3⟩) hx (Or.inr ⟨h0, c4, hcl5, hasg⟩)
  obtain ⟨t, a1, b1⟩ := kk (T.setVm vm') hT X'
  exact ⟨t, st.trans a1, b1⟩
end Rows
section Ends
variable {p : Program} {l : Launch} {e : Env} {R : Room} {s : State} {m : MethodId} {args : Array Value} {below : List Frame} {meth : Method} {c : Code} {H : Heap} {locs : List Loc} {cells slots : Nat} {Q : State → Prop}
variable {mc ms : Nat} {free : Addr → Prop} {A0 A1 : Nat → Prop} {H0 : Heap} {a : Array Value} {ls : Array Slot} {st0 rest : List Value}
variable {Qc : Array Value → State → Outcome → State → Prop} {XC : String → State → State → Prop}
/-- what a body that may throw owes at its end -/
def vx_MQ (below : List Frame) (Qc : Array Value → State → Outcome → State → Prop) (XC : String → State → State → Prop) (a : Array Value) (s : State) (mc ms : Nat) (free : Addr → Prop) : State → Prop := fun t =>
  ∃ o, t.status = .running ∧ Ended t below o ∧ vx_Q Qc XC mc ms free a s o t
theorem vx_ret {g : JFrame} {mc ms : Nat} (k : W p l e R s m args below meth c H locs cells slots (MQ below Qc args s mc ms free) g) : W p l e R s m args below meth c H locs cells slots (vx_MQ below Qc XC args s mc ms free) g := by
  intro T hT X
  obtain ⟨t, a1, o, b1, b2, b3, b4⟩ := k T hT X
  exact ⟨t, a1, o, b1, b2, Or.inl ⟨b3, b4⟩⟩
/-- not caught here: it goes on to the caller -/
theorem vx_widen {g : JFrame} {q : Addr} {k n : Nat} (h1 : cells ≤ k) (h2 : slots ≤ n) (kk : vx_W p l e R s m args below meth c H locs k n Q g q) : vx_W p l e R s m args below meth c H locs cells slots Q g q := fun T hT X => kk T hT (stand_widen X h1 h2)
theorem vx_out {pc : Nat} {E : String} {ce : Cell} {q : Addr} {mc ms : Nat} (hout : ∀ x ∈ c.exceptionTable.toList, covers x pc = false) (hlocks : meth.locks = false) (hcell : H[q]? = some ce) (hv : ce.vm = .none) (hcl : s.vm.findClass E = some ce.cls)
    (hx : ∀ t : State, t.heap = H → s.vm.Alike t.vm → XC E s t) (hf : ∀ z ∈ locs, free z.base) (hc : cells ≤ mc) (hs : slots ≤ ms) :
    vx_W p l e R s m args below meth c H locs cells slots (vx_MQ below Qc XC args s mc ms free) (F0 m pc ls rest) q := by
  intro T hT X
  obtain ⟨st1, hrun, hend, hW, hsm⟩ := X.leaveThrown q (g := F0 m pc ls rest) rfl rfl rfl hout hlocks
  have hcell9 : (T.setFrames (.throwing q :: below)).heap[q]? = some ce := by
    show T.heap[q]? = some ce
    rw [hT]; exact hcell
  exact ⟨_, st1, .threw q, hrun, hend, Or.inr ⟨q, rfl, E, ce, locs, hx _ hT hW.alike, hcell9, hv, hcl, hW, hsm.mono hc hs, hf⟩⟩
theorem vx_frame {U : State} {k n : Nat} (h : s.sameButNew ({ U with vm := s.vm } : State) locs k n) : s.heap.size ≤ U.heap.size ∧ ∀ q : Nat, q < s.heap.size → (∀ z ∈ locs, z.base ≠ q) → U.heap[q]? = s.heap[q]? := by
  obtain ⟨-, h2, -, -, -, h6⟩ := h
  refine ⟨h2, fun q hq hz => ?_⟩
  obtain ⟨c9, e1, e2, e3, e4⟩ := h6 q _ (Array.getElem?_eq_getElem hq)
  have hs : c9.slots = (s.heap[q]).slots := Array.ext_getElem? fun i => e4 i fun hm => hz _ hm rfl
  have h9 : c9 = s.heap[q] := by
    rw [hs] at e2
    exact e2
  have e5 : U.heap[q]? = some c9 := e1
  rw [e5, h9, Array.getElem?_eq_getElem hq]
/-- the words of a throw but the four that speak of the heap -/
def vx_no (w : Cond) : Bool := decide (w ≠ .isRef (.static Bundle.tN "UNASSIGNED_STACK" Bundle.steD)) && decide (w ≠ .isRef (.static Bundle.tN "SUPPRESSED_SENTINEL" Bundle.listD)) && decide (w ≠ .laysStatic Bundle.tN "UNASSIGNED_STACK" Bundle.steD) && decide (w ≠ .laysStatic Bundle.tN "SUPPRESSED_SENTINEL" Bundle.listD)
def vx_at0 (own : String) (ic : Nat) (X : String) (names : List String) : List Cond := (Bundle.ownAtoms0 own ic X names).filter vx_no
def vx_atS (own : String) (ic : Nat) (X : String) (names : List String) : List Cond := (Bundle.ownAtoms own ic X names).filter vx_no
/-- a word that the tables alone decide, or a good one -/
def vx_ot (w : Cond) : Bool := w.onTables || goodWord w
theorem vx_ot_at {args a' : Array Value} {s U : State} {w : Cond} (hW : s.WarmedH U.vm) (hvm : s.vm = U.vm) (hg : vx_ot w = true) (h : w.before args s = true) : w.before a' U = true := by
  simp only [vx_ot, Bool.or_eq_true] at hg
  rcases hg with hg | hg
  · exact va_tabs hg hvm h
  · exact word_at hW (good_of_word hg) h
/-- a list's words: the good ones out of the method's own list, the others by premises of their own -/
theorem vx_hat {args : Array Value} {s : State} {L B : List Cond} (h1 : ∀ w ∈ L.filter goodWord, w.before args s = true) (h2 : ∀ w ∈ L.filter (fun w => !goodWord w), w ∈ B) (h3 : ∀ w ∈ B, w.before args s = true) : ∀ w ∈ L, w.before args s = true := by
  intro w hw
  by_cases g : goodWord w = true
  · exact h1 w (List.mem_filter.mpr ⟨hw, g⟩)
  · refine h3 w (h2 w (List.mem_filter.mpr ⟨hw, ?_⟩))
    show (!goodWord w) = true
    cases hgw : goodWord w
    · rfl
    · exact absurd hgw g
theorem vx_c {args : Array Value} {s : State} {w : Cond} {B : List Cond} (h : w.before args s = true) (t : ∀ w ∈ B, w.before args s = true) : ∀ w' ∈ w :: B, w'.before args s = true := fun w' h' => (List.mem_cons.mp h').elim (fun e => by rw [e]; exact h) (t w')
theorem vx_n {args : Array Value} {s : State} : ∀ w ∈ ([] : List Cond), w.before args s = true := fun _ h => nomatch h
theorem vx_own {args : Array Value} {s : State} {L : List Cond} (h1 : ∀ w ∈ L.filter vx_no, w.before args s = true)
    (hU : (Cond.isRef (.static Bundle.tN "UNASSIGNED_STACK" Bundle.steD)).before args s = true) (hN : (Cond.isRef (.static Bundle.tN "SUPPRESSED_SENTINEL" Bundle.listD)).before args s = true)
    (lU : (Cond.laysStatic Bundle.tN "UNASSIGNED_STACK" Bundle.steD).before args s = true) (lN : (Cond.laysStatic Bundle.tN "SUPPRESSED_SENTINEL" Bundle.listD).before args s = true) : ∀ w ∈ L, w.before args s = true := by
  intro w hw
  by_cases e1 : w = .isRef (.static Bundle.tN "UNASSIGNED_STACK" Bundle.steD)
  · rw [e1]; exact hU
  · by_cases e2 : w = .isRef (.static Bundle.tN "SUPPRESSED_SENTINEL" Bundle.listD)
    · rw [e2]; exact hN
    · by_cases e3 : w = .laysStatic Bundle.tN "UNASSIGNED_STACK" Bundle.steD
      · rw [e3]; exact lU
      · by_cases e4 : w = .laysStatic Bundle.tN "SUPPRESSED_SENTINEL" Bundle.listD
        · rw [e4]; exact lN
        · exact h1 w (List.mem_filter.mpr ⟨hw, by unfold vx_no; rw [decide_eq_true e1, decide_eq_true e2, decide_eq_true e3, decide_eq_true e4]; rfl⟩)
/-- where a static field lies, its class's statics cell in H -/
def vx_L (C n d : String) (A : Nat → Prop) (U : State) (H : Heap) : Prop := ∃ (c : ClassId) (k : Class) (i : Nat) (f : Field) (a : Nat) (cell : Cell), U.vm.findClass C = some c ∧ U.fieldFound? C n d = some (c, k, i, f) ∧ f.isStatic = true ∧ k.statics = some a ∧ H[a]? = some cell ∧ cell.vm.isStatics = true ∧ cell.cls = c ∧ f.slot < cell.slots.size ∧ k.staticTypes[f.slot]? = some f.type ∧ ¬ A a
theorem vx_L.moved {C n d : String} {A : Nat → Prop} {u U : State} {H : Heap} (hvm : u.vm.Alike U.vm) (h : vx_L C n d A u H) : vx_L C n d A U H := by
  obtain ⟨c, k, i, f, a, cell, h1, h2, h3, h4, h5, h6, h7, h8, h9, h10⟩ := h
  obtain ⟨k', hi', he⟩ := State.fieldFound?_setVm hvm h2
  exact ⟨c, k', i, f, a, cell, by rw [hvm.findClass]; exact h1, hi', h3, by rw [he]; exact h4, h5, h6, h7, h8, by rw [he]; exact h9, h10⟩
theorem vx_L.kept {C n d : String} {A : Nat → Prop} {U : State} {H H1 : Heap} (h : vx_L C n d A U H) (hq : ∀ a : Nat, a < H.size → ¬ A a → H1[a]? = H[a]?) : vx_L C n d A U H1 := by
  obtain ⟨c, k, i, f, a, cell, h1, h2, h3, h4, h5, h6, h7, h8, h9, h10⟩ := h
  exact ⟨c, k, i, f, a, cell, h1, h2, h3, h4, by rw [hq a (Array.getElem?_eq_some_iff.mp h5).1 h10]; exact h5, h6, h7, h8, h9, h10⟩
theorem vx_L.narrow {C n d : String} {A B : Nat → Prop} {U : State} {H : Heap} (h : vx_L C n d A U H) (hAB : ∀ q, B q → A q) : vx_L C n d B U H := by
  obtain ⟨c, k, i, f, a, cell, h1, h2, h3, h4, h5, h6, h7, h8, h9, h10⟩ := h
  exact ⟨c, k, i, f, a, cell, h1, h2, h3, h4, h5, h6, h7, h8, h9, fun z => h10 (hAB _ z)⟩
theorem vx_L.word {C n d : String} {A : Nat → Prop} {s : State} {args : Array Value} (h : vx_L C n d A s s.heap) : (Cond.laysStatic C n d).before args s = true := by
  obtain ⟨c, k, i, f, a, cell, h1, h2, h3, h4, h5, h6, h7, h8, h9, -⟩ := h
  show (Cond.laysStatic C n d).holds args s none s [] = true
  exact Cond.laysStatic_of h1 h2 h3 h4 h5 h6 h7 h8 h9
/-- .. and what it holds: null or some reference -/
def vx_Zq (C n d : String) (A : Nat → Prop) (U : State) (H : Heap) : Prop := va_Zq C n d A U H ∧ vx_L C n d A U H
theorem vx_Zq.moved {C n d : String} {A : Nat → Prop} {u U : State} {H : Heap} (hvm : u.vm.Alike U.vm) (h : vx_Zq C n d A u H) : vx_Zq C n d A U H := ⟨va_Zq.moved hvm h.1, vx_L.moved hvm h.2⟩
theorem vx_Zq.kept {C n d : String} {A : Nat → Prop} {U : State} {H H1 : Heap} (h : vx_Zq C n d A U H) (hq : ∀ a : Nat, a < H.size → ¬ A a → H1[a]? = H[a]?) : vx_Zq C n d A U H1 := ⟨va_Zq.kept h.1 hq, vx_L.kept h.2 hq⟩
theorem vx_Zq.narrow {C n d : String} {A B : Nat → Prop} {U : State} {H : Heap} (h : vx_Zq C n d A U H) (hAB : ∀ q, B q → A q) : vx_Zq C n d B U H := ⟨va_Zq.narrow h.1 hAB, vx_L.narrow h.2 hAB⟩
theorem vx_Zqof {args : Array Value} {s : State} {C n d : String} {A : Nat → Prop} (hl : (Cond.laysStatic C n d).before args s = true) (hini : (Cond.initialized C).before args s = true) (h : (Cond.isRef (.static C n d)).before args s = true) (hA : ∀ a : Nat, a < s.heap.size → ¬ A a) : vx_Zq C n d A s s.heap := by
  refine ⟨va_Zqof hl hini h hA, ?_⟩
  obtain ⟨c, k, i, f, a, cell, h1, h2, h3, h4, h5, h6, h7, h8, h9⟩ := Cond.laysStatic_spec hl
  exact ⟨c, k, i, f, a, cell, h1, h2, h3, h4, h5, h6, h7, h8, h9, hA a (Array.getElem?_eq_some_iff.mp h5).1⟩
theorem vx_isRef {C n d : String} {v : Value} {A : Nat → Prop} {s : State} {args : Array Value} (h : va_Z C n d v A s s.heap) (hv : v.isRef = true) : (Cond.isRef (.static C n d)).before args s = true := by
  obtain ⟨cf, kf, fi, f, a, cell, h1, h2, h3, h4, h5, h6, h7, -⟩ := h
  have he : (Term.static C n d).eval args s none [] s = some v := by
    simp [Term.eval, State.fieldNamed?, h1, h2, h4, h5, h6, h7]
  simp only [Cond.before, Cond.holds, Cond.value, he]
  cases v <;> simp_all [Value.isRef]
theorem vx_isRefq {C n d : String} {A : Nat → Prop} {s : State} {args : Array Value} (h : va_Zq C n d A s s.heap) : (Cond.isRef (.static C n d)).before args s = true := by
  rcases h with h | ⟨t, h⟩
  · exact vx_isRef h rfl
  · exact vx_isRef h rfl
/-- the same frame, seen from here: as if the method were called anew in this heap -/
theorem vx_rebase {T : State} (X : Stand p l e R s m args below meth c T locs cells slots) {R' : Room} (hf : R'.frames ≤ R.frames) (hl : R'.locals ≤ R.locals) (hc : cells + R'.cells ≤ R.cells) (hs : slots + R'.slots ≤ R.slots) :
    Stand p l e R' ((T.setVm s.vm).setFrames (.invoking m args :: below)) m args below meth c T [] 0 0 := by
  have htop : (T.setVm s.vm).topJava?.isSome := X.here.top
  have hF : ((T.setVm s.vm).setFrames (.invoking m args :: below)).frames = .invoking m args :: below := State.frames_setFrames _ (State.cur_lt_of_top htop)
  obtain ⟨g₀, hg0⟩ := Option.isSome_iff_exists.mp htop
  obtain ⟨r, hr⟩ := State.topJava?_eq_some.mp hg0
  have hl9 : e.platform.stackLimits (T.setVm s.vm).me = e.platform.stackLimits s.me := X.limits
  have hb9 : (T.setVm s.vm).me.stackBytes = s.me.stackBytes := X.bytes
  refine ⟨X.admits, X.cas, X.clock, hF, ?_, X.hears, X.method, X.code, X.here, X.tail, X.warmed, ?_, ?_, ?_⟩
  · have h := X.room
    have hU : ((T.setVm s.vm).setFrames (.invoking m args :: below)).localsInUse = s.localsInUse := by
      rw [State.localsInUse_invoking hF (meth := meth) (c := c) X.method X.code, State.localsInUse_invoking X.frames X.method X.code]
    simp only [State.hasRoom, Bool.and_eq_true, decide_eq_true_eq] at h ⊢
    obtain ⟨⟨⟨⟨h1, h2, h3, h4, h5, h6⟩, h7⟩, h8⟩, h9⟩ := h
    rw [X.frames, List.length_cons] at h2 h3
    have q1 := X.heapSize
    have q2 := X.used
    simp only [hF, hU, List.length_cons, State.stackLimits_setFrames, State.stackBytes_setFrames, hl9, hb9]
    refine ⟨⟨⟨⟨by omega, by omega, by omega, by omega, by omega, h6⟩, ?_⟩, ?_⟩, X.book⟩
    · show T.heap.size + R'.cells ≤ e.platform.maxCells
      omega
    · show T.slotsUsed + R'.slots ≤ e.platform.maxSlots
      omega
  · rw [State.stackLimits_setFrames]; rfl
  · rw [State.stackBytes_setFrames]; rfl
  · refine ⟨?_, Nat.le_refl _, Nat.le_refl _, ?_, ?_, fun a c9 h9 => ⟨c9, h9, rfl, rfl, fun _ _ => rfl⟩⟩
    · obtain ⟨t, ht, -⟩ := State.frames_cons hr
      show T.setVm s.vm = { ((T.setVm s.vm).setFrames (.invoking m args :: below)).setFrames (T.setVm s.vm).frames with heap := T.heap, slotsUsed := T.slotsUsed }
      rw [State.setFrames_setFrames, State.setFrames_self ht]
      rfl
    · show T.slotsUsed = T.slotsUsed + ((T.heap.toList.drop T.heap.size).map (·.slots.size)).sum
      rw [List.drop_eq_nil_of_le (Nat.le_of_eq Array.length_toList)]
      rfl
    · show ((T.heap.toList.drop T.heap.size).map (·.slots.size)).sum ≤ 0
      rw [List.drop_eq_nil_of_le (Nat.le_of_eq Array.length_toList)]
      exact Nat.le_refl _
/-- 'throw new E()': new; dup; invokespecial; athrow -/
theorem vx_throw0 {cc : ByteArray} {pc : Nat} (hexec : p.tables.exec = Jvm.exec) (hb : c.code = cc) (hl : l.stackTraces = false) {own cls : String} {names : List String} {ik ic mc ms : Nat} {A : Nat → Prop}
    (hown : s.vm.findClass own = some m.cls) (hcls : Bundle.fit cls = true) (hnames : ∀ n ∈ names, Bundle.fit n = true)
    (hk : (Cond.classLink own ik cls).before args s = true) (hini : (Cond.initialized cls).before args s = true) (hat : ∀ w ∈ vx_at0 own ic cls names, w.before args s = true)
    (hgood : ∀ w ∈ Cond.classLink own ik cls :: Cond.initialized cls :: vx_at0 own ic cls names, vx_ot w = true)
    (hU : vx_Zq Bundle.tN "UNASSIGNED_STACK" Bundle.steD A s s.heap) (hN : vx_Zq Bundle.tN "SUPPRESSED_SENTINEL" Bundle.listD A s s.heap) (hS : va_S A s.heap H locs) (hsize : ls.size = c.maxLocals)
    (d0 : decode cc pc = .ok (.new ik, 3)) (d3 : decode cc (pc + 3) = .ok (.dup, 1)) (d4 : decode cc (pc + 4) = .ok (.invokespecial ic, 3)) (d7 : decode cc (pc + 7) = .ok (.athrow, 1))
    (hout : ∀ x ∈ c.exceptionTable.toList, covers x (pc + 7) = false)
    (hRframes : names.length + 3 < R.frames) (hRlocals : (rest.map fun v => v.category).sum + (13 * (names.length + 1) + 42) ≤ R.locals) (hRcells : cells + 1 ≤ R.cells) (hRslots : slots + 6 ≤ R.slots) (hlocks : meth.locks = false)
    (hx : ∀ t : State, s.vm.Alike t.vm → H.size ≤ t.heap.size → (∀ q : Nat, q < H.size → t.heap[q]? = H[q]?) → XC cls s t)
    (hf : ∀ z ∈ locs, free z.base) (hc : cells + 1 ≤ mc) (hs : slots + 6 ≤ ms) :
    W p l e R s m args below meth c H locs cells slots (vx_MQ below Qc XC args s mc ms free) (F0 m pc ls rest) := by
  intro T hT X
  have htr : e.platform.stackTraces = false := (show e.platform.stackTraces = l.stackTraces by rw [X.admits.platform]).trans hl
  have Y := vx_rebase X (R' := { frames := R.frames, locals := R.locals, cells := 1, slots := 6 }) (Nat.le_refl _) (Nat.le_refl _) hRcells hRslots
  obtain ⟨s', hA⟩ : ∃ z, z = (T.setVm s.vm).setFrames (.invoking m args :: below) := ⟨_, rfl⟩
  rw [← hA] at Y
  have hvm : s'.vm = s.vm := by rw [hA]; rfl
  have hhp : s'.heap = H := by rw [hA]; exact hT
  have hW0 : s.WarmedH s'.vm := by rw [hvm]; exact State.WarmedH.refl s
  have hat' : ∀ w ∈ vx_at0 own ic cls names, w.before args s' = true := fun w hw => vx_ot_at hW0 hvm.symm (hgood w (List.mem_cons_of_mem _ (List.mem_cons_of_mem _ hw))) (hat w hw)
  have hk' : (Cond.classLink own ik cls).before args s' = true := vx_ot_at hW0 hvm.symm (hgood _ List.mem_cons_self) hk
  have hini' : (Cond.initialized cls).before args s' = true := vx_ot_at hW0 hvm.symm (hgood _ (List.mem_cons_of_mem _ List.mem_cons_self)) hini
  have hU' : vx_Zq Bundle.tN "UNASSIGNED_STACK" Bundle.steD A s' s'.heap := by rw [hhp]; exact vx_Zq.moved hW0.alike (hU.kept hS.2.1)
  have hN' : vx_Zq Bundle.tN "SUPPRESSED_SENTINEL" Bundle.listD A s' s'.heap := by rw [hhp]; exact vx_Zq.moved hW0.alike (hN.kept hS.2.1)
  have h : ∀ w ∈ Bundle.ownAtoms0 own ic cls names, w.before args s' = true := vx_own hat' (vx_isRefq hU'.1) (vx_isRefq hN'.1) hU'.2.word hN'.2.word
  have hown' : s'.vm.findClass own = some m.cls := by rw [hvm]; exact hown
  have hins : (Cond.instantiable cls 6).before args s' = true := h _ (by simp [Bundle.ownAtoms0])
  obtain ⟨vm₁, cX, kX, hfX, hkX, -, -, X₁, st1⟩ := Y.newCold hexec (own := own) (C := cls) (index := ik) (n := 6) hown' hk' hins hini'
    (g := F0 m pc ls rest) rfl (by rw [hb]; exact d0) (Nat.le_refl _) (Nat.le_refl _)
  generalize hT1 : (T.setVm vm₁).pushCell { cls := cX, slots := kX.instanceTypes.map defaultValue, vm := .none } = T1 at X₁ st1
  have hcat : (Value.ref T.heap.size).category = 1 := rfl
  have hcellA : T1.heap[T.heap.size]? = some (freshCell cX kX) := by rw [← hT1]; exact State.heap_pushCell_size _ _
  have d3' : decode c.code (pc + 3) = .ok (.dup, 1) := by rw [hb]; exact d3
  obtain ⟨U, hsteps, hrun, hend, hW, hsame, ce, hce, hO⟩ := X₁.ctorThrow0 hexec htr (own := own) (cls := cls) (names := names) (ic := ic) hown' hcls hnames h (fun x hx => nomatch hx) hfX hkX hcellA (by rw [hhp, hT]; exact Nat.le_refl _)
    (g := { method := m, pc := pc + 4, locals := ls, stack := .ref T.heap.size :: .ref T.heap.size :: rest, locked := none }) rfl hsize rfl rfl (rest := rest) rfl
    (by rw [hb]; exact d4) (by rw [hb]; exact d7) hout hRframes (by simp only [List.map_cons, List.sum_cons, hcat]; omega) hlocks
  obtain ⟨f1, f2⟩ := vx_frame hsame
  rw [hhp] at f1 f2
  have hWs : s.WarmedH U.vm := State.WarmedH.trans hW0 hW
  have hcl : s.vm.findClass cls = some ce.cls := by
    have h9 := hO.cls
    rw [hvm] at h9
    exact h9
  have hall : s.sameButNew ({ U with vm := s.vm } : State) locs mc ms := by
    subst hA
    obtain ⟨e1, e2⟩ := hsame
    rw [State.setFrames_setFrames] at e1
    have h2 : (T.setVm s.vm).sameButNew ({ U with vm := s.vm } : State) [] (0 + 1) (0 + 6) := ⟨e1, e2⟩
    have h3 := X.same.trans h2
    rw [List.append_nil] at h3
    exact h3.mono hc hs
  refine ⟨U, ?_, .threw T.heap.size, hrun, hend, Or.inr ⟨T.heap.size, rfl, cls, ce, locs, hx U hWs.alike f1 (fun q hq => f2 q hq (fun z hz => nomatch hz)), hce, hO.vm, hcl, hWs, hall, hf⟩⟩
  refine st1 _ ?_
  show Steps p.tables e below (T1.setTop { method := m, pc := pc + 3, locals := ls, stack := .ref T.heap.size :: rest, locked := none }) _
  jvm_step X₁.here [X₁.here.top, hexec, d3', Value.category]
  exact hsteps
/-- 'throw new E("text")': new; dup; ldc; invokespecial; athrow -/
theorem vx_throwS {cc : ByteArray} {pc : Nat} (hexec : p.tables.exec = Jvm.exec) (hb : c.code = cc) (hl : l.stackTraces = false) {own cls text : String} {names : List String} {ik is ic mc ms sa : Nat} {A : Nat → Prop}
    (hown : s.vm.findClass own = some m.cls) (hcls : Bundle.fit cls = true) (hnames : ∀ n ∈ names, Bundle.fit n = true)
    (hk : (Cond.classLink own ik cls).before args s = true) (hini : (Cond.initialized cls).before args s = true) (hstr : vk_R own is text sa s) (hat : ∀ w ∈ vx_atS own ic cls names, w.before args s = true)
    (hgood : ∀ w ∈ Cond.classLink own ik cls :: Cond.initialized cls :: vx_atS own ic cls names, vx_ot w = true)
    (hU : vx_Zq Bundle.tN "UNASSIGNED_STACK" Bundle.steD A s s.heap) (hN : vx_Zq Bundle.tN "SUPPRESSED_SENTINEL" Bundle.listD A s s.heap) (hS : va_S A s.heap H locs) (hsize : ls.size = c.maxLocals)
    (d0 : decode cc pc = .ok (.new ik, 3)) (d3 : decode cc (pc + 3) = .ok (.dup, 1)) (d4 : decode cc (pc + 4) = .ok (.ldc is, 2)) (d6 : decode cc (pc + 6) = .ok (.invokespecial ic, 3)) (d9 : decode cc (pc + 9) = .ok (.athrow, 1))
    (hout : ∀ x ∈ c.exceptionTable.toList, covers x (pc + 9) = false)
    (hRframes : names.length + 3 < R.frames) (hRlocals : (rest.map fun v => v.category).sum + (13 * (names.length + 1) + 43) ≤ R.locals) (hRcells : cells + 1 ≤ R.cells) (hRslots : slots + 6 ≤ R.slots) (hlocks : meth.locks = false)
    (hx : ∀ t : State, s.vm.Alike t.vm → H.size ≤ t.heap.size → (∀ q : Nat, q < H.size → t.heap[q]? = H[q]?) → XC cls s t)
    (hf : ∀ z ∈ locs, free z.base) (hc : cells + 1 ≤ mc) (hs : slots + 6 ≤ ms) :
    W p l e R s m args below meth c H locs cells slots (vx_MQ below Qc XC args s mc ms free) (F0 m pc ls rest) := by
  intro T hT X
  have htr : e.platform.stackTraces = false := (show e.platform.stackTraces = l.stackTraces by rw [X.admits.platform]).trans hl
  have Y := vx_rebase X (R' := { frames := R.frames, locals := R.locals, cells := 1, slots := 6 }) (Nat.le_refl _) (Nat.le_refl _) hRcells hRslots
  obtain ⟨s', hA⟩ : ∃ z, z = (T.setVm s.vm).setFrames (.invoking m args :: below) := ⟨_, rfl⟩
  rw [← hA] at Y
  have hvm : s'.vm = s.vm := by rw [hA]; rfl
  have hhp : s'.heap = H := by rw [hA]; exact hT
  have hW0 : s.WarmedH s'.vm := by rw [hvm]; exact State.WarmedH.refl s
  have hat' : ∀ w ∈ vx_atS own ic cls names, w.before args s' = true := fun w hw => vx_ot_at hW0 hvm.symm (hgood w (List.mem_cons_of_mem _ (List.mem_cons_of_mem _ hw))) (hat w hw)
  have hk' : (Cond.classLink own ik cls).before args s' = true := vx_ot_at hW0 hvm.symm (hgood _ List.mem_cons_self) hk
  have hini' : (Cond.initialized cls).before args s' = true := vx_ot_at hW0 hvm.symm (hgood _ (List.mem_cons_of_mem _ List.mem_cons_self)) hini
  have hU' : vx_Zq Bundle.tN "UNASSIGNED_STACK" Bundle.steD A s' s'.heap := by rw [hhp]; exact vx_Zq.moved hW0.alike (hU.kept hS.2.1)
  have hN' : vx_Zq Bundle.tN "SUPPRESSED_SENTINEL" Bundle.listD A s' s'.heap := by rw [hhp]; exact vx_Zq.moved hW0.alike (hN.kept hS.2.1)
  have h : ∀ w ∈ Bundle.ownAtoms own ic cls names, w.before args s' = true := vx_own hat' (vx_isRefq hU'.1) (vx_isRefq hN'.1) hU'.2.word hN'.2.word
  have hown' : s'.vm.findClass own = some m.cls := by rw [hvm]; exact hown
  have hins : (Cond.instantiable cls 6).before args s' = true := h _ (by simp [Bundle.ownAtoms])
  obtain ⟨vm₁, cX, kX, hfX, hkX, -, -, X₁, st1⟩ := Y.newCold hexec (own := own) (C := cls) (index := ik) (n := 6) hown' hk' hins hini'
    (g := F0 m pc ls rest) rfl (by rw [hb]; exact d0) (Nat.le_refl _) (Nat.le_refl _)
  generalize hT1 : (T.setVm vm₁).pushCell { cls := cX, slots := kX.instanceTypes.map defaultValue, vm := .none } = T1 at X₁ st1
  have hcat : (Value.ref T.heap.size).category = 1 := rfl
  have hcellA : T1.heap[T.heap.size]? = some (freshCell cX kX) := by rw [← hT1]; exact State.heap_pushCell_size _ _
  have d3' : decode c.code (pc + 3) = .ok (.dup, 1) := by rw [hb]; exact d3
  have d4' : decode c.code (pc + 4) = .ok (.ldc is, 2) := by rw [hb]; exact d4
  have hstr' : vk_R own is text sa s' := vk_R.warm hW0 hstr
  obtain ⟨U, hsteps, hrun, hend, hW, hsame, ce, hce, hO⟩ := X₁.ctorThrowS hexec htr (own := own) (cls := cls) (names := names) (ic := ic) hown' hcls hnames h (fun x hx => nomatch hx) hfX hkX hcellA (by rw [hhp, hT]; exact Nat.le_refl _) (msg := .ref sa) rfl
    (g := { method := m, pc := pc + 6, locals := ls, stack := .ref sa :: .ref T.heap.size :: .ref T.heap.size :: rest, locked := none }) rfl hsize rfl rfl (rest := rest) rfl
    (by rw [hb]; exact d6) (by rw [hb]; exact d9) hout hRframes (by simp only [List.map_cons, List.sum_cons, hcat]; omega) hlocks
  obtain ⟨f1, f2⟩ := vx_frame hsame
  rw [hhp] at f1 f2
  have hWs : s.WarmedH U.vm := State.WarmedH.trans hW0 hW
  have hcl : s.vm.findClass cls = some ce.cls := by
    have h9 := hO.cls
    rw [hvm] at h9
    exact h9
  have hall : s.sameButNew ({ U with vm := s.vm } : State) locs mc ms := by
    subst hA
    obtain ⟨e1, e2⟩ := hsame
    rw [State.setFrames_setFrames] at e1
    have h2 : (T.setVm s.vm).sameButNew ({ U with vm := s.vm } : State) [] (0 + 1) (0 + 6) := ⟨e1, e2⟩
    have h3 := X.same.trans h2
    rw [List.append_nil] at h3
    exact h3.mono hc hs
  refine ⟨U, ?_, .threw T.heap.size, hrun, hend, Or.inr ⟨T.heap.size, rfl, cls, ce, locs, hx U hWs.alike f1 (fun q hq => f2 q hq (fun z hz => nomatch hz)), hce, hO.vm, hcl, hWs, hall, hf⟩⟩
  refine st1 _ ?_
  show Steps p.tables e below (T1.setTop { method := m, pc := pc + 3, locals := ls, stack := .ref T.heap.size :: rest, locked := none }) _
  jvm_step X₁.here [X₁.here.top, hexec, d3', Value.category]
  exact X₁.ldcString hexec (own := own) (text := text) (index := is) (a := sa) hown' hstr'.1 hstr'.2
    (g := { method := m, pc := pc + 4, locals := ls, stack := .ref T.heap.size :: .ref T.heap.size :: rest, locked := none }) rfl d4' _ hsteps
/-- 'throw new E("text")', the text by a wide index -/
theorem vx_throwSW {cc : ByteArray} {pc : Nat} (hexec : p.tables.exec = Jvm.exec) (hb : c.code = cc) (hl : l.stackTraces = false) {own cls text : String} {names : List String} {ik is ic mc ms sa : Nat} {A : Nat → Prop}
    (hown : s.vm.findClass own = some m.cls) (hcls : Bundle.fit cls = true) (hnames : ∀ n ∈ names, Bundle.fit n = true)
    (hk : (Cond.classLink own ik cls).before args s = true) (hini : (Cond.initialized cls).before args s = true) (hstr : vk_R own is text sa s) (hat : ∀ w ∈ vx_atS own ic cls names, w.before args s = true)
    (hgood : ∀ w ∈ Cond.classLink own ik cls :: Cond.initialized cls :: vx_atS own ic cls names, vx_ot w = true)
    (hU : vx_Zq Bundle.tN "UNASSIGNED_STACK" Bundle.steD A s s.heap) (hN : vx_Zq Bundle.tN "SUPPRESSED_SENTINEL" Bundle.listD A s s.heap) (hS : va_S A s.heap H locs) (hsize : ls.size = c.maxLocals)
    (d0 : decode cc pc = .ok (.new ik, 3)) (d3 : decode cc (pc + 3) = .ok (.dup, 1)) (d4 : decode cc (pc + 4) = .ok (.ldc_w is, 3)) (d7 : decode cc (pc + 7) = .ok (.invokespecial ic, 3)) (d10 : decode cc (pc + 10) = .ok (.athrow, 1))
    (hout : ∀ x ∈ c.exceptionTable.toList, covers x (pc + 10) = false)
    (hRframes : names.length + 3 < R.frames) (hRlocals : (rest.map fun v => v.category).sum + (13 * (names.length + 1) + 43) ≤ R.locals) (hRcells : cells + 1 ≤ R.cells) (hRslots : slots + 6 ≤ R.slots) (hlocks : meth.locks = false)
    (hx : ∀ t : State, s.vm.Alike t.vm → H.size ≤ t.heap.size → (∀ q : Nat, q < H.size → t.heap[q]? = H[q]?) → XC cls s t)
    (hf : ∀ z ∈ locs, free z.base) (hc : cells + 1 ≤ mc) (hs : slots + 6 ≤ ms) :
    W p l e R s m args below meth c H locs cells slots (vx_MQ below Qc XC args s mc ms free) (F0 m pc ls rest) := by
  intro T hT X
  have htr : e.platform.stackTraces = false := (show e.platform.stackTraces = l.stackTraces by rw [X.admits.platform]).trans hl
  have Y := vx_rebase X (R' := { frames := R.frames, locals := R.locals, cells := 1, slots := 6 }) (Nat.le_refl _) (Nat.le_refl _) hRcells hRslots
  obtain ⟨s', hA⟩ : ∃ z, z = (T.setVm s.vm).setFrames (.invoking m args :: below) := ⟨_, rfl⟩
  rw [← hA] at Y
  have hvm : s'.vm = s.vm := by rw [hA]; rfl
  have hhp : s'.heap = H := by rw [hA]; exact hT
  have hW0 : s.WarmedH s'.vm := by rw [hvm]; exact State.WarmedH.refl s
  have hat' : ∀ w ∈ vx_atS own ic cls names, w.before args s' = true := fun w hw => vx_ot_at hW0 hvm.symm (hgood w (List.mem_cons_of_mem _ (List.mem_cons_of_mem _ hw))) (hat w hw)
  have hk' : (Cond.classLink own ik cls).before args s' = true := vx_ot_at hW0 hvm.symm (hgood _ List.mem_cons_self) hk
  have hini' : (Cond.initialized cls).before args s' = true := vx_ot_at hW0 hvm.symm (hgood _ (List.mem_cons_of_mem _ List.mem_cons_self)) hini
  have hU' : vx_Zq Bundle.tN "UNASSIGNED_STACK" Bundle.steD A s' s'.heap := by rw [hhp]; exact vx_Zq.moved hW0.alike (hU.kept hS.2.1)
  have hN' : vx_Zq Bundle.tN "SUPPRESSED_SENTINEL" Bundle.listD A s' s'.heap := by rw [hhp]; exact vx_Zq.moved hW0.alike (hN.kept hS.2.1)
  have h : ∀ w ∈ Bundle.ownAtoms own ic cls names, w.before args s' = true := vx_own hat' (vx_isRefq hU'.1) (vx_isRefq hN'.1) hU'.2.word hN'.2.word
  have hown' : s'.vm.findClass own = some m.cls := by rw [hvm]; exact hown
  have hins : (Cond.instantiable cls 6).before args s' = true := h _ (by simp [Bundle.ownAtoms])
  obtain ⟨vm₁, cX, kX, hfX, hkX, -, -, X₁, st1⟩ := Y.newCold hexec (own := own) (C := cls) (index := ik) (n := 6) hown' hk' hins hini'
    (g := F0 m pc ls rest) rfl (by rw [hb]; exact d0) (Nat.le_refl _) (Nat.le_refl _)
  generalize hT1 : (T.setVm vm₁).pushCell { cls := cX, slots := kX.instanceTypes.map defaultValue, vm := .none } = T1 at X₁ st1
  have hcat : (Value.ref T.heap.size).category = 1 := rfl
  have hcellA : T1.heap[T.heap.size]? = some (freshCell cX kX) := by rw [← hT1]; exact State.heap_pushCell_size _ _
  have d3' : decode c.code (pc + 3) = .ok (.dup, 1) := by rw [hb]; exact d3
  have d4' : decode c.code (pc + 4) = .ok (.ldc_w is, 3) := by rw [hb]; exact d4
  have hstr' : vk_R own is text sa s' := vk_R.warm hW0 hstr
  obtain ⟨U, hsteps, hrun, hend, hW, hsame, ce, hce, hO⟩ := X₁.ctorThrowS hexec htr (own := own) (cls := cls) (names := names) (ic := ic) hown' hcls hnames h (fun x hx => nomatch hx) hfX hkX hcellA (by rw [hhp, hT]; exact Nat.le_refl _) (msg := .ref sa) rfl
    (g := { method := m, pc := pc + 7, locals := ls, stack := .ref sa :: .ref T.heap.size :: .ref T.heap.size :: rest, locked := none }) rfl hsize rfl rfl (rest := rest) rfl
    (by rw [hb]; exact d7) (by rw [hb]; exact d10) hout hRframes (by simp only [List.map_cons, List.sum_cons, hcat]; omega) hlocks
  obtain ⟨f1, f2⟩ := vx_frame hsame
  rw [hhp] at f1 f2
  have hWs : s.WarmedH U.vm := State.WarmedH.trans hW0 hW
  have hcl : s.vm.findClass cls = some ce.cls := by
    have h9 := hO.cls
    rw [hvm] at h9
    exact h9
  have hall : s.sameButNew ({ U with vm := s.vm } : State) locs mc ms := by
    subst hA
    obtain ⟨e1, e2⟩ := hsame
    rw [State.setFrames_setFrames] at e1
    have h2 : (T.setVm s.vm).sameButNew ({ U with vm := s.vm } : State) [] (0 + 1) (0 + 6) := ⟨e1, e2⟩
    have h3 := X.same.trans h2
    rw [List.append_nil] at h3
    exact h3.mono hc hs
  refine ⟨U, ?_, .threw T.heap.size, hrun, hend, Or.inr ⟨T.heap.size, rfl, cls, ce, locs, hx U hWs.alike f1 (fun q hq => f2 q hq (fun z hz => nomatch hz)), hce, hO.vm, hcl, hWs, hall, hf⟩⟩
  refine st1 _ ?_
  show Steps p.tables e below (T1.setTop { method := m, pc := pc + 3, locals := ls, stack := .ref T.heap.size :: rest, locked := none }) _
  jvm_step X₁.here [X₁.here.top, hexec, d3', Value.category]
  exact X₁.ldcStringW hexec (own := own) (text := text) (index := is) (a := sa) hown' hstr'.1 hstr'.2
    (g := { method := m, pc := pc + 4, locals := ls, stack := .ref T.heap.size :: .ref T.heap.size :: rest, locked := none }) rfl d4' _ hsteps
end Ends
section Bodies
variable {l : Launch}
theorem vx_ofW {y : MethodName} {ws ws' : List Cond} {rm : Room} {Pc : Array Value → State → Prop} {Qc : Array Value → State → Outcome → State → Prop} {XC : String → State → State → Prop} {mc ms : Nat} {free : Addr → Prop} {cc : ByteArray} {maxL : Nat} {ret : Option FieldType}
    (hy : plainName y.cls = true) (hw : ws = Cond.code y cc maxL ret :: ws')
    (body : ∀ p e s m args below meth c s₁, BodyLoose p l y (headSpec ws rm) cc maxL ret e s m args below meth c s₁ → c.maxLocals = maxL → (∀ x ∈ c.exceptionTable.toList, False) → Pc args s →
      W p l e (headSpec ws rm).room s m args below meth c s.heap [] 0 0 (vx_MQ below Qc XC args s mc ms free) (entryFrame m args maxL)) : vx_Met l y ws rm Pc Qc XC mc ms free := by
  refine MetFree.of_bodyS (code := cc) (maxLocals := maxL) (ret := ret) hy ?_ ?_
  · intro args s m h hn
    obtain ⟨meth, c, h1, h2, h3, h4, h5, h6, -, -⟩ := Cond.code_spec hn (atoms_spec (ws := ws) h _ (by rw [hw]; exact List.mem_cons_self))
    exact ⟨meth, c, h1, h2, h3, h4, h5, h6⟩
  · intro p e s m args below meth c s₁ B hml hP _
    have hh0 : s₁.heap = s.heap := by rw [B.state]; rfl
    have ht : ∀ x ∈ c.exceptionTable.toList, False := by
      obtain ⟨meth9, c9, h1, h2, -, -, -, -, h7, -⟩ := Cond.code_spec B.named (atoms_spec (ws := ws) B.pre _ (by rw [hw]; exact List.mem_cons_self))
      cases Option.some.inj (h1.symm.trans B.method)
      cases Option.some.inj (h2.symm.trans (Stand.of_body B).code)
      intro x hx
      rw [Array.isEmpty_iff.mp h7] at hx
      cases hx
    obtain ⟨t, a1, o, b1, b2, b3⟩ := body p e s m args below meth c s₁ B hml ht hP s₁ hh0 (Stand.of_body B)
    exact ⟨t, o, a1, b1, b2, b3⟩
/-- the table of a body with handlers -/
theorem vx_table {p : Program} {x y : MethodName} {S : Spec} {cc bytes : ByteArray} {maxL maxL' : Nat} {ret ret' : Option FieldType} {e : Env} {s s₁ : State} {m : MethodId} {args : Array Value} {below : List Frame} {meth : Method} {c : Code} {hh : List (Nat × Nat × Nat × Nat)}
    (B : BodyLoose p l y S cc maxL ret e s m args below meth c s₁) (h : (Cond.codeWith y bytes maxL' ret' hh).before args s = true) : c.exceptionTable.toList = tableOf hh := by
  obtain ⟨m9, meth9, c9, hn9, h1, h2, -, -, h6, -⟩ := Cond.codeWith_spec h
  cases Option.some.inj (hn9.symm.trans B.named)
  cases Option.some.inj (h1.symm.trans B.method)
  cases Option.some.inj (h2.symm.trans (Stand.of_body B).code)
  rw [← h6, table_eq]
end Bodies
end VXA
/-! ===== END ===== -/
/-! ===== BEGIN a static call of a method with an exception table ===== -/
section VXS
variable {p : Program} {l : Launch} {e : Env} {R : Room} {s : State} {m : MethodId} {args : Array Value} {below : List Frame} {meth : Method} {c : Code} {T : State} {H : Heap} {locs : List Loc} {cells slots : Nat}
abbrev vx_CSW (R : Room) (s : State) (args : Array Value) (own : String) (index : Nat) (y : MethodName) (bytes : ByteArray) (maxL : Nat) (ret : Option FieldType) (hh : List (Nat × Nat × Nat × Nat)) (ws : List Cond) (rm : Room) (mc ms n : Nat) : Prop :=
  (rm.cells = mc ∧ rm.slots = ms ∧ rm.frames + 1 ≤ R.frames ∧ 8 + (maxL + 11) + rm.locals ≤ R.locals ∧ (∀ w ∈ ws, ∀ (a' : Array Value) (U : State), s.WarmedH U.vm → w.before a' U = true) ∧ Cond.codeWith y bytes maxL ret hh ∈ ws) ∧
  (Cond.codeWith y bytes maxL ret hh).before args s = true ∧ (Cond.initialized y.cls).before args s = true ∧ (y.cls ≠ "java/lang/invoke/MethodHandle" ∧ y.cls ≠ "java/lang/invoke/VarHandle") ∧
  (∀ sig, parseMethodDescriptor y.desc = some sig → n = sig.parameters.length) ∧ (Cond.methodLink own index y).before args s = true ∧ (Cond.static y).before args s = true
theorem vx_cwSW {own : String} {index maxL mc ms : Nat} {y : MethodName} {bytes : ByteArray} {ret : Option FieldType} {hh : List (Nat × Nat × Nat × Nat)} {Ts ws ws' : List Cond} {rm : Room} (n : Nat) (ht : ∀ w ∈ Ts, w.before args s = true) (hT : GoodIn Ts (va_wsS own index y ws)) (hw : ws = Cond.codeWith y bytes maxL ret hh :: ws') (hrc : rm.cells = mc) (hrs : rm.slots = ms)
    (hd : y.cls ≠ "java/lang/invoke/MethodHandle" ∧ y.cls ≠ "java/lang/invoke/VarHandle" ∧ (parseMethodDescriptor y.desc).map (fun d => d.parameters.length) = some n) (hR : rm.frames + 1 ≤ R.frames ∧ 8 + (maxL + 11) + rm.locals ≤ R.locals) :
    vx_CSW R s args own index y bytes maxL ret hh ws rm mc ms n := by
  have ok : ∀ w ∈ va_wsS own index y ws, w.before args s = true := fun w h => ht w (hT w h).1
  have hG : GoodIn Ts ws := fun w h => hT w (by unfold va_wsS; exact List.mem_append_right _ h)
  have hc : Cond.codeWith y bytes maxL ret hh ∈ ws := by rw [hw]; exact List.mem_cons_self
  refine ⟨⟨hrc, hrs, hR.1, hR.2, pay_in ht hG, hc⟩, ht _ (hG _ hc).1, ok _ (by simp [va_wsS]), ⟨hd.1, hd.2.1⟩, fun sig h => ?_, ok _ (by simp [va_wsS]), ok _ (by simp [va_wsS])⟩
  have h2 := hd.2.2
  rw [h] at h2
  exact (Option.some.inj h2).symm
theorem vx_callSW (X : Stand p l e R s m args below meth c T locs cells slots) (hexec : p.tables.exec = Jvm.exec) {own : String} {index : Nat} {y : MethodName} {bytes : ByteArray} {maxL : Nat} {ret : Option FieldType} {hh : List (Nat × Nat × Nat × Nat)}
    (hown : s.vm.findClass own = some m.cls) (hlink : (Cond.methodLink own index y).before args s = true) (hstat : (Cond.static y).before args s = true) (hinit : (Cond.initialized y.cls).before args s = true)
    (hcode : (Cond.codeWith y bytes maxL ret hh).before args s = true) (hy : y.cls ≠ "java/lang/invoke/MethodHandle" ∧ y.cls ≠ "java/lang/invoke/VarHandle")
    {W9 : Nat} {Pre : Pt → Array Value → Prop} {Post : Pt → Array Value → Option Value → Pt → Prop} (hK : Back l R p e below s args y 3 W9 Pre Post)
    {g : JFrame} (hg : g.method = m) (hsize : g.locals.size = c.maxLocals) {argsL rest : List Value} (hlen : ∀ sig, parseMethodDescriptor y.desc = some sig → argsL.length = sig.parameters.length)
    (hstack : g.stack = argsL.reverse ++ rest) (hW : 2 * g.monitorRoom + (rest.map fun v => v.category).sum ≤ W9) (hdg : decode c.code g.pc = .ok (.invokestatic index, 3))
    (hpre : ∀ vm₁, s.WarmedH vm₁ → Pre ⟨T.setVm vm₁, locs, cells, slots⟩ argsL.toArray) :
    ∃ (v : Option Value) (vm₁ : Vm) (B : Pt), s.WarmedH vm₁ ∧ Stand p l e R s m args below meth c B.U B.locs B.cells B.slots ∧ Post ⟨T.setVm vm₁, locs, cells, slots⟩ argsL.toArray v B ∧
      ∀ target, Steps p.tables e below (B.U.setTop { g with pc := g.pc + 3, stack := v.toList ++ rest }) target → Steps p.tables e below (T.setTop g) target := by
  obtain ⟨mk, methM, cM, hnamed, hmethM, -, -, -, -, -, -, hsigM⟩ := Cond.codeWith_spec hcode
  have hstatic : methM.isStatic = true := Cond.static_spec hnamed hmethM hstat
  obtain ⟨kP, hkP, -⟩ := className_of_methodNamed hnamed
  have hinitP : kP.init = .initialized := Cond.initialized_spec (findClass_of_methodNamed hnamed) hkP hinit
  obtain ⟨vm₁, X₁, hstep₁⟩ := X.invokestatic hexec hown hlink hnamed hmethM hstatic hkP hinitP hy (g := g) hg (argsL := argsL) (rest := rest) (hlen _ hsigM) hstack hdg
  obtain ⟨v, B, X', hpost, hsteps⟩ := hK m meth c ⟨T.setVm vm₁, locs, cells, slots⟩ { g with stack := rest } (.invokestatic index) mk argsL.toArray X₁ hg hsize hdg hW (X₁.named hnamed) (hpre vm₁ X₁.warmed)
  exact ⟨v, vm₁, B, X₁.warmed, X', hpost, fun target h => hstep₁ _ fun acts => by rw [doInvoke_state]; exact hsteps.trans h⟩
theorem vx_runSW {y : MethodName} {bytes cc : ByteArray} {maxL nL mc ms n index : Nat} {ret : Option FieldType} {hh : List (Nat × Nat × Nat × Nat)} {ws : List Cond} {rm : Room} {Pc : Array Value → State → Prop} {Qc : Array Value → State → Outcome → State → Prop} {free : Addr → Prop} {Ts : List Cond} {own : String} {As rest : List Value} {g : JFrame}
    (S : CallFix p m c cc nL s args Ts own) (hM : Met l y ws rm Pc Qc mc ms free) (cw : vx_CSW R s args own index y bytes maxL ret hh ws rm mc ms n) (hp : PreS s H Pc As)
    (hg : g.method = m) (hn : As.length = n) (hsize : g.locals.size = nL) (hstack : g.stack = As.reverse ++ rest) (hW : 2 * g.monitorRoom + (rest.map fun v => v.category).sum ≤ 8) (hdg : decode cc g.pc = .ok (.invokestatic index, 3)) (hf : cells + mc ≤ R.cells ∧ slots + ms ≤ R.slots) :
    va_Run p l e R s m args below meth c H locs cells slots mc ms g rest (Qc As.toArray) (free) := by
  obtain ⟨⟨hrc, hrs, hfr, hlo, hws, hcw⟩, hcode, hini, hy, hlen, hl, hstt⟩ := cw
  have hK : Back l R p e below s args y 3 8 (PreOf R mc ms Pc) (PostOf Qc mc ms free) := va_backW (hh := hh) (bytes := bytes) (maxL := maxL) (ret := ret) hM hp.1 hrc hrs hfr hlo hws hcw (fun a' U hW => word_at hW (Or.inl (by first | rfl | simp [Cond.onTables, Cond.keeps, Cond.steady])) hini)
  obtain ⟨hx, hb, hml, ho, -⟩ := S
  intro T hT X
  obtain ⟨v, vm₁, ⟨U', l2, c2, s2⟩, hW₁, X', ⟨g', mk, t, L, e1, e2, hq, h1, hL, h2, h3⟩, st⟩ := vx_callSW X hx (hh := hh) (bytes := bytes) (maxL := maxL) (ret := ret) ho hl hstt hini hcode hy hK hg (hsize.trans hml.symm) (argsL := As) (rest := rest) (fun sig h => hn.trans (hlen sig h)) hstack hW (by rw [hb]; exact hdg)
    (fun vm₁ hW₁ => ⟨hf.1, hf.2, hp.2 (T.setVm vm₁) hT hW₁⟩)
  dsimp only [Pt.U, Pt.locs, Pt.cells, Pt.slots] at X' e1 e2 h1 h2 h3 st
  subst h1; subst h2; subst h3
  exact ⟨v, (T.setVm vm₁).calling g' mk As.toArray, t, U', L, hT, X', hL, e1, e2, hq, st⟩
/-- not caught here, past rows that name other classes: it goes on to the caller -/
theorem vx_outP {p : Program} {l : Launch} {e : Env} {R : Room} {s : State} {m : MethodId} {args : Array Value} {below : List Frame} {meth : Method} {c : Code} {H : Heap} {locs : List Loc} {cells slots : Nat} {free : Addr → Prop} {ls : Array Slot} {rest : List Value} {Qc : Array Value → State → Outcome → State → Prop} {XC : String → State → State → Prop}
    {pc : Nat} {own E : String} {ce : Cell} {q : Addr} {mc ms : Nat} (hown : s.vm.findClass own = some m.cls) (hlocks : meth.locks = false)
    (hpass : ∀ z ∈ c.exceptionTable.toList, covers z pc = false ∨ (z.catchType ≠ 0 ∧ ∃ nm : String, (Cond.classLink own z.catchType nm).before args s = true ∧ va_Nc E nm s)) (hcell : H[q]? = some ce) (hv : ce.vm = .none) (hcl : s.vm.findClass E = some ce.cls)
    (hx : ∀ t : State, t.heap = H → s.vm.Alike t.vm → XC E s t) (hf : ∀ z ∈ locs, free z.base) (hc : cells ≤ mc) (hs : slots ≤ ms) :
    vx_W p l e R s m args below meth c H locs cells slots (vx_MQ below Qc XC args s mc ms free) (F0 m pc ls rest) q := by
  intro T hT X
  have hpl : e.platform.magicAccessors = ({} : Platform).magicAccessors := by rw [X.admits.platform]
  obtain ⟨vm', hW', X', st⟩ := X.outThrough hlocks q (g := F0 m pc ls rest) rfl rfl rfl (cell := ce) (by rw [hT]; exact hcell) (by rw [hv]; rfl)
    (by obtain ⟨k9, h9, -⟩ := Vm.findClass_spec hcl; exact ⟨k9, h9⟩) (fun z hz => by
      rcases hpass z hz with h | ⟨hz0, nm, hl1, hn1⟩
      · exact Or.inl h
      · obtain ⟨c6, hc6, hcl6⟩ := Cond.classLink_spec hown hl1 e.platform hpl
        obtain ⟨a8, b8, h1, h2, h3⟩ := hn1
        cases Option.some.inj (h1.symm.trans hcl)
        cases Option.some.inj (h2.symm.trans hc6)
        exact Or.inr ⟨hz0, _, hcl6, h3⟩)
  obtain ⟨g₀, hfr⟩ := X'.frames_eq
  have hcell9 : ((T.setVm vm').setFrames (.throwing q :: below)).heap[q]? = some ce := by
    show T.heap[q]? = some ce
    rw [hT]; exact hcell
  have hend : Ended ((T.setVm vm').setFrames (.throwing q :: below)) below (.threw q) := State.frames_setFrames _ (State.cur_lt_of_frames hfr)
  refine ⟨(T.setVm vm').setFrames (.throwing q :: below), ?_, .threw q, X'.here.running, hend, Or.inr ⟨q, rfl, E, ce, locs, hx _ hT (X'.ends _).1.alike, hcell9, hv, hcl, (X'.ends _).1, (X'.ends _).2.mono hc hs, hf⟩⟩
  rw [X.pushThrowing_eq]
  exact st
/-- a thing of a world lies in the heap -/
theorem vx_lt {D : va_G} {cl : List vw_C} {ws : va_W} {H1 : Heap} (h : va_P D cl ws H1) {k : Nat} {q : Nat × va_E} (hk : ws[k]? = some q) : q.1 < H1.size := (h k q hk).lt
end VXS
/-! ===== END ===== -/
/-! ===== BEGIN methods with a table of their own: called by a name, returning or throwing ===== -/
section VXH
/-! vx_backW, vx_callVX, vx_callSX, vx_callVW, vx_runVW, vx_runVX, vx_runSX, vx_ofWH follow the same proofs as their sisters above (Free/Laws.lean, Shelf42/LK1.lean); vx_outP calls Shelf42/NT130.lean (outThrough). -/
section
variable {l : Launch} {R : Room} {p : Program} {e : Env} {below : List Frame} {s : State} {sargs : Array Value} {y : MethodName} {len W9 : Nat}
theorem vx_backW {ws : List Cond} {rm : Room} {Pc : Array Value → State → Prop} {Qc : Array Value → State → Outcome → State → Prop} {XC : String → State → State → Prop} {mc ms : Nat} {free : Addr → Prop} {bytes : ByteArray} {maxL : Nat} {ret : Option FieldType} {hh : List (Nat × Nat × Nat × Nat)}
    (hM : vx_Met l y ws rm Pc Qc XC mc ms free) (hblind : FrameBlind Pc) (hrc : rm.cells = mc) (hrs : rm.slots = ms)
    (hframes : rm.frames + 1 ≤ R.frames) (hlocals : W9 + (maxL + 11) + rm.locals ≤ R.locals)
    (hws : ∀ w ∈ ws, ∀ a' U, s.WarmedH U.vm → w.before a' U = true) (hcode : Cond.codeWith y bytes maxL ret hh ∈ ws) (hinit : ∀ a' U, s.WarmedH U.vm → (Cond.initialized y.cls).before a' U = true) :
    vx_Back l R p e below s sargs y len W9 (PreOf R mc ms Pc) (PostOf Qc mc ms free) (vx_Post XC mc ms free) := by
  intro m meth c A g ig mk a X hg hsize hdg hW hn hp
  have h1 : (headSpec ws rm).pre.before a A.U = true := atoms_intro fun w hw => hws w hw _ _ X.warmed
  have h2 : (Cond.codeWith y bytes maxL ret hh).before a A.U = true := hws _ hcode _ _ X.warmed
  have h3 : (Cond.initialized y.cls).before a A.U = true := hinit _ _ X.warmed
  have h4 : A.cells + (headSpec ws rm).room.cells ≤ R.cells := by rw [show (headSpec ws rm).room.cells = mc from hrc]; exact hp.1
  have h5 : A.slots + (headSpec ws rm).room.slots ≤ R.slots := by rw [show (headSpec ws rm).room.slots = ms from hrs]; exact hp.2.1
  have hPc : Pc a (A.U.calling g mk a) := hblind _ _ _ _ hp.2.2
  obtain ⟨U, Ls, c0, s0⟩ := A
  dsimp only [Pt.U, Pt.locs, Pt.cells, Pt.slots] at h1 h2 h3 h4 h5 X hn hPc ⊢
  obtain ⟨m9, methY, cY, hn9, hmY, hcY, -, hlY, -⟩ := Cond.codeWith_spec h2
  cases Option.some.inj (hn9.symm.trans hn)
  obtain ⟨kY, hkY, -⟩ := className_of_methodNamed hn
  have hinitY : kY.init = .initialized := Cond.initialized_spec (findClass_of_methodNamed hn) hkY h3
  have h : At U g.method c below := by rw [hg]; exact X.here
  have hlocals9 : W9 + (maxL + 11) + (headSpec ws rm).room.locals ≤ R.locals := hlocals
  have happ : (headSpec ws rm).appliesLoose y e.platform (U.calling g mk a) = true :=
    Spec.appliesLoose_calling (g := g) h hdg hn hkY hinitY
      (X.room_calling (g := g) (R' := (headSpec ws rm).room) hsize hmY hcY hframes (by rw [hlY]; omega) h4 h5) h1
  obtain ⟨mid, hmid⟩ := h.above
  have hfr : (U.setTop g).frames = (.java g :: mid) ++ below := by rw [State.frames_setTop' g h.top, hmid]; rfl
  obtain ⟨o, s₂, hsteps, -, hend, hq⟩ := Steps.callFree hM p X.admits X.cas X.clock (acts := []) hfr happ hPc trivial
  have hq' : vx_Q Qc XC mc ms free a (U.calling g mk a) o s₂ := hq
  rw [State.frames_setTop' g h.top] at hend
  obtain ⟨g₀, hg0⟩ := Option.isSome_iff_exists.mp h.top
  obtain ⟨r, hr⟩ := State.topJava?_eq_some.mp hg0
  have hr' : (({ U with heap := s₂.heap, slotsUsed := s₂.slotsUsed } : State).setVm s₂.vm).frames = .java g₀ :: r := hr
  rcases hq' with ⟨hqc, L, hfe, hL⟩ | ⟨q, rfl, E, ce, L, hx, hce, hcv, hcl, hW₂, hsm, hL⟩
  · obtain ⟨⟨v, rfl⟩, hW₂, e2, q2, q3, q4, q5, q6⟩ := id hfe
    have e3 : s₂ = ({ (U.calling g mk a).setFrames s₂.frames with heap := s₂.heap, slotsUsed := s₂.slotsUsed } : State).setVm s₂.vm := by
      have : s₂ = ({ s₂ with vm := (U.calling g mk a).vm } : State).setVm s₂.vm := rfl
      rw [e2] at this
      exact this
    obtain ⟨c₂, i₂, len₂, hc₂, hd₂, hf₂⟩ := hend
    have hW' : U.WarmedH s₂.vm := hW₂
    have hcc : c₂ = c := by
      have h1 : s₂.code? g.method = U.code? g.method := by
        rw [State.code?_eq, State.code?_eq, hW'.alike.method?]
      exact Option.some.inj (hc₂.symm.trans (h1.trans h.code))
    subst hcc
    have hlen : len₂ = len := by rw [hdg] at hd₂; cases hd₂; rfl
    subst hlen
    have hs₂ : s₂ = (({ U with heap := s₂.heap, slotsUsed := s₂.slotsUsed } : State).setVm s₂.vm).setTop { g with pc := g.pc + len₂, stack := v.toList ++ g.stack } := by
      refine e3.trans ?_
      rw [hf₂, State.calling_eq h.top, State.setFrames_setFrames, State.setTop_of_frames _ hr', hr]
      rfl
    have hsame : U.sameButNew ({ U with heap := s₂.heap, slotsUsed := s₂.slotsUsed } : State) L mc ms := by
      refine ⟨?_, q2, q3, q4, q5, q6⟩
      obtain ⟨t, ht, -⟩ := State.frames_cons hr
      show ({ U with heap := s₂.heap, slotsUsed := s₂.slotsUsed } : State) = { U.setFrames U.frames with heap := s₂.heap, slotsUsed := s₂.slotsUsed }
      rw [State.setFrames_self ht]
    subst hg
    refine Or.inl ⟨v, ⟨(({ U with heap := s₂.heap, slotsUsed := s₂.slotsUsed } : State).setVm s₂.vm), Ls ++ L, c0 + mc, s0 + ms⟩,
      ⟨X.admits, X.cas, X.clock, X.frames, X.room, X.hears, X.method, X.code, (X.here.setHeapUsed s₂.heap s₂.slotsUsed).setVm hW'.alike, X.tail, State.WarmedH.trans X.warmed hW', X.limits, X.bytes, X.same.trans (hsame.setVm s.vm)⟩,
      ⟨g, mk, s₂, L, rfl, rfl, hqc, rfl, hL, rfl, rfl⟩, ?_⟩
    show Steps p.tables e below _ ((({ U with heap := s₂.heap, slotsUsed := s₂.slotsUsed } : State).setVm s₂.vm).setTop { g with pc := g.pc + len₂, stack := v.toList ++ g.stack })
    rw [← hs₂]
    exact hsteps
  · obtain ⟨e2, q2, q3, q4, q5, q6⟩ := id hsm
    have e3 : s₂ = ({ (U.calling g mk a).setFrames s₂.frames with heap := s₂.heap, slotsUsed := s₂.slotsUsed } : State).setVm s₂.vm := by
      have : s₂ = ({ s₂ with vm := (U.calling g mk a).vm } : State).setVm s₂.vm := rfl
      rw [e2] at this
      exact this
    have hf₂ : s₂.frames = .throwing q :: .java g :: U.frames.tail := hend
    have hW' : U.WarmedH s₂.vm := hW₂
    have hs₂ : s₂ = ((({ U with heap := s₂.heap, slotsUsed := s₂.slotsUsed } : State).setVm s₂.vm).setTop g).pushFrame (.throwing q) := by
      refine e3.trans ?_
      rw [hf₂, State.calling_eq h.top, State.setFrames_setFrames, State.pushFrame, State.frames_setTop _ hr', State.setTop_of_frames _ hr', State.setFrames_setFrames, hr]
      rfl
    have hsame : U.sameButNew ({ U with heap := s₂.heap, slotsUsed := s₂.slotsUsed } : State) L mc ms := by
      refine ⟨?_, q2, q3, q4, q5, q6⟩
      obtain ⟨t, ht, -⟩ := State.frames_cons hr
      show ({ U with heap := s₂.heap, slotsUsed := s₂.slotsUsed } : State) = { U.setFrames U.frames with heap := s₂.heap, slotsUsed := s₂.slotsUsed }
      rw [State.setFrames_self ht]
    subst hg
    refine Or.inr ⟨q, ⟨(({ U with heap := s₂.heap, slotsUsed := s₂.slotsUsed } : State).setVm s₂.vm), Ls ++ L, c0 + mc, s0 + ms⟩,
      ⟨X.admits, X.cas, X.clock, X.frames, X.room, X.hears, X.method, X.code, (X.here.setHeapUsed s₂.heap s₂.slotsUsed).setVm hW'.alike, X.tail, State.WarmedH.trans X.warmed hW', X.limits, X.bytes, X.same.trans (hsame.setVm s.vm)⟩,
      ⟨g, mk, s₂, L, E, ce, rfl, rfl, hx, hce, hcv, hcl, rfl, hL, rfl, rfl⟩, ?_⟩
    show Steps p.tables e below _ (((({ U with heap := s₂.heap, slotsUsed := s₂.slotsUsed } : State).setVm s₂.vm).setTop g).pushFrame (.throwing q))
    rw [← hs₂]
    exact hsteps
end
variable {p : Program} {l : Launch} {e : Env} {R : Room} {s : State} {m : MethodId} {args : Array Value} {below : List Frame} {meth : Method} {c : Code} {T : State} {H : Heap} {locs : List Loc} {cells slots : Nat}
theorem vx_callVX (X : Stand p l e R s m args below meth c T locs cells slots) (hexec : p.tables.exec = Jvm.exec) {own C : String} {index : Nat} {y : MethodName} {bytes : ByteArray} {maxL : Nat} {ret : Option FieldType} {hh : List (Nat × Nat × Nat × Nat)}
    (hown : s.vm.findClass own = some m.cls) (hlink : (Cond.methodLink own index y).before args s = true) (hinst : (Cond.instanceMethod y).before args s = true) (hsel : (Cond.selects C y y).before args s = true)
    (hcode : (Cond.codeWith y bytes maxL ret hh).before args s = true) (hy : y.cls ≠ "java/lang/invoke/MethodHandle" ∧ y.cls ≠ "java/lang/invoke/VarHandle")
    {W9 : Nat} {Pre : Pt → Array Value → Prop} {Post : Pt → Array Value → Option Value → Pt → Prop} {PostX : Pt → Array Value → Addr → Pt → Prop} (hK : vx_Back l R p e below s args y 3 W9 Pre Post PostX)
    {b : Addr} {cellB : Cell} (hcell : T.heap[b]? = some cellB) (hobj : cellB.vm.isStatics = false) (hcls : s.vm.findClass C = some cellB.cls)
    {g : JFrame} (hg : g.method = m) (hsize : g.locals.size = c.maxLocals) {argsL rest : List Value} (hlen : ∀ sig, parseMethodDescriptor y.desc = some sig → argsL.length = sig.parameters.length)
    (hstack : g.stack = argsL.reverse ++ .ref b :: rest) (hW : 2 * g.monitorRoom + (rest.map fun v => v.category).sum ≤ W9) (hdg : decode c.code g.pc = .ok (.invokevirtual index, 3))
    (hpre : ∀ vm₁, s.WarmedH vm₁ → Pre ⟨T.setVm vm₁, locs, cells, slots⟩ (Value.ref b :: argsL).toArray) :
    (∃ (v : Option Value) (vm₁ : Vm) (B : Pt), s.WarmedH vm₁ ∧ Stand p l e R s m args below meth c B.U B.locs B.cells B.slots ∧ Post ⟨T.setVm vm₁, locs, cells, slots⟩ (Value.ref b :: argsL).toArray v B ∧
      ∀ target, Steps p.tables e below (B.U.setTop { g with pc := g.pc + 3, stack := v.toList ++ rest }) target → Steps p.tables e below (T.setTop g) target) ∨
    (∃ (q : Addr) (vm₁ : Vm) (B : Pt), s.WarmedH vm₁ ∧ Stand p l e R s m args below meth c B.U B.locs B.cells B.slots ∧ PostX ⟨T.setVm vm₁, locs, cells, slots⟩ (Value.ref b :: argsL).toArray q B ∧
      Steps p.tables e below (T.setTop g) ((B.U.setTop { g with stack := rest }).pushFrame (.throwing q))) := by
  obtain ⟨mk, methM, hnamed, hmethM, hstM, habM⟩ := Cond.instanceMethod_spec hinst
  obtain ⟨m8, methM', cM, hn8, hmethM', -, -, -, -, -, -, hsigM⟩ := Cond.codeWith_spec hcode
  cases Option.some.inj (hn8.symm.trans hnamed)
  cases hmethM.symm.trans hmethM'
  obtain ⟨c2, r2, m2, q1, q2, q3, q4, kP, hkP, hkPi⟩ := Cond.selects_spec hsel
  cases hcls.symm.trans q1
  cases (State.methodFound?_of_named hnamed hy).symm.trans q2
  cases hnamed.symm.trans q3
  have hselP : selectMethod e.platform s.vm cellB.cls mk = .method mk := by rw [Launch.admits_selectMethod X.admits]; exact q4
  obtain ⟨vm₁, X₁, hstep₁⟩ := X.invokevirtual hexec hown hlink hnamed hmethM hstM hkP hkPi hy (a := b) (cell := cellB) hcell
    (fun z h => by rw [h] at hobj; cases hobj) hselP hmethM habM hkP hkPi (g := g) hg (argsL := argsL) (rest := rest) (hlen _ hsigM) hstack hdg
  rcases hK m meth c ⟨T.setVm vm₁, locs, cells, slots⟩ { g with stack := rest } (.invokevirtual index) mk (Value.ref b :: argsL).toArray X₁ hg hsize hdg hW (X₁.named hnamed) (hpre vm₁ X₁.warmed) with ⟨v, B, X', hpost, hsteps⟩ | ⟨q, B, X', hpost, hsteps⟩
  · exact Or.inl ⟨v, vm₁, B, X₁.warmed, X', hpost, fun target h => hstep₁ _ fun acts => by rw [doInvoke_state]; exact hsteps.trans h⟩
  · exact Or.inr ⟨q, vm₁, B, X₁.warmed, X', hpost, hstep₁ _ fun acts => by rw [doInvoke_state]; exact hsteps⟩
theorem vx_callSX (X : Stand p l e R s m args below meth c T locs cells slots) (hexec : p.tables.exec = Jvm.exec) {own : String} {index : Nat} {y : MethodName} {bytes : ByteArray} {maxL : Nat} {ret : Option FieldType} {hh : List (Nat × Nat × Nat × Nat)}
    (hown : s.vm.findClass own = some m.cls) (hlink : (Cond.methodLink own index y).before args s = true) (hstat : (Cond.static y).before args s = true) (hinit : (Cond.initialized y.cls).before args s = true)
    (hcode : (Cond.codeWith y bytes maxL ret hh).before args s = true) (hy : y.cls ≠ "java/lang/invoke/MethodHandle" ∧ y.cls ≠ "java/lang/invoke/VarHandle")
    {W9 : Nat} {Pre : Pt → Array Value → Prop} {Post : Pt → Array Value → Option Value → Pt → Prop} {PostX : Pt → Array Value → Addr → Pt → Prop} (hK : vx_Back l R p e below s args y 3 W9 Pre Post PostX)
    {g : JFrame} (hg : g.method = m) (hsize : g.locals.size = c.maxLocals) {argsL rest : List Value} (hlen : ∀ sig, parseMethodDescriptor y.desc = some sig → argsL.length = sig.parameters.length)
    (hstack : g.stack = argsL.reverse ++ rest) (hW : 2 * g.monitorRoom + (rest.map fun v => v.category).sum ≤ W9) (hdg : decode c.code g.pc = .ok (.invokestatic index, 3))
    (hpre : ∀ vm₁, s.WarmedH vm₁ → Pre ⟨T.setVm vm₁, locs, cells, slots⟩ argsL.toArray) :
    (∃ (v : Option Value) (vm₁ : Vm) (B : Pt), s.WarmedH vm₁ ∧ Stand p l e R s m args below meth c B.U B.locs B.cells B.slots ∧ Post ⟨T.setVm vm₁, locs, cells, slots⟩ argsL.toArray v B ∧
      ∀ target, Steps p.tables e below (B.U.setTop { g with pc := g.pc + 3, stack := v.toList ++ rest }) target → Steps p.tables e below (T.setTop g) target) ∨
    (∃ (q : Addr) (vm₁ : Vm) (B : Pt), s.WarmedH vm₁ ∧ Stand p l e R s m args below meth c B.U B.locs B.cells B.slots ∧ PostX ⟨T.setVm vm₁, locs, cells, slots⟩ argsL.toArray q B ∧
      Steps p.tables e below (T.setTop g) ((B.U.setTop { g with stack := rest }).pushFrame (.throwing q))) := by
  obtain ⟨mk, methM, cM, hnamed, hmethM, -, -, -, -, -, -, hsigM⟩ := Cond.codeWith_spec hcode
  have hstatic : methM.isStatic = true := Cond.static_spec hnamed hmethM hstat
  obtain ⟨kP, hkP, -⟩ := className_of_methodNamed hnamed
  have hinitP : kP.init = .initialized := Cond.initialized_spec (findClass_of_methodNamed hnamed) hkP hinit
  obtain ⟨vm₁, X₁, hstep₁⟩ := X.invokestatic hexec hown hlink hnamed hmethM hstatic hkP hinitP hy (g := g) hg (argsL := argsL) (rest := rest) (hlen _ hsigM) hstack hdg
  rcases hK m meth c ⟨T.setVm vm₁, locs, cells, slots⟩ { g with stack := rest } (.invokestatic index) mk argsL.toArray X₁ hg hsize hdg hW (X₁.named hnamed) (hpre vm₁ X₁.warmed) with ⟨v, B, X', hpost, hsteps⟩ | ⟨q, B, X', hpost, hsteps⟩
  · exact Or.inl ⟨v, vm₁, B, X₁.warmed, X', hpost, fun target h => hstep₁ _ fun acts => by rw [doInvoke_state]; exact hsteps.trans h⟩
  · exact Or.inr ⟨q, vm₁, B, X₁.warmed, X', hpost, hstep₁ _ fun acts => by rw [doInvoke_state]; exact hsteps⟩
theorem vx_callVW (X : Stand p l e R s m args below meth c T locs cells slots) (hexec : p.tables.exec = Jvm.exec) {own C : String} {index : Nat} {y : MethodName} {bytes : ByteArray} {maxL : Nat} {ret : Option FieldType} {hh : List (Nat × Nat × Nat × Nat)}
    (hown : s.vm.findClass own = some m.cls) (hlink : (Cond.methodLink own index y).before args s = true) (hinst : (Cond.instanceMethod y).before args s = true) (hsel : (Cond.selects C y y).before args s = true)
    (hcode : (Cond.codeWith y bytes maxL ret hh).before args s = true) (hy : y.cls ≠ "java/lang/invoke/MethodHandle" ∧ y.cls ≠ "java/lang/invoke/VarHandle")
    {W9 : Nat} {Pre : Pt → Array Value → Prop} {Post : Pt → Array Value → Option Value → Pt → Prop} (hK : Back l R p e below s args y 3 W9 Pre Post)
    {b : Addr} {cellB : Cell} (hcell : T.heap[b]? = some cellB) (hobj : cellB.vm.isStatics = false) (hcls : s.vm.findClass C = some cellB.cls)
    {g : JFrame} (hg : g.method = m) (hsize : g.locals.size = c.maxLocals) {argsL rest : List Value} (hlen : ∀ sig, parseMethodDescriptor y.desc = some sig → argsL.length = sig.parameters.length)
    (hstack : g.stack = argsL.reverse ++ .ref b :: rest) (hW : 2 * g.monitorRoom + (rest.map fun v => v.category).sum ≤ W9) (hdg : decode c.code g.pc = .ok (.invokevirtual index, 3))
    (hpre : ∀ vm₁, s.WarmedH vm₁ → Pre ⟨T.setVm vm₁, locs, cells, slots⟩ (Value.ref b :: argsL).toArray) :
    ∃ (v : Option Value) (vm₁ : Vm) (B : Pt), s.WarmedH vm₁ ∧ Stand p l e R s m args below meth c B.U B.locs B.cells B.slots ∧ Post ⟨T.setVm vm₁, locs, cells, slots⟩ (Value.ref b :: argsL).toArray v B ∧
      ∀ target, Steps p.tables e below (B.U.setTop { g with pc := g.pc + 3, stack := v.toList ++ rest }) target → Steps p.tables e below (T.setTop g) target := by
  obtain ⟨mk, methM, hnamed, hmethM, hstM, habM⟩ := Cond.instanceMethod_spec hinst
  obtain ⟨m8, methM', cM, hn8, hmethM', -, -, -, -, -, -, hsigM⟩ := Cond.codeWith_spec hcode
  cases Option.some.inj (hn8.symm.trans hnamed)
  cases hmethM.symm.trans hmethM'
  obtain ⟨c2, r2, m2, q1, q2, q3, q4, kP, hkP, hkPi⟩ := Cond.selects_spec hsel
  cases hcls.symm.trans q1
  cases (State.methodFound?_of_named hnamed hy).symm.trans q2
  cases hnamed.symm.trans q3
  have hselP : selectMethod e.platform s.vm cellB.cls mk = .method mk := by rw [Launch.admits_selectMethod X.admits]; exact q4
  obtain ⟨vm₁, X₁, hstep₁⟩ := X.invokevirtual hexec hown hlink hnamed hmethM hstM hkP hkPi hy (a := b) (cell := cellB) hcell
    (fun z h => by rw [h] at hobj; cases hobj) hselP hmethM habM hkP hkPi (g := g) hg (argsL := argsL) (rest := rest) (hlen _ hsigM) hstack hdg
  obtain ⟨v, B, X', hpost, hsteps⟩ := hK m meth c ⟨T.setVm vm₁, locs, cells, slots⟩ { g with stack := rest } (.invokevirtual index) mk (Value.ref b :: argsL).toArray X₁ hg hsize hdg hW (X₁.named hnamed) (hpre vm₁ X₁.warmed)
  exact ⟨v, vm₁, B, X₁.warmed, X', hpost, fun target h => hstep₁ _ fun acts => by rw [doInvoke_state]; exact hsteps.trans h⟩
abbrev vx_CVW (R : Room) (s : State) (args : Array Value) (own C : String) (index : Nat) (y : MethodName) (bytes : ByteArray) (maxL : Nat) (ret : Option FieldType) (hh : List (Nat × Nat × Nat × Nat)) (ws : List Cond) (rm : Room) (mc ms n : Nat) : Prop :=
  (rm.cells = mc ∧ rm.slots = ms ∧ rm.frames + 1 ≤ R.frames ∧ 8 + (maxL + 11) + rm.locals ≤ R.locals ∧ (∀ w ∈ ws, ∀ (a' : Array Value) (U : State), s.WarmedH U.vm → w.before a' U = true) ∧ Cond.codeWith y bytes maxL ret hh ∈ ws) ∧
  (Cond.codeWith y bytes maxL ret hh).before args s = true ∧ (Cond.initialized y.cls).before args s = true ∧ (y.cls ≠ "java/lang/invoke/MethodHandle" ∧ y.cls ≠ "java/lang/invoke/VarHandle") ∧
  (∀ sig, parseMethodDescriptor y.desc = some sig → n = sig.parameters.length) ∧ (Cond.methodLink own index y).before args s = true ∧ (Cond.instanceMethod y).before args s = true ∧ (Cond.selects C y y).before args s = true
theorem vx_cwVW {own C : String} {index maxL mc ms : Nat} {y : MethodName} {bytes : ByteArray} {ret : Option FieldType} {hh : List (Nat × Nat × Nat × Nat)} {Ts ws ws' : List Cond} {rm : Room} (n : Nat) (ht : ∀ w ∈ Ts, w.before args s = true) (hT : GoodIn Ts (wsV own index C y ws)) (hw : ws = Cond.codeWith y bytes maxL ret hh :: ws') (hrc : rm.cells = mc) (hrs : rm.slots = ms)
    (hd : y.cls = C ∧ y.cls ≠ "java/lang/invoke/MethodHandle" ∧ y.cls ≠ "java/lang/invoke/VarHandle" ∧ (parseMethodDescriptor y.desc).map (fun d => d.parameters.length) = some n) (hR : rm.frames + 1 ≤ R.frames ∧ 8 + (maxL + 11) + rm.locals ≤ R.locals) :
    vx_CVW R s args own C index y bytes maxL ret hh ws rm mc ms n := by
  obtain ⟨hC, hd⟩ := hd
  subst hC
  have ok : ∀ w ∈ wsV own index y.cls y ws, w.before args s = true := fun w h => ht w (hT w h).1
  have hG : GoodIn Ts ws := fun w h => hT w (by unfold wsV; exact List.mem_append_right _ h)
  have hc : Cond.codeWith y bytes maxL ret hh ∈ ws := by rw [hw]; exact List.mem_cons_self
  refine ⟨⟨hrc, hrs, hR.1, hR.2, pay_in ht hG, hc⟩, ht _ (hG _ hc).1, ok _ (by simp [wsV]), ⟨hd.1, hd.2.1⟩, fun sig h => ?_, ok _ (by simp [wsV]), ok _ (by simp [wsV]), ok _ (by simp [wsV])⟩
  have h2 := hd.2.2
  rw [h] at h2
  exact (Option.some.inj h2).symm
theorem vx_runVW {y : MethodName} {bytes cc : ByteArray} {maxL nL mc ms n index : Nat} {ret : Option FieldType} {hh : List (Nat × Nat × Nat × Nat)} {ws : List Cond} {rm : Room} {Pc : Array Value → State → Prop} {Qc : Array Value → State → Outcome → State → Prop} {free : Addr → Prop} {Ts : List Cond} {own C : String} {b : Addr} {As rest : List Value} {g : JFrame}
    (S : CallFix p m c cc nL s args Ts own) (hM : Met l y ws rm Pc Qc mc ms free) (cw : vx_CVW R s args own C index y bytes maxL ret hh ws rm mc ms n) (hp : PreV s H C b Pc As)
    (hg : g.method = m) (hn : As.length = n) (hsize : g.locals.size = nL) (hstack : g.stack = As.reverse ++ .ref b :: rest) (hW : 2 * g.monitorRoom + (rest.map fun v => v.category).sum ≤ 8) (hdg : decode cc g.pc = .ok (.invokevirtual index, 3)) (hf : cells + mc ≤ R.cells ∧ slots + ms ≤ R.slots) :
    va_Run p l e R s m args below meth c H locs cells slots mc ms g rest (Qc (Value.ref b :: As).toArray) free := by
  obtain ⟨⟨hrc, hrs, hfr, hlo, hws, hcw⟩, hcode, hini, hy, hlen, hl, hin, hse⟩ := cw
  have hK : Back l R p e below s args y 3 8 (PreOf R mc ms Pc) (PostOf Qc mc ms free) := va_backW (hh := hh) (bytes := bytes) (maxL := maxL) (ret := ret) hM hp.1 hrc hrs hfr hlo hws hcw (fun a' U hW => word_at hW (Or.inl (by first | rfl | simp [Cond.onTables, Cond.keeps, Cond.steady])) hini)
  obtain ⟨hx, hb, hml, ho, -⟩ := S
  obtain ⟨-, ⟨cellB, hcB, hoB, hclB⟩, hPc⟩ := hp
  intro T hT X
  obtain ⟨v, vm₁, ⟨U', l2, c2, s2⟩, hW₁, X', ⟨g', mk, t, L, e1, e2, hq, h1, hL, h2, h3⟩, st⟩ := vx_callVW X hx (C := C) (hh := hh) (bytes := bytes) (maxL := maxL) (ret := ret) ho hl hin hse hcode hy hK (by rw [hT]; exact hcB) hoB hclB hg (hsize.trans hml.symm) (argsL := As) (rest := rest) (fun sig h => hn.trans (hlen sig h)) hstack hW (by rw [hb]; exact hdg)
    (fun vm₁ hW₁ => ⟨hf.1, hf.2, hPc (T.setVm vm₁) hT hW₁⟩)
  dsimp only [Pt.U, Pt.locs, Pt.cells, Pt.slots] at X' e1 e2 h1 h2 h3 st
  subst h1; subst h2; subst h3
  exact ⟨v, (T.setVm vm₁).calling g' mk (Value.ref b :: As).toArray, t, U', L, hT, X', hL, e1, e2, hq, st⟩
section
variable {y : MethodName} {bytes cc : ByteArray} {maxL nL mc ms n index : Nat} {ret : Option FieldType} {ws : List Cond} {rm : Room} {Pc : Array Value → State → Prop} {Qc : Array Value → State → Outcome → State → Prop} {XC : String → State → State → Prop} {free : Addr → Prop} {Ts : List Cond} {own C : String} {b : Addr} {As rest : List Value} {g : JFrame}
theorem vx_runVX {hh : List (Nat × Nat × Nat × Nat)} (S : CallFix p m c cc nL s args Ts own) (hM : vx_Met l y ws rm Pc Qc XC mc ms free) (cw : vx_CVW R s args own C index y bytes maxL ret hh ws rm mc ms n) (hp : PreV s H C b Pc As)
    (hg : g.method = m) (hn : As.length = n) (hsize : g.locals.size = nL) (hstack : g.stack = As.reverse ++ .ref b :: rest) (hW : 2 * g.monitorRoom + (rest.map fun v => v.category).sum ≤ 8) (hdg : decode cc g.pc = .ok (.invokevirtual index, 3)) (hf : cells + mc ≤ R.cells ∧ slots + ms ≤ R.slots) :
    vx_Run p l e R s m args below meth c H locs cells slots mc ms g rest (Qc (Value.ref b :: As).toArray) XC free := by
  obtain ⟨⟨hrc, hrs, hfr, hlo, hws, hcw⟩, hcode, hini, hy, hlen, hl, hin, hse⟩ := cw
  have hK : vx_Back l R p e below s args y 3 8 (PreOf R mc ms Pc) (PostOf Qc mc ms free) (vx_Post XC mc ms free) := vx_backW (hh := hh) (bytes := bytes) (maxL := maxL) (ret := ret) hM hp.1 hrc hrs hfr hlo hws hcw (fun a' U hW => word_at hW (Or.inl (by first | rfl | simp [Cond.onTables, Cond.keeps, Cond.steady])) hini)
  obtain ⟨hx, hb, hml, ho, -⟩ := S
  obtain ⟨-, ⟨cellB, hcB, hoB, hclB⟩, hPc⟩ := hp
  intro T hT X
  rcases vx_callVX X hx (C := C) (hh := hh) (bytes := bytes) (maxL := maxL) (ret := ret) ho hl hin hse hcode hy hK (by rw [hT]; exact hcB) hoB hclB hg (hsize.trans hml.symm) (argsL := As) (rest := rest) (fun sig h => hn.trans (hlen sig h)) hstack hW (by rw [hb]; exact hdg)
    (fun vm₁ hW₁ => ⟨hf.1, hf.2, hPc (T.setVm vm₁) hT hW₁⟩) with ⟨v, vm₁, ⟨U', l2, c2, s2⟩, hW₁, X', ⟨g', mk, t, L, e1, e2, hq, h1, hL, h2, h3⟩, st⟩ | ⟨q, vm₁, ⟨U', l2, c2, s2⟩, hW₁, X', ⟨g', mk, t, L, E, ce, e1, e2, hq, hce, hcv, hcl, h1, hL, h2, h3⟩, st⟩
  · dsimp only [Pt.U, Pt.locs, Pt.cells, Pt.slots] at X' e1 e2 h1 h2 h3 st
    subst h1; subst h2; subst h3
    exact Or.inl ⟨v, (T.setVm vm₁).calling g' mk (Value.ref b :: As).toArray, t, U', L, hT, X', hL, e1, e2, hq, st⟩
  · dsimp only [Pt.U, Pt.locs, Pt.cells, Pt.slots] at X' e1 e2 h1 h2 h3 st hcl
    subst h1; subst h2; subst h3
    exact Or.inr ⟨q, (T.setVm vm₁).calling g' mk (Value.ref b :: As).toArray, t, U', L, E, ce, hT, X', hL, e1, e2, hq, hce, hcv, vx_cls hW₁ hcl, st⟩
theorem vx_runSX {hh : List (Nat × Nat × Nat × Nat)} (S : CallFix p m c cc nL s args Ts own) (hM : vx_Met l y ws rm Pc Qc XC mc ms free) (cw : vx_CSW R s args own index y bytes maxL ret hh ws rm mc ms n) (hp : PreS s H Pc As)
    (hg : g.method = m) (hn : As.length = n) (hsize : g.locals.size = nL) (hstack : g.stack = As.reverse ++ rest) (hW : 2 * g.monitorRoom + (rest.map fun v => v.category).sum ≤ 8) (hdg : decode cc g.pc = .ok (.invokestatic index, 3)) (hf : cells + mc ≤ R.cells ∧ slots + ms ≤ R.slots) :
    vx_Run p l e R s m args below meth c H locs cells slots mc ms g rest (Qc As.toArray) XC free := by
  obtain ⟨⟨hrc, hrs, hfr, hlo, hws, hcw⟩, hcode, hini, hy, hlen, hl, hstt⟩ := cw
  have hK : vx_Back l R p e below s args y 3 8 (PreOf R mc ms Pc) (PostOf Qc mc ms free) (vx_Post XC mc ms free) := vx_backW (hh := hh) (bytes := bytes) (maxL := maxL) (ret := ret) hM hp.1 hrc hrs hfr hlo hws hcw (fun a' U hW => word_at hW (Or.inl (by first | rfl | simp [Cond.onTables, Cond.keeps, Cond.steady])) hini)
  obtain ⟨hx, hb, hml, ho, -⟩ := S
  intro T hT X
  rcases vx_callSX X hx (hh := hh) (bytes := bytes) (maxL := maxL) (ret := ret) ho hl hstt hini hcode hy hK hg (hsize.trans hml.symm) (argsL := As) (rest := rest) (fun sig h => hn.trans (hlen sig h)) hstack hW (by rw [hb]; exact hdg)
    (fun vm₁ hW₁ => ⟨hf.1, hf.2, hp.2 (T.setVm vm₁) hT hW₁⟩) with ⟨v, vm₁, ⟨U', l2, c2, s2⟩, hW₁, X', ⟨g', mk, t, L, e1, e2, hq, h1, hL, h2, h3⟩, st⟩ | ⟨q, vm₁, ⟨U', l2, c2, s2⟩, hW₁, X', ⟨g', mk, t, L, E, ce, e1, e2, hq, hce, hcv, hcl, h1, hL, h2, h3⟩, st⟩
  · dsimp only [Pt.U, Pt.locs, Pt.cells, Pt.slots] at X' e1 e2 h1 h2 h3 st
    subst h1; subst h2; subst h3
    exact Or.inl ⟨v, (T.setVm vm₁).calling g' mk As.toArray, t, U', L, hT, X', hL, e1, e2, hq, st⟩
  · dsimp only [Pt.U, Pt.locs, Pt.cells, Pt.slots] at X' e1 e2 h1 h2 h3 st hcl
    subst h1; subst h2; subst h3
    exact Or.inr ⟨q, (T.setVm vm₁).calling g' mk As.toArray, t, U', L, E, ce, hT, X', hL, e1, e2, hq, hce, hcv, vx_cls hW₁ hcl, st⟩
end
end VXH
theorem vx_ofWH {l : Launch} {y : MethodName} {ws ws' : List Cond} {rm : Room} {Pc : Array Value → State → Prop} {Qc : Array Value → State → Outcome → State → Prop} {XC : String → State → State → Prop} {mc ms : Nat} {free : Addr → Prop} {cc : ByteArray} {maxL : Nat} {ret : Option FieldType} {hh : List (Nat × Nat × Nat × Nat)}
    (hy : plainName y.cls = true) (hw : ws = Cond.codeWith y cc maxL ret hh :: ws')
    (body : ∀ p e s m args below meth c s₁, BodyLoose p l y (headSpec ws rm) cc maxL ret e s m args below meth c s₁ → c.maxLocals = maxL → Pc args s →
      W p l e (headSpec ws rm).room s m args below meth c s.heap [] 0 0 (vx_MQ below Qc XC args s mc ms free) (entryFrame m args maxL)) : vx_Met l y ws rm Pc Qc XC mc ms free := by
  refine MetFree.of_bodyS (code := cc) (maxLocals := maxL) (ret := ret) hy ?_ ?_
  · intro args s m h hn
    obtain ⟨m9, meth, c, hn9, h1, h2, h3, h4, -, h5, h6, -⟩ := Cond.codeWith_spec (atoms_spec (ws := ws) h _ (by rw [hw]; exact List.mem_cons_self))
    cases hn.symm.trans hn9
    exact ⟨meth, c, h1, h2, h3, h4, h5, h6⟩
  · intro p e s m args below meth c s₁ B hml hP _
    have hh0 : s₁.heap = s.heap := by rw [B.state]; rfl
    obtain ⟨t, a1, o, b1, b2, b3⟩ := body p e s m args below meth c s₁ B hml hP s₁ hh0 (Stand.of_body B)
    exact ⟨t, o, a1, b1, b2, b3⟩
/-! ===== END ===== -/

/-! ===== BEGIN what the machine throws by itself, no traces kept ===== -/
section VXM
set_option maxHeartbeats 1000000 in
/-- the machine throws cls with the message text, no traces kept: from its note over the frame g to 'throwing' over the same frame (follows the proofs of Stand.vmThrowsMessage, Shelf/KitTracedVmS.lean, and Stand.throwsMessageColdBareV, StandMessageColdV.lean, without the step out of the frame) -/
theorem vx_vmAt {p : Program} {l : Launch} {e : Env} {R : Room} {s : State} {m₀ : MethodId} {args : Array Value} {below : List Frame} {meth : Method} {c : Code} {W : State} {locs : List Loc} {cells slots : Nat}
    (X : Stand p l e R s m₀ args below meth c W locs cells slots) (hexec : p.tables.exec = Jvm.exec) (htr : e.platform.stackTraces = false) {cls : String} {names : List String} {text : String}
    (hcls : Bundle.fit cls = true) (hnames : ∀ n ∈ names, Bundle.fit n = true) (hsoe : (cls == "java/lang/StackOverflowError") = false) (hoom : (cls == "java/lang/OutOfMemoryError") = false)
    (h : ∀ a ∈ Bundle.messageArmAtoms cls names, a.before args s = true)
    (hlocs : ∀ x ∈ locs, ∀ cell, s.heap[x.base]? = some cell → cell.vm.isStatics = false)
    (htext : (text == notModelled) = false) (hlimit : ¬ (stringBytes (stringToUtf16 text)).size > e.platform.arrayLengthLimit) (hheap : ¬ (stringBytes (stringToUtf16 text)).size * componentBytes .byte > e.platform.maxHeapBytes)
    {g : JFrame} (hg : g.method = m₀) (hsize : g.locals.size = c.maxLocals)
    (hRframes : names.length + 4 < R.frames) (hRlocals : 2 * g.monitorRoom + (g.stack.map fun v => v.category).sum + 10240 ≤ R.locals) (hshort : 13 * names.length + 55 ≤ 10240)
    (hRcells : cells + 3 ≤ R.cells) (hRslots : slots + ((stringBytes (stringToUtf16 text)).size + 4 + 6) ≤ R.slots) (hlocks : meth.locks = false) :
    ∃ (S : State) (q : Addr) (ce : Cell), (∀ target, Steps p.tables e below ((S.setTop g).pushFrame (.throwing q)) target → Steps p.tables e below ((W.setTop g).pushFrame (.throwNew cls (some text) none)) target) ∧
      Stand p l e R s m₀ args below meth c S locs (cells + 3) (slots + ((stringBytes (stringToUtf16 text)).size + 4 + 6)) ∧ S.heap[q]? = some ce ∧ s.vm.findClass cls = some ce.cls ∧ ce.vm = .none := by
  have howns : e.platform.frameOwnsMonitors = true := by rw [X.admits.platform]
  have hfin : e.platform.finalization = false := by rw [X.admits.platform]
  have hpl : e.platform.magicAccessors = ({} : Platform).magicAccessors := by rw [X.admits.platform]
  have a : ∀ x, x ∈ Bundle.messageArmAtoms cls names → x.holds args s none s [] = true := fun x hx => h x hx
  obtain ⟨T, Z0, L, -, Y⟩ := ThrowableC.of_atoms (args := args) howns hfin hpl (fun x hx => h x (by simp [Bundle.messageArmAtoms, hx]))
  obtain ⟨Z, M, LZ, LM, hnZ⟩ := Init0T.ofS_atoms (args := args) hpl L Y (fun x hx => h x (by simp [Bundle.messageArmAtoms, hx]))
  obtain ⟨P1, Ps, hlen, L1, hL, hP1m, hlink1, hlink⟩ := Bundle.chainS (args := args) hpl hnZ names cls hcls hnames (fun x hx => h x (by simp [Bundle.messageArmAtoms, hx]))
  obtain ⟨Zs, LZs, hn4, hfitv, hfitc⟩ := StringT.of_atoms (args := args) (fun x hx => h x (by simp [Bundle.messageArmAtoms, hx]))
  have hfound : s.vm.findClass cls = some P1.m.cls := findClass_of_methodNamed hP1m
  obtain ⟨c1, kX, hc1, hk, hord, -, -, hn6⟩ := Cond.instantiable_spec (a (.instantiable cls 6) (by simp [Bundle.messageArmAtoms]))
  cases Option.some.inj (hc1.symm.trans hfound)
  have hinit := Cond.initialized_spec hfound hk (a (.initialized cls) (by simp [Bundle.messageArmAtoms]))
  have hctor : kX.findMethod "<init>" "(Ljava/lang/String;)V" = some P1.m.idx := findMethod_of_methodNamed hP1m hk
  have hsel0 : selectMethod e.platform s.vm P1.m.cls T.fill0 = .method T.fill0 := by
    obtain ⟨c2, r2, m2, q1, q2, q3, q4, -⟩ := Cond.selects_spec (a (.selects cls Bundle.tFill0 Bundle.tFill0) (by simp [Bundle.messageArmAtoms]))
    cases Option.some.inj (q1.symm.trans hfound)
    cases Option.some.inj (q2.symm.trans (State.methodFound?_of_named Y.fill0 (by decide)))
    cases Option.some.inj (q3.symm.trans Y.fill0)
    rw [Launch.admits_selectMethod X.admits]; exact q4
  have hselF : selectMethod e.platform s.vm P1.m.cls T.fill = .method T.fill := by
    obtain ⟨c2, r2, m2, q1, q2, q3, q4, -⟩ := Cond.selects_spec (a (.selects cls Bundle.tFill Bundle.tFill) (by simp [Bundle.messageArmAtoms]))
    cases Option.some.inj (q1.symm.trans hfound)
    cases Option.some.inj (q2.symm.trans (State.methodFound?_of_named Y.fill (by decide)))
    cases Option.some.inj (q3.symm.trans Y.fill)
    rw [Launch.admits_selectMethod X.admits]; exact q4
  obtain ⟨cellS0, hcS0, hiss⟩ := Y.statics
  obtain ⟨u0, hu0⟩ := Cond.staticRefV Y.unassigned L.unassignedStatic L.statics hcS0 hiss (a (.isRef (.static Bundle.tN "UNASSIGNED_STACK" Bundle.steD)) (by simp [Bundle.messageArmAtoms]))
  obtain ⟨sen, hsen⟩ := Cond.staticRefV Y.sentinel L.sentinelStatic L.statics hcS0 hiss (a (.isRef (.static Bundle.tN "SUPPRESSED_SENTINEL" Bundle.listD)) (by simp [Bundle.messageArmAtoms]))
  obtain ⟨ci198, i198, fB, hk198, hg198, ha198, hsB, -, hnB, htB, hffB⟩ := Cond.ownField (t := .object "java/lang/Object") Y.found L.cls (by decide +kernel) (a (.fieldLink Bundle.tN 198 Bundle.tN "backtrace" "Ljava/lang/Object;") (by simp [Bundle.messageArmAtoms])) (a (.lays Bundle.tN Bundle.tN "backtrace" "Ljava/lang/Object;") (by simp [Bundle.messageArmAtoms])) e.platform hpl
  obtain ⟨cellS, hcS', heS, -, hkeep⟩ := X.same.2.2.2.2.2 T.aS cellS0 hcS0
  have hcellS : W.heap[T.aS]? = some cellS := hcS'
  have hout' : ∀ i, (⟨T.aS, i⟩ : Loc) ∉ locs := fun i hmem => by
    have := hlocs _ hmem cellS0 hcS0
    rw [hiss] at this; cases this
  have hknownS : cellS.vm ≠ .unknown := by
    rw [heS]; intro hu
    rw [show cellS0.vm = .unknown from hu] at hiss
    cases hiss
  have hvU : cellS.slots[T.fUnassigned.slot]? = some u0.v := by rw [hkeep _ (hout' _)]; exact hu0
  have hvSen : cellS.slots[T.fSentinel.slot]? = some sen.v := by rw [hkeep _ (hout' _)]; exact hsen
  obtain ⟨iM, hffM⟩ := Y.msg
  obtain ⟨tyC, dC, hdC, hdnC⟩ := Cond.laysAt hfound hk Y.cause (a (.lays cls Bundle.tN "cause" "Ljava/lang/Throwable;") (by simp [Bundle.messageArmAtoms]))
  obtain ⟨tyS, dS, hdS, hdnS⟩ := Cond.laysAt hfound hk Y.stack (a (.lays cls Bundle.tN "stackTrace" Bundle.steD) (by simp [Bundle.messageArmAtoms]))
  obtain ⟨tyP, dP, hdP, hdnP⟩ := Cond.laysAt hfound hk Y.supp (a (.lays cls Bundle.tN "suppressedExceptions" Bundle.listD) (by simp [Bundle.messageArmAtoms]))
  obtain ⟨tyM, dM, hdM, hdnM⟩ := Cond.laysAt hfound hk hffM (a (.lays cls Bundle.tN "detailMessage" "Ljava/lang/String;") (by simp [Bundle.messageArmAtoms]))
  obtain ⟨tyB, dB, hdB, hdnB⟩ := Cond.laysAt hfound hk hffB (a (.lays cls Bundle.tN "backtrace" "Ljava/lang/Object;") (by simp [Bundle.messageArmAtoms]))
  have bC := Cond.laysApart hdB hdC hdnB hdnC (by rw [hnB, Y.causeName]; decide)
  have bS := Cond.laysApart hdB hdS hdnB hdnS (by rw [hnB, Y.stackName]; decide)
  have bP := Cond.laysApart hdB hdP hdnB hdnP (by rw [hnB, Y.suppName]; decide)
  have hbk : ((preparedCellV T.toThrowableT (freshCell P1.m.cls kX) (W.heap.size + 2) u0 sen).withEntry W.cur).slots[fB.slot]? = some .null := by
    have := fresh_default (c := P1.m.cls) tyB
    rw [htB] at this
    simpa [preparedCellV, Cell.setSlot, Cell.withEntry, Array.getElem?_setIfInBounds, bC, bS, bP, bC.symm, bS.symm, bP.symm, defaultValue] using this
  have tkC := Takes.of_laid (v := .ref (W.heap.size + 2)) hk hord tyC (by rw [Y.causeType]; rfl)
  have tkS := Takes.of_laid (v := u0.v) hk hord tyS (by rw [Y.stackType]; exact fits_refV_array _ u0)
  have tkP := Takes.of_laid (v := sen.v) hk hord tyP (by rw [Y.suppType]; exact fits_refV_object _ sen)
  have tkM := Takes.of_laid (v := .ref (W.heap.size + 1)) hk hord tyM (by rw [Y.msgType]; rfl)
  have hskip : SkipFacts T e.platform s (fun u => u) u0 ((preparedCellV T.toThrowableT (freshCell P1.m.cls kX) (W.heap.size + 2) u0 sen).withEntry W.cur) := ⟨{ ci198 := ci198, i198 := i198, fBack := fB }, ⟨hk198, hg198, ha198, hsB⟩, hbk, fun _ _ => rfl⟩
  have h0 : At W g.method c below := by rw [hg]; exact X.here
  obtain ⟨hbeyond, hfreeW⟩ := X.vmMayThrow hsize (.throwNew cls (some text) none) (fun f hf => by cases hf) rfl hRlocals
  have hfr' : W.frames.length + Ps.length + 4 < (e.platform.stackLimits W.me).1 := by have := X.framesAbove hRframes; omega
  have hwd' : (stackUse (.java g :: W.frames.tail)).2 + 13 * Ps.length + 55 ≤ (e.platform.stackLimits W.me).2 := by have := X.stackAbove hsize (K := 13 * Ps.length + 55) (by omega); omega
  have hslots : W.slotsUsed + (stringBytes (stringToUtf16 text)).size + Zs.kS.instanceTypes.size + kX.instanceTypes.size ≤ e.platform.maxSlots := by
    have := X.slotsAbove hRslots
    rw [hn4, hn6]
    omega
  obtain ⟨vm', hW', st⟩ := Steps.vmThrowsMessageColdByV p (s₀ := s) (S := W) (g := g) h0 hexec T L Z LZ M LM X.warmed (t := W.cur) rfl Zs LZs P1 L1 Ps hL hlink1 hlink hsoe hoom hfound hk hinit hord hctor
    (Launch.admits_hotImplicitExceptions X.admits) hbeyond hfreeW htext hlimit hheap (X.cellsAbove hRcells) hslots (hfitv _) (hfitc _)
    (Nn := fun u => u) heapOnly_id (fun _ _ => rfl) (fun _ => rfl) (fun u x y => setCell_twice _ _ _ _) (fun _ => Nat.le_refl _) (cN := ((preparedCellV T.toThrowableT (freshCell P1.m.cls kX) (W.heap.size + 2) u0 sen).withEntry W.cur))
    hsel0 hcellS hknownS hvU tkS (fun _ hu => hu) (fun _ hu => hu) rfl rfl rfl (by simp [preparedCellV, Cell.setSlot, Cell.withEntry]) hskip (fun _ _ hA hW _ hroom _ hrest => L.nativeOff p htr hA hW hroom hrest) hselF hvSen tkC tkP tkM Y.objLocals rfl hfr' hwd'
  rw [plainBareV_eq T.toThrowableT (W.heap.size + 2) u0 sen (.ref (W.heap.size + 1)) W.cur rfl rfl] at st
  obtain ⟨-, -, w3, w4, -, -, -⟩ := withThrown_facts e.platform W Zs text P1.m.cls kX
  have X3 := ((X.pushed (bytesOf Zs.cB (stringToUtf16 text))).pushed (stringAt Zs.cS Zs.kS Zs.fv Zs.fc (stringToUtf16 text) W.heap.size)).pushed (freshCell P1.m.cls kX)
  rw [← withString_eq] at X3
  have X4 := X3.noted hW'
  have ha : (W.heap.size + 2) < ((withThrown W Zs text P1.m.cls kX).setVm vm').heap.size := by show _ < (withThrown W Zs text P1.m.cls kX).heap.size; rw [w3]; omega
  have hcell : ((withThrown W Zs text P1.m.cls kX).setVm vm').heap[(W.heap.size + 2)]? = some (freshCell P1.m.cls kX) := w4
  have X5 := ((((X4.stored hcell T.fCause.slot (.ref (W.heap.size + 2))).storedAgain ha T.fStack.slot u0.v).storedAgain ha T.fSupp.slot sen.v).storedAgain ha T.fStack.slot u0.v).storedAgain ha T.fMsg.slot (.ref (W.heap.size + 1))
  obtain ⟨g₁, hfrM⟩ := X5.frames_eq
  have hU : ((((withThrown W Zs text P1.m.cls kX).setVm vm').setCell (W.heap.size + 2) (plainBareV T.toThrowableT (freshCell P1.m.cls kX) (W.heap.size + 2) u0 sen (.ref (W.heap.size + 1)))).setTop g).pushFrame (.throwing (W.heap.size + 2)) = (((withThrown W Zs text P1.m.cls kX).setVm vm').setCell (W.heap.size + 2) (plainBareV T.toThrowableT (freshCell P1.m.cls kX) (W.heap.size + 2) u0 sen (.ref (W.heap.size + 1)))).setFrames (.throwing (W.heap.size + 2) :: .java g :: below) := by
    rw [State.pushFrame, State.frames_setTop _ hfrM, State.setTop_of_frames _ hfrM, State.setFrames_setFrames]
  have b1 : (bytesOf Zs.cB (stringToUtf16 text)).slots.size = (stringBytes (stringToUtf16 text)).size := by
    rw [(Cell.writeAll_facts _ _).2.2]; simp [bytes0]
  have b2 : (stringAt Zs.cS Zs.kS Zs.fv Zs.fc (stringToUtf16 text) W.heap.size).slots.size = 4 := by simp [string0, Cell.setSlot, hn4]
  have b3 : (freshCell P1.m.cls kX).slots.size = 6 := by simp [hn6]
  rw [b1, b2, b3] at X5
  have e9 : slots + (stringBytes (stringToUtf16 text)).size + 4 + 6 = slots + ((stringBytes (stringToUtf16 text)).size + 4 + 6) := by omega
  rw [e9] at X5
  simp only [List.append_assoc, List.cons_append, List.nil_append] at X5
  refine ⟨((withThrown W Zs text P1.m.cls kX).setVm vm').setCell (W.heap.size + 2) (plainBareV T.toThrowableT (freshCell P1.m.cls kX) (W.heap.size + 2) u0 sen (.ref (W.heap.size + 1))), W.heap.size + 2, _, fun target ht => st _ (by rw [X.tail, ← hU]; exact ht),
    X5.forget (fun y hy => ?_), heapAt_setCell_self _ ha, hfound, rfl⟩
  simp only [List.mem_cons, List.not_mem_nil, or_false] at hy
  have hge : s.heap.size ≤ W.heap.size := X.same.2.1
  rcases hy with rfl | rfl | rfl | rfl | rfl <;> exact Nat.le_trans hge (Nat.le_add_right _ 2)
set_option maxHeartbeats 1000000 in
/-- the machine throws NullPointerException, no traces kept: from its note over the frame g to 'throwing' over the same frame (follows the proof of Stand.vmThrowsNpe, Shelf42/KT2.lean; throwsNpeColdBareVAt, Shelf42/NT91.lean, called) -/
theorem vx_npeAt {p : Program} {l : Launch} {e : Env} {R : Room} {s : State} {m₀ : MethodId} {args : Array Value} {below : List Frame} {meth : Method} {c : Code} {W : State} {locs : List Loc} {cells slots : Nat}
    (X : Stand p l e R s m₀ args below meth c W locs cells slots) (hexec : p.tables.exec = Jvm.exec) (htr : e.platform.stackTraces = false) {n : Nat}
    (h : ∀ a ∈ Bundle.npeArmAtoms n, a.before args s = true)
    (hlocs : ∀ x ∈ locs, ∀ cell, s.heap[x.base]? = some cell → cell.vm.isStatics = false)
    {g : JFrame} (hg : g.method = m₀) (hsize : g.locals.size = c.maxLocals)
    (hRframes : 7 < R.frames) (hRlocals : 2 * g.monitorRoom + (g.stack.map fun v => v.category).sum + 10240 ≤ R.locals)
    (hRcells : cells + 1 ≤ R.cells) (hRslots : slots + n ≤ R.slots) (hlocks : meth.locks = false) :
    ∃ (S : State) (q : Addr) (ce : Cell), (∀ target, Steps p.tables e below ((S.setTop g).pushFrame (.throwing q)) target → Steps p.tables e below ((W.setTop g).pushFrame (.throwNew "java/lang/NullPointerException" none none)) target) ∧
      Stand p l e R s m₀ args below meth c S locs (cells + 1) (slots + n) ∧ S.heap[q]? = some ce ∧ s.vm.findClass "java/lang/NullPointerException" = some ce.cls ∧ ce.vm = .none := by
  have howns : e.platform.frameOwnsMonitors = true := by rw [X.admits.platform]
  have hfin : e.platform.finalization = false := by rw [X.admits.platform]
  have hpl : e.platform.magicAccessors = ({} : Platform).magicAccessors := by rw [X.admits.platform]
  have hpl2 : e.platform.arrayCloneIsPublic = true := by rw [X.admits.platform]
  have a' : ∀ x, x ∈ Bundle.npeArmAtoms n → x.holds args s none s [] = true := fun x hx => h x hx
  obtain ⟨T, Z, L, LZ, Y⟩ := ThrowableC.of_atoms (args := args) howns hfin hpl (fun x hx => h x (by simp [Bundle.npeArmAtoms, hx]))
  obtain ⟨N, LN, hcN, hnNF, hordN, hffS⟩ := NpeC.of_atoms (args := args) hpl hpl2 L Y (fun x hx => h x (by simp [Bundle.npeArmAtoms, hx]))
  obtain ⟨P1, L1, hP1m, hP1s⟩ := PassC.of_atoms (args := args) (s := s) hpl (X := Bundle.nN) (Y := Bundle.rN) (by decide) (by decide) LibCode.NullPointerException.Init0.at_0 LibCode.NullPointerException.Init0.at_1 LibCode.NullPointerException.Init0.at_4 (fun x hx => h x (by simp [Bundle.npeArmAtoms, hx]))
  obtain ⟨PR, LR, hPRm, hPRs⟩ := PassC.of_atoms (args := args) (s := s) hpl (X := Bundle.rN) (Y := Bundle.eN) (by decide) (by decide) LibCode.RuntimeException.Init0.at_0 LibCode.RuntimeException.Init0.at_1 LibCode.RuntimeException.Init0.at_4 (fun x hx => h x (by simp [Bundle.npeArmAtoms, hx]))
  obtain ⟨PE, LEx, hPEm, hPEs⟩ := PassC.of_atoms (args := args) (s := s) hpl (X := Bundle.eN) (Y := Bundle.tN) (by decide) (by decide) LibCode.Exception.Init0.at_0 LibCode.Exception.Init0.at_1 LibCode.Exception.Init0.at_4 (fun x hx => h x (by simp [Bundle.npeArmAtoms, hx]))
  have hfound : s.vm.findClass Bundle.nN = some P1.m.cls := findClass_of_methodNamed hP1m
  have ecls : N.cN = P1.m.cls := Option.some.inj (hcN.symm.trans hfound)
  have hk : s.vm.classes[P1.m.cls]? = some N.kN := by rw [← ecls]; exact LN.cls
  have hinit := Cond.initialized_spec hfound hk (a' (.initialized Bundle.nN) (by simp [Bundle.npeArmAtoms]))
  have hctor : N.kN.findMethod "<init>" "()V" = some P1.m.idx := findMethod_of_methodNamed hP1m hk
  obtain ⟨c1, k1, hc1, hk1, -, -, -, hn⟩ := Cond.instantiable_spec (a' (.instantiable Bundle.nN n) (by simp [Bundle.npeArmAtoms]))
  cases Option.some.inj (hc1.symm.trans hfound)
  cases Option.some.inj (hk1.symm.trans hk)
  have hfsz : (freshCell P1.m.cls N.kN).slots.size = n := by simp [hn]
  have hlink1 : P1.sup = PR.m := Option.some.inj (hP1s.symm.trans hPRm)
  have hlinkR : PR.sup = PE.m := Option.some.inj (hPRs.symm.trans hPEm)
  have hlinkE : PE.sup = Z.m T.toThrowableT := Option.some.inj (hPEs.symm.trans Y.init0)
  have hLs : ∀ P, P ∈ [PR, PE] → P.Links0 e.platform s := fun P hP => by
    simp only [List.mem_cons, List.not_mem_nil, or_false] at hP
    rcases hP with rfl | rfl
    · exact LR
    · exact LEx
  have hsel0 : selectMethod e.platform s.vm P1.m.cls T.fill0 = .method T.fill0 := by
    obtain ⟨c2, r2, m2, q1, q2, q3, q4, -⟩ := Cond.selects_spec (a' (.selects Bundle.nN Bundle.tFill0 Bundle.tFill0) (by simp [Bundle.npeArmAtoms]))
    cases Option.some.inj (q1.symm.trans hfound)
    cases Option.some.inj (q2.symm.trans (State.methodFound?_of_named Y.fill0 (by decide)))
    cases Option.some.inj (q3.symm.trans Y.fill0)
    rw [Launch.admits_selectMethod X.admits]; exact q4
  have hselF : selectMethod e.platform s.vm P1.m.cls T.fill = .method N.fill := by
    obtain ⟨c2, r2, m2, q1, q2, q3, q4, -⟩ := Cond.selects_spec (a' (.selects Bundle.nN Bundle.tFill Bundle.nFill) (by simp [Bundle.npeArmAtoms]))
    cases Option.some.inj (q1.symm.trans hfound)
    cases Option.some.inj (q2.symm.trans (State.methodFound?_of_named Y.fill (by decide)))
    cases Option.some.inj (q3.symm.trans hnNF)
    rw [Launch.admits_selectMethod X.admits]; exact q4
  obtain ⟨cellS0, hcS0, hiss⟩ := Y.statics
  obtain ⟨u0, hu0⟩ := Cond.staticRefV Y.unassigned L.unassignedStatic L.statics hcS0 hiss (a' (.isRef (.static Bundle.tN "UNASSIGNED_STACK" Bundle.steD)) (by simp [Bundle.npeArmAtoms]))
  obtain ⟨sen, hsen⟩ := Cond.staticRefV Y.sentinel L.sentinelStatic L.statics hcS0 hiss (a' (.isRef (.static Bundle.tN "SUPPRESSED_SENTINEL" Bundle.listD)) (by simp [Bundle.npeArmAtoms]))
  obtain ⟨ci198, i198, fB, hk198, hg198, ha198, hsB, -, hnB, htB, hffB⟩ := Cond.ownField (t := .object "java/lang/Object") Y.found L.cls (by decide +kernel) (a' (.fieldLink Bundle.tN 198 Bundle.tN "backtrace" Bundle.objD) (by simp [Bundle.npeArmAtoms])) (a' (.lays Bundle.tN Bundle.tN "backtrace" Bundle.objD) (by simp [Bundle.npeArmAtoms])) e.platform hpl
  obtain ⟨cellS, hcS', heS, -, hkeep⟩ := X.same.2.2.2.2.2 T.aS cellS0 hcS0
  have hcellS : W.heap[T.aS]? = some cellS := hcS'
  have hout' : ∀ i, (⟨T.aS, i⟩ : Loc) ∉ locs := fun i hmem => by
    have := hlocs _ hmem cellS0 hcS0
    rw [hiss] at this; cases this
  have hknownS : cellS.vm ≠ .unknown := by
    rw [heS]; intro hu
    rw [show cellS0.vm = .unknown from hu] at hiss
    cases hiss
  have hvU : cellS.slots[T.fUnassigned.slot]? = some u0.v := by rw [hkeep _ (hout' _)]; exact hu0
  have hvSen : cellS.slots[T.fSentinel.slot]? = some sen.v := by rw [hkeep _ (hout' _)]; exact hsen
  obtain ⟨tyC, dC, hdC, hdnC⟩ := Cond.laysAt hfound hk Y.cause (a' (.lays Bundle.nN Bundle.tN "cause" "Ljava/lang/Throwable;") (by simp [Bundle.npeArmAtoms]))
  obtain ⟨tyS, dS, hdS, hdnS⟩ := Cond.laysAt hfound hk Y.stack (a' (.lays Bundle.nN Bundle.tN "stackTrace" Bundle.steD) (by simp [Bundle.npeArmAtoms]))
  obtain ⟨tyP, dP, hdP, hdnP⟩ := Cond.laysAt hfound hk Y.supp (a' (.lays Bundle.nN Bundle.tN "suppressedExceptions" Bundle.listD) (by simp [Bundle.npeArmAtoms]))
  obtain ⟨tyX, dX, hdX, hdnX⟩ := Cond.laysAt hfound hk hffS (a' (.lays Bundle.nN Bundle.nN "extendedMessageState" "I") (by simp [Bundle.npeArmAtoms, Bundle.npeAtoms]))
  obtain ⟨hnX, htX⟩ := State.fieldFound?_type hffS (t := .int) (by decide +kernel)
  have xC := Cond.laysApart hdC hdX hdnC hdnX (by rw [hnX, Y.causeName]; decide)
  have xS := Cond.laysApart hdS hdX hdnS hdnX (by rw [hnX, Y.stackName]; decide)
  have xP := Cond.laysApart hdP hdX hdnP hdnX (by rw [hnX, Y.suppName]; decide)
  have hv0 : (freshCell P1.m.cls N.kN).slots[N.fState.slot]? = some (.int 0) := by
    have := fresh_default (c := P1.m.cls) tyX
    rw [htX] at this; exact this
  obtain ⟨tyB, dB, hdB, hdnB⟩ := Cond.laysAt hfound hk hffB (a' (.lays Bundle.nN Bundle.tN "backtrace" Bundle.objD) (by simp [Bundle.npeArmAtoms]))
  have bC := Cond.laysApart hdB hdC hdnB hdnC (by rw [hnB, Y.causeName]; decide)
  have bS := Cond.laysApart hdB hdS hdnB hdnS (by rw [hnB, Y.stackName]; decide)
  have bP := Cond.laysApart hdB hdP hdnB hdnP (by rw [hnB, Y.suppName]; decide)
  have bX := Cond.laysApart hdB hdX hdnB hdnX (by rw [hnB, hnX]; decide)
  have hbk : ((npeCell N.toNpeT (preparedCellV T.toThrowableT (freshCell P1.m.cls N.kN) W.heap.size u0 sen) W.cur).withEntry W.cur).slots[fB.slot]? = some .null := by
    have := fresh_default (c := P1.m.cls) tyB
    rw [htB] at this
    simpa [npeCell, preparedCellV, Cell.setSlot, Cell.withEntry, Array.getElem?_setIfInBounds, bC, bS, bP, bX, bC.symm, bS.symm, bP.symm, bX.symm, defaultValue] using this
  have tkC := Takes.of_laid (v := .ref W.heap.size) hk hordN tyC (by rw [Y.causeType]; rfl)
  have tkS := Takes.of_laid (v := u0.v) hk hordN tyS (by rw [Y.stackType]; exact fits_refV_array _ u0)
  have tkP := Takes.of_laid (v := sen.v) hk hordN tyP (by rw [Y.suppType]; exact fits_refV_object _ sen)
  have tkX := Takes.of_laid (v := .int 1) hk hordN tyX (by rw [htX]; rfl)
  have hskip : SkipFacts T e.platform s (fun u => u) u0 ((npeCell N.toNpeT (preparedCellV T.toThrowableT (freshCell P1.m.cls N.kN) W.heap.size u0 sen) W.cur).withEntry W.cur) := ⟨{ ci198 := ci198, i198 := i198, fBack := fB }, ⟨hk198, hg198, ha198, hsB⟩, hbk, fun _ _ => rfl⟩
  obtain ⟨vm', X3, st, -⟩ := X.throwsNpeColdBareVAt hexec hg hsize T L Z LZ N LN P1 L1 [PR, PE] hLs hlink1 ⟨hlinkR, hlinkE, trivial⟩ hfound hk hinit hordN hctor hsel0 hselF hcellS hknownS hvU hvSen
    hv0 xC xS xP tkC tkS tkP tkX Y.objLocals hskip (fun _ _ hA hW _ hroom _ hrest => L.nativeOff p htr hA hW hroom hrest) (by simpa using hRframes) hRlocals (by simp) hRcells (by rw [hn]; exact hRslots)
  have hlt : W.heap.size < ((W.pushCell (freshCell P1.m.cls N.kN)).setVm vm').heap.size := by
    show W.heap.size < (W.pushCell (freshCell P1.m.cls N.kN)).heap.size
    rw [State.heap_size_pushCell]; omega
  rw [hfsz] at X3
  obtain ⟨g₁, hfrM⟩ := X3.frames_eq
  have hU : ((((W.pushCell (freshCell P1.m.cls N.kN)).setVm vm').setCell W.heap.size (npeBareV T.toThrowableT N.toNpeT (freshCell P1.m.cls N.kN) W.heap.size u0 sen)).setTop g).pushFrame (.throwing W.heap.size) = (((W.pushCell (freshCell P1.m.cls N.kN)).setVm vm').setCell W.heap.size (npeBareV T.toThrowableT N.toNpeT (freshCell P1.m.cls N.kN) W.heap.size u0 sen)).setFrames (.throwing W.heap.size :: .java g :: below) := by
    rw [State.pushFrame, State.frames_setTop _ hfrM, State.setTop_of_frames _ hfrM, State.setFrames_setFrames]
  refine ⟨_, W.heap.size, _, fun target ht => st.trans (by rw [← hU]; exact ht), X3.forget (fun y hy => ?_), heapAt_setCell_self _ hlt, hfound, rfl⟩
  simp only [List.mem_cons, List.not_mem_nil, or_false] at hy
  have hge : s.heap.size ≤ W.heap.size := X.same.2.1
  rcases hy with rfl | rfl | rfl | rfl | rfl <;> exact hge
/-- the words of a machine's NullPointerException, but the four that speak of the heap -/
def vx_atN (n : Nat) : List Cond := (Bundle.npeArmAtoms n).filter vx_no
/-- the words of a machine's throw with a message, but the four that speak of the heap -/
def vx_atM (X : String) (names : List String) : List Cond := (Bundle.messageArmAtoms X names).filter vx_no
section
variable {p : Program} {l : Launch} {e : Env} {R : Room} {s : State} {m : MethodId} {args : Array Value} {below : List Frame} {meth : Method} {c : Code} {H : Heap} {locs : List Loc} {cells slots : Nat}
/-- a frame seen from a rebased start, seen from the first start again -/
theorem vx_back9 {T S : State} {R' : Room} {k n : Nat} (X : Stand p l e R s m args below meth c T locs cells slots) (Y : Stand p l e R' ((T.setVm s.vm).setFrames (.invoking m args :: below)) m args below meth c T [] 0 0) (Z : Stand p l e R' ((T.setVm s.vm).setFrames (.invoking m args :: below)) m args below meth c S [] k n) :
    Stand p l e R s m args below meth c S locs (cells + k) (slots + n) := by
  have hW0 : s.WarmedH ((T.setVm s.vm).setFrames (.invoking m args :: below)).vm := State.WarmedH.refl s
  refine { admits := X.admits, cas := X.cas, clock := X.clock, frames := X.frames, room := X.room, hears := X.hears, method := X.method, code := X.code, here := Z.here, tail := Z.tail, warmed := State.WarmedH.trans hW0 Z.warmed, limits := Z.limits.trans (Y.limits.symm.trans X.limits), bytes := Z.bytes.trans (Y.bytes.symm.trans X.bytes), same := ?_ }
  obtain ⟨e1, e2⟩ := Z.same
  rw [State.setFrames_setFrames] at e1
  have h2 : (T.setVm s.vm).sameButNew (S.setVm s.vm) [] k n := ⟨e1, e2⟩
  have h3 := X.same.trans h2
  rw [List.append_nil] at h3
  exact h3
/-- from the machine's note that E is thrown here with this text -/
def vx_Note (p : Program) (l : Launch) (e : Env) (R : Room) (s : State) (m : MethodId) (args : Array Value) (below : List Frame) (meth : Method) (c : Code) (H : Heap) (locs : List Loc) (cells slots : Nat) (Q : State → Prop) (g : JFrame) (E text : String) : Prop :=
  ∀ T : State, T.heap = H → Stand p l e R s m args below meth c T locs cells slots → ∃ t, Steps p.tables e below ((T.setTop g).pushFrame (.throwNew E (some text) none)) t ∧ Q t
theorem vx_vm {pc : Nat} {ls : Array Slot} {rest : List Value} {Q : State → Prop} (hexec : p.tables.exec = Jvm.exec) (hl : l.stackTraces = false) {cls text : String} {names : List String} {nb : Nat} {A : Nat → Prop}
    (hcls : Bundle.fit cls = true) (hnames : ∀ n ∈ names, Bundle.fit n = true) (hsoe : (cls == "java/lang/StackOverflowError") = false) (hoom : (cls == "java/lang/OutOfMemoryError") = false)
    (hat : ∀ w ∈ vx_atM cls names, w.before args s = true) (hgood : ∀ w ∈ vx_atM cls names, vx_ot w = true)
    (hU : vx_Zq Bundle.tN "UNASSIGNED_STACK" Bundle.steD A s s.heap) (hN : vx_Zq Bundle.tN "SUPPRESSED_SENTINEL" Bundle.listD A s s.heap) (hS : va_S A s.heap H locs) (hsize : ls.size = c.maxLocals)
    (htext : (text == notModelled) = false) (hnb : (stringBytes (stringToUtf16 text)).size ≤ nb) (hnb1 : nb ≤ 1000)
    (hRframes : names.length + 4 < R.frames) (hRlocals : (rest.map fun v => v.category).sum + 10240 ≤ R.locals) (hshort : 13 * names.length + 55 ≤ 10240) (hRcells : cells + 3 ≤ R.cells) (hRslots : slots + (nb + 10) ≤ R.slots) (hlocks : meth.locks = false)
    (k : ∀ (H1 : Heap) (q9 : Addr) (ce : Cell), H.size ≤ H1.size → (∀ q : Nat, q < H.size → H1[q]? = H[q]?) → va_S A s.heap H1 locs → H1[q9]? = some ce → ce.vm = .none → s.vm.findClass cls = some ce.cls → vx_W p l e R s m args below meth c H1 locs (cells + 3) (slots + (nb + 10)) Q (F0 m pc ls rest) q9) :
    vx_Note p l e R s m args below meth c H locs cells slots Q (F0 m pc ls rest) cls text := by
  intro T hT X
  have htr : e.platform.stackTraces = false := (show e.platform.stackTraces = l.stackTraces by rw [X.admits.platform]).trans hl
  have Y := vx_rebase X (R' := { frames := R.frames, locals := R.locals, cells := 3, slots := nb + 10 }) (Nat.le_refl _) (Nat.le_refl _) hRcells hRslots
  have hhp : ((T.setVm s.vm).setFrames (.invoking m args :: below)).heap = H := hT
  have hW0 : s.WarmedH ((T.setVm s.vm).setFrames (.invoking m args :: below)).vm := State.WarmedH.refl s
  have hat' : ∀ w ∈ vx_atM cls names, w.before args ((T.setVm s.vm).setFrames (.invoking m args :: below)) = true := fun w hw => vx_ot_at hW0 rfl (hgood w hw) (hat w hw)
  have hU' : vx_Zq Bundle.tN "UNASSIGNED_STACK" Bundle.steD A ((T.setVm s.vm).setFrames (.invoking m args :: below)) ((T.setVm s.vm).setFrames (.invoking m args :: below)).heap := by rw [hhp]; exact vx_Zq.moved hW0.alike (hU.kept hS.2.1)
  have hN' : vx_Zq Bundle.tN "SUPPRESSED_SENTINEL" Bundle.listD A ((T.setVm s.vm).setFrames (.invoking m args :: below)) ((T.setVm s.vm).setFrames (.invoking m args :: below)).heap := by rw [hhp]; exact vx_Zq.moved hW0.alike (hN.kept hS.2.1)
  obtain ⟨S, q, ce, st, Z, hce, hcl', hv⟩ := vx_vmAt Y hexec htr (cls := cls) (names := names) (text := text) hcls hnames hsoe hoom (vx_own hat' (vx_isRefq hU'.1) (vx_isRefq hN'.1) hU'.2.word hN'.2.word) (fun x hx => nomatch hx) htext
    (by rw [Launch.admits_arrayLengthLimit X.admits]; omega) (by rw [Launch.admits_maxHeapBytes X.admits]; simp only [componentBytes]; omega)
    (g := F0 m pc ls rest) rfl hsize hRframes (by show 2 * 0 + (rest.map fun v => v.category).sum + 10240 ≤ R.locals; omega) hshort (by show 0 + 3 ≤ 3; omega) (by show 0 + (_ + 4 + 6) ≤ nb + 10; omega) hlocks
  obtain ⟨f1, f2⟩ := vx_frame Z.same
  have f1' : H.size ≤ S.heap.size := by rw [← hT]; exact f1
  have f2' : ∀ q : Nat, q < H.size → S.heap[q]? = H[q]? := fun q hq => by
    rw [← hT]
    exact f2 q (by rw [← hT] at hq; exact hq) (fun z hz => nomatch hz)
  have X5 := vx_back9 X Y Z
  have X6 : Stand p l e R s m args below meth c S locs (cells + 3) (slots + (nb + 10)) := { X5 with same := X5.same.mono (by omega) (by omega) }
  obtain ⟨t, a1, b1⟩ := k S.heap q ce f1' f2' ⟨Nat.le_trans hS.1 f1', fun q h1 h2 => (f2' q (Nat.lt_of_lt_of_le h1 hS.1)).trans (hS.2.1 q h1 h2), hS.2.2⟩ hce hv hcl' S rfl X6
  exact ⟨t, st t a1, b1⟩
/-- from the machine's note that NullPointerException is thrown here -/
def vx_NoteN (p : Program) (l : Launch) (e : Env) (R : Room) (s : State) (m : MethodId) (args : Array Value) (below : List Frame) (meth : Method) (c : Code) (H : Heap) (locs : List Loc) (cells slots : Nat) (Q : State → Prop) (g : JFrame) : Prop :=
  ∀ T : State, T.heap = H → Stand p l e R s m args below meth c T locs cells slots → ∃ t, Steps p.tables e below ((T.setTop g).pushFrame (.throwNew "java/lang/NullPointerException" none none)) t ∧ Q t
theorem vx_npe {pc : Nat} {ls : Array Slot} {rest : List Value} {Q : State → Prop} (hexec : p.tables.exec = Jvm.exec) (hl : l.stackTraces = false) {nb : Nat} {A : Nat → Prop}
    (hat : ∀ w ∈ vx_atN nb, w.before args s = true) (hgood : ∀ w ∈ vx_atN nb, vx_ot w = true)
    (hU : vx_Zq Bundle.tN "UNASSIGNED_STACK" Bundle.steD A s s.heap) (hN : vx_Zq Bundle.tN "SUPPRESSED_SENTINEL" Bundle.listD A s s.heap) (hS : va_S A s.heap H locs) (hsize : ls.size = c.maxLocals)
    (hRframes : 7 < R.frames) (hRlocals : (rest.map fun v => v.category).sum + 10240 ≤ R.locals) (hRcells : cells + 1 ≤ R.cells) (hRslots : slots + nb ≤ R.slots) (hlocks : meth.locks = false)
    (k : ∀ (H1 : Heap) (q9 : Addr) (ce : Cell), H.size ≤ H1.size → (∀ q : Nat, q < H.size → H1[q]? = H[q]?) → va_S A s.heap H1 locs → H1[q9]? = some ce → ce.vm = .none → s.vm.findClass "java/lang/NullPointerException" = some ce.cls → vx_W p l e R s m args below meth c H1 locs (cells + 1) (slots + nb) Q (F0 m pc ls rest) q9) :
    vx_NoteN p l e R s m args below meth c H locs cells slots Q (F0 m pc ls rest) := by
  intro T hT X
  have htr : e.platform.stackTraces = false := (show e.platform.stackTraces = l.stackTraces by rw [X.admits.platform]).trans hl
  have Y := vx_rebase X (R' := { frames := R.frames, locals := R.locals, cells := 1, slots := nb }) (Nat.le_refl _) (Nat.le_refl _) hRcells hRslots
  have hhp : ((T.setVm s.vm).setFrames (.invoking m args :: below)).heap = H := hT
  have hW0 : s.WarmedH ((T.setVm s.vm).setFrames (.invoking m args :: below)).vm := State.WarmedH.refl s
  have hat' : ∀ w ∈ vx_atN nb, w.before args ((T.setVm s.vm).setFrames (.invoking m args :: below)) = true := fun w hw => vx_ot_at hW0 rfl (hgood w hw) (hat w hw)
  have hU' : vx_Zq Bundle.tN "UNASSIGNED_STACK" Bundle.steD A ((T.setVm s.vm).setFrames (.invoking m args :: below)) ((T.setVm s.vm).setFrames (.invoking m args :: below)).heap := by rw [hhp]; exact vx_Zq.moved hW0.alike (hU.kept hS.2.1)
  have hN' : vx_Zq Bundle.tN "SUPPRESSED_SENTINEL" Bundle.listD A ((T.setVm s.vm).setFrames (.invoking m args :: below)) ((T.setVm s.vm).setFrames (.invoking m args :: below)).heap := by rw [hhp]; exact vx_Zq.moved hW0.alike (hN.kept hS.2.1)
  obtain ⟨S, q, ce, st, Z, hce, hcl', hv⟩ := vx_npeAt Y hexec htr (n := nb) (vx_own hat' (vx_isRefq hU'.1) (vx_isRefq hN'.1) hU'.2.word hN'.2.word) (fun x hx => nomatch hx)
    (g := F0 m pc ls rest) rfl hsize hRframes (by show 2 * 0 + (rest.map fun v => v.category).sum + 10240 ≤ R.locals; omega) (by show 0 + 1 ≤ 1; omega) (by show 0 + nb ≤ nb; omega) hlocks
  obtain ⟨f1, f2⟩ := vx_frame Z.same
  have f1' : H.size ≤ S.heap.size := by rw [← hT]; exact f1
  have f2' : ∀ q : Nat, q < H.size → S.heap[q]? = H[q]? := fun q hq => by
    rw [← hT]
    exact f2 q (by rw [← hT] at hq; exact hq) (fun z hz => nomatch hz)
  have X5 := vx_back9 X Y Z
  have X6 : Stand p l e R s m args below meth c S locs (cells + 1) (slots + nb) := { X5 with same := X5.same.mono (by omega) (by omega) }
  obtain ⟨t, a1, b1⟩ := k S.heap q ce f1' f2' ⟨Nat.le_trans hS.1 f1', fun q h1 h2 => (f2' q (Nat.lt_of_lt_of_le h1 hS.1)).trans (hS.2.1 q h1 h2), hS.2.2⟩ hce hv hcl' S rfl X6
  exact ⟨t, st t a1, b1⟩
variable {Q : State → Prop} {cc : ByteArray} {pc : Nat} {ls : Array Slot} {rest : List Value}
theorem vx_idivZ (hexec : p.tables.exec = Jvm.exec) (hb : c.code = cc) {a b : Int32} (h0 : b = 0) (d : decode cc pc = .ok (.idiv, 1)) (k : vx_Note p l e R s m args below meth c H locs cells slots Q (F0 m pc ls rest) "java/lang/ArithmeticException" "/ by zero") :
    W p l e R s m args below meth c H locs cells slots Q (F0 m pc ls (.int b :: .int a :: rest)) := by
  intro T hT X
  obtain ⟨t, st, q⟩ := k T hT X
  exact ⟨t, X.idivZero hexec (g := F0 m pc ls (.int b :: .int a :: rest)) rfl (a := a) (rest := rest) (by rw [h0]) (by rw [hb]; exact d) t st, q⟩
theorem vx_iremZ (hexec : p.tables.exec = Jvm.exec) (hb : c.code = cc) {a b : Int32} (h0 : b = 0) (d : decode cc pc = .ok (.irem, 1)) (k : vx_Note p l e R s m args below meth c H locs cells slots Q (F0 m pc ls rest) "java/lang/ArithmeticException" "/ by zero") :
    W p l e R s m args below meth c H locs cells slots Q (F0 m pc ls (.int b :: .int a :: rest)) := by
  intro T hT X
  obtain ⟨t, st, q⟩ := k T hT X
  exact ⟨t, X.iremZero hexec (g := F0 m pc ls (.int b :: .int a :: rest)) rfl (a := a) (rest := rest) (by rw [h0]) (by rw [hb]; exact d) t st, q⟩
theorem vx_ldivZ (hexec : p.tables.exec = Jvm.exec) (hb : c.code = cc) {a b : Int64} (h0 : b = 0) (d : decode cc pc = .ok (.ldiv, 1)) (k : vx_Note p l e R s m args below meth c H locs cells slots Q (F0 m pc ls rest) "java/lang/ArithmeticException" "/ by zero") :
    W p l e R s m args below meth c H locs cells slots Q (F0 m pc ls (.long b :: .long a :: rest)) := by
  intro T hT X
  obtain ⟨t, st, q⟩ := k T hT X
  exact ⟨t, X.ldivZero hexec (g := F0 m pc ls (.long b :: .long a :: rest)) rfl (a := a) (rest := rest) (by rw [h0]) (by rw [hb]; exact d) t st, q⟩
theorem vx_lremZ (hexec : p.tables.exec = Jvm.exec) (hb : c.code = cc) {a b : Int64} (h0 : b = 0) (d : decode cc pc = .ok (.lrem, 1)) (k : vx_Note p l e R s m args below meth c H locs cells slots Q (F0 m pc ls rest) "java/lang/ArithmeticException" "/ by zero") :
    W p l e R s m args below meth c H locs cells slots Q (F0 m pc ls (.long b :: .long a :: rest)) := by
  intro T hT X
  obtain ⟨t, st, q⟩ := k T hT X
  exact ⟨t, X.lremZero hexec (g := F0 m pc ls (.long b :: .long a :: rest)) rfl (a := a) (rest := rest) (by rw [h0]) (by rw [hb]; exact d) t st, q⟩
theorem vx_ialdZ {D : va_G} {cl : List vw_C} {ws : va_W} {tys : List (ClassId × FieldType)} {a : Nat} (hexec : p.tables.exec = Jvm.exec) (hb : c.code = cc) (hK : va_K D cl tys s) (hP : va_P D cl ws H) (q0 t0 : Nat) {cA : ClassId} {n : Nat} {f : Nat → Int32} (ha : ws[q0]? = some (a, .inl (cA, n, .inl f))) (ht : tys[t0]? = some (cA, .int)) {i : Int32} (hout : ¬ vp_in i n) (hdg : decode cc pc = .ok (.iaload, 1))
    (k : ∀ tx : String, tx = (toString "Index " ++ toString i ++ toString " out of bounds for length " ++ toString n : String) → vx_Note p l e R s m args below meth c H locs cells slots Q (F0 m pc ls rest) "java/lang/ArrayIndexOutOfBoundsException" tx) : W p l e R s m args below meth c H locs cells slots Q (F0 m pc ls (.int i :: .ref a :: rest)) := by
  intro T hT X
  obtain ⟨t, st, q⟩ := k _ rfl T hT X
  refine ⟨t, ?_, q⟩
  have h1 := X.ialoadOut hexec (by rw [hT]; exact hP q0 _ ha) ((hK.2 t0 _ ht).1 n (fun j => .int (f j))) (j := i) (by show (i < 0 ∨ (arrV _ _ _).slots.size ≤ _); rw [arrV_size]; exact Classical.byContradiction hout) (g := F0 m pc ls (.int i :: .ref a :: rest)) rfl (rest := rest) rfl (by rw [hb]; exact hdg) t
  simp only [arrV_size] at h1
  exact h1 st
theorem vx_iastZ {D : va_G} {cl : List vw_C} {ws : va_W} {tys : List (ClassId × FieldType)} {a : Nat} (hexec : p.tables.exec = Jvm.exec) (hb : c.code = cc) (hK : va_K D cl tys s) (hP : va_P D cl ws H) (q0 t0 : Nat) {cA : ClassId} {n : Nat} {f : Nat → Int32} (ha : ws[q0]? = some (a, .inl (cA, n, .inl f))) (ht : tys[t0]? = some (cA, .int)) {i : Int32} {x : Int32} (hout : ¬ vp_in i n) (hdg : decode cc pc = .ok (.iastore, 1))
    (k : ∀ tx : String, tx = (toString "Index " ++ toString i ++ toString " out of bounds for length " ++ toString n : String) → vx_Note p l e R s m args below meth c H locs cells slots Q (F0 m pc ls rest) "java/lang/ArrayIndexOutOfBoundsException" tx) : W p l e R s m args below meth c H locs cells slots Q (F0 m pc ls (.int x :: .int i :: .ref a :: rest)) := by
  intro T hT X
  obtain ⟨t, st, q⟩ := k _ rfl T hT X
  refine ⟨t, ?_, q⟩
  have h1 := X.iastoreOut hexec (by rw [hT]; exact hP q0 _ ha) ((hK.2 t0 _ ht).1 n (fun j => .int (f j))) (j := i) (by show (i < 0 ∨ (arrV _ _ _).slots.size ≤ _); rw [arrV_size]; exact Classical.byContradiction hout) (g := F0 m pc ls (.int x :: .int i :: .ref a :: rest)) rfl (rest := rest) rfl (by rw [hb]; exact hdg) t
  simp only [arrV_size] at h1
  exact h1 st
theorem vx_baldZ {D : va_G} {cl : List vw_C} {ws : va_W} {tys : List (ClassId × FieldType)} {a : Nat} (hexec : p.tables.exec = Jvm.exec) (hb : c.code = cc) (hK : va_K D cl tys s) (hP : va_P D cl ws H) (q0 t0 : Nat) {cA : ClassId} {n : Nat} {f : Nat → Int32} (ha : ws[q0]? = some (a, .inl (cA, n, .inl f))) (ht : tys[t0]? = some (cA, .byte)) {i : Int32} (hout : ¬ vp_in i n) (hdg : decode cc pc = .ok (.baload, 1))
    (k : ∀ tx : String, tx = (toString "Index " ++ toString i ++ toString " out of bounds for length " ++ toString n : String) → vx_Note p l e R s m args below meth c H locs cells slots Q (F0 m pc ls rest) "java/lang/ArrayIndexOutOfBoundsException" tx) : W p l e R s m args below meth c H locs cells slots Q (F0 m pc ls (.int i :: .ref a :: rest)) := by
  intro T hT X
  obtain ⟨t, st, q⟩ := k _ rfl T hT X
  refine ⟨t, ?_, q⟩
  have h1 := X.baloadOut hexec (by rw [hT]; exact hP q0 _ ha) ((hK.2 t0 _ ht).1 n (fun j => .int (f j))) (j := i) (by show (i < 0 ∨ (arrV _ _ _).slots.size ≤ _); rw [arrV_size]; exact Classical.byContradiction hout) (g := F0 m pc ls (.int i :: .ref a :: rest)) rfl (rest := rest) rfl (by rw [hb]; exact hdg) t
  simp only [arrV_size] at h1
  exact h1 st
theorem vx_bastZ {D : va_G} {cl : List vw_C} {ws : va_W} {tys : List (ClassId × FieldType)} {a : Nat} (hexec : p.tables.exec = Jvm.exec) (hb : c.code = cc) (hK : va_K D cl tys s) (hP : va_P D cl ws H) (q0 t0 : Nat) {cA : ClassId} {n : Nat} {f : Nat → Int32} (ha : ws[q0]? = some (a, .inl (cA, n, .inl f))) (ht : tys[t0]? = some (cA, .byte)) {i : Int32} {x : Int32} (hout : ¬ vp_in i n) (hdg : decode cc pc = .ok (.bastore, 1))
    (k : ∀ tx : String, tx = (toString "Index " ++ toString i ++ toString " out of bounds for length " ++ toString n : String) → vx_Note p l e R s m args below meth c H locs cells slots Q (F0 m pc ls rest) "java/lang/ArrayIndexOutOfBoundsException" tx) : W p l e R s m args below meth c H locs cells slots Q (F0 m pc ls (.int x :: .int i :: .ref a :: rest)) := by
  intro T hT X
  obtain ⟨t, st, q⟩ := k _ rfl T hT X
  refine ⟨t, ?_, q⟩
  have h1 := X.bastoreOut hexec (by rw [hT]; exact hP q0 _ ha) ((hK.2 t0 _ ht).1 n (fun j => .int (f j))) (j := i) (by show (i < 0 ∨ (arrV _ _ _).slots.size ≤ _); rw [arrV_size]; exact Classical.byContradiction hout) (g := F0 m pc ls (.int x :: .int i :: .ref a :: rest)) rfl (rest := rest) rfl (by rw [hb]; exact hdg) t
  simp only [arrV_size] at h1
  exact h1 st
theorem vx_zaldZ {D : va_G} {cl : List vw_C} {ws : va_W} {tys : List (ClassId × FieldType)} {a : Nat} (hexec : p.tables.exec = Jvm.exec) (hb : c.code = cc) (hK : va_K D cl tys s) (hP : va_P D cl ws H) (q0 t0 : Nat) {cA : ClassId} {n : Nat} {f : Nat → Int32} (ha : ws[q0]? = some (a, .inl (cA, n, .inl f))) (ht : tys[t0]? = some (cA, .boolean)) {i : Int32} (hout : ¬ vp_in i n) (hdg : decode cc pc = .ok (.baload, 1))
    (k : ∀ tx : String, tx = (toString "Index " ++ toString i ++ toString " out of bounds for length " ++ toString n : String) → vx_Note p l e R s m args below meth c H locs cells slots Q (F0 m pc ls rest) "java/lang/ArrayIndexOutOfBoundsException" tx) : W p l e R s m args below meth c H locs cells slots Q (F0 m pc ls (.int i :: .ref a :: rest)) := by
  intro T hT X
  obtain ⟨t, st, q⟩ := k _ rfl T hT X
  refine ⟨t, ?_, q⟩
  have h1 := X.baloadOut hexec (by rw [hT]; exact hP q0 _ ha) ((hK.2 t0 _ ht).1 n (fun j => .int (f j))) (j := i) (by show (i < 0 ∨ (arrV _ _ _).slots.size ≤ _); rw [arrV_size]; exact Classical.byContradiction hout) (g := F0 m pc ls (.int i :: .ref a :: rest)) rfl (rest := rest) rfl (by rw [hb]; exact hdg) t
  simp only [arrV_size] at h1
  exact h1 st
theorem vx_zastZ {D : va_G} {cl : List vw_C} {ws : va_W} {tys : List (ClassId × FieldType)} {a : Nat} (hexec : p.tables.exec = Jvm.exec) (hb : c.code = cc) (hK : va_K D cl tys s) (hP : va_P D cl ws H) (q0 t0 : Nat) {cA : ClassId} {n : Nat} {f : Nat → Int32} (ha : ws[q0]? = some (a, .inl (cA, n, .inl f))) (ht : tys[t0]? = some (cA, .boolean)) {i : Int32} {x : Int32} (hout : ¬ vp_in i n) (hdg : decode cc pc = .ok (.bastore, 1))
    (k : ∀ tx : String, tx = (toString "Index " ++ toString i ++ toString " out of bounds for length " ++ toString n : String) → vx_Note p l e R s m args below meth c H locs cells slots Q (F0 m pc ls rest) "java/lang/ArrayIndexOutOfBoundsException" tx) : W p l e R s m args below meth c H locs cells slots Q (F0 m pc ls (.int x :: .int i :: .ref a :: rest)) := by
  intro T hT X
  obtain ⟨t, st, q⟩ := k _ rfl T hT X
  refine ⟨t, ?_, q⟩
  have h1 := X.bastoreOut hexec (by rw [hT]; exact hP q0 _ ha) ((hK.2 t0 _ ht).1 n (fun j => .int (f j))) (j := i) (by show (i < 0 ∨ (arrV _ _ _).slots.size ≤ _); rw [arrV_size]; exact Classical.byContradiction hout) (g := F0 m pc ls (.int x :: .int i :: .ref a :: rest)) rfl (rest := rest) rfl (by rw [hb]; exact hdg) t
  simp only [arrV_size] at h1
  exact h1 st
theorem vx_caldZ {D : va_G} {cl : List vw_C} {ws : va_W} {tys : List (ClassId × FieldType)} {a : Nat} (hexec : p.tables.exec = Jvm.exec) (hb : c.code = cc) (hK : va_K D cl tys s) (hP : va_P D cl ws H) (q0 t0 : Nat) {cA : ClassId} {n : Nat} {f : Nat → Int32} (ha : ws[q0]? = some (a, .inl (cA, n, .inl f))) (ht : tys[t0]? = some (cA, .char)) {i : Int32} (hout : ¬ vp_in i n) (hdg : decode cc pc = .ok (.caload, 1))
    (k : ∀ tx : String, tx = (toString "Index " ++ toString i ++ toString " out of bounds for length " ++ toString n : String) → vx_Note p l e R s m args below meth c H locs cells slots Q (F0 m pc ls rest) "java/lang/ArrayIndexOutOfBoundsException" tx) : W p l e R s m args below meth c H locs cells slots Q (F0 m pc ls (.int i :: .ref a :: rest)) := by
  intro T hT X
  obtain ⟨t, st, q⟩ := k _ rfl T hT X
  refine ⟨t, ?_, q⟩
  have h1 := X.caloadOut hexec (by rw [hT]; exact hP q0 _ ha) ((hK.2 t0 _ ht).1 n (fun j => .int (f j))) (j := i) (by show (i < 0 ∨ (arrV _ _ _).slots.size ≤ _); rw [arrV_size]; exact Classical.byContradiction hout) (g := F0 m pc ls (.int i :: .ref a :: rest)) rfl (rest := rest) rfl (by rw [hb]; exact hdg) t
  simp only [arrV_size] at h1
  exact h1 st
theorem vx_castZ {D : va_G} {cl : List vw_C} {ws : va_W} {tys : List (ClassId × FieldType)} {a : Nat} (hexec : p.tables.exec = Jvm.exec) (hb : c.code = cc) (hK : va_K D cl tys s) (hP : va_P D cl ws H) (q0 t0 : Nat) {cA : ClassId} {n : Nat} {f : Nat → Int32} (ha : ws[q0]? = some (a, .inl (cA, n, .inl f))) (ht : tys[t0]? = some (cA, .char)) {i : Int32} {x : Int32} (hout : ¬ vp_in i n) (hdg : decode cc pc = .ok (.castore, 1))
    (k : ∀ tx : String, tx = (toString "Index " ++ toString i ++ toString " out of bounds for length " ++ toString n : String) → vx_Note p l e R s m args below meth c H locs cells slots Q (F0 m pc ls rest) "java/lang/ArrayIndexOutOfBoundsException" tx) : W p l e R s m args below meth c H locs cells slots Q (F0 m pc ls (.int x :: .int i :: .ref a :: rest)) := by
  intro T hT X
  obtain ⟨t, st, q⟩ := k _ rfl T hT X
  refine ⟨t, ?_, q⟩
  have h1 := X.castoreOut hexec (by rw [hT]; exact hP q0 _ ha) ((hK.2 t0 _ ht).1 n (fun j => .int (f j))) (j := i) (by show (i < 0 ∨ (arrV _ _ _).slots.size ≤ _); rw [arrV_size]; exact Classical.byContradiction hout) (g := F0 m pc ls (.int x :: .int i :: .ref a :: rest)) rfl (rest := rest) rfl (by rw [hb]; exact hdg) t
  simp only [arrV_size] at h1
  exact h1 st
theorem vx_saldZ {D : va_G} {cl : List vw_C} {ws : va_W} {tys : List (ClassId × FieldType)} {a : Nat} (hexec : p.tables.exec = Jvm.exec) (hb : c.code = cc) (hK : va_K D cl tys s) (hP : va_P D cl ws H) (q0 t0 : Nat) {cA : ClassId} {n : Nat} {f : Nat → Int32} (ha : ws[q0]? = some (a, .inl (cA, n, .inl f))) (ht : tys[t0]? = some (cA, .short)) {i : Int32} (hout : ¬ vp_in i n) (hdg : decode cc pc = .ok (.saload, 1))
    (k : ∀ tx : String, tx = (toString "Index " ++ toString i ++ toString " out of bounds for length " ++ toString n : String) → vx_Note p l e R s m args below meth c H locs cells slots Q (F0 m pc ls rest) "java/lang/ArrayIndexOutOfBoundsException" tx) : W p l e R s m args below meth c H locs cells slots Q (F0 m pc ls (.int i :: .ref a :: rest)) := by
  intro T hT X
  obtain ⟨t, st, q⟩ := k _ rfl T hT X
  refine ⟨t, ?_, q⟩
  have h1 := X.saloadOut hexec (by rw [hT]; exact hP q0 _ ha) ((hK.2 t0 _ ht).1 n (fun j => .int (f j))) (j := i) (by show (i < 0 ∨ (arrV _ _ _).slots.size ≤ _); rw [arrV_size]; exact Classical.byContradiction hout) (g := F0 m pc ls (.int i :: .ref a :: rest)) rfl (rest := rest) rfl (by rw [hb]; exact hdg) t
  simp only [arrV_size] at h1
  exact h1 st
theorem vx_sastZ {D : va_G} {cl : List vw_C} {ws : va_W} {tys : List (ClassId × FieldType)} {a : Nat} (hexec : p.tables.exec = Jvm.exec) (hb : c.code = cc) (hK : va_K D cl tys s) (hP : va_P D cl ws H) (q0 t0 : Nat) {cA : ClassId} {n : Nat} {f : Nat → Int32} (ha : ws[q0]? = some (a, .inl (cA, n, .inl f))) (ht : tys[t0]? = some (cA, .short)) {i : Int32} {x : Int32} (hout : ¬ vp_in i n) (hdg : decode cc pc = .ok (.sastore, 1))
    (k : ∀ tx : String, tx = (toString "Index " ++ toString i ++ toString " out of bounds for length " ++ toString n : String) → vx_Note p l e R s m args below meth c H locs cells slots Q (F0 m pc ls rest) "java/lang/ArrayIndexOutOfBoundsException" tx) : W p l e R s m args below meth c H locs cells slots Q (F0 m pc ls (.int x :: .int i :: .ref a :: rest)) := by
  intro T hT X
  obtain ⟨t, st, q⟩ := k _ rfl T hT X
  refine ⟨t, ?_, q⟩
  have h1 := X.sastoreOut hexec (by rw [hT]; exact hP q0 _ ha) ((hK.2 t0 _ ht).1 n (fun j => .int (f j))) (j := i) (by show (i < 0 ∨ (arrV _ _ _).slots.size ≤ _); rw [arrV_size]; exact Classical.byContradiction hout) (g := F0 m pc ls (.int x :: .int i :: .ref a :: rest)) rfl (rest := rest) rfl (by rw [hb]; exact hdg) t
  simp only [arrV_size] at h1
  exact h1 st
theorem vx_laldZ {D : va_G} {cl : List vw_C} {ws : va_W} {tys : List (ClassId × FieldType)} {a : Nat} (hexec : p.tables.exec = Jvm.exec) (hb : c.code = cc) (hK : va_K D cl tys s) (hP : va_P D cl ws H) (q0 t0 : Nat) {cA : ClassId} {n : Nat} {f : Nat → Int64} (ha : ws[q0]? = some (a, .inl (cA, n, .inr (.inl f)))) (ht : tys[t0]? = some (cA, .long)) {i : Int32} (hout : ¬ vp_in i n) (hdg : decode cc pc = .ok (.laload, 1))
    (k : ∀ tx : String, tx = (toString "Index " ++ toString i ++ toString " out of bounds for length " ++ toString n : String) → vx_Note p l e R s m args below meth c H locs cells slots Q (F0 m pc ls rest) "java/lang/ArrayIndexOutOfBoundsException" tx) : W p l e R s m args below meth c H locs cells slots Q (F0 m pc ls (.int i :: .ref a :: rest)) := by
  intro T hT X
  obtain ⟨t, st, q⟩ := k _ rfl T hT X
  refine ⟨t, ?_, q⟩
  have h1 := X.laloadOut hexec (by rw [hT]; exact hP q0 _ ha) ((hK.2 t0 _ ht).1 n (fun j => .long (f j))) (j := i) (by show (i < 0 ∨ (arrV _ _ _).slots.size ≤ _); rw [arrV_size]; exact Classical.byContradiction hout) (g := F0 m pc ls (.int i :: .ref a :: rest)) rfl (rest := rest) rfl (by rw [hb]; exact hdg) t
  simp only [arrV_size] at h1
  exact h1 st
theorem vx_lastZ {D : va_G} {cl : List vw_C} {ws : va_W} {tys : List (ClassId × FieldType)} {a : Nat} (hexec : p.tables.exec = Jvm.exec) (hb : c.code = cc) (hK : va_K D cl tys s) (hP : va_P D cl ws H) (q0 t0 : Nat) {cA : ClassId} {n : Nat} {f : Nat → Int64} (ha : ws[q0]? = some (a, .inl (cA, n, .inr (.inl f)))) (ht : tys[t0]? = some (cA, .long)) {i : Int32} {x : Int64} (hout : ¬ vp_in i n) (hdg : decode cc pc = .ok (.lastore, 1))
    (k : ∀ tx : String, tx = (toString "Index " ++ toString i ++ toString " out of bounds for length " ++ toString n : String) → vx_Note p l e R s m args below meth c H locs cells slots Q (F0 m pc ls rest) "java/lang/ArrayIndexOutOfBoundsException" tx) : W p l e R s m args below meth c H locs cells slots Q (F0 m pc ls (.long x :: .int i :: .ref a :: rest)) := by
  intro T hT X
  obtain ⟨t, st, q⟩ := k _ rfl T hT X
  refine ⟨t, ?_, q⟩
  have h1 := X.lastoreOut hexec (by rw [hT]; exact hP q0 _ ha) ((hK.2 t0 _ ht).1 n (fun j => .long (f j))) (j := i) (by show (i < 0 ∨ (arrV _ _ _).slots.size ≤ _); rw [arrV_size]; exact Classical.byContradiction hout) (g := F0 m pc ls (.long x :: .int i :: .ref a :: rest)) rfl (rest := rest) rfl (by rw [hb]; exact hdg) t
  simp only [arrV_size] at h1
  exact h1 st
theorem vx_faldZ {D : va_G} {cl : List vw_C} {ws : va_W} {tys : List (ClassId × FieldType)} {a : Nat} (hexec : p.tables.exec = Jvm.exec) (hb : c.code = cc) (hK : va_K D cl tys s) (hP : va_P D cl ws H) (q0 t0 : Nat) {cA : ClassId} {n : Nat} {f : Nat → UInt32} (ha : ws[q0]? = some (a, .inl (cA, n, .inr (.inr (.inl f))))) (ht : tys[t0]? = some (cA, .float)) {i : Int32} (hout : ¬ vp_in i n) (hdg : decode cc pc = .ok (.faload, 1))
    (k : ∀ tx : String, tx = (toString "Index " ++ toString i ++ toString " out of bounds for length " ++ toString n : String) → vx_Note p l e R s m args below meth c H locs cells slots Q (F0 m pc ls rest) "java/lang/ArrayIndexOutOfBoundsException" tx) : W p l e R s m args below meth c H locs cells slots Q (F0 m pc ls (.int i :: .ref a :: rest)) := by
  intro T hT X
  obtain ⟨t, st, q⟩ := k _ rfl T hT X
  refine ⟨t, ?_, q⟩
  have h1 := X.faloadOut hexec (by rw [hT]; exact hP q0 _ ha) ((hK.2 t0 _ ht).1 n (fun j => .float (f j))) (j := i) (by show (i < 0 ∨ (arrV _ _ _).slots.size ≤ _); rw [arrV_size]; exact Classical.byContradiction hout) (g := F0 m pc ls (.int i :: .ref a :: rest)) rfl (rest := rest) rfl (by rw [hb]; exact hdg) t
  simp only [arrV_size] at h1
  exact h1 st
theorem vx_fastZ {D : va_G} {cl : List vw_C} {ws : va_W} {tys : List (ClassId × FieldType)} {a : Nat} (hexec : p.tables.exec = Jvm.exec) (hb : c.code = cc) (hK : va_K D cl tys s) (hP : va_P D cl ws H) (q0 t0 : Nat) {cA : ClassId} {n : Nat} {f : Nat → UInt32} (ha : ws[q0]? = some (a, .inl (cA, n, .inr (.inr (.inl f))))) (ht : tys[t0]? = some (cA, .float)) {i : Int32} {x : UInt32} (hout : ¬ vp_in i n) (hdg : decode cc pc = .ok (.fastore, 1))
    (k : ∀ tx : String, tx = (toString "Index " ++ toString i ++ toString " out of bounds for length " ++ toString n : String) → vx_Note p l e R s m args below meth c H locs cells slots Q (F0 m pc ls rest) "java/lang/ArrayIndexOutOfBoundsException" tx) : W p l e R s m args below meth c H locs cells slots Q (F0 m pc ls (.float x :: .int i :: .ref a :: rest)) := by
  intro T hT X
  obtain ⟨t, st, q⟩ := k _ rfl T hT X
  refine ⟨t, ?_, q⟩
  have h1 := X.fastoreOut hexec (by rw [hT]; exact hP q0 _ ha) ((hK.2 t0 _ ht).1 n (fun j => .float (f j))) (j := i) (by show (i < 0 ∨ (arrV _ _ _).slots.size ≤ _); rw [arrV_size]; exact Classical.byContradiction hout) (g := F0 m pc ls (.float x :: .int i :: .ref a :: rest)) rfl (rest := rest) rfl (by rw [hb]; exact hdg) t
  simp only [arrV_size] at h1
  exact h1 st
theorem vx_daldZ {D : va_G} {cl : List vw_C} {ws : va_W} {tys : List (ClassId × FieldType)} {a : Nat} (hexec : p.tables.exec = Jvm.exec) (hb : c.code = cc) (hK : va_K D cl tys s) (hP : va_P D cl ws H) (q0 t0 : Nat) {cA : ClassId} {n : Nat} {f : Nat → UInt64} (ha : ws[q0]? = some (a, .inl (cA, n, .inr (.inr (.inr (.inl f)))))) (ht : tys[t0]? = some (cA, .double)) {i : Int32} (hout : ¬ vp_in i n) (hdg : decode cc pc = .ok (.daload, 1))
    (k : ∀ tx : String, tx = (toString "Index " ++ toString i ++ toString " out of bounds for length " ++ toString n : String) → vx_Note p l e R s m args below meth c H locs cells slots Q (F0 m pc ls rest) "java/lang/ArrayIndexOutOfBoundsException" tx) : W p l e R s m args below meth c H locs cells slots Q (F0 m pc ls (.int i :: .ref a :: rest)) := by
  intro T hT X
  obtain ⟨t, st, q⟩ := k _ rfl T hT X
  refine ⟨t, ?_, q⟩
  have h1 := X.daloadOut hexec (by rw [hT]; exact hP q0 _ ha) ((hK.2 t0 _ ht).1 n (fun j => .double (f j))) (j := i) (by show (i < 0 ∨ (arrV _ _ _).slots.size ≤ _); rw [arrV_size]; exact Classical.byContradiction hout) (g := F0 m pc ls (.int i :: .ref a :: rest)) rfl (rest := rest) rfl (by rw [hb]; exact hdg) t
  simp only [arrV_size] at h1
  exact h1 st
theorem vx_dastZ {D : va_G} {cl : List vw_C} {ws : va_W} {tys : List (ClassId × FieldType)} {a : Nat} (hexec : p.tables.exec = Jvm.exec) (hb : c.code = cc) (hK : va_K D cl tys s) (hP : va_P D cl ws H) (q0 t0 : Nat) {cA : ClassId} {n : Nat} {f : Nat → UInt64} (ha : ws[q0]? = some (a, .inl (cA, n, .inr (.inr (.inr (.inl f)))))) (ht : tys[t0]? = some (cA, .double)) {i : Int32} {x : UInt64} (hout : ¬ vp_in i n) (hdg : decode cc pc = .ok (.dastore, 1))
    (k : ∀ tx : String, tx = (toString "Index " ++ toString i ++ toString " out of bounds for length " ++ toString n : String) → vx_Note p l e R s m args below meth c H locs cells slots Q (F0 m pc ls rest) "java/lang/ArrayIndexOutOfBoundsException" tx) : W p l e R s m args below meth c H locs cells slots Q (F0 m pc ls (.double x :: .int i :: .ref a :: rest)) := by
  intro T hT X
  obtain ⟨t, st, q⟩ := k _ rfl T hT X
  refine ⟨t, ?_, q⟩
  have h1 := X.dastoreOut hexec (by rw [hT]; exact hP q0 _ ha) ((hK.2 t0 _ ht).1 n (fun j => .double (f j))) (j := i) (by show (i < 0 ∨ (arrV _ _ _).slots.size ≤ _); rw [arrV_size]; exact Classical.byContradiction hout) (g := F0 m pc ls (.double x :: .int i :: .ref a :: rest)) rfl (rest := rest) rfl (by rw [hb]; exact hdg) t
  simp only [arrV_size] at h1
  exact h1 st
theorem vx_arraylengthN (hexec : p.tables.exec = Jvm.exec) (hb : c.code = cc) (hdg : decode cc pc = .ok (.arraylength, 1)) (k : vx_NoteN p l e R s m args below meth c H locs cells slots Q (F0 m pc ls rest)) : W p l e R s m args below meth c H locs cells slots Q (F0 m pc ls (.null :: rest)) := by
  intro T hT X
  obtain ⟨t, st, q⟩ := k T hT X
  exact ⟨t, X.arraylengthNull hexec (g := F0 m pc ls (.null :: rest)) rfl (rest := rest) rfl (by rw [hb]; exact hdg) t st, q⟩
theorem vx_ialoadN (hexec : p.tables.exec = Jvm.exec) (hb : c.code = cc) {i : Int32} (hdg : decode cc pc = .ok (.iaload, 1)) (k : vx_NoteN p l e R s m args below meth c H locs cells slots Q (F0 m pc ls rest)) : W p l e R s m args below meth c H locs cells slots Q (F0 m pc ls (.int i :: .null :: rest)) := by
  intro T hT X
  obtain ⟨t, st, q⟩ := k T hT X
  exact ⟨t, X.ialoadNull hexec (g := F0 m pc ls (.int i :: .null :: rest)) rfl (rest := rest) rfl (by rw [hb]; exact hdg) t st, q⟩
theorem vx_laloadN (hexec : p.tables.exec = Jvm.exec) (hb : c.code = cc) {i : Int32} (hdg : decode cc pc = .ok (.laload, 1)) (k : vx_NoteN p l e R s m args below meth c H locs cells slots Q (F0 m pc ls rest)) : W p l e R s m args below meth c H locs cells slots Q (F0 m pc ls (.int i :: .null :: rest)) := by
  intro T hT X
  obtain ⟨t, st, q⟩ := k T hT X
  exact ⟨t, X.laloadNull hexec (g := F0 m pc ls (.int i :: .null :: rest)) rfl (rest := rest) rfl (by rw [hb]; exact hdg) t st, q⟩
theorem vx_faloadN (hexec : p.tables.exec = Jvm.exec) (hb : c.code = cc) {i : Int32} (hdg : decode cc pc = .ok (.faload, 1)) (k : vx_NoteN p l e R s m args below meth c H locs cells slots Q (F0 m pc ls rest)) : W p l e R s m args below meth c H locs cells slots Q (F0 m pc ls (.int i :: .null :: rest)) := by
  intro T hT X
  obtain ⟨t, st, q⟩ := k T hT X
  exact ⟨t, X.faloadNull hexec (g := F0 m pc ls (.int i :: .null :: rest)) rfl (rest := rest) rfl (by rw [hb]; exact hdg) t st, q⟩
theorem vx_daloadN (hexec : p.tables.exec = Jvm.exec) (hb : c.code = cc) {i : Int32} (hdg : decode cc pc = .ok (.daload, 1)) (k : vx_NoteN p l e R s m args below meth c H locs cells slots Q (F0 m pc ls rest)) : W p l e R s m args below meth c H locs cells slots Q (F0 m pc ls (.int i :: .null :: rest)) := by
  intro T hT X
  obtain ⟨t, st, q⟩ := k T hT X
  exact ⟨t, X.daloadNull hexec (g := F0 m pc ls (.int i :: .null :: rest)) rfl (rest := rest) rfl (by rw [hb]; exact hdg) t st, q⟩
theorem vx_aaloadN (hexec : p.tables.exec = Jvm.exec) (hb : c.code = cc) {i : Int32} (hdg : decode cc pc = .ok (.aaload, 1)) (k : vx_NoteN p l e R s m args below meth c H locs cells slots Q (F0 m pc ls rest)) : W p l e R s m args below meth c H locs cells slots Q (F0 m pc ls (.int i :: .null :: rest)) := by
  intro T hT X
  obtain ⟨t, st, q⟩ := k T hT X
  exact ⟨t, X.aaloadNull hexec (g := F0 m pc ls (.int i :: .null :: rest)) rfl (rest := rest) rfl (by rw [hb]; exact hdg) t st, q⟩
theorem vx_baloadN (hexec : p.tables.exec = Jvm.exec) (hb : c.code = cc) {i : Int32} (hdg : decode cc pc = .ok (.baload, 1)) (k : vx_NoteN p l e R s m args below meth c H locs cells slots Q (F0 m pc ls rest)) : W p l e R s m args below meth c H locs cells slots Q (F0 m pc ls (.int i :: .null :: rest)) := by
  intro T hT X
  obtain ⟨t, st, q⟩ := k T hT X
  exact ⟨t, X.baloadNull hexec (g := F0 m pc ls (.int i :: .null :: rest)) rfl (rest := rest) rfl (by rw [hb]; exact hdg) t st, q⟩
theorem vx_caloadN (hexec : p.tables.exec = Jvm.exec) (hb : c.code = cc) {i : Int32} (hdg : decode cc pc = .ok (.caload, 1)) (k : vx_NoteN p l e R s m args below meth c H locs cells slots Q (F0 m pc ls rest)) : W p l e R s m args below meth c H locs cells slots Q (F0 m pc ls (.int i :: .null :: rest)) := by
  intro T hT X
  obtain ⟨t, st, q⟩ := k T hT X
  exact ⟨t, X.caloadNull hexec (g := F0 m pc ls (.int i :: .null :: rest)) rfl (rest := rest) rfl (by rw [hb]; exact hdg) t st, q⟩
theorem vx_saloadN (hexec : p.tables.exec = Jvm.exec) (hb : c.code = cc) {i : Int32} (hdg : decode cc pc = .ok (.saload, 1)) (k : vx_NoteN p l e R s m args below meth c H locs cells slots Q (F0 m pc ls rest)) : W p l e R s m args below meth c H locs cells slots Q (F0 m pc ls (.int i :: .null :: rest)) := by
  intro T hT X
  obtain ⟨t, st, q⟩ := k T hT X
  exact ⟨t, X.saloadNull hexec (g := F0 m pc ls (.int i :: .null :: rest)) rfl (rest := rest) rfl (by rw [hb]; exact hdg) t st, q⟩
theorem vx_iastoreN (hexec : p.tables.exec = Jvm.exec) (hb : c.code = cc) {x : Int32} {i : Int32} (hdg : decode cc pc = .ok (.iastore, 1)) (k : vx_NoteN p l e R s m args below meth c H locs cells slots Q (F0 m pc ls rest)) : W p l e R s m args below meth c H locs cells slots Q (F0 m pc ls (.int x :: .int i :: .null :: rest)) := by
  intro T hT X
  obtain ⟨t, st, q⟩ := k T hT X
  exact ⟨t, X.iastoreNull hexec (g := F0 m pc ls (.int x :: .int i :: .null :: rest)) rfl (rest := rest) rfl (by rw [hb]; exact hdg) t st, q⟩
theorem vx_lastoreN (hexec : p.tables.exec = Jvm.exec) (hb : c.code = cc) {x : Int64} {i : Int32} (hdg : decode cc pc = .ok (.lastore, 1)) (k : vx_NoteN p l e R s m args below meth c H locs cells slots Q (F0 m pc ls rest)) : W p l e R s m args below meth c H locs cells slots Q (F0 m pc ls (.long x :: .int i :: .null :: rest)) := by
  intro T hT X
  obtain ⟨t, st, q⟩ := k T hT X
  exact ⟨t, X.lastoreNull hexec (g := F0 m pc ls (.long x :: .int i :: .null :: rest)) rfl (rest := rest) rfl (by rw [hb]; exact hdg) t st, q⟩
theorem vx_fastoreN (hexec : p.tables.exec = Jvm.exec) (hb : c.code = cc) {x : UInt32} {i : Int32} (hdg : decode cc pc = .ok (.fastore, 1)) (k : vx_NoteN p l e R s m args below meth c H locs cells slots Q (F0 m pc ls rest)) : W p l e R s m args below meth c H locs cells slots Q (F0 m pc ls (.float x :: .int i :: .null :: rest)) := by
  intro T hT X
  obtain ⟨t, st, q⟩ := k T hT X
  exact ⟨t, X.fastoreNull hexec (g := F0 m pc ls (.float x :: .int i :: .null :: rest)) rfl (rest := rest) rfl (by rw [hb]; exact hdg) t st, q⟩
theorem vx_dastoreN (hexec : p.tables.exec = Jvm.exec) (hb : c.code = cc) {x : UInt64} {i : Int32} (hdg : decode cc pc = .ok (.dastore, 1)) (k : vx_NoteN p l e R s m args below meth c H locs cells slots Q (F0 m pc ls rest)) : W p l e R s m args below meth c H locs cells slots Q (F0 m pc ls (.double x :: .int i :: .null :: rest)) := by
  intro T hT X
  obtain ⟨t, st, q⟩ := k T hT X
  exact ⟨t, X.dastoreNull hexec (g := F0 m pc ls (.double x :: .int i :: .null :: rest)) rfl (rest := rest) rfl (by rw [hb]; exact hdg) t st, q⟩
theorem vx_bastoreN (hexec : p.tables.exec = Jvm.exec) (hb : c.code = cc) {x : Int32} {i : Int32} (hdg : decode cc pc = .ok (.bastore, 1)) (k : vx_NoteN p l e R s m args below meth c H locs cells slots Q (F0 m pc ls rest)) : W p l e R s m args below meth c H locs cells slots Q (F0 m pc ls (.int x :: .int i :: .null :: rest)) := by
  intro T hT X
  obtain ⟨t, st, q⟩ := k T hT X
  exact ⟨t, X.bastoreNull hexec (g := F0 m pc ls (.int x :: .int i :: .null :: rest)) rfl (rest := rest) rfl (by rw [hb]; exact hdg) t st, q⟩
theorem vx_castoreN (hexec : p.tables.exec = Jvm.exec) (hb : c.code = cc) {x : Int32} {i : Int32} (hdg : decode cc pc = .ok (.castore, 1)) (k : vx_NoteN p l e R s m args below meth c H locs cells slots Q (F0 m pc ls rest)) : W p l e R s m args below meth c H locs cells slots Q (F0 m pc ls (.int x :: .int i :: .null :: rest)) := by
  intro T hT X
  obtain ⟨t, st, q⟩ := k T hT X
  exact ⟨t, X.castoreNull hexec (g := F0 m pc ls (.int x :: .int i :: .null :: rest)) rfl (rest := rest) rfl (by rw [hb]; exact hdg) t st, q⟩
theorem vx_sastoreN (hexec : p.tables.exec = Jvm.exec) (hb : c.code = cc) {x : Int32} {i : Int32} (hdg : decode cc pc = .ok (.sastore, 1)) (k : vx_NoteN p l e R s m args below meth c H locs cells slots Q (F0 m pc ls rest)) : W p l e R s m args below meth c H locs cells slots Q (F0 m pc ls (.int x :: .int i :: .null :: rest)) := by
  intro T hT X
  obtain ⟨t, st, q⟩ := k T hT X
  exact ⟨t, X.sastoreNull hexec (g := F0 m pc ls (.int x :: .int i :: .null :: rest)) rfl (rest := rest) rfl (by rw [hb]; exact hdg) t st, q⟩
theorem vx_invokeN {own C : String} {index maxL : Nat} {y : MethodName} {bytes : ByteArray} {ret : Option FieldType} (hexec : p.tables.exec = Jvm.exec) (hb : c.code = cc) (hown : s.vm.findClass own = some m.cls) (hlink : (Cond.methodLink own index y).before args s = true) (hinst : (Cond.instanceMethod y).before args s = true) (hcode : (Cond.code y bytes maxL ret).before args s = true) (hsel : (Cond.selects C y y).before args s = true)
    (hx : y.cls ≠ "java/lang/invoke/MethodHandle" ∧ y.cls ≠ "java/lang/invoke/VarHandle") {As : List Value} (hlen : (parseMethodDescriptor y.desc).map (fun d => d.parameters.length) = some As.length) (hdg : decode cc pc = .ok (.invokevirtual index, 3))
    (k : vx_NoteN p l e R s m args below meth c H locs cells slots Q (F0 m pc ls rest)) {st0 : List Value} (hst : st0 = As.reverse ++ .null :: rest) : W p l e R s m args below meth c H locs cells slots Q (F0 m pc ls st0) := by
  intro T hT X
  obtain ⟨r0, r, hn, hrm, hstR, hsigR⟩ := va_Decl.of hinst hcode
  obtain ⟨c2, r2, m2, q1, q2, q3, q4, kP, hkP, hkPi⟩ := Cond.selects_spec hsel
  cases hn.symm.trans q3
  have hl9 : As.length = r.sig.parameters.length := by
    rw [hsigR] at hlen
    exact (Option.some.inj hlen).symm
  obtain ⟨vm', X1, st1⟩ := X.invokevirtualNull hexec hown hlink hn hrm hstR hkP hkPi hx (g := F0 m pc ls st0) rfl (argsL := As) (rest := rest) hl9 hst (by rw [hb]; exact hdg)
  obtain ⟨t, st, q⟩ := k (T.setVm vm') hT X1
  exact ⟨t, st1 t st, q⟩
theorem vx_newarrayZ {atype : ArrayType} (hexec : p.tables.exec = Jvm.exec) (hb : c.code = cc) {n : Int32} (h0 : n < 0) (hdg : decode cc pc = .ok (.newarray atype, 2)) (k : ∀ tx : String, tx = toString n → vx_Note p l e R s m args below meth c H locs cells slots Q (F0 m pc ls rest) "java/lang/NegativeArraySizeException" tx) : W p l e R s m args below meth c H locs cells slots Q (F0 m pc ls (.int n :: rest)) := by
  intro T hT X
  obtain ⟨t, st, q⟩ := k _ rfl T hT X
  exact ⟨t, X.newarrayNegative hexec (g := F0 m pc ls (.int n :: rest)) rfl h0 (rest := rest) rfl (by rw [hb]; exact hdg) t st, q⟩
end
end VXM
/-! ===== END ===== -/
end
section
def RX0 : String := "LeaseServer$Addresses"
def TX0 : u_T := fun k => match k with
  | 0 => ("LeaseServer$Addresses", "excluded", "[Z", true)
  | 1 => ("LeaseServer$Addresses", "stranger", "[Z", true)
  | 2 => ("LeaseServer$Addresses", "state", "[I", true)
  | 3 => ("LeaseServer$Addresses", "holder", "[I", true)
  | 4 => ("LeaseServer$Addresses", "end", "[I", true)
  | _ => ("LeaseServer$Addresses", "freed", "[I", true)
def tyX0 : Nat → FieldType := fun k => match k with
  | 0 => .array .boolean
  | 1 => .array .boolean
  | 2 => .array .int
  | 3 => .array .int
  | 4 => .array .int
  | _ => .array .int
abbrev wsX00 : List Cond := u_ws RX0 TX0 6
theorem nmX0 : ∀ a, a < 6 → ∀ b, b < 6 → a ≠ b → (TX0 a).2.1 ≠ (TX0 b).2.1 := by decide +kernel
theorem tyX0_ok : ∀ k, k < 6 → parseFieldDescriptor (TX0 k).2.2.1 = some (tyX0 k) := by decide +kernel
abbrev cX0_init : ByteArray := prog_2_method_1_code
def yX0_init : MethodName := ⟨RX0, "<init>", "()V"⟩
abbrev cX0_makeFresh : ByteArray := prog_2_method_2_code
def yX0_makeFresh : MethodName := ⟨RX0, "makeFresh", "(II)V"⟩
abbrev cX0_becomeFree : ByteArray := prog_2_method_3_code
def yX0_becomeFree : MethodName := ⟨RX0, "becomeFree", "(II)V"⟩
abbrev cX0_becomeHeld : ByteArray := prog_2_method_4_code
def yX0_becomeHeld : MethodName := ⟨RX0, "becomeHeld", "(IIII)V"⟩
abbrev cX0_becomeDeclined : ByteArray := prog_2_method_5_code
def yX0_becomeDeclined : MethodName := ⟨RX0, "becomeDeclined", "(II)V"⟩
abbrev cX0_isOfferable : ByteArray := prog_2_method_6_code
def yX0_isOfferable : MethodName := ⟨RX0, "isOfferable", "(I)Z"⟩
abbrev cX0_isFreeLonger : ByteArray := prog_2_method_7_code
def yX0_isFreeLonger : MethodName := ⟨RX0, "isFreeLonger", "(II)Z"⟩
abbrev cX0_countIn : ByteArray := prog_2_method_8_code
def yX0_countIn : MethodName := ⟨RX0, "countIn", "(III)I"⟩
abbrev cX0_countOfferable : ByteArray := prog_2_method_9_code
def yX0_countOfferable : MethodName := ⟨RX0, "countOfferable", "(II)I"⟩
abbrev cX0_earliestQuarantineEnd : ByteArray := prog_2_method_10_code
def yX0_earliestQuarantineEnd : MethodName := ⟨RX0, "earliestQuarantineEnd", "()I"⟩
abbrev cX0_copyFrom : ByteArray := prog_2_method_11_code
def yX0_copyFrom : MethodName := ⟨RX0, "copyFrom", "(LLeaseServer$Addresses;)V"⟩
def RX1 : String := "LeaseServer$Clients"
def TX1 : u_T := fun k => match k with
  | 0 => ("LeaseServer$Clients", "state", "[I", true)
  | 1 => ("LeaseServer$Clients", "address", "[I", true)
  | 2 => ("LeaseServer$Clients", "lastLeased", "[I", true)
  | 3 => ("LeaseServer$Clients", "renewal", "[I", true)
  | _ => ("LeaseServer$Clients", "rebinding", "[I", true)
def tyX1 : Nat → FieldType := fun k => match k with
  | 0 => .array .int
  | 1 => .array .int
  | 2 => .array .int
  | 3 => .array .int
  | _ => .array .int
abbrev wsX10 : List Cond := u_ws RX1 TX1 5
theorem nmX1 : ∀ a, a < 5 → ∀ b, b < 5 → a ≠ b → (TX1 a).2.1 ≠ (TX1 b).2.1 := by decide +kernel
theorem tyX1_ok : ∀ k, k < 5 → parseFieldDescriptor (TX1 k).2.2.1 = some (tyX1 k) := by decide +kernel
abbrev cX1_init : ByteArray := prog_3_method_1_code
def yX1_init : MethodName := ⟨RX1, "<init>", "()V"⟩
abbrev cX1_isBound : ByteArray := prog_3_method_2_code
def yX1_isBound : MethodName := ⟨RX1, "isBound", "(I)Z"⟩
abbrev cX1_countBound : ByteArray := prog_3_method_3_code
def yX1_countBound : MethodName := ⟨RX1, "countBound", "()I"⟩
abbrev cX1_becomeIdle : ByteArray := prog_3_method_4_code
def yX1_becomeIdle : MethodName := ⟨RX1, "becomeIdle", "(I)V"⟩
abbrev cX1_takeOffer : ByteArray := prog_3_method_5_code
def yX1_takeOffer : MethodName := ⟨RX1, "takeOffer", "(II)V"⟩
abbrev cX1_takeLease : ByteArray := prog_3_method_6_code
def yX1_takeLease : MethodName := ⟨RX1, "takeLease", "(III)V"⟩
abbrev cX1_copyFrom : ByteArray := prog_3_method_7_code
def yX1_copyFrom : MethodName := ⟨RX1, "copyFrom", "(LLeaseServer$Clients;)V"⟩
def RX2 : String := "LeaseServer$Log"
def TX2 : u_T := fun k => match k with
  | 0 => ("LeaseServer$Log", "ring", "[I", true)
  | 1 => ("LeaseServer$Log", "size", "I", false)
  | _ => ("LeaseServer$Log", "next", "I", false)
def tyX2 : Nat → FieldType := fun k => match k with
  | 0 => .array .int
  | 1 => .int
  | _ => .int
abbrev wsX20 : List Cond := u_ws RX2 TX2 3
theorem nmX2 : ∀ a, a < 3 → ∀ b, b < 3 → a ≠ b → (TX2 a).2.1 ≠ (TX2 b).2.1 := by decide +kernel
theorem tyX2_ok : ∀ k, k < 3 → parseFieldDescriptor (TX2 k).2.2.1 = some (tyX2 k) := by decide +kernel
abbrev cX2_init : ByteArray := prog_4_method_1_code
def yX2_init : MethodName := ⟨RX2, "<init>", "()V"⟩
abbrev cX2_write : ByteArray := prog_4_method_2_code
def yX2_write : MethodName := ⟨RX2, "write", "(II)V"⟩
abbrev cX2_read : ByteArray := prog_4_method_3_code
def yX2_read : MethodName := ⟨RX2, "read", "(I)I"⟩
def RX3 : String := "LeaseServer$Pools"
def TX3 : u_T := fun k => match k with
  | 0 => ("LeaseServer$Pools", "count", "I", false)
  | 1 => ("LeaseServer$Pools", "group", "[I", true)
  | 2 => ("LeaseServer$Pools", "first", "[I", true)
  | 3 => ("LeaseServer$Pools", "last", "[I", true)
  | _ => ("LeaseServer$Pools", "lease", "[I", true)
def tyX3 : Nat → FieldType := fun k => match k with
  | 0 => .int
  | 1 => .array .int
  | 2 => .array .int
  | 3 => .array .int
  | _ => .array .int
abbrev wsX30 : List Cond := u_ws RX3 TX3 5
theorem nmX3 : ∀ a, a < 5 → ∀ b, b < 5 → a ≠ b → (TX3 a).2.1 ≠ (TX3 b).2.1 := by decide +kernel
theorem tyX3_ok : ∀ k, k < 5 → parseFieldDescriptor (TX3 k).2.2.1 = some (tyX3 k) := by decide +kernel
abbrev cX3_init : ByteArray := prog_5_method_1_code
def yX3_init : MethodName := ⟨RX3, "<init>", "()V"⟩
abbrev cX3_isPool : ByteArray := prog_5_method_2_code
def yX3_isPool : MethodName := ⟨RX3, "isPool", "(I)Z"⟩
abbrev cX3_numberAt : ByteArray := prog_5_method_3_code
def yX3_numberAt : MethodName := ⟨RX3, "numberAt", "(I)I"⟩
abbrev cX3_groupAt : ByteArray := prog_5_method_4_code
def yX3_groupAt : MethodName := ⟨RX3, "groupAt", "(I)I"⟩
abbrev cX3_leaseAt : ByteArray := prog_5_method_5_code
def yX3_leaseAt : MethodName := ⟨RX3, "leaseAt", "(I)I"⟩
abbrev cX3_overlap : ByteArray := prog_5_method_6_code
def yX3_overlap : MethodName := ⟨RX3, "overlap", "(II)Z"⟩
abbrev cX3_countAddresses : ByteArray := prog_5_method_7_code
def yX3_countAddresses : MethodName := ⟨RX3, "countAddresses", "(I)I"⟩
abbrev cX3_append : ByteArray := prog_5_method_8_code
def yX3_append : MethodName := ⟨RX3, "append", "(IIII)I"⟩
abbrev cX3_drop : ByteArray := prog_5_method_9_code
def yX3_drop : MethodName := ⟨RX3, "drop", "(I)I"⟩
abbrev cX3_copyFrom : ByteArray := prog_5_method_10_code
def yX3_copyFrom : MethodName := ⟨RX3, "copyFrom", "(LLeaseServer$Pools;)V"⟩
def RX4 : String := "LeaseServer$Settings"
def TX4 : u_T := fun k => match k with
  | 0 => ("LeaseServer$Settings", "time", "I", false)
  | 1 => ("LeaseServer$Settings", "hold", "I", false)
  | 2 => ("LeaseServer$Settings", "quarantine", "I", false)
  | 3 => ("LeaseServer$Settings", "conflicts", "I", false)
  | 4 => ("LeaseServer$Settings", "direct", "[Z", true)
  | _ => ("LeaseServer$Settings", "relay", "[Z", true)
def tyX4 : Nat → FieldType := fun k => match k with
  | 0 => .int
  | 1 => .int
  | 2 => .int
  | 3 => .int
  | 4 => .array .boolean
  | _ => .array .boolean
abbrev wsX40 : List Cond := u_ws RX4 TX4 6
theorem nmX4 : ∀ a, a < 6 → ∀ b, b < 6 → a ≠ b → (TX4 a).2.1 ≠ (TX4 b).2.1 := by decide +kernel
theorem tyX4_ok : ∀ k, k < 6 → parseFieldDescriptor (TX4 k).2.2.1 = some (tyX4 k) := by decide +kernel
abbrev cX4_init : ByteArray := prog_6_method_1_code
def yX4_init : MethodName := ⟨RX4, "<init>", "()V"⟩
abbrev cX4_copyFrom : ByteArray := prog_6_method_2_code
def yX4_copyFrom : MethodName := ⟨RX4, "copyFrom", "(LLeaseServer$Settings;)V"⟩
def RX5 : String := "LeaseServer$State"
def TX5 : u_T := fun k => match k with
  | 0 => ("LeaseServer$State", "pools", "LLeaseServer$Pools;", true)
  | 1 => ("LeaseServer$State", "addresses", "LLeaseServer$Addresses;", true)
  | 2 => ("LeaseServer$State", "clients", "LLeaseServer$Clients;", true)
  | 3 => ("LeaseServer$State", "settings", "LLeaseServer$Settings;", true)
  | _ => ("LeaseServer$State", "log", "LLeaseServer$Log;", true)
def tyX5 : Nat → FieldType := fun k => match k with
  | 0 => .object "LeaseServer$Pools"
  | 1 => .object "LeaseServer$Addresses"
  | 2 => .object "LeaseServer$Clients"
  | 3 => .object "LeaseServer$Settings"
  | _ => .object "LeaseServer$Log"
abbrev wsX50 : List Cond := u_ws RX5 TX5 5
theorem nmX5 : ∀ a, a < 5 → ∀ b, b < 5 → a ≠ b → (TX5 a).2.1 ≠ (TX5 b).2.1 := by decide +kernel
theorem tyX5_ok : ∀ k, k < 5 → parseFieldDescriptor (TX5 k).2.2.1 = some (tyX5 k) := by decide +kernel
abbrev cX5_init : ByteArray := prog_7_method_1_code
def yX5_init : MethodName := ⟨RX5, "<init>", "(LLeaseServer$Log;)V"⟩
abbrev cX5_copyFrom : ByteArray := prog_7_method_2_code
def yX5_copyFrom : MethodName := ⟨RX5, "copyFrom", "(LLeaseServer$State;)V"⟩
abbrev cX5_directUpFor : ByteArray := prog_7_method_3_code
def yX5_directUpFor : MethodName := ⟨RX5, "directUpFor", "(I)Z"⟩
abbrev cX5_relayUpFor : ByteArray := prog_7_method_4_code
def yX5_relayUpFor : MethodName := ⟨RX5, "relayUpFor", "(I)Z"⟩
abbrev cX5_groupOfClient : ByteArray := prog_7_method_5_code
def yX5_groupOfClient : MethodName := ⟨RX5, "groupOfClient", "(I)I"⟩
abbrev cX5_leaseEnd : ByteArray := prog_7_method_6_code
def yX5_leaseEnd : MethodName := ⟨RX5, "leaseEnd", "(I)I"⟩
abbrev cX5_countInGroup : ByteArray := prog_7_method_7_code
def yX5_countInGroup : MethodName := ⟨RX5, "countInGroup", "(II)I"⟩
abbrev cX5_sumOfRests : ByteArray := prog_7_method_8_code
def yX5_sumOfRests : MethodName := ⟨RX5, "sumOfRests", "()I"⟩
abbrev cX5_firstCandidate : ByteArray := prog_7_method_9_code
def yX5_firstCandidate : MethodName := ⟨RX5, "firstCandidate", "(III)I"⟩
abbrev cX5_isCandidate : ByteArray := prog_7_method_10_code
def yX5_isCandidate : MethodName := ⟨RX5, "isCandidate", "(II)Z"⟩
abbrev cX5_longestFree : ByteArray := prog_7_method_11_code
def yX5_longestFree : MethodName := ⟨RX5, "longestFree", "(I)I"⟩
abbrev cX5_longestFreeIn : ByteArray := prog_7_method_12_code
def yX5_longestFreeIn : MethodName := ⟨RX5, "longestFreeIn", "(III)I"⟩
abbrev cX5_makeOffer : ByteArray := prog_7_method_13_code
def yX5_makeOffer : MethodName := ⟨RX5, "makeOffer", "(III)I"⟩
abbrev cX5_holdFor : ByteArray := prog_7_method_14_code
def yX5_holdFor : MethodName := ⟨RX5, "holdFor", "(II)V"⟩
abbrev cX5_findConflict : ByteArray := prog_7_method_15_code
def yX5_findConflict : MethodName := ⟨RX5, "findConflict", "(I)V"⟩
abbrev cX5_beginLease : ByteArray := prog_7_method_16_code
def yX5_beginLease : MethodName := ⟨RX5, "beginLease", "(I)V"⟩
abbrev cX5_startTerm : ByteArray := prog_7_method_17_code
def yX5_startTerm : MethodName := ⟨RX5, "startTerm", "(I)V"⟩
abbrev cX5_endHolding : ByteArray := prog_7_method_18_code
def yX5_endHolding : MethodName := ⟨RX5, "endHolding", "(I)V"⟩
abbrev cX5_declineLease : ByteArray := prog_7_method_19_code
def yX5_declineLease : MethodName := ⟨RX5, "declineLease", "(I)V"⟩
abbrev cX5_renewOrRefuse : ByteArray := prog_7_method_20_code
def yX5_renewOrRefuse : MethodName := ⟨RX5, "renewOrRefuse", "(I)Z"⟩
abbrev cX5_earliestEvent : ByteArray := prog_7_method_21_code
def yX5_earliestEvent : MethodName := ⟨RX5, "earliestEvent", "()I"⟩
abbrev cX5_earliestEventOfClients : ByteArray := prog_7_method_22_code
def yX5_earliestEventOfClients : MethodName := ⟨RX5, "earliestEventOfClients", "()I"⟩
abbrev cX5_eventOfClient : ByteArray := prog_7_method_23_code
def yX5_eventOfClient : MethodName := ⟨RX5, "eventOfClient", "(I)I"⟩
abbrev cX5_passTimeTo : ByteArray := prog_7_method_24_code
def yX5_passTimeTo : MethodName := ⟨RX5, "passTimeTo", "(I)I"⟩
abbrev cX5_carryOut : ByteArray := prog_7_method_25_code
def yX5_carryOut : MethodName := ⟨RX5, "carryOut", "(I)V"⟩
abbrev cX5_carryOutForHolder : ByteArray := prog_7_method_26_code
def yX5_carryOutForHolder : MethodName := ⟨RX5, "carryOutForHolder", "(III)V"⟩
abbrev cX5_renewOrTurn : ByteArray := prog_7_method_27_code
def yX5_renewOrTurn : MethodName := ⟨RX5, "renewOrTurn", "(IZI)V"⟩
def RX6 : String := "LeaseServer"
def TX6 : u_T := fun k => match k with
  | 0 => ("LeaseServer", "entries", "LLeaseServer$Log;", true)
  | 1 => ("LeaseServer", "state", "LLeaseServer$State;", true)
  | 2 => ("LeaseServer", "saved", "LLeaseServer$State;", true)
  | _ => ("LeaseServer", "somethingSaved", "Z", false)
def tyX6 : Nat → FieldType := fun k => match k with
  | 0 => .object "LeaseServer$Log"
  | 1 => .object "LeaseServer$State"
  | 2 => .object "LeaseServer$State"
  | _ => .boolean
abbrev wsX60 : List Cond := u_ws RX6 TX6 4
theorem nmX6 : ∀ a, a < 4 → ∀ b, b < 4 → a ≠ b → (TX6 a).2.1 ≠ (TX6 b).2.1 := by decide +kernel
theorem tyX6_ok : ∀ k, k < 4 → parseFieldDescriptor (TX6 k).2.2.1 = some (tyX6 k) := by decide +kernel
abbrev cX6_init : ByteArray := prog_1_method_1_code
def yX6_init : MethodName := ⟨RX6, "<init>", "()V"⟩
abbrev cX6_addPool : ByteArray := prog_1_method_2_code
def yX6_addPool : MethodName := ⟨RX6, "addPool", "(IIII)I"⟩
abbrev cX6_removePool : ByteArray := prog_1_method_3_code
def yX6_removePool : MethodName := ⟨RX6, "removePool", "(I)I"⟩
abbrev cX6_poolCount : ByteArray := prog_1_method_4_code
def yX6_poolCount : MethodName := ⟨RX6, "poolCount", "()I"⟩
abbrev cX6_pool : ByteArray := prog_1_method_5_code
def yX6_pool : MethodName := ⟨RX6, "pool", "(II)I"⟩
abbrev cX6_poolOf : ByteArray := prog_1_method_6_code
def yX6_poolOf : MethodName := ⟨RX6, "poolOf", "(I)I"⟩
abbrev cX6_exclude : ByteArray := prog_1_method_7_code
def yX6_exclude : MethodName := ⟨RX6, "exclude", "(IZ)Z"⟩
abbrev cX6_setStranger : ByteArray := prog_1_method_8_code
def yX6_setStranger : MethodName := ⟨RX6, "setStranger", "(IZ)Z"⟩
abbrev cX6_setHold : ByteArray := prog_1_method_9_code
def yX6_setHold : MethodName := ⟨RX6, "setHold", "(I)I"⟩
abbrev cX6_setQuarantine : ByteArray := prog_1_method_10_code
def yX6_setQuarantine : MethodName := ⟨RX6, "setQuarantine", "(I)I"⟩
abbrev cX6_setDirect : ByteArray := prog_1_method_11_code
def yX6_setDirect : MethodName := ⟨RX6, "setDirect", "(IZ)Z"⟩
abbrev cX6_setRelay : ByteArray := prog_1_method_12_code
def yX6_setRelay : MethodName := ⟨RX6, "setRelay", "(IZ)Z"⟩
abbrev cX6_discover : ByteArray := prog_1_method_13_code
def yX6_discover : MethodName := ⟨RX6, "discover", "(III)I"⟩
abbrev cX6_accept : ByteArray := prog_1_method_14_code
def yX6_accept : MethodName := ⟨RX6, "accept", "(I)I"⟩
abbrev cX6_release : ByteArray := prog_1_method_15_code
def yX6_release : MethodName := ⟨RX6, "release", "(I)I"⟩
abbrev cX6_decline : ByteArray := prog_1_method_16_code
def yX6_decline : MethodName := ⟨RX6, "decline", "(I)I"⟩
abbrev cX6_renew : ByteArray := prog_1_method_17_code
def yX6_renew : MethodName := ⟨RX6, "renew", "(I)Z"⟩
abbrev cX6_advance : ByteArray := prog_1_method_18_code
def yX6_advance : MethodName := ⟨RX6, "advance", "(I)I"⟩
abbrev cX6_advanceToEvent : ByteArray := prog_1_method_19_code
def yX6_advanceToEvent : MethodName := ⟨RX6, "advanceToEvent", "()I"⟩
abbrev cX6_time : ByteArray := prog_1_method_20_code
def yX6_time : MethodName := ⟨RX6, "time", "()I"⟩
abbrev cX6_clientState : ByteArray := prog_1_method_21_code
def yX6_clientState : MethodName := ⟨RX6, "clientState", "(I)I"⟩
abbrev cX6_addressOf : ByteArray := prog_1_method_22_code
def yX6_addressOf : MethodName := ⟨RX6, "addressOf", "(I)I"⟩
abbrev cX6_remembered : ByteArray := prog_1_method_23_code
def yX6_remembered : MethodName := ⟨RX6, "remembered", "(I)I"⟩
abbrev cX6_timer : ByteArray := prog_1_method_24_code
def yX6_timer : MethodName := ⟨RX6, "timer", "(II)I"⟩
abbrev cX6_addressState : ByteArray := prog_1_method_25_code
def yX6_addressState : MethodName := ⟨RX6, "addressState", "(I)I"⟩
abbrev cX6_holder : ByteArray := prog_1_method_26_code
def yX6_holder : MethodName := ⟨RX6, "holder", "(I)I"⟩
abbrev cX6_until : ByteArray := prog_1_method_27_code
def yX6_until : MethodName := ⟨RX6, "until", "(I)I"⟩
abbrev cX6_freeSince : ByteArray := prog_1_method_28_code
def yX6_freeSince : MethodName := ⟨RX6, "freeSince", "(I)I"⟩
abbrev cX6_nextCandidate : ByteArray := prog_1_method_29_code
def yX6_nextCandidate : MethodName := ⟨RX6, "nextCandidate", "(II)I"⟩
abbrev cX6_countState : ByteArray := prog_1_method_30_code
def yX6_countState : MethodName := ⟨RX6, "countState", "(II)I"⟩
abbrev cX6_bound : ByteArray := prog_1_method_31_code
def yX6_bound : MethodName := ⟨RX6, "bound", "()I"⟩
abbrev cX6_conflicts : ByteArray := prog_1_method_32_code
def yX6_conflicts : MethodName := ⟨RX6, "conflicts", "()I"⟩
abbrev cX6_logSize : ByteArray := prog_1_method_33_code
def yX6_logSize : MethodName := ⟨RX6, "logSize", "()I"⟩
abbrev cX6_log : ByteArray := prog_1_method_34_code
def yX6_log : MethodName := ⟨RX6, "log", "(I)I"⟩
abbrev cX6_utilization : ByteArray := prog_1_method_35_code
def yX6_utilization : MethodName := ⟨RX6, "utilization", "(I)D"⟩
abbrev cX6_averageRest : ByteArray := prog_1_method_36_code
def yX6_averageRest : MethodName := ⟨RX6, "averageRest", "()F"⟩
abbrev cX6_save : ByteArray := prog_1_method_37_code
def yX6_save : MethodName := ⟨RX6, "save", "()I"⟩
abbrev cX6_restore : ByteArray := prog_1_method_38_code
def yX6_restore : MethodName := ⟨RX6, "restore", "()I"⟩
abbrev cX6_isAddress : ByteArray := prog_1_method_39_code
def yX6_isAddress : MethodName := ⟨RX6, "isAddress", "(I)Z"⟩
abbrev cX6_isClient : ByteArray := prog_1_method_40_code
def yX6_isClient : MethodName := ⟨RX6, "isClient", "(I)Z"⟩
abbrev cX6_isGroup : ByteArray := prog_1_method_41_code
def yX6_isGroup : MethodName := ⟨RX6, "isGroup", "(I)Z"⟩
abbrev cX6_requireAddress : ByteArray := prog_1_method_42_code
def yX6_requireAddress : MethodName := ⟨RX6, "requireAddress", "(I)V"⟩
abbrev cX6_requireClient : ByteArray := prog_1_method_43_code
def yX6_requireClient : MethodName := ⟨RX6, "requireClient", "(I)V"⟩
abbrev cX6_requireGroup : ByteArray := prog_1_method_44_code
def yX6_requireGroup : MethodName := ⟨RX6, "requireGroup", "(I)V"⟩
abbrev cX6_requirePool : ByteArray := prog_1_method_45_code
def yX6_requirePool : MethodName := ⟨RX6, "requirePool", "(I)V"⟩
abbrev cX6_requireInPool : ByteArray := prog_1_method_46_code
def yX6_requireInPool : MethodName := ⟨RX6, "requireInPool", "(I)V"⟩
abbrev cX6_requireBound : ByteArray := prog_1_method_47_code
def yX6_requireBound : MethodName := ⟨RX6, "requireBound", "(I)V"⟩
abbrev cX6_eventAt : ByteArray := prog_1_method_48_code
def yX6_eventAt : MethodName := ⟨RX6, "eventAt", "(III)I"⟩
abbrev cX6_timeOfEvent : ByteArray := prog_1_method_49_code
def yX6_timeOfEvent : MethodName := ⟨RX6, "timeOfEvent", "(I)I"⟩
abbrev cX6_kindOfEvent : ByteArray := prog_1_method_50_code
def yX6_kindOfEvent : MethodName := ⟨RX6, "kindOfEvent", "(I)I"⟩
abbrev cX6_addressOfEvent : ByteArray := prog_1_method_51_code
def yX6_addressOfEvent : MethodName := ⟨RX6, "addressOfEvent", "(I)I"⟩
abbrev cX6_copyNumbers : ByteArray := prog_1_method_52_code
def yX6_copyNumbers : MethodName := ⟨RX6, "copyNumbers", "([I[I)V"⟩
abbrev cX6_copyFlags : ByteArray := prog_1_method_53_code
def yX6_copyFlags : MethodName := ⟨RX6, "copyFlags", "([Z[Z)V"⟩
def RX7 : String := "LeaseServerModel"
def TX7 : u_T := fun k => match k with
  | 0 => ("LeaseServerModel", "thrown", "I", false)
  | 1 => ("LeaseServerModel", "now", "[I", true)
  | 2 => ("LeaseServerModel", "saved", "[I", true)
  | 3 => ("LeaseServerModel", "isSaved", "Z", false)
  | 4 => ("LeaseServerModel", "log", "[I", true)
  | _ => ("LeaseServerModel", "logged", "I", false)
def tyX7 : Nat → FieldType := fun k => match k with
  | 0 => .int
  | 1 => .array .int
  | 2 => .array .int
  | 3 => .boolean
  | 4 => .array .int
  | _ => .int
abbrev wsX70 : List Cond := u_ws RX7 TX7 6
theorem nmX7 : ∀ a, a < 6 → ∀ b, b < 6 → a ≠ b → (TX7 a).2.1 ≠ (TX7 b).2.1 := by decide +kernel
theorem tyX7_ok : ∀ k, k < 6 → parseFieldDescriptor (TX7 k).2.2.1 = some (tyX7 k) := by decide +kernel
abbrev cX7_init : ByteArray := prog_9_method_1_code
def yX7_init : MethodName := ⟨RX7, "<init>", "()V"⟩
abbrev cX7_thrown : ByteArray := prog_9_method_2_code
def yX7_thrown : MethodName := ⟨RX7, "thrown", "()I"⟩
abbrev cX7_in : ByteArray := prog_9_method_3_code
def yX7_in : MethodName := ⟨RX7, "in", "(III)Z"⟩
abbrev cX7_raises : ByteArray := prog_9_method_4_code
def yX7_raises : MethodName := ⟨RX7, "raises", "(I)I"⟩
abbrev cX7_isAddress : ByteArray := prog_9_method_5_code
def yX7_isAddress : MethodName := ⟨RX7, "isAddress", "(I)Z"⟩
abbrev cX7_isClient : ByteArray := prog_9_method_6_code
def yX7_isClient : MethodName := ⟨RX7, "isClient", "(I)Z"⟩
abbrev cX7_isGroup : ByteArray := prog_9_method_7_code
def yX7_isGroup : MethodName := ⟨RX7, "isGroup", "(I)Z"⟩
abbrev cX7_sets : ByteArray := prog_9_method_8_code
def yX7_sets : MethodName := ⟨RX7, "sets", "(II)I"⟩
abbrev cX7_logs : ByteArray := prog_9_method_9_code
def yX7_logs : MethodName := ⟨RX7, "logs", "(II)V"⟩
abbrev cX7_pool : ByteArray := prog_9_method_10_code
def yX7_pool : MethodName := ⟨RX7, "pool", "(I)I"⟩
abbrev cX7_owner : ByteArray := prog_9_method_11_code
def yX7_owner : MethodName := ⟨RX7, "owner", "(I)I"⟩
abbrev cX7_groupOf : ByteArray := prog_9_method_12_code
def yX7_groupOf : MethodName := ⟨RX7, "groupOf", "(I)I"⟩
abbrev cX7_addPool : ByteArray := prog_9_method_13_code
def yX7_addPool : MethodName := ⟨RX7, "addPool", "(IIII)I"⟩
abbrev cX7_isPool : ByteArray := prog_9_method_14_code
def yX7_isPool : MethodName := ⟨RX7, "isPool", "(I)Z"⟩
abbrev cX7_removePool : ByteArray := prog_9_method_15_code
def yX7_removePool : MethodName := ⟨RX7, "removePool", "(I)I"⟩
abbrev cX7_poolCount : ByteArray := prog_9_method_16_code
def yX7_poolCount : MethodName := ⟨RX7, "poolCount", "()I"⟩
abbrev cX7_isCandidate : ByteArray := prog_9_method_17_code
def yX7_isCandidate : MethodName := ⟨RX7, "isCandidate", "(II)Z"⟩
abbrev cX7_pool_ : ByteArray := prog_9_method_18_code
def yX7_pool_ : MethodName := ⟨RX7, "pool", "(II)I"⟩
abbrev cX7_poolOf : ByteArray := prog_9_method_19_code
def yX7_poolOf : MethodName := ⟨RX7, "poolOf", "(I)I"⟩
abbrev cX7_flips : ByteArray := prog_9_method_20_code
def yX7_flips : MethodName := ⟨RX7, "flips", "(ZIZ)Z"⟩
abbrev cX7_exclude : ByteArray := prog_9_method_21_code
def yX7_exclude : MethodName := ⟨RX7, "exclude", "(IZ)Z"⟩
abbrev cX7_setStranger : ByteArray := prog_9_method_22_code
def yX7_setStranger : MethodName := ⟨RX7, "setStranger", "(IZ)Z"⟩
abbrev cX7_setHold : ByteArray := prog_9_method_23_code
def yX7_setHold : MethodName := ⟨RX7, "setHold", "(I)I"⟩
abbrev cX7_setQuarantine : ByteArray := prog_9_method_24_code
def yX7_setQuarantine : MethodName := ⟨RX7, "setQuarantine", "(I)I"⟩
abbrev cX7_setDirect : ByteArray := prog_9_method_25_code
def yX7_setDirect : MethodName := ⟨RX7, "setDirect", "(IZ)Z"⟩
abbrev cX7_setRelay : ByteArray := prog_9_method_26_code
def yX7_setRelay : MethodName := ⟨RX7, "setRelay", "(IZ)Z"⟩
abbrev cX7_frees : ByteArray := prog_9_method_27_code
def yX7_frees : MethodName := ⟨RX7, "frees", "(II)V"⟩
abbrev cX7_declines : ByteArray := prog_9_method_28_code
def yX7_declines : MethodName := ⟨RX7, "declines", "(I)V"⟩
abbrev cX7_isBound : ByteArray := prog_9_method_29_code
def yX7_isBound : MethodName := ⟨RX7, "isBound", "(I)Z"⟩
abbrev cX7_candidate : ByteArray := prog_9_method_30_code
def yX7_candidate : MethodName := ⟨RX7, "candidate", "(III)I"⟩
abbrev cX7_discover : ByteArray := prog_9_method_31_code
def yX7_discover : MethodName := ⟨RX7, "discover", "(III)I"⟩
abbrev cX7_lasts : ByteArray := prog_9_method_32_code
def yX7_lasts : MethodName := ⟨RX7, "lasts", "(II)V"⟩
abbrev cX7_accept : ByteArray := prog_9_method_33_code
def yX7_accept : MethodName := ⟨RX7, "accept", "(I)I"⟩
abbrev cX7_lacksLease : ByteArray := prog_9_method_34_code
def yX7_lacksLease : MethodName := ⟨RX7, "lacksLease", "(I)I"⟩
abbrev cX7_release : ByteArray := prog_9_method_35_code
def yX7_release : MethodName := ⟨RX7, "release", "(I)I"⟩
abbrev cX7_decline : ByteArray := prog_9_method_36_code
def yX7_decline : MethodName := ⟨RX7, "decline", "(I)I"⟩
abbrev cX7_renews : ByteArray := prog_9_method_37_code
def yX7_renews : MethodName := ⟨RX7, "renews", "(II)Z"⟩
abbrev cX7_renew : ByteArray := prog_9_method_38_code
def yX7_renew : MethodName := ⟨RX7, "renew", "(I)Z"⟩
abbrev cX7_stateOf : ByteArray := prog_9_method_39_code
def yX7_stateOf : MethodName := ⟨RX7, "stateOf", "(I)I"⟩
abbrev cX7_due : ByteArray := prog_9_method_40_code
def yX7_due : MethodName := ⟨RX7, "due", "(I)I"⟩
abbrev cX7_kind : ByteArray := prog_9_method_41_code
def yX7_kind : MethodName := ⟨RX7, "kind", "(I)I"⟩
abbrev cX7_earliest : ByteArray := prog_9_method_42_code
def yX7_earliest : MethodName := ⟨RX7, "earliest", "()I"⟩
abbrev cX7_happens : ByteArray := prog_9_method_43_code
def yX7_happens : MethodName := ⟨RX7, "happens", "(II)V"⟩
abbrev cX7_happen : ByteArray := prog_9_method_44_code
def yX7_happen : MethodName := ⟨RX7, "happen", "(I)I"⟩
abbrev cX7_advance : ByteArray := prog_9_method_45_code
def yX7_advance : MethodName := ⟨RX7, "advance", "(I)I"⟩
abbrev cX7_advanceToEvent : ByteArray := prog_9_method_46_code
def yX7_advanceToEvent : MethodName := ⟨RX7, "advanceToEvent", "()I"⟩
abbrev cX7_time : ByteArray := prog_9_method_47_code
def yX7_time : MethodName := ⟨RX7, "time", "()I"⟩
abbrev cX7_clientState : ByteArray := prog_9_method_48_code
def yX7_clientState : MethodName := ⟨RX7, "clientState", "(I)I"⟩
abbrev cX7_addressOf : ByteArray := prog_9_method_49_code
def yX7_addressOf : MethodName := ⟨RX7, "addressOf", "(I)I"⟩
abbrev cX7_remembered : ByteArray := prog_9_method_50_code
def yX7_remembered : MethodName := ⟨RX7, "remembered", "(I)I"⟩
abbrev cX7_timer : ByteArray := prog_9_method_51_code
def yX7_timer : MethodName := ⟨RX7, "timer", "(II)I"⟩
abbrev cX7_lacks : ByteArray := prog_9_method_52_code
def yX7_lacks : MethodName := ⟨RX7, "lacks", "(I)I"⟩
abbrev cX7_addressState : ByteArray := prog_9_method_53_code
def yX7_addressState : MethodName := ⟨RX7, "addressState", "(I)I"⟩
abbrev cX7_holder : ByteArray := prog_9_method_54_code
def yX7_holder : MethodName := ⟨RX7, "holder", "(I)I"⟩
abbrev cX7_until : ByteArray := prog_9_method_55_code
def yX7_until : MethodName := ⟨RX7, "until", "(I)I"⟩
abbrev cX7_freeSince : ByteArray := prog_9_method_56_code
def yX7_freeSince : MethodName := ⟨RX7, "freeSince", "(I)I"⟩
abbrev cX7_nextCandidate : ByteArray := prog_9_method_57_code
def yX7_nextCandidate : MethodName := ⟨RX7, "nextCandidate", "(II)I"⟩
abbrev cX7_count : ByteArray := prog_9_method_58_code
def yX7_count : MethodName := ⟨RX7, "count", "(II)I"⟩
abbrev cX7_countState : ByteArray := prog_9_method_59_code
def yX7_countState : MethodName := ⟨RX7, "countState", "(II)I"⟩
abbrev cX7_boundOnes : ByteArray := prog_9_method_60_code
def yX7_boundOnes : MethodName := ⟨RX7, "boundOnes", "()I"⟩
abbrev cX7_bound : ByteArray := prog_9_method_61_code
def yX7_bound : MethodName := ⟨RX7, "bound", "()I"⟩
abbrev cX7_conflicts : ByteArray := prog_9_method_62_code
def yX7_conflicts : MethodName := ⟨RX7, "conflicts", "()I"⟩
abbrev cX7_logSize : ByteArray := prog_9_method_63_code
def yX7_logSize : MethodName := ⟨RX7, "logSize", "()I"⟩
abbrev cX7_log : ByteArray := prog_9_method_64_code
def yX7_log : MethodName := ⟨RX7, "log", "(I)I"⟩
abbrev cX7_utilization : ByteArray := prog_9_method_65_code
def yX7_utilization : MethodName := ⟨RX7, "utilization", "(I)D"⟩
abbrev cX7_averageRest : ByteArray := prog_9_method_66_code
def yX7_averageRest : MethodName := ⟨RX7, "averageRest", "()F"⟩
abbrev cX7_save : ByteArray := prog_9_method_67_code
def yX7_save : MethodName := ⟨RX7, "save", "()I"⟩
abbrev cX7_restore : ByteArray := prog_9_method_68_code
def yX7_restore : MethodName := ⟨RX7, "restore", "()I"⟩
def RJx145de : String := "java/io/Serializable"
def TJx145de : u_T := fun k => match k with
  | _ => ("", "", "", false)
def tyJx145de : Nat → FieldType := fun k => match k with
  | _ => .int
abbrev wsJx145de0 : List Cond := u_ws RJx145de TJx145de 0
theorem nmJx145de : ∀ a, a < 0 → ∀ b, b < 0 → a ≠ b → (TJx145de a).2.1 ≠ (TJx145de b).2.1 := by decide +kernel
theorem tyJx145de_ok : ∀ k, k < 0 → parseFieldDescriptor (TJx145de k).2.2.1 = some (tyJx145de k) := by decide +kernel
def RJx00060 : String := "java/lang/ArrayIndexOutOfBoundsException"
def TJx00060 : u_T := fun k => match k with
  | 0 => ("java/lang/Throwable", "backtrace", "Ljava/lang/Object;", false)
  | 1 => ("java/lang/Throwable", "detailMessage", "Ljava/lang/String;", false)
  | 2 => ("java/lang/Throwable", "cause", "Ljava/lang/Throwable;", false)
  | 3 => ("java/lang/Throwable", "stackTrace", "[Ljava/lang/StackTraceElement;", false)
  | 4 => ("java/lang/Throwable", "depth", "I", false)
  | _ => ("java/lang/Throwable", "suppressedExceptions", "Ljava/util/List;", false)
def tyJx00060 : Nat → FieldType := fun k => match k with
  | 0 => .object "java/lang/Object"
  | 1 => .object "java/lang/String"
  | 2 => .object "java/lang/Throwable"
  | 3 => .array (.object "java/lang/StackTraceElement")
  | 4 => .int
  | _ => .object "java/util/List"
abbrev wsJx000600 : List Cond := u_ws RJx00060 TJx00060 6
theorem nmJx00060 : ∀ a, a < 6 → ∀ b, b < 6 → a ≠ b → (TJx00060 a).2.1 ≠ (TJx00060 b).2.1 := by decide +kernel
theorem tyJx00060_ok : ∀ k, k < 6 → parseFieldDescriptor (TJx00060 k).2.2.1 = some (tyJx00060 k) := by decide +kernel
abbrev cJx00060_init_a7421 : ByteArray := prog_12_method_2_code
def yJx00060_init_a7421 : MethodName := ⟨RJx00060, "<init>", "(Ljava/lang/String;)V"⟩
def RJ9 : String := "java/lang/Math"
def TJ9 : u_T := fun k => match k with
  | _ => ("", "", "", false)
def tyJ9 : Nat → FieldType := fun k => match k with
  | _ => .int
abbrev wsJ90 : List Cond := u_ws RJ9 TJ9 0
theorem nmJ9 : ∀ a, a < 0 → ∀ b, b < 0 → a ≠ b → (TJ9 a).2.1 ≠ (TJ9 b).2.1 := by decide +kernel
theorem tyJ9_ok : ∀ k, k < 0 → parseFieldDescriptor (TJ9 k).2.2.1 = some (tyJ9 k) := by decide +kernel
abbrev cJ9_floorMod_7cf53 : ByteArray := prog_17_method_50_code
def yJ9_floorMod_7cf53 : MethodName := ⟨RJ9, "floorMod", "(II)I"⟩
abbrev cJ9_max_7cf53 : ByteArray := prog_17_method_65_code
def yJ9_max_7cf53 : MethodName := ⟨RJ9, "max", "(II)I"⟩
abbrev cJ9_min_7cf53 : ByteArray := prog_17_method_69_code
def yJ9_min_7cf53 : MethodName := ⟨RJ9, "min", "(II)I"⟩
def RJ0 : String := "java/lang/String"
def TJ0 : u_T := fun k => match k with
  | 0 => ("java/lang/String", "value", "[B", true)
  | _ => ("java/lang/String", "coder", "B", true)
def tyJ0 : Nat → FieldType := fun k => match k with
  | 0 => .array .byte
  | _ => .byte
abbrev wsJ00 : List Cond := u_ws RJ0 TJ0 2
theorem nmJ0 : ∀ a, a < 2 → ∀ b, b < 2 → a ≠ b → (TJ0 a).2.1 ≠ (TJ0 b).2.1 := by decide +kernel
theorem tyJ0_ok : ∀ k, k < 2 → parseFieldDescriptor (TJ0 k).2.2.1 = some (tyJ0 k) := by decide +kernel
def RJ10 : String := "java/lang/System"
def TJ10 : u_T := fun k => match k with
  | _ => ("", "", "", false)
def tyJ10 : Nat → FieldType := fun k => match k with
  | _ => .int
abbrev wsJ100 : List Cond := u_ws RJ10 TJ10 0
theorem nmJ10 : ∀ a, a < 0 → ∀ b, b < 0 → a ≠ b → (TJ10 a).2.1 ≠ (TJ10 b).2.1 := by decide +kernel
theorem tyJ10_ok : ∀ k, k < 0 → parseFieldDescriptor (TJ10 k).2.2.1 = some (tyJ10 k) := by decide +kernel
def RJ7 : String := "java/util/Arrays"
def TJ7 : u_T := fun k => match k with
  | _ => ("", "", "", false)
def tyJ7 : Nat → FieldType := fun k => match k with
  | _ => .int
abbrev wsJ70 : List Cond := u_ws RJ7 TJ7 0
theorem nmJ7 : ∀ a, a < 0 → ∀ b, b < 0 → a ≠ b → (TJ7 a).2.1 ≠ (TJ7 b).2.1 := by decide +kernel
theorem tyJ7_ok : ∀ k, k < 0 → parseFieldDescriptor (TJ7 k).2.2.1 = some (tyJ7 k) := by decide +kernel
abbrev cJ7_fill_53178 : ByteArray := prog_22_method_103_code
def yJ7_fill_53178 : MethodName := ⟨RJ7, "fill", "([II)V"⟩
def RL : String := "LeaseServerLaw"
abbrev cL_addPool : ByteArray := method_3_code
def yL_addPool : MethodName := ⟨RL, "addPool", "(LLeaseServer;IIII[J)I"⟩
abbrev cL_removePool : ByteArray := method_4_code
def yL_removePool : MethodName := ⟨RL, "removePool", "(LLeaseServer;I[J)I"⟩
abbrev cL_pool : ByteArray := method_5_code
def yL_pool : MethodName := ⟨RL, "pool", "(LLeaseServer;II[J)I"⟩
abbrev cL_poolOf : ByteArray := method_6_code
def yL_poolOf : MethodName := ⟨RL, "poolOf", "(LLeaseServer;I[J)I"⟩
abbrev cL_exclude : ByteArray := method_7_code
def yL_exclude : MethodName := ⟨RL, "exclude", "(LLeaseServer;IZ[J)I"⟩
abbrev cL_setStranger : ByteArray := method_8_code
def yL_setStranger : MethodName := ⟨RL, "setStranger", "(LLeaseServer;IZ[J)I"⟩
abbrev cL_setHold : ByteArray := method_9_code
def yL_setHold : MethodName := ⟨RL, "setHold", "(LLeaseServer;I[J)I"⟩
abbrev cL_setQuarantine : ByteArray := method_10_code
def yL_setQuarantine : MethodName := ⟨RL, "setQuarantine", "(LLeaseServer;I[J)I"⟩
abbrev cL_setDirect : ByteArray := method_11_code
def yL_setDirect : MethodName := ⟨RL, "setDirect", "(LLeaseServer;IZ[J)I"⟩
abbrev cL_setRelay : ByteArray := method_12_code
def yL_setRelay : MethodName := ⟨RL, "setRelay", "(LLeaseServer;IZ[J)I"⟩
abbrev cL_discover : ByteArray := method_13_code
def yL_discover : MethodName := ⟨RL, "discover", "(LLeaseServer;III[J)I"⟩
abbrev cL_accept : ByteArray := method_14_code
def yL_accept : MethodName := ⟨RL, "accept", "(LLeaseServer;I[J)I"⟩
abbrev cL_release : ByteArray := method_15_code
def yL_release : MethodName := ⟨RL, "release", "(LLeaseServer;I[J)I"⟩
abbrev cL_decline : ByteArray := method_16_code
def yL_decline : MethodName := ⟨RL, "decline", "(LLeaseServer;I[J)I"⟩
abbrev cL_renew : ByteArray := method_17_code
def yL_renew : MethodName := ⟨RL, "renew", "(LLeaseServer;I[J)I"⟩
abbrev cL_advance : ByteArray := method_18_code
def yL_advance : MethodName := ⟨RL, "advance", "(LLeaseServer;I[J)I"⟩
abbrev cL_advanceToEvent : ByteArray := method_19_code
def yL_advanceToEvent : MethodName := ⟨RL, "advanceToEvent", "(LLeaseServer;[J)I"⟩
abbrev cL_clientState : ByteArray := method_20_code
def yL_clientState : MethodName := ⟨RL, "clientState", "(LLeaseServer;I[J)I"⟩
abbrev cL_addressOf : ByteArray := method_21_code
def yL_addressOf : MethodName := ⟨RL, "addressOf", "(LLeaseServer;I[J)I"⟩
abbrev cL_remembered : ByteArray := method_22_code
def yL_remembered : MethodName := ⟨RL, "remembered", "(LLeaseServer;I[J)I"⟩
abbrev cL_timer : ByteArray := method_23_code
def yL_timer : MethodName := ⟨RL, "timer", "(LLeaseServer;II[J)I"⟩
abbrev cL_addressState : ByteArray := method_24_code
def yL_addressState : MethodName := ⟨RL, "addressState", "(LLeaseServer;I[J)I"⟩
abbrev cL_holder : ByteArray := method_25_code
def yL_holder : MethodName := ⟨RL, "holder", "(LLeaseServer;I[J)I"⟩
abbrev cL_until : ByteArray := method_26_code
def yL_until : MethodName := ⟨RL, "until", "(LLeaseServer;I[J)I"⟩
abbrev cL_freeSince : ByteArray := method_27_code
def yL_freeSince : MethodName := ⟨RL, "freeSince", "(LLeaseServer;I[J)I"⟩
abbrev cL_nextCandidate : ByteArray := method_28_code
def yL_nextCandidate : MethodName := ⟨RL, "nextCandidate", "(LLeaseServer;II[J)I"⟩
abbrev cL_countState : ByteArray := method_29_code
def yL_countState : MethodName := ⟨RL, "countState", "(LLeaseServer;II[J)I"⟩
abbrev cL_log : ByteArray := method_30_code
def yL_log : MethodName := ⟨RL, "log", "(LLeaseServer;I[J)I"⟩
abbrev cL_utilization : ByteArray := method_31_code
def yL_utilization : MethodName := ⟨RL, "utilization", "(LLeaseServer;I[D)I"⟩
abbrev cL_averageRest : ByteArray := method_32_code
def yL_averageRest : MethodName := ⟨RL, "averageRest", "(LLeaseServer;[D)I"⟩
abbrev cL_restore : ByteArray := method_33_code
def yL_restore : MethodName := ⟨RL, "restore", "(LLeaseServer;[J)I"⟩
abbrev cL_law : ByteArray := code
def yL_law : MethodName := ⟨RL, "law", "([I)Z"⟩
end
section
theorem dX0_init_0 : decode cX0_init 0 = .ok (.aload_n 0, 1) := by decide +kernel
theorem dX0_init_1 : decode cX0_init 1 = .ok (.invokespecial 3, 3) := by decide +kernel
theorem dX0_init_4 : decode cX0_init 4 = .ok (.aload_n 0, 1) := by decide +kernel
theorem dX0_init_5 : decode cX0_init 5 = .ok (.bipush 100, 2) := by decide +kernel
theorem dX0_init_7 : decode cX0_init 7 = .ok (.newarray .boolean, 2) := by decide +kernel
theorem dX0_init_9 : decode cX0_init 9 = .ok (.putfield 9, 3) := by decide +kernel
theorem dX0_init_12 : decode cX0_init 12 = .ok (.aload_n 0, 1) := by decide +kernel
theorem dX0_init_13 : decode cX0_init 13 = .ok (.bipush 100, 2) := by decide +kernel
theorem dX0_init_15 : decode cX0_init 15 = .ok (.newarray .boolean, 2) := by decide +kernel
theorem dX0_init_17 : decode cX0_init 17 = .ok (.putfield 15, 3) := by decide +kernel
theorem dX0_init_20 : decode cX0_init 20 = .ok (.aload_n 0, 1) := by decide +kernel
theorem dX0_init_21 : decode cX0_init 21 = .ok (.bipush 100, 2) := by decide +kernel
theorem dX0_init_23 : decode cX0_init 23 = .ok (.newarray .int, 2) := by decide +kernel
theorem dX0_init_25 : decode cX0_init 25 = .ok (.putfield 18, 3) := by decide +kernel
theorem dX0_init_28 : decode cX0_init 28 = .ok (.aload_n 0, 1) := by decide +kernel
theorem dX0_init_29 : decode cX0_init 29 = .ok (.bipush 100, 2) := by decide +kernel
theorem dX0_init_31 : decode cX0_init 31 = .ok (.newarray .int, 2) := by decide +kernel
theorem dX0_init_33 : decode cX0_init 33 = .ok (.putfield 22, 3) := by decide +kernel
theorem dX0_init_36 : decode cX0_init 36 = .ok (.aload_n 0, 1) := by decide +kernel
theorem dX0_init_37 : decode cX0_init 37 = .ok (.bipush 100, 2) := by decide +kernel
theorem dX0_init_39 : decode cX0_init 39 = .ok (.newarray .int, 2) := by decide +kernel
theorem dX0_init_41 : decode cX0_init 41 = .ok (.putfield 25, 3) := by decide +kernel
theorem dX0_init_44 : decode cX0_init 44 = .ok (.aload_n 0, 1) := by decide +kernel
theorem dX0_init_45 : decode cX0_init 45 = .ok (.bipush 100, 2) := by decide +kernel
theorem dX0_init_47 : decode cX0_init 47 = .ok (.newarray .int, 2) := by decide +kernel
theorem dX0_init_49 : decode cX0_init 49 = .ok (.putfield 28, 3) := by decide +kernel
theorem dX0_init_52 : decode cX0_init 52 = .ok (.aload_n 0, 1) := by decide +kernel
theorem dX0_init_53 : decode cX0_init 53 = .ok (.getfield 22, 3) := by decide +kernel
theorem dX0_init_56 : decode cX0_init 56 = .ok (.iconst (-1), 1) := by decide +kernel
theorem dX0_init_57 : decode cX0_init 57 = .ok (.invokestatic 31, 3) := by decide +kernel
theorem dX0_init_60 : decode cX0_init 60 = .ok (.aload_n 0, 1) := by decide +kernel
theorem dX0_init_61 : decode cX0_init 61 = .ok (.getfield 28, 3) := by decide +kernel
theorem dX0_init_64 : decode cX0_init 64 = .ok (.iconst (-1), 1) := by decide +kernel
theorem dX0_init_65 : decode cX0_init 65 = .ok (.invokestatic 31, 3) := by decide +kernel
theorem dX0_init_68 : decode cX0_init 68 = .ok (.return_, 1) := by decide +kernel
theorem dX0_makeFresh_0 : decode cX0_makeFresh 0 = .ok (.iload_n 1, 1) := by decide +kernel
theorem dX0_makeFresh_1 : decode cX0_makeFresh 1 = .ok (.iconst 0, 1) := by decide +kernel
theorem dX0_makeFresh_2 : decode cX0_makeFresh 2 = .ok (.invokestatic 37, 3) := by decide +kernel
theorem dX0_makeFresh_5 : decode cX0_makeFresh 5 = .ok (.istore_n 3, 1) := by decide +kernel
theorem dX0_makeFresh_6 : decode cX0_makeFresh 6 = .ok (.iload_n 3, 1) := by decide +kernel
theorem dX0_makeFresh_7 : decode cX0_makeFresh 7 = .ok (.bipush 100, 2) := by decide +kernel
theorem dX0_makeFresh_9 : decode cX0_makeFresh 9 = .ok (.if_icmp .ge 20, 3) := by decide +kernel
theorem dX0_makeFresh_12 : decode cX0_makeFresh 12 = .ok (.iload_n 3, 1) := by decide +kernel
theorem dX0_makeFresh_13 : decode cX0_makeFresh 13 = .ok (.iload_n 2, 1) := by decide +kernel
theorem dX0_makeFresh_14 : decode cX0_makeFresh 14 = .ok (.if_icmp .gt 15, 3) := by decide +kernel
theorem dX0_makeFresh_17 : decode cX0_makeFresh 17 = .ok (.aload_n 0, 1) := by decide +kernel
theorem dX0_makeFresh_18 : decode cX0_makeFresh 18 = .ok (.iload_n 3, 1) := by decide +kernel
theorem dX0_makeFresh_19 : decode cX0_makeFresh 19 = .ok (.iconst (-1), 1) := by decide +kernel
theorem dX0_makeFresh_20 : decode cX0_makeFresh 20 = .ok (.invokevirtual 43, 3) := by decide +kernel
theorem dX0_makeFresh_23 : decode cX0_makeFresh 23 = .ok (.iinc 3 1, 3) := by decide +kernel
theorem dX0_makeFresh_26 : decode cX0_makeFresh 26 = .ok (.goto (-20), 3) := by decide +kernel
theorem dX0_makeFresh_29 : decode cX0_makeFresh 29 = .ok (.return_, 1) := by decide +kernel
theorem dX0_becomeFree_0 : decode cX0_becomeFree 0 = .ok (.iload_n 1, 1) := by decide +kernel
theorem dX0_becomeFree_1 : decode cX0_becomeFree 1 = .ok (.invokestatic 47, 3) := by decide +kernel
theorem dX0_becomeFree_4 : decode cX0_becomeFree 4 = .ok (.ifCond .eq 24, 3) := by decide +kernel
theorem dX0_becomeFree_7 : decode cX0_becomeFree 7 = .ok (.aload_n 0, 1) := by decide +kernel
theorem dX0_becomeFree_8 : decode cX0_becomeFree 8 = .ok (.getfield 18, 3) := by decide +kernel
theorem dX0_becomeFree_11 : decode cX0_becomeFree 11 = .ok (.iload_n 1, 1) := by decide +kernel
theorem dX0_becomeFree_12 : decode cX0_becomeFree 12 = .ok (.iconst 0, 1) := by decide +kernel
theorem dX0_becomeFree_13 : decode cX0_becomeFree 13 = .ok (.iastore, 1) := by decide +kernel
theorem dX0_becomeFree_14 : decode cX0_becomeFree 14 = .ok (.aload_n 0, 1) := by decide +kernel
theorem dX0_becomeFree_15 : decode cX0_becomeFree 15 = .ok (.getfield 22, 3) := by decide +kernel
theorem dX0_becomeFree_18 : decode cX0_becomeFree 18 = .ok (.iload_n 1, 1) := by decide +kernel
theorem dX0_becomeFree_19 : decode cX0_becomeFree 19 = .ok (.iconst (-1), 1) := by decide +kernel
theorem dX0_becomeFree_20 : decode cX0_becomeFree 20 = .ok (.iastore, 1) := by decide +kernel
theorem dX0_becomeFree_21 : decode cX0_becomeFree 21 = .ok (.aload_n 0, 1) := by decide +kernel
theorem dX0_becomeFree_22 : decode cX0_becomeFree 22 = .ok (.getfield 28, 3) := by decide +kernel
theorem dX0_becomeFree_25 : decode cX0_becomeFree 25 = .ok (.iload_n 1, 1) := by decide +kernel
theorem dX0_becomeFree_26 : decode cX0_becomeFree 26 = .ok (.iload_n 2, 1) := by decide +kernel
theorem dX0_becomeFree_27 : decode cX0_becomeFree 27 = .ok (.iastore, 1) := by decide +kernel
theorem dX0_becomeFree_28 : decode cX0_becomeFree 28 = .ok (.return_, 1) := by decide +kernel
theorem dX0_becomeHeld_0 : decode cX0_becomeHeld 0 = .ok (.iload_n 1, 1) := by decide +kernel
theorem dX0_becomeHeld_1 : decode cX0_becomeHeld 1 = .ok (.invokestatic 47, 3) := by decide +kernel
theorem dX0_becomeHeld_4 : decode cX0_becomeHeld 4 = .ok (.ifCond .eq 25, 3) := by decide +kernel
theorem dX0_becomeHeld_7 : decode cX0_becomeHeld 7 = .ok (.aload_n 0, 1) := by decide +kernel
theorem dX0_becomeHeld_8 : decode cX0_becomeHeld 8 = .ok (.getfield 18, 3) := by decide +kernel
theorem dX0_becomeHeld_11 : decode cX0_becomeHeld 11 = .ok (.iload_n 1, 1) := by decide +kernel
theorem dX0_becomeHeld_12 : decode cX0_becomeHeld 12 = .ok (.iload_n 2, 1) := by decide +kernel
theorem dX0_becomeHeld_13 : decode cX0_becomeHeld 13 = .ok (.iastore, 1) := by decide +kernel
theorem dX0_becomeHeld_14 : decode cX0_becomeHeld 14 = .ok (.aload_n 0, 1) := by decide +kernel
theorem dX0_becomeHeld_15 : decode cX0_becomeHeld 15 = .ok (.getfield 22, 3) := by decide +kernel
theorem dX0_becomeHeld_18 : decode cX0_becomeHeld 18 = .ok (.iload_n 1, 1) := by decide +kernel
theorem dX0_becomeHeld_19 : decode cX0_becomeHeld 19 = .ok (.iload_n 3, 1) := by decide +kernel
theorem dX0_becomeHeld_20 : decode cX0_becomeHeld 20 = .ok (.iastore, 1) := by decide +kernel
theorem dX0_becomeHeld_21 : decode cX0_becomeHeld 21 = .ok (.aload_n 0, 1) := by decide +kernel
theorem dX0_becomeHeld_22 : decode cX0_becomeHeld 22 = .ok (.getfield 25, 3) := by decide +kernel
theorem dX0_becomeHeld_25 : decode cX0_becomeHeld 25 = .ok (.iload_n 1, 1) := by decide +kernel
theorem dX0_becomeHeld_26 : decode cX0_becomeHeld 26 = .ok (.iload 4, 2) := by decide +kernel
theorem dX0_becomeHeld_28 : decode cX0_becomeHeld 28 = .ok (.iastore, 1) := by decide +kernel
theorem dX0_becomeHeld_29 : decode cX0_becomeHeld 29 = .ok (.return_, 1) := by decide +kernel
theorem dX0_becomeDeclined_0 : decode cX0_becomeDeclined 0 = .ok (.aload_n 0, 1) := by decide +kernel
theorem dX0_becomeDeclined_1 : decode cX0_becomeDeclined 1 = .ok (.iload_n 1, 1) := by decide +kernel
theorem dX0_becomeDeclined_2 : decode cX0_becomeDeclined 2 = .ok (.iconst 3, 1) := by decide +kernel
theorem dX0_becomeDeclined_3 : decode cX0_becomeDeclined 3 = .ok (.iconst (-1), 1) := by decide +kernel
theorem dX0_becomeDeclined_4 : decode cX0_becomeDeclined 4 = .ok (.iload_n 2, 1) := by decide +kernel
theorem dX0_becomeDeclined_5 : decode cX0_becomeDeclined 5 = .ok (.invokevirtual 51, 3) := by decide +kernel
theorem dX0_becomeDeclined_8 : decode cX0_becomeDeclined 8 = .ok (.return_, 1) := by decide +kernel
theorem dX0_isOfferable_0 : decode cX0_isOfferable 0 = .ok (.iload_n 1, 1) := by decide +kernel
theorem dX0_isOfferable_1 : decode cX0_isOfferable 1 = .ok (.invokestatic 47, 3) := by decide +kernel
theorem dX0_isOfferable_4 : decode cX0_isOfferable 4 = .ok (.ifCond .eq 25, 3) := by decide +kernel
theorem dX0_isOfferable_7 : decode cX0_isOfferable 7 = .ok (.aload_n 0, 1) := by decide +kernel
theorem dX0_isOfferable_8 : decode cX0_isOfferable 8 = .ok (.getfield 18, 3) := by decide +kernel
theorem dX0_isOfferable_11 : decode cX0_isOfferable 11 = .ok (.iload_n 1, 1) := by decide +kernel
theorem dX0_isOfferable_12 : decode cX0_isOfferable 12 = .ok (.iaload, 1) := by decide +kernel
theorem dX0_isOfferable_13 : decode cX0_isOfferable 13 = .ok (.ifCond .ne 16, 3) := by decide +kernel
theorem dX0_isOfferable_16 : decode cX0_isOfferable 16 = .ok (.aload_n 0, 1) := by decide +kernel
theorem dX0_isOfferable_17 : decode cX0_isOfferable 17 = .ok (.getfield 9, 3) := by decide +kernel
theorem dX0_isOfferable_20 : decode cX0_isOfferable 20 = .ok (.iload_n 1, 1) := by decide +kernel
theorem dX0_isOfferable_21 : decode cX0_isOfferable 21 = .ok (.baload, 1) := by decide +kernel
theorem dX0_isOfferable_22 : decode cX0_isOfferable 22 = .ok (.ifCond .ne 7, 3) := by decide +kernel
theorem dX0_isOfferable_25 : decode cX0_isOfferable 25 = .ok (.iconst 1, 1) := by decide +kernel
theorem dX0_isOfferable_26 : decode cX0_isOfferable 26 = .ok (.goto 4, 3) := by decide +kernel
theorem dX0_isOfferable_29 : decode cX0_isOfferable 29 = .ok (.iconst 0, 1) := by decide +kernel
theorem dX0_isOfferable_30 : decode cX0_isOfferable 30 = .ok (.ireturn, 1) := by decide +kernel
theorem dX0_isFreeLonger_0 : decode cX0_isFreeLonger 0 = .ok (.iload_n 1, 1) := by decide +kernel
theorem dX0_isFreeLonger_1 : decode cX0_isFreeLonger 1 = .ok (.invokestatic 47, 3) := by decide +kernel
theorem dX0_isFreeLonger_4 : decode cX0_isFreeLonger 4 = .ok (.ifCond .eq 10, 3) := by decide +kernel
theorem dX0_isFreeLonger_7 : decode cX0_isFreeLonger 7 = .ok (.iload_n 2, 1) := by decide +kernel
theorem dX0_isFreeLonger_8 : decode cX0_isFreeLonger 8 = .ok (.invokestatic 47, 3) := by decide +kernel
theorem dX0_isFreeLonger_11 : decode cX0_isFreeLonger 11 = .ok (.ifCond .ne 5, 3) := by decide +kernel
theorem dX0_isFreeLonger_14 : decode cX0_isFreeLonger 14 = .ok (.iconst 0, 1) := by decide +kernel
theorem dX0_isFreeLonger_15 : decode cX0_isFreeLonger 15 = .ok (.ireturn, 1) := by decide +kernel
theorem dX0_isFreeLonger_16 : decode cX0_isFreeLonger 16 = .ok (.aload_n 0, 1) := by decide +kernel
theorem dX0_isFreeLonger_17 : decode cX0_isFreeLonger 17 = .ok (.getfield 28, 3) := by decide +kernel
theorem dX0_isFreeLonger_20 : decode cX0_isFreeLonger 20 = .ok (.iload_n 1, 1) := by decide +kernel
theorem dX0_isFreeLonger_21 : decode cX0_isFreeLonger 21 = .ok (.iaload, 1) := by decide +kernel
theorem dX0_isFreeLonger_22 : decode cX0_isFreeLonger 22 = .ok (.aload_n 0, 1) := by decide +kernel
theorem dX0_isFreeLonger_23 : decode cX0_isFreeLonger 23 = .ok (.getfield 28, 3) := by decide +kernel
theorem dX0_isFreeLonger_26 : decode cX0_isFreeLonger 26 = .ok (.iload_n 2, 1) := by decide +kernel
theorem dX0_isFreeLonger_27 : decode cX0_isFreeLonger 27 = .ok (.iaload, 1) := by decide +kernel
theorem dX0_isFreeLonger_28 : decode cX0_isFreeLonger 28 = .ok (.if_icmp .lt 23, 3) := by decide +kernel
theorem dX0_isFreeLonger_31 : decode cX0_isFreeLonger 31 = .ok (.aload_n 0, 1) := by decide +kernel
theorem dX0_isFreeLonger_32 : decode cX0_isFreeLonger 32 = .ok (.getfield 28, 3) := by decide +kernel
theorem dX0_isFreeLonger_35 : decode cX0_isFreeLonger 35 = .ok (.iload_n 1, 1) := by decide +kernel
theorem dX0_isFreeLonger_36 : decode cX0_isFreeLonger 36 = .ok (.iaload, 1) := by decide +kernel
theorem dX0_isFreeLonger_37 : decode cX0_isFreeLonger 37 = .ok (.aload_n 0, 1) := by decide +kernel
theorem dX0_isFreeLonger_38 : decode cX0_isFreeLonger 38 = .ok (.getfield 28, 3) := by decide +kernel
theorem dX0_isFreeLonger_41 : decode cX0_isFreeLonger 41 = .ok (.iload_n 2, 1) := by decide +kernel
theorem dX0_isFreeLonger_42 : decode cX0_isFreeLonger 42 = .ok (.iaload, 1) := by decide +kernel
theorem dX0_isFreeLonger_43 : decode cX0_isFreeLonger 43 = .ok (.if_icmp .ne 12, 3) := by decide +kernel
theorem dX0_isFreeLonger_46 : decode cX0_isFreeLonger 46 = .ok (.iload_n 1, 1) := by decide +kernel
theorem dX0_isFreeLonger_47 : decode cX0_isFreeLonger 47 = .ok (.iload_n 2, 1) := by decide +kernel
theorem dX0_isFreeLonger_48 : decode cX0_isFreeLonger 48 = .ok (.if_icmp .ge 7, 3) := by decide +kernel
theorem dX0_isFreeLonger_51 : decode cX0_isFreeLonger 51 = .ok (.iconst 1, 1) := by decide +kernel
theorem dX0_isFreeLonger_52 : decode cX0_isFreeLonger 52 = .ok (.goto 4, 3) := by decide +kernel
theorem dX0_isFreeLonger_55 : decode cX0_isFreeLonger 55 = .ok (.iconst 0, 1) := by decide +kernel
theorem dX0_isFreeLonger_56 : decode cX0_isFreeLonger 56 = .ok (.ireturn, 1) := by decide +kernel
theorem dX0_countIn_0 : decode cX0_countIn 0 = .ok (.iconst 0, 1) := by decide +kernel
theorem dX0_countIn_1 : decode cX0_countIn 1 = .ok (.istore 4, 2) := by decide +kernel
theorem dX0_countIn_3 : decode cX0_countIn 3 = .ok (.iload_n 1, 1) := by decide +kernel
theorem dX0_countIn_4 : decode cX0_countIn 4 = .ok (.iconst 0, 1) := by decide +kernel
theorem dX0_countIn_5 : decode cX0_countIn 5 = .ok (.invokestatic 37, 3) := by decide +kernel
theorem dX0_countIn_8 : decode cX0_countIn 8 = .ok (.istore 5, 2) := by decide +kernel
theorem dX0_countIn_10 : decode cX0_countIn 10 = .ok (.iload 5, 2) := by decide +kernel
theorem dX0_countIn_12 : decode cX0_countIn 12 = .ok (.bipush 100, 2) := by decide +kernel
theorem dX0_countIn_14 : decode cX0_countIn 14 = .ok (.if_icmp .ge 29, 3) := by decide +kernel
theorem dX0_countIn_17 : decode cX0_countIn 17 = .ok (.iload 5, 2) := by decide +kernel
theorem dX0_countIn_19 : decode cX0_countIn 19 = .ok (.iload_n 2, 1) := by decide +kernel
theorem dX0_countIn_20 : decode cX0_countIn 20 = .ok (.if_icmp .gt 23, 3) := by decide +kernel
theorem dX0_countIn_23 : decode cX0_countIn 23 = .ok (.aload_n 0, 1) := by decide +kernel
theorem dX0_countIn_24 : decode cX0_countIn 24 = .ok (.getfield 18, 3) := by decide +kernel
theorem dX0_countIn_27 : decode cX0_countIn 27 = .ok (.iload 5, 2) := by decide +kernel
theorem dX0_countIn_29 : decode cX0_countIn 29 = .ok (.iaload, 1) := by decide +kernel
theorem dX0_countIn_30 : decode cX0_countIn 30 = .ok (.iload_n 3, 1) := by decide +kernel
theorem dX0_countIn_31 : decode cX0_countIn 31 = .ok (.if_icmp .ne 6, 3) := by decide +kernel
theorem dX0_countIn_34 : decode cX0_countIn 34 = .ok (.iinc 4 1, 3) := by decide +kernel
theorem dX0_countIn_37 : decode cX0_countIn 37 = .ok (.iinc 5 1, 3) := by decide +kernel
theorem dX0_countIn_40 : decode cX0_countIn 40 = .ok (.goto (-30), 3) := by decide +kernel
theorem dX0_countIn_43 : decode cX0_countIn 43 = .ok (.iload 4, 2) := by decide +kernel
theorem dX0_countIn_45 : decode cX0_countIn 45 = .ok (.ireturn, 1) := by decide +kernel
theorem dX0_countOfferable_0 : decode cX0_countOfferable 0 = .ok (.iconst 0, 1) := by decide +kernel
theorem dX0_countOfferable_1 : decode cX0_countOfferable 1 = .ok (.istore_n 3, 1) := by decide +kernel
theorem dX0_countOfferable_2 : decode cX0_countOfferable 2 = .ok (.iload_n 1, 1) := by decide +kernel
theorem dX0_countOfferable_3 : decode cX0_countOfferable 3 = .ok (.iconst 0, 1) := by decide +kernel
theorem dX0_countOfferable_4 : decode cX0_countOfferable 4 = .ok (.invokestatic 37, 3) := by decide +kernel
theorem dX0_countOfferable_7 : decode cX0_countOfferable 7 = .ok (.istore 4, 2) := by decide +kernel
theorem dX0_countOfferable_9 : decode cX0_countOfferable 9 = .ok (.iload 4, 2) := by decide +kernel
theorem dX0_countOfferable_11 : decode cX0_countOfferable 11 = .ok (.bipush 100, 2) := by decide +kernel
theorem dX0_countOfferable_13 : decode cX0_countOfferable 13 = .ok (.if_icmp .ge 27, 3) := by decide +kernel
theorem dX0_countOfferable_16 : decode cX0_countOfferable 16 = .ok (.iload 4, 2) := by decide +kernel
theorem dX0_countOfferable_18 : decode cX0_countOfferable 18 = .ok (.iload_n 2, 1) := by decide +kernel
theorem dX0_countOfferable_19 : decode cX0_countOfferable 19 = .ok (.if_icmp .gt 21, 3) := by decide +kernel
theorem dX0_countOfferable_22 : decode cX0_countOfferable 22 = .ok (.aload_n 0, 1) := by decide +kernel
theorem dX0_countOfferable_23 : decode cX0_countOfferable 23 = .ok (.iload 4, 2) := by decide +kernel
theorem dX0_countOfferable_25 : decode cX0_countOfferable 25 = .ok (.invokevirtual 55, 3) := by decide +kernel
theorem dX0_countOfferable_28 : decode cX0_countOfferable 28 = .ok (.ifCond .eq 6, 3) := by decide +kernel
theorem dX0_countOfferable_31 : decode cX0_countOfferable 31 = .ok (.iinc 3 1, 3) := by decide +kernel
theorem dX0_countOfferable_34 : decode cX0_countOfferable 34 = .ok (.iinc 4 1, 3) := by decide +kernel
theorem dX0_countOfferable_37 : decode cX0_countOfferable 37 = .ok (.goto (-28), 3) := by decide +kernel
theorem dX0_countOfferable_40 : decode cX0_countOfferable 40 = .ok (.iload_n 3, 1) := by decide +kernel
theorem dX0_countOfferable_41 : decode cX0_countOfferable 41 = .ok (.ireturn, 1) := by decide +kernel
theorem dX0_earliestQuarantineEnd_0 : decode cX0_earliestQuarantineEnd 0 = .ok (.ldc 58, 2) := by decide +kernel
theorem dX0_earliestQuarantineEnd_2 : decode cX0_earliestQuarantineEnd 2 = .ok (.istore_n 1, 1) := by decide +kernel
theorem dX0_earliestQuarantineEnd_3 : decode cX0_earliestQuarantineEnd 3 = .ok (.iconst 0, 1) := by decide +kernel
theorem dX0_earliestQuarantineEnd_4 : decode cX0_earliestQuarantineEnd 4 = .ok (.istore_n 2, 1) := by decide +kernel
theorem dX0_earliestQuarantineEnd_5 : decode cX0_earliestQuarantineEnd 5 = .ok (.iload_n 2, 1) := by decide +kernel
theorem dX0_earliestQuarantineEnd_6 : decode cX0_earliestQuarantineEnd 6 = .ok (.bipush 100, 2) := by decide +kernel
theorem dX0_earliestQuarantineEnd_8 : decode cX0_earliestQuarantineEnd 8 = .ok (.if_icmp .ge 35, 3) := by decide +kernel
theorem dX0_earliestQuarantineEnd_11 : decode cX0_earliestQuarantineEnd 11 = .ok (.aload_n 0, 1) := by decide +kernel
theorem dX0_earliestQuarantineEnd_12 : decode cX0_earliestQuarantineEnd 12 = .ok (.getfield 18, 3) := by decide +kernel
theorem dX0_earliestQuarantineEnd_15 : decode cX0_earliestQuarantineEnd 15 = .ok (.iload_n 2, 1) := by decide +kernel
theorem dX0_earliestQuarantineEnd_16 : decode cX0_earliestQuarantineEnd 16 = .ok (.iaload, 1) := by decide +kernel
theorem dX0_earliestQuarantineEnd_17 : decode cX0_earliestQuarantineEnd 17 = .ok (.iconst 3, 1) := by decide +kernel
theorem dX0_earliestQuarantineEnd_18 : decode cX0_earliestQuarantineEnd 18 = .ok (.if_icmp .ne 19, 3) := by decide +kernel
theorem dX0_earliestQuarantineEnd_21 : decode cX0_earliestQuarantineEnd 21 = .ok (.iload_n 1, 1) := by decide +kernel
theorem dX0_earliestQuarantineEnd_22 : decode cX0_earliestQuarantineEnd 22 = .ok (.aload_n 0, 1) := by decide +kernel
theorem dX0_earliestQuarantineEnd_23 : decode cX0_earliestQuarantineEnd 23 = .ok (.getfield 25, 3) := by decide +kernel
theorem dX0_earliestQuarantineEnd_26 : decode cX0_earliestQuarantineEnd 26 = .ok (.iload_n 2, 1) := by decide +kernel
theorem dX0_earliestQuarantineEnd_27 : decode cX0_earliestQuarantineEnd 27 = .ok (.iaload, 1) := by decide +kernel
theorem dX0_earliestQuarantineEnd_28 : decode cX0_earliestQuarantineEnd 28 = .ok (.iconst 1, 1) := by decide +kernel
theorem dX0_earliestQuarantineEnd_29 : decode cX0_earliestQuarantineEnd 29 = .ok (.iload_n 2, 1) := by decide +kernel
theorem dX0_earliestQuarantineEnd_30 : decode cX0_earliestQuarantineEnd 30 = .ok (.invokestatic 59, 3) := by decide +kernel
theorem dX0_earliestQuarantineEnd_33 : decode cX0_earliestQuarantineEnd 33 = .ok (.invokestatic 63, 3) := by decide +kernel
theorem dX0_earliestQuarantineEnd_36 : decode cX0_earliestQuarantineEnd 36 = .ok (.istore_n 1, 1) := by decide +kernel
theorem dX0_earliestQuarantineEnd_37 : decode cX0_earliestQuarantineEnd 37 = .ok (.iinc 2 1, 3) := by decide +kernel
theorem dX0_earliestQuarantineEnd_40 : decode cX0_earliestQuarantineEnd 40 = .ok (.goto (-35), 3) := by decide +kernel
theorem dX0_earliestQuarantineEnd_43 : decode cX0_earliestQuarantineEnd 43 = .ok (.iload_n 1, 1) := by decide +kernel
theorem dX0_earliestQuarantineEnd_44 : decode cX0_earliestQuarantineEnd 44 = .ok (.ireturn, 1) := by decide +kernel
theorem dX0_copyFrom_0 : decode cX0_copyFrom 0 = .ok (.aload_n 1, 1) := by decide +kernel
theorem dX0_copyFrom_1 : decode cX0_copyFrom 1 = .ok (.getfield 9, 3) := by decide +kernel
theorem dX0_copyFrom_4 : decode cX0_copyFrom 4 = .ok (.aload_n 0, 1) := by decide +kernel
theorem dX0_copyFrom_5 : decode cX0_copyFrom 5 = .ok (.getfield 9, 3) := by decide +kernel
theorem dX0_copyFrom_8 : decode cX0_copyFrom 8 = .ok (.invokestatic 66, 3) := by decide +kernel
theorem dX0_copyFrom_11 : decode cX0_copyFrom 11 = .ok (.aload_n 1, 1) := by decide +kernel
theorem dX0_copyFrom_12 : decode cX0_copyFrom 12 = .ok (.getfield 15, 3) := by decide +kernel
theorem dX0_copyFrom_15 : decode cX0_copyFrom 15 = .ok (.aload_n 0, 1) := by decide +kernel
theorem dX0_copyFrom_16 : decode cX0_copyFrom 16 = .ok (.getfield 15, 3) := by decide +kernel
theorem dX0_copyFrom_19 : decode cX0_copyFrom 19 = .ok (.invokestatic 66, 3) := by decide +kernel
theorem dX0_copyFrom_22 : decode cX0_copyFrom 22 = .ok (.aload_n 1, 1) := by decide +kernel
theorem dX0_copyFrom_23 : decode cX0_copyFrom 23 = .ok (.getfield 18, 3) := by decide +kernel
theorem dX0_copyFrom_26 : decode cX0_copyFrom 26 = .ok (.aload_n 0, 1) := by decide +kernel
theorem dX0_copyFrom_27 : decode cX0_copyFrom 27 = .ok (.getfield 18, 3) := by decide +kernel
theorem dX0_copyFrom_30 : decode cX0_copyFrom 30 = .ok (.invokestatic 70, 3) := by decide +kernel
theorem dX0_copyFrom_33 : decode cX0_copyFrom 33 = .ok (.aload_n 1, 1) := by decide +kernel
theorem dX0_copyFrom_34 : decode cX0_copyFrom 34 = .ok (.getfield 22, 3) := by decide +kernel
theorem dX0_copyFrom_37 : decode cX0_copyFrom 37 = .ok (.aload_n 0, 1) := by decide +kernel
theorem dX0_copyFrom_38 : decode cX0_copyFrom 38 = .ok (.getfield 22, 3) := by decide +kernel
theorem dX0_copyFrom_41 : decode cX0_copyFrom 41 = .ok (.invokestatic 70, 3) := by decide +kernel
theorem dX0_copyFrom_44 : decode cX0_copyFrom 44 = .ok (.aload_n 1, 1) := by decide +kernel
theorem dX0_copyFrom_45 : decode cX0_copyFrom 45 = .ok (.getfield 25, 3) := by decide +kernel
theorem dX0_copyFrom_48 : decode cX0_copyFrom 48 = .ok (.aload_n 0, 1) := by decide +kernel
theorem dX0_copyFrom_49 : decode cX0_copyFrom 49 = .ok (.getfield 25, 3) := by decide +kernel
theorem dX0_copyFrom_52 : decode cX0_copyFrom 52 = .ok (.invokestatic 70, 3) := by decide +kernel
theorem dX0_copyFrom_55 : decode cX0_copyFrom 55 = .ok (.aload_n 1, 1) := by decide +kernel
theorem dX0_copyFrom_56 : decode cX0_copyFrom 56 = .ok (.getfield 28, 3) := by decide +kernel
theorem dX0_copyFrom_59 : decode cX0_copyFrom 59 = .ok (.aload_n 0, 1) := by decide +kernel
theorem dX0_copyFrom_60 : decode cX0_copyFrom 60 = .ok (.getfield 28, 3) := by decide +kernel
theorem dX0_copyFrom_63 : decode cX0_copyFrom 63 = .ok (.invokestatic 70, 3) := by decide +kernel
theorem dX0_copyFrom_66 : decode cX0_copyFrom 66 = .ok (.return_, 1) := by decide +kernel
theorem dX1_init_0 : decode cX1_init 0 = .ok (.aload_n 0, 1) := by decide +kernel
theorem dX1_init_1 : decode cX1_init 1 = .ok (.invokespecial 3, 3) := by decide +kernel
theorem dX1_init_4 : decode cX1_init 4 = .ok (.aload_n 0, 1) := by decide +kernel
theorem dX1_init_5 : decode cX1_init 5 = .ok (.bipush 20, 2) := by decide +kernel
theorem dX1_init_7 : decode cX1_init 7 = .ok (.newarray .int, 2) := by decide +kernel
theorem dX1_init_9 : decode cX1_init 9 = .ok (.putfield 9, 3) := by decide +kernel
theorem dX1_init_12 : decode cX1_init 12 = .ok (.aload_n 0, 1) := by decide +kernel
theorem dX1_init_13 : decode cX1_init 13 = .ok (.bipush 20, 2) := by decide +kernel
theorem dX1_init_15 : decode cX1_init 15 = .ok (.newarray .int, 2) := by decide +kernel
theorem dX1_init_17 : decode cX1_init 17 = .ok (.putfield 15, 3) := by decide +kernel
theorem dX1_init_20 : decode cX1_init 20 = .ok (.aload_n 0, 1) := by decide +kernel
theorem dX1_init_21 : decode cX1_init 21 = .ok (.bipush 20, 2) := by decide +kernel
theorem dX1_init_23 : decode cX1_init 23 = .ok (.newarray .int, 2) := by decide +kernel
theorem dX1_init_25 : decode cX1_init 25 = .ok (.putfield 18, 3) := by decide +kernel
theorem dX1_init_28 : decode cX1_init 28 = .ok (.aload_n 0, 1) := by decide +kernel
theorem dX1_init_29 : decode cX1_init 29 = .ok (.bipush 20, 2) := by decide +kernel
theorem dX1_init_31 : decode cX1_init 31 = .ok (.newarray .int, 2) := by decide +kernel
theorem dX1_init_33 : decode cX1_init 33 = .ok (.putfield 21, 3) := by decide +kernel
theorem dX1_init_36 : decode cX1_init 36 = .ok (.aload_n 0, 1) := by decide +kernel
theorem dX1_init_37 : decode cX1_init 37 = .ok (.bipush 20, 2) := by decide +kernel
theorem dX1_init_39 : decode cX1_init 39 = .ok (.newarray .int, 2) := by decide +kernel
theorem dX1_init_41 : decode cX1_init 41 = .ok (.putfield 24, 3) := by decide +kernel
theorem dX1_init_44 : decode cX1_init 44 = .ok (.aload_n 0, 1) := by decide +kernel
theorem dX1_init_45 : decode cX1_init 45 = .ok (.getfield 15, 3) := by decide +kernel
theorem dX1_init_48 : decode cX1_init 48 = .ok (.iconst (-1), 1) := by decide +kernel
theorem dX1_init_49 : decode cX1_init 49 = .ok (.invokestatic 27, 3) := by decide +kernel
theorem dX1_init_52 : decode cX1_init 52 = .ok (.aload_n 0, 1) := by decide +kernel
theorem dX1_init_53 : decode cX1_init 53 = .ok (.getfield 18, 3) := by decide +kernel
theorem dX1_init_56 : decode cX1_init 56 = .ok (.iconst (-1), 1) := by decide +kernel
theorem dX1_init_57 : decode cX1_init 57 = .ok (.invokestatic 27, 3) := by decide +kernel
theorem dX1_init_60 : decode cX1_init 60 = .ok (.return_, 1) := by decide +kernel
theorem dX1_isBound_0 : decode cX1_isBound 0 = .ok (.iload_n 1, 1) := by decide +kernel
theorem dX1_isBound_1 : decode cX1_isBound 1 = .ok (.invokestatic 33, 3) := by decide +kernel
theorem dX1_isBound_4 : decode cX1_isBound 4 = .ok (.ifCond .eq 17, 3) := by decide +kernel
theorem dX1_isBound_7 : decode cX1_isBound 7 = .ok (.aload_n 0, 1) := by decide +kernel
theorem dX1_isBound_8 : decode cX1_isBound 8 = .ok (.getfield 9, 3) := by decide +kernel
theorem dX1_isBound_11 : decode cX1_isBound 11 = .ok (.iload_n 1, 1) := by decide +kernel
theorem dX1_isBound_12 : decode cX1_isBound 12 = .ok (.iaload, 1) := by decide +kernel
theorem dX1_isBound_13 : decode cX1_isBound 13 = .ok (.iconst 2, 1) := by decide +kernel
theorem dX1_isBound_14 : decode cX1_isBound 14 = .ok (.if_icmp .lt 7, 3) := by decide +kernel
theorem dX1_isBound_17 : decode cX1_isBound 17 = .ok (.iconst 1, 1) := by decide +kernel
theorem dX1_isBound_18 : decode cX1_isBound 18 = .ok (.goto 4, 3) := by decide +kernel
theorem dX1_isBound_21 : decode cX1_isBound 21 = .ok (.iconst 0, 1) := by decide +kernel
theorem dX1_isBound_22 : decode cX1_isBound 22 = .ok (.ireturn, 1) := by decide +kernel
theorem dX1_countBound_0 : decode cX1_countBound 0 = .ok (.iconst 0, 1) := by decide +kernel
theorem dX1_countBound_1 : decode cX1_countBound 1 = .ok (.istore_n 1, 1) := by decide +kernel
theorem dX1_countBound_2 : decode cX1_countBound 2 = .ok (.iconst 0, 1) := by decide +kernel
theorem dX1_countBound_3 : decode cX1_countBound 3 = .ok (.istore_n 2, 1) := by decide +kernel
theorem dX1_countBound_4 : decode cX1_countBound 4 = .ok (.iload_n 2, 1) := by decide +kernel
theorem dX1_countBound_5 : decode cX1_countBound 5 = .ok (.bipush 20, 2) := by decide +kernel
theorem dX1_countBound_7 : decode cX1_countBound 7 = .ok (.if_icmp .ge 20, 3) := by decide +kernel
theorem dX1_countBound_10 : decode cX1_countBound 10 = .ok (.aload_n 0, 1) := by decide +kernel
theorem dX1_countBound_11 : decode cX1_countBound 11 = .ok (.iload_n 2, 1) := by decide +kernel
theorem dX1_countBound_12 : decode cX1_countBound 12 = .ok (.invokevirtual 37, 3) := by decide +kernel
theorem dX1_countBound_15 : decode cX1_countBound 15 = .ok (.ifCond .eq 6, 3) := by decide +kernel
theorem dX1_countBound_18 : decode cX1_countBound 18 = .ok (.iinc 1 1, 3) := by decide +kernel
theorem dX1_countBound_21 : decode cX1_countBound 21 = .ok (.iinc 2 1, 3) := by decide +kernel
theorem dX1_countBound_24 : decode cX1_countBound 24 = .ok (.goto (-20), 3) := by decide +kernel
theorem dX1_countBound_27 : decode cX1_countBound 27 = .ok (.iload_n 1, 1) := by decide +kernel
theorem dX1_countBound_28 : decode cX1_countBound 28 = .ok (.ireturn, 1) := by decide +kernel
theorem dX1_becomeIdle_0 : decode cX1_becomeIdle 0 = .ok (.iload_n 1, 1) := by decide +kernel
theorem dX1_becomeIdle_1 : decode cX1_becomeIdle 1 = .ok (.invokestatic 33, 3) := by decide +kernel
theorem dX1_becomeIdle_4 : decode cX1_becomeIdle 4 = .ok (.ifCond .eq 17, 3) := by decide +kernel
theorem dX1_becomeIdle_7 : decode cX1_becomeIdle 7 = .ok (.aload_n 0, 1) := by decide +kernel
theorem dX1_becomeIdle_8 : decode cX1_becomeIdle 8 = .ok (.getfield 9, 3) := by decide +kernel
theorem dX1_becomeIdle_11 : decode cX1_becomeIdle 11 = .ok (.iload_n 1, 1) := by decide +kernel
theorem dX1_becomeIdle_12 : decode cX1_becomeIdle 12 = .ok (.iconst 0, 1) := by decide +kernel
theorem dX1_becomeIdle_13 : decode cX1_becomeIdle 13 = .ok (.iastore, 1) := by decide +kernel
theorem dX1_becomeIdle_14 : decode cX1_becomeIdle 14 = .ok (.aload_n 0, 1) := by decide +kernel
theorem dX1_becomeIdle_15 : decode cX1_becomeIdle 15 = .ok (.getfield 15, 3) := by decide +kernel
theorem dX1_becomeIdle_18 : decode cX1_becomeIdle 18 = .ok (.iload_n 1, 1) := by decide +kernel
theorem dX1_becomeIdle_19 : decode cX1_becomeIdle 19 = .ok (.iconst (-1), 1) := by decide +kernel
theorem dX1_becomeIdle_20 : decode cX1_becomeIdle 20 = .ok (.iastore, 1) := by decide +kernel
theorem dX1_becomeIdle_21 : decode cX1_becomeIdle 21 = .ok (.return_, 1) := by decide +kernel
theorem dX1_takeOffer_0 : decode cX1_takeOffer 0 = .ok (.iload_n 1, 1) := by decide +kernel
theorem dX1_takeOffer_1 : decode cX1_takeOffer 1 = .ok (.invokestatic 33, 3) := by decide +kernel
theorem dX1_takeOffer_4 : decode cX1_takeOffer 4 = .ok (.ifCond .eq 17, 3) := by decide +kernel
theorem dX1_takeOffer_7 : decode cX1_takeOffer 7 = .ok (.aload_n 0, 1) := by decide +kernel
theorem dX1_takeOffer_8 : decode cX1_takeOffer 8 = .ok (.getfield 9, 3) := by decide +kernel
theorem dX1_takeOffer_11 : decode cX1_takeOffer 11 = .ok (.iload_n 1, 1) := by decide +kernel
theorem dX1_takeOffer_12 : decode cX1_takeOffer 12 = .ok (.iconst 1, 1) := by decide +kernel
theorem dX1_takeOffer_13 : decode cX1_takeOffer 13 = .ok (.iastore, 1) := by decide +kernel
theorem dX1_takeOffer_14 : decode cX1_takeOffer 14 = .ok (.aload_n 0, 1) := by decide +kernel
theorem dX1_takeOffer_15 : decode cX1_takeOffer 15 = .ok (.getfield 15, 3) := by decide +kernel
theorem dX1_takeOffer_18 : decode cX1_takeOffer 18 = .ok (.iload_n 1, 1) := by decide +kernel
theorem dX1_takeOffer_19 : decode cX1_takeOffer 19 = .ok (.iload_n 2, 1) := by decide +kernel
theorem dX1_takeOffer_20 : decode cX1_takeOffer 20 = .ok (.iastore, 1) := by decide +kernel
theorem dX1_takeOffer_21 : decode cX1_takeOffer 21 = .ok (.return_, 1) := by decide +kernel
theorem dX1_takeLease_0 : decode cX1_takeLease 0 = .ok (.iload_n 1, 1) := by decide +kernel
theorem dX1_takeLease_1 : decode cX1_takeLease 1 = .ok (.invokestatic 33, 3) := by decide +kernel
theorem dX1_takeLease_4 : decode cX1_takeLease 4 = .ok (.ifCond .eq 48, 3) := by decide +kernel
theorem dX1_takeLease_7 : decode cX1_takeLease 7 = .ok (.aload_n 0, 1) := by decide +kernel
theorem dX1_takeLease_8 : decode cX1_takeLease 8 = .ok (.getfield 9, 3) := by decide +kernel
theorem dX1_takeLease_11 : decode cX1_takeLease 11 = .ok (.iload_n 1, 1) := by decide +kernel
theorem dX1_takeLease_12 : decode cX1_takeLease 12 = .ok (.iconst 2, 1) := by decide +kernel
theorem dX1_takeLease_13 : decode cX1_takeLease 13 = .ok (.iastore, 1) := by decide +kernel
theorem dX1_takeLease_14 : decode cX1_takeLease 14 = .ok (.aload_n 0, 1) := by decide +kernel
theorem dX1_takeLease_15 : decode cX1_takeLease 15 = .ok (.getfield 18, 3) := by decide +kernel
theorem dX1_takeLease_18 : decode cX1_takeLease 18 = .ok (.iload_n 1, 1) := by decide +kernel
theorem dX1_takeLease_19 : decode cX1_takeLease 19 = .ok (.aload_n 0, 1) := by decide +kernel
theorem dX1_takeLease_20 : decode cX1_takeLease 20 = .ok (.getfield 15, 3) := by decide +kernel
theorem dX1_takeLease_23 : decode cX1_takeLease 23 = .ok (.iload_n 1, 1) := by decide +kernel
theorem dX1_takeLease_24 : decode cX1_takeLease 24 = .ok (.iaload, 1) := by decide +kernel
theorem dX1_takeLease_25 : decode cX1_takeLease 25 = .ok (.iastore, 1) := by decide +kernel
theorem dX1_takeLease_26 : decode cX1_takeLease 26 = .ok (.aload_n 0, 1) := by decide +kernel
theorem dX1_takeLease_27 : decode cX1_takeLease 27 = .ok (.getfield 21, 3) := by decide +kernel
theorem dX1_takeLease_30 : decode cX1_takeLease 30 = .ok (.iload_n 1, 1) := by decide +kernel
theorem dX1_takeLease_31 : decode cX1_takeLease 31 = .ok (.iload_n 2, 1) := by decide +kernel
theorem dX1_takeLease_32 : decode cX1_takeLease 32 = .ok (.iload_n 3, 1) := by decide +kernel
theorem dX1_takeLease_33 : decode cX1_takeLease 33 = .ok (.iconst 2, 1) := by decide +kernel
theorem dX1_takeLease_34 : decode cX1_takeLease 34 = .ok (.idiv, 1) := by decide +kernel
theorem dX1_takeLease_35 : decode cX1_takeLease 35 = .ok (.iadd, 1) := by decide +kernel
theorem dX1_takeLease_36 : decode cX1_takeLease 36 = .ok (.iastore, 1) := by decide +kernel
theorem dX1_takeLease_37 : decode cX1_takeLease 37 = .ok (.aload_n 0, 1) := by decide +kernel
theorem dX1_takeLease_38 : decode cX1_takeLease 38 = .ok (.getfield 24, 3) := by decide +kernel
theorem dX1_takeLease_41 : decode cX1_takeLease 41 = .ok (.iload_n 1, 1) := by decide +kernel
theorem dX1_takeLease_42 : decode cX1_takeLease 42 = .ok (.iload_n 2, 1) := by decide +kernel
theorem dX1_takeLease_43 : decode cX1_takeLease 43 = .ok (.iload_n 3, 1) := by decide +kernel
theorem dX1_takeLease_44 : decode cX1_takeLease 44 = .ok (.bipush 7, 2) := by decide +kernel
theorem dX1_takeLease_46 : decode cX1_takeLease 46 = .ok (.imul, 1) := by decide +kernel
theorem dX1_takeLease_47 : decode cX1_takeLease 47 = .ok (.bipush 8, 2) := by decide +kernel
theorem dX1_takeLease_49 : decode cX1_takeLease 49 = .ok (.idiv, 1) := by decide +kernel
theorem dX1_takeLease_50 : decode cX1_takeLease 50 = .ok (.iadd, 1) := by decide +kernel
theorem dX1_takeLease_51 : decode cX1_takeLease 51 = .ok (.iastore, 1) := by decide +kernel
theorem dX1_takeLease_52 : decode cX1_takeLease 52 = .ok (.return_, 1) := by decide +kernel
theorem dX1_copyFrom_0 : decode cX1_copyFrom 0 = .ok (.aload_n 1, 1) := by decide +kernel
theorem dX1_copyFrom_1 : decode cX1_copyFrom 1 = .ok (.getfield 9, 3) := by decide +kernel
theorem dX1_copyFrom_4 : decode cX1_copyFrom 4 = .ok (.aload_n 0, 1) := by decide +kernel
theorem dX1_copyFrom_5 : decode cX1_copyFrom 5 = .ok (.getfield 9, 3) := by decide +kernel
theorem dX1_copyFrom_8 : decode cX1_copyFrom 8 = .ok (.invokestatic 40, 3) := by decide +kernel
theorem dX1_copyFrom_11 : decode cX1_copyFrom 11 = .ok (.aload_n 1, 1) := by decide +kernel
theorem dX1_copyFrom_12 : decode cX1_copyFrom 12 = .ok (.getfield 15, 3) := by decide +kernel
theorem dX1_copyFrom_15 : decode cX1_copyFrom 15 = .ok (.aload_n 0, 1) := by decide +kernel
theorem dX1_copyFrom_16 : decode cX1_copyFrom 16 = .ok (.getfield 15, 3) := by decide +kernel
theorem dX1_copyFrom_19 : decode cX1_copyFrom 19 = .ok (.invokestatic 40, 3) := by decide +kernel
theorem dX1_copyFrom_22 : decode cX1_copyFrom 22 = .ok (.aload_n 1, 1) := by decide +kernel
theorem dX1_copyFrom_23 : decode cX1_copyFrom 23 = .ok (.getfield 18, 3) := by decide +kernel
theorem dX1_copyFrom_26 : decode cX1_copyFrom 26 = .ok (.aload_n 0, 1) := by decide +kernel
theorem dX1_copyFrom_27 : decode cX1_copyFrom 27 = .ok (.getfield 18, 3) := by decide +kernel
theorem dX1_copyFrom_30 : decode cX1_copyFrom 30 = .ok (.invokestatic 40, 3) := by decide +kernel
theorem dX1_copyFrom_33 : decode cX1_copyFrom 33 = .ok (.aload_n 1, 1) := by decide +kernel
theorem dX1_copyFrom_34 : decode cX1_copyFrom 34 = .ok (.getfield 21, 3) := by decide +kernel
theorem dX1_copyFrom_37 : decode cX1_copyFrom 37 = .ok (.aload_n 0, 1) := by decide +kernel
theorem dX1_copyFrom_38 : decode cX1_copyFrom 38 = .ok (.getfield 21, 3) := by decide +kernel
theorem dX1_copyFrom_41 : decode cX1_copyFrom 41 = .ok (.invokestatic 40, 3) := by decide +kernel
theorem dX1_copyFrom_44 : decode cX1_copyFrom 44 = .ok (.aload_n 1, 1) := by decide +kernel
theorem dX1_copyFrom_45 : decode cX1_copyFrom 45 = .ok (.getfield 24, 3) := by decide +kernel
theorem dX1_copyFrom_48 : decode cX1_copyFrom 48 = .ok (.aload_n 0, 1) := by decide +kernel
theorem dX1_copyFrom_49 : decode cX1_copyFrom 49 = .ok (.getfield 24, 3) := by decide +kernel
theorem dX1_copyFrom_52 : decode cX1_copyFrom 52 = .ok (.invokestatic 40, 3) := by decide +kernel
theorem dX1_copyFrom_55 : decode cX1_copyFrom 55 = .ok (.return_, 1) := by decide +kernel
theorem dX2_init_0 : decode cX2_init 0 = .ok (.aload_n 0, 1) := by decide +kernel
theorem dX2_init_1 : decode cX2_init 1 = .ok (.invokespecial 3, 3) := by decide +kernel
theorem dX2_init_4 : decode cX2_init 4 = .ok (.aload_n 0, 1) := by decide +kernel
theorem dX2_init_5 : decode cX2_init 5 = .ok (.bipush 30, 2) := by decide +kernel
theorem dX2_init_7 : decode cX2_init 7 = .ok (.newarray .int, 2) := by decide +kernel
theorem dX2_init_9 : decode cX2_init 9 = .ok (.putfield 9, 3) := by decide +kernel
theorem dX2_init_12 : decode cX2_init 12 = .ok (.return_, 1) := by decide +kernel
theorem dX2_write_0 : decode cX2_write 0 = .ok (.aload_n 0, 1) := by decide +kernel
theorem dX2_write_1 : decode cX2_write 1 = .ok (.getfield 15, 3) := by decide +kernel
theorem dX2_write_4 : decode cX2_write 4 = .ok (.ifCond .lt 28, 3) := by decide +kernel
theorem dX2_write_7 : decode cX2_write 7 = .ok (.aload_n 0, 1) := by decide +kernel
theorem dX2_write_8 : decode cX2_write 8 = .ok (.getfield 15, 3) := by decide +kernel
theorem dX2_write_11 : decode cX2_write 11 = .ok (.bipush 30, 2) := by decide +kernel
theorem dX2_write_13 : decode cX2_write 13 = .ok (.if_icmp .ge 19, 3) := by decide +kernel
theorem dX2_write_16 : decode cX2_write 16 = .ok (.aload_n 0, 1) := by decide +kernel
theorem dX2_write_17 : decode cX2_write 17 = .ok (.getfield 9, 3) := by decide +kernel
theorem dX2_write_20 : decode cX2_write 20 = .ok (.aload_n 0, 1) := by decide +kernel
theorem dX2_write_21 : decode cX2_write 21 = .ok (.getfield 15, 3) := by decide +kernel
theorem dX2_write_24 : decode cX2_write 24 = .ok (.iload_n 1, 1) := by decide +kernel
theorem dX2_write_25 : decode cX2_write 25 = .ok (.sipush 1000, 3) := by decide +kernel
theorem dX2_write_28 : decode cX2_write 28 = .ok (.imul, 1) := by decide +kernel
theorem dX2_write_29 : decode cX2_write 29 = .ok (.iload_n 2, 1) := by decide +kernel
theorem dX2_write_30 : decode cX2_write 30 = .ok (.iadd, 1) := by decide +kernel
theorem dX2_write_31 : decode cX2_write 31 = .ok (.iastore, 1) := by decide +kernel
theorem dX2_write_32 : decode cX2_write 32 = .ok (.aload_n 0, 1) := by decide +kernel
theorem dX2_write_33 : decode cX2_write 33 = .ok (.aload_n 0, 1) := by decide +kernel
theorem dX2_write_34 : decode cX2_write 34 = .ok (.getfield 15, 3) := by decide +kernel
theorem dX2_write_37 : decode cX2_write 37 = .ok (.iconst 1, 1) := by decide +kernel
theorem dX2_write_38 : decode cX2_write 38 = .ok (.iadd, 1) := by decide +kernel
theorem dX2_write_39 : decode cX2_write 39 = .ok (.bipush 30, 2) := by decide +kernel
theorem dX2_write_41 : decode cX2_write 41 = .ok (.irem, 1) := by decide +kernel
theorem dX2_write_42 : decode cX2_write 42 = .ok (.putfield 15, 3) := by decide +kernel
theorem dX2_write_45 : decode cX2_write 45 = .ok (.aload_n 0, 1) := by decide +kernel
theorem dX2_write_46 : decode cX2_write 46 = .ok (.aload_n 0, 1) := by decide +kernel
theorem dX2_write_47 : decode cX2_write 47 = .ok (.getfield 19, 3) := by decide +kernel
theorem dX2_write_50 : decode cX2_write 50 = .ok (.iconst 1, 1) := by decide +kernel
theorem dX2_write_51 : decode cX2_write 51 = .ok (.iadd, 1) := by decide +kernel
theorem dX2_write_52 : decode cX2_write 52 = .ok (.bipush 30, 2) := by decide +kernel
theorem dX2_write_54 : decode cX2_write 54 = .ok (.invokestatic 22, 3) := by decide +kernel
theorem dX2_write_57 : decode cX2_write 57 = .ok (.putfield 19, 3) := by decide +kernel
theorem dX2_write_60 : decode cX2_write 60 = .ok (.return_, 1) := by decide +kernel
theorem dX2_read_0 : decode cX2_read 0 = .ok (.aload_n 0, 1) := by decide +kernel
theorem dX2_read_1 : decode cX2_read 1 = .ok (.getfield 9, 3) := by decide +kernel
theorem dX2_read_4 : decode cX2_read 4 = .ok (.aload_n 0, 1) := by decide +kernel
theorem dX2_read_5 : decode cX2_read 5 = .ok (.getfield 15, 3) := by decide +kernel
theorem dX2_read_8 : decode cX2_read 8 = .ok (.iconst 1, 1) := by decide +kernel
theorem dX2_read_9 : decode cX2_read 9 = .ok (.isub, 1) := by decide +kernel
theorem dX2_read_10 : decode cX2_read 10 = .ok (.iload_n 1, 1) := by decide +kernel
theorem dX2_read_11 : decode cX2_read 11 = .ok (.isub, 1) := by decide +kernel
theorem dX2_read_12 : decode cX2_read 12 = .ok (.bipush 30, 2) := by decide +kernel
theorem dX2_read_14 : decode cX2_read 14 = .ok (.invokestatic 28, 3) := by decide +kernel
theorem dX2_read_17 : decode cX2_read 17 = .ok (.iaload, 1) := by decide +kernel
theorem dX2_read_18 : decode cX2_read 18 = .ok (.ireturn, 1) := by decide +kernel
theorem dX3_init_0 : decode cX3_init 0 = .ok (.aload_n 0, 1) := by decide +kernel
theorem dX3_init_1 : decode cX3_init 1 = .ok (.invokespecial 3, 3) := by decide +kernel
theorem dX3_init_4 : decode cX3_init 4 = .ok (.aload_n 0, 1) := by decide +kernel
theorem dX3_init_5 : decode cX3_init 5 = .ok (.iconst 5, 1) := by decide +kernel
theorem dX3_init_6 : decode cX3_init 6 = .ok (.newarray .int, 2) := by decide +kernel
theorem dX3_init_8 : decode cX3_init 8 = .ok (.putfield 9, 3) := by decide +kernel
theorem dX3_init_11 : decode cX3_init 11 = .ok (.aload_n 0, 1) := by decide +kernel
theorem dX3_init_12 : decode cX3_init 12 = .ok (.iconst 5, 1) := by decide +kernel
theorem dX3_init_13 : decode cX3_init 13 = .ok (.newarray .int, 2) := by decide +kernel
theorem dX3_init_15 : decode cX3_init 15 = .ok (.putfield 15, 3) := by decide +kernel
theorem dX3_init_18 : decode cX3_init 18 = .ok (.aload_n 0, 1) := by decide +kernel
theorem dX3_init_19 : decode cX3_init 19 = .ok (.iconst 5, 1) := by decide +kernel
theorem dX3_init_20 : decode cX3_init 20 = .ok (.newarray .int, 2) := by decide +kernel
theorem dX3_init_22 : decode cX3_init 22 = .ok (.putfield 18, 3) := by decide +kernel
theorem dX3_init_25 : decode cX3_init 25 = .ok (.aload_n 0, 1) := by decide +kernel
theorem dX3_init_26 : decode cX3_init 26 = .ok (.iconst 5, 1) := by decide +kernel
theorem dX3_init_27 : decode cX3_init 27 = .ok (.newarray .int, 2) := by decide +kernel
theorem dX3_init_29 : decode cX3_init 29 = .ok (.putfield 21, 3) := by decide +kernel
theorem dX3_init_32 : decode cX3_init 32 = .ok (.return_, 1) := by decide +kernel
theorem dX3_isPool_0 : decode cX3_isPool 0 = .ok (.iload_n 1, 1) := by decide +kernel
theorem dX3_isPool_1 : decode cX3_isPool 1 = .ok (.ifCond .lt 20, 3) := by decide +kernel
theorem dX3_isPool_4 : decode cX3_isPool 4 = .ok (.iload_n 1, 1) := by decide +kernel
theorem dX3_isPool_5 : decode cX3_isPool 5 = .ok (.aload_n 0, 1) := by decide +kernel
theorem dX3_isPool_6 : decode cX3_isPool 6 = .ok (.getfield 24, 3) := by decide +kernel
theorem dX3_isPool_9 : decode cX3_isPool 9 = .ok (.if_icmp .ge 12, 3) := by decide +kernel
theorem dX3_isPool_12 : decode cX3_isPool 12 = .ok (.iload_n 1, 1) := by decide +kernel
theorem dX3_isPool_13 : decode cX3_isPool 13 = .ok (.iconst 5, 1) := by decide +kernel
theorem dX3_isPool_14 : decode cX3_isPool 14 = .ok (.if_icmp .ge 7, 3) := by decide +kernel
theorem dX3_isPool_17 : decode cX3_isPool 17 = .ok (.iconst 1, 1) := by decide +kernel
theorem dX3_isPool_18 : decode cX3_isPool 18 = .ok (.goto 4, 3) := by decide +kernel
theorem dX3_isPool_21 : decode cX3_isPool 21 = .ok (.iconst 0, 1) := by decide +kernel
theorem dX3_isPool_22 : decode cX3_isPool 22 = .ok (.ireturn, 1) := by decide +kernel
theorem dX3_numberAt_0 : decode cX3_numberAt 0 = .ok (.iconst 0, 1) := by decide +kernel
theorem dX3_numberAt_1 : decode cX3_numberAt 1 = .ok (.istore_n 2, 1) := by decide +kernel
theorem dX3_numberAt_2 : decode cX3_numberAt 2 = .ok (.iload_n 2, 1) := by decide +kernel
theorem dX3_numberAt_3 : decode cX3_numberAt 3 = .ok (.iconst 5, 1) := by decide +kernel
theorem dX3_numberAt_4 : decode cX3_numberAt 4 = .ok (.if_icmp .ge 39, 3) := by decide +kernel
theorem dX3_numberAt_7 : decode cX3_numberAt 7 = .ok (.iload_n 2, 1) := by decide +kernel
theorem dX3_numberAt_8 : decode cX3_numberAt 8 = .ok (.aload_n 0, 1) := by decide +kernel
theorem dX3_numberAt_9 : decode cX3_numberAt 9 = .ok (.getfield 24, 3) := by decide +kernel
theorem dX3_numberAt_12 : decode cX3_numberAt 12 = .ok (.if_icmp .ge 31, 3) := by decide +kernel
theorem dX3_numberAt_15 : decode cX3_numberAt 15 = .ok (.aload_n 0, 1) := by decide +kernel
theorem dX3_numberAt_16 : decode cX3_numberAt 16 = .ok (.getfield 15, 3) := by decide +kernel
theorem dX3_numberAt_19 : decode cX3_numberAt 19 = .ok (.iload_n 2, 1) := by decide +kernel
theorem dX3_numberAt_20 : decode cX3_numberAt 20 = .ok (.iaload, 1) := by decide +kernel
theorem dX3_numberAt_21 : decode cX3_numberAt 21 = .ok (.iload_n 1, 1) := by decide +kernel
theorem dX3_numberAt_22 : decode cX3_numberAt 22 = .ok (.if_icmp .gt 15, 3) := by decide +kernel
theorem dX3_numberAt_25 : decode cX3_numberAt 25 = .ok (.iload_n 1, 1) := by decide +kernel
theorem dX3_numberAt_26 : decode cX3_numberAt 26 = .ok (.aload_n 0, 1) := by decide +kernel
theorem dX3_numberAt_27 : decode cX3_numberAt 27 = .ok (.getfield 18, 3) := by decide +kernel
theorem dX3_numberAt_30 : decode cX3_numberAt 30 = .ok (.iload_n 2, 1) := by decide +kernel
theorem dX3_numberAt_31 : decode cX3_numberAt 31 = .ok (.iaload, 1) := by decide +kernel
theorem dX3_numberAt_32 : decode cX3_numberAt 32 = .ok (.if_icmp .gt 5, 3) := by decide +kernel
theorem dX3_numberAt_35 : decode cX3_numberAt 35 = .ok (.iload_n 2, 1) := by decide +kernel
theorem dX3_numberAt_36 : decode cX3_numberAt 36 = .ok (.ireturn, 1) := by decide +kernel
theorem dX3_numberAt_37 : decode cX3_numberAt 37 = .ok (.iinc 2 1, 3) := by decide +kernel
theorem dX3_numberAt_40 : decode cX3_numberAt 40 = .ok (.goto (-38), 3) := by decide +kernel
theorem dX3_numberAt_43 : decode cX3_numberAt 43 = .ok (.iconst (-1), 1) := by decide +kernel
theorem dX3_numberAt_44 : decode cX3_numberAt 44 = .ok (.ireturn, 1) := by decide +kernel
theorem dX3_groupAt_0 : decode cX3_groupAt 0 = .ok (.aload_n 0, 1) := by decide +kernel
theorem dX3_groupAt_1 : decode cX3_groupAt 1 = .ok (.iload_n 1, 1) := by decide +kernel
theorem dX3_groupAt_2 : decode cX3_groupAt 2 = .ok (.invokevirtual 28, 3) := by decide +kernel
theorem dX3_groupAt_5 : decode cX3_groupAt 5 = .ok (.istore_n 2, 1) := by decide +kernel
theorem dX3_groupAt_6 : decode cX3_groupAt 6 = .ok (.aload_n 0, 1) := by decide +kernel
theorem dX3_groupAt_7 : decode cX3_groupAt 7 = .ok (.iload_n 2, 1) := by decide +kernel
theorem dX3_groupAt_8 : decode cX3_groupAt 8 = .ok (.invokevirtual 32, 3) := by decide +kernel
theorem dX3_groupAt_11 : decode cX3_groupAt 11 = .ok (.ifCond .eq 12, 3) := by decide +kernel
theorem dX3_groupAt_14 : decode cX3_groupAt 14 = .ok (.aload_n 0, 1) := by decide +kernel
theorem dX3_groupAt_15 : decode cX3_groupAt 15 = .ok (.getfield 9, 3) := by decide +kernel
theorem dX3_groupAt_18 : decode cX3_groupAt 18 = .ok (.iload_n 2, 1) := by decide +kernel
theorem dX3_groupAt_19 : decode cX3_groupAt 19 = .ok (.iaload, 1) := by decide +kernel
theorem dX3_groupAt_20 : decode cX3_groupAt 20 = .ok (.goto 4, 3) := by decide +kernel
theorem dX3_groupAt_23 : decode cX3_groupAt 23 = .ok (.iconst (-1), 1) := by decide +kernel
theorem dX3_groupAt_24 : decode cX3_groupAt 24 = .ok (.ireturn, 1) := by decide +kernel
theorem dX3_leaseAt_0 : decode cX3_leaseAt 0 = .ok (.aload_n 0, 1) := by decide +kernel
theorem dX3_leaseAt_1 : decode cX3_leaseAt 1 = .ok (.iload_n 1, 1) := by decide +kernel
theorem dX3_leaseAt_2 : decode cX3_leaseAt 2 = .ok (.invokevirtual 28, 3) := by decide +kernel
theorem dX3_leaseAt_5 : decode cX3_leaseAt 5 = .ok (.istore_n 2, 1) := by decide +kernel
theorem dX3_leaseAt_6 : decode cX3_leaseAt 6 = .ok (.aload_n 0, 1) := by decide +kernel
theorem dX3_leaseAt_7 : decode cX3_leaseAt 7 = .ok (.iload_n 2, 1) := by decide +kernel
theorem dX3_leaseAt_8 : decode cX3_leaseAt 8 = .ok (.invokevirtual 32, 3) := by decide +kernel
theorem dX3_leaseAt_11 : decode cX3_leaseAt 11 = .ok (.ifCond .eq 12, 3) := by decide +kernel
theorem dX3_leaseAt_14 : decode cX3_leaseAt 14 = .ok (.aload_n 0, 1) := by decide +kernel
theorem dX3_leaseAt_15 : decode cX3_leaseAt 15 = .ok (.getfield 21, 3) := by decide +kernel
theorem dX3_leaseAt_18 : decode cX3_leaseAt 18 = .ok (.iload_n 2, 1) := by decide +kernel
theorem dX3_leaseAt_19 : decode cX3_leaseAt 19 = .ok (.iaload, 1) := by decide +kernel
theorem dX3_leaseAt_20 : decode cX3_leaseAt 20 = .ok (.goto 4, 3) := by decide +kernel
theorem dX3_leaseAt_23 : decode cX3_leaseAt 23 = .ok (.iconst 0, 1) := by decide +kernel
theorem dX3_leaseAt_24 : decode cX3_leaseAt 24 = .ok (.ireturn, 1) := by decide +kernel
theorem dX3_overlap_0 : decode cX3_overlap 0 = .ok (.iconst 0, 1) := by decide +kernel
theorem dX3_overlap_1 : decode cX3_overlap 1 = .ok (.istore_n 3, 1) := by decide +kernel
theorem dX3_overlap_2 : decode cX3_overlap 2 = .ok (.iload_n 3, 1) := by decide +kernel
theorem dX3_overlap_3 : decode cX3_overlap 3 = .ok (.iconst 5, 1) := by decide +kernel
theorem dX3_overlap_4 : decode cX3_overlap 4 = .ok (.if_icmp .ge 39, 3) := by decide +kernel
theorem dX3_overlap_7 : decode cX3_overlap 7 = .ok (.iload_n 3, 1) := by decide +kernel
theorem dX3_overlap_8 : decode cX3_overlap 8 = .ok (.aload_n 0, 1) := by decide +kernel
theorem dX3_overlap_9 : decode cX3_overlap 9 = .ok (.getfield 24, 3) := by decide +kernel
theorem dX3_overlap_12 : decode cX3_overlap 12 = .ok (.if_icmp .ge 31, 3) := by decide +kernel
theorem dX3_overlap_15 : decode cX3_overlap 15 = .ok (.aload_n 0, 1) := by decide +kernel
theorem dX3_overlap_16 : decode cX3_overlap 16 = .ok (.getfield 15, 3) := by decide +kernel
theorem dX3_overlap_19 : decode cX3_overlap 19 = .ok (.iload_n 3, 1) := by decide +kernel
theorem dX3_overlap_20 : decode cX3_overlap 20 = .ok (.iaload, 1) := by decide +kernel
theorem dX3_overlap_21 : decode cX3_overlap 21 = .ok (.iload_n 2, 1) := by decide +kernel
theorem dX3_overlap_22 : decode cX3_overlap 22 = .ok (.if_icmp .gt 15, 3) := by decide +kernel
theorem dX3_overlap_25 : decode cX3_overlap 25 = .ok (.iload_n 1, 1) := by decide +kernel
theorem dX3_overlap_26 : decode cX3_overlap 26 = .ok (.aload_n 0, 1) := by decide +kernel
theorem dX3_overlap_27 : decode cX3_overlap 27 = .ok (.getfield 18, 3) := by decide +kernel
theorem dX3_overlap_30 : decode cX3_overlap 30 = .ok (.iload_n 3, 1) := by decide +kernel
theorem dX3_overlap_31 : decode cX3_overlap 31 = .ok (.iaload, 1) := by decide +kernel
theorem dX3_overlap_32 : decode cX3_overlap 32 = .ok (.if_icmp .gt 5, 3) := by decide +kernel
theorem dX3_overlap_35 : decode cX3_overlap 35 = .ok (.iconst 1, 1) := by decide +kernel
theorem dX3_overlap_36 : decode cX3_overlap 36 = .ok (.ireturn, 1) := by decide +kernel
theorem dX3_overlap_37 : decode cX3_overlap 37 = .ok (.iinc 3 1, 3) := by decide +kernel
theorem dX3_overlap_40 : decode cX3_overlap 40 = .ok (.goto (-38), 3) := by decide +kernel
theorem dX3_overlap_43 : decode cX3_overlap 43 = .ok (.iconst 0, 1) := by decide +kernel
theorem dX3_overlap_44 : decode cX3_overlap 44 = .ok (.ireturn, 1) := by decide +kernel
theorem dX3_countAddresses_0 : decode cX3_countAddresses 0 = .ok (.iconst 0, 1) := by decide +kernel
theorem dX3_countAddresses_1 : decode cX3_countAddresses 1 = .ok (.istore_n 2, 1) := by decide +kernel
theorem dX3_countAddresses_2 : decode cX3_countAddresses 2 = .ok (.iconst 0, 1) := by decide +kernel
theorem dX3_countAddresses_3 : decode cX3_countAddresses 3 = .ok (.istore_n 3, 1) := by decide +kernel
theorem dX3_countAddresses_4 : decode cX3_countAddresses 4 = .ok (.iload_n 3, 1) := by decide +kernel
theorem dX3_countAddresses_5 : decode cX3_countAddresses 5 = .ok (.iconst 5, 1) := by decide +kernel
theorem dX3_countAddresses_6 : decode cX3_countAddresses 6 = .ok (.if_icmp .ge 45, 3) := by decide +kernel
theorem dX3_countAddresses_9 : decode cX3_countAddresses 9 = .ok (.iload_n 3, 1) := by decide +kernel
theorem dX3_countAddresses_10 : decode cX3_countAddresses 10 = .ok (.aload_n 0, 1) := by decide +kernel
theorem dX3_countAddresses_11 : decode cX3_countAddresses 11 = .ok (.getfield 24, 3) := by decide +kernel
theorem dX3_countAddresses_14 : decode cX3_countAddresses 14 = .ok (.if_icmp .ge 37, 3) := by decide +kernel
theorem dX3_countAddresses_17 : decode cX3_countAddresses 17 = .ok (.aload_n 0, 1) := by decide +kernel
theorem dX3_countAddresses_18 : decode cX3_countAddresses 18 = .ok (.getfield 9, 3) := by decide +kernel
theorem dX3_countAddresses_21 : decode cX3_countAddresses 21 = .ok (.iload_n 3, 1) := by decide +kernel
theorem dX3_countAddresses_22 : decode cX3_countAddresses 22 = .ok (.iaload, 1) := by decide +kernel
theorem dX3_countAddresses_23 : decode cX3_countAddresses 23 = .ok (.iload_n 1, 1) := by decide +kernel
theorem dX3_countAddresses_24 : decode cX3_countAddresses 24 = .ok (.if_icmp .ne 21, 3) := by decide +kernel
theorem dX3_countAddresses_27 : decode cX3_countAddresses 27 = .ok (.iload_n 2, 1) := by decide +kernel
theorem dX3_countAddresses_28 : decode cX3_countAddresses 28 = .ok (.aload_n 0, 1) := by decide +kernel
theorem dX3_countAddresses_29 : decode cX3_countAddresses 29 = .ok (.getfield 18, 3) := by decide +kernel
theorem dX3_countAddresses_32 : decode cX3_countAddresses 32 = .ok (.iload_n 3, 1) := by decide +kernel
theorem dX3_countAddresses_33 : decode cX3_countAddresses 33 = .ok (.iaload, 1) := by decide +kernel
theorem dX3_countAddresses_34 : decode cX3_countAddresses 34 = .ok (.aload_n 0, 1) := by decide +kernel
theorem dX3_countAddresses_35 : decode cX3_countAddresses 35 = .ok (.getfield 15, 3) := by decide +kernel
theorem dX3_countAddresses_38 : decode cX3_countAddresses 38 = .ok (.iload_n 3, 1) := by decide +kernel
theorem dX3_countAddresses_39 : decode cX3_countAddresses 39 = .ok (.iaload, 1) := by decide +kernel
theorem dX3_countAddresses_40 : decode cX3_countAddresses 40 = .ok (.isub, 1) := by decide +kernel
theorem dX3_countAddresses_41 : decode cX3_countAddresses 41 = .ok (.iconst 1, 1) := by decide +kernel
theorem dX3_countAddresses_42 : decode cX3_countAddresses 42 = .ok (.iadd, 1) := by decide +kernel
theorem dX3_countAddresses_43 : decode cX3_countAddresses 43 = .ok (.iadd, 1) := by decide +kernel
theorem dX3_countAddresses_44 : decode cX3_countAddresses 44 = .ok (.istore_n 2, 1) := by decide +kernel
theorem dX3_countAddresses_45 : decode cX3_countAddresses 45 = .ok (.iinc 3 1, 3) := by decide +kernel
theorem dX3_countAddresses_48 : decode cX3_countAddresses 48 = .ok (.goto (-44), 3) := by decide +kernel
theorem dX3_countAddresses_51 : decode cX3_countAddresses 51 = .ok (.iload_n 2, 1) := by decide +kernel
theorem dX3_countAddresses_52 : decode cX3_countAddresses 52 = .ok (.ireturn, 1) := by decide +kernel
theorem dX3_append_0 : decode cX3_append 0 = .ok (.aload_n 0, 1) := by decide +kernel
theorem dX3_append_1 : decode cX3_append 1 = .ok (.getfield 24, 3) := by decide +kernel
theorem dX3_append_4 : decode cX3_append 4 = .ok (.istore 5, 2) := by decide +kernel
theorem dX3_append_6 : decode cX3_append 6 = .ok (.iload 5, 2) := by decide +kernel
theorem dX3_append_8 : decode cX3_append 8 = .ok (.ifCond .lt 9, 3) := by decide +kernel
theorem dX3_append_11 : decode cX3_append 11 = .ok (.iload 5, 2) := by decide +kernel
theorem dX3_append_13 : decode cX3_append 13 = .ok (.iconst 5, 1) := by decide +kernel
theorem dX3_append_14 : decode cX3_append 14 = .ok (.if_icmp .lt 5, 3) := by decide +kernel
theorem dX3_append_17 : decode cX3_append 17 = .ok (.iconst (-1), 1) := by decide +kernel
theorem dX3_append_18 : decode cX3_append 18 = .ok (.ireturn, 1) := by decide +kernel
theorem dX3_append_19 : decode cX3_append 19 = .ok (.aload_n 0, 1) := by decide +kernel
theorem dX3_append_20 : decode cX3_append 20 = .ok (.getfield 9, 3) := by decide +kernel
theorem dX3_append_23 : decode cX3_append 23 = .ok (.iload 5, 2) := by decide +kernel
theorem dX3_append_25 : decode cX3_append 25 = .ok (.iload_n 1, 1) := by decide +kernel
theorem dX3_append_26 : decode cX3_append 26 = .ok (.iastore, 1) := by decide +kernel
theorem dX3_append_27 : decode cX3_append 27 = .ok (.aload_n 0, 1) := by decide +kernel
theorem dX3_append_28 : decode cX3_append 28 = .ok (.getfield 15, 3) := by decide +kernel
theorem dX3_append_31 : decode cX3_append 31 = .ok (.iload 5, 2) := by decide +kernel
theorem dX3_append_33 : decode cX3_append 33 = .ok (.iload_n 2, 1) := by decide +kernel
theorem dX3_append_34 : decode cX3_append 34 = .ok (.iastore, 1) := by decide +kernel
theorem dX3_append_35 : decode cX3_append 35 = .ok (.aload_n 0, 1) := by decide +kernel
theorem dX3_append_36 : decode cX3_append 36 = .ok (.getfield 18, 3) := by decide +kernel
theorem dX3_append_39 : decode cX3_append 39 = .ok (.iload 5, 2) := by decide +kernel
theorem dX3_append_41 : decode cX3_append 41 = .ok (.iload_n 3, 1) := by decide +kernel
theorem dX3_append_42 : decode cX3_append 42 = .ok (.iastore, 1) := by decide +kernel
theorem dX3_append_43 : decode cX3_append 43 = .ok (.aload_n 0, 1) := by decide +kernel
theorem dX3_append_44 : decode cX3_append 44 = .ok (.getfield 21, 3) := by decide +kernel
theorem dX3_append_47 : decode cX3_append 47 = .ok (.iload 5, 2) := by decide +kernel
theorem dX3_append_49 : decode cX3_append 49 = .ok (.iload 4, 2) := by decide +kernel
theorem dX3_append_51 : decode cX3_append 51 = .ok (.iastore, 1) := by decide +kernel
theorem dX3_append_52 : decode cX3_append 52 = .ok (.aload_n 0, 1) := by decide +kernel
theorem dX3_append_53 : decode cX3_append 53 = .ok (.iload 5, 2) := by decide +kernel
theorem dX3_append_55 : decode cX3_append 55 = .ok (.iconst 1, 1) := by decide +kernel
theorem dX3_append_56 : decode cX3_append 56 = .ok (.iadd, 1) := by decide +kernel
theorem dX3_append_57 : decode cX3_append 57 = .ok (.putfield 24, 3) := by decide +kernel
theorem dX3_append_60 : decode cX3_append 60 = .ok (.iload 5, 2) := by decide +kernel
theorem dX3_append_62 : decode cX3_append 62 = .ok (.ireturn, 1) := by decide +kernel
theorem dX3_drop_0 : decode cX3_drop 0 = .ok (.aload_n 0, 1) := by decide +kernel
theorem dX3_drop_1 : decode cX3_drop 1 = .ok (.iload_n 1, 1) := by decide +kernel
theorem dX3_drop_2 : decode cX3_drop 2 = .ok (.invokevirtual 32, 3) := by decide +kernel
theorem dX3_drop_5 : decode cX3_drop 5 = .ok (.ifCond .ne 8, 3) := by decide +kernel
theorem dX3_drop_8 : decode cX3_drop 8 = .ok (.aload_n 0, 1) := by decide +kernel
theorem dX3_drop_9 : decode cX3_drop 9 = .ok (.getfield 24, 3) := by decide +kernel
theorem dX3_drop_12 : decode cX3_drop 12 = .ok (.ireturn, 1) := by decide +kernel
theorem dX3_drop_13 : decode cX3_drop 13 = .ok (.iload_n 1, 1) := by decide +kernel
theorem dX3_drop_14 : decode cX3_drop 14 = .ok (.istore_n 2, 1) := by decide +kernel
theorem dX3_drop_15 : decode cX3_drop 15 = .ok (.iload_n 2, 1) := by decide +kernel
theorem dX3_drop_16 : decode cX3_drop 16 = .ok (.iconst 1, 1) := by decide +kernel
theorem dX3_drop_17 : decode cX3_drop 17 = .ok (.iadd, 1) := by decide +kernel
theorem dX3_drop_18 : decode cX3_drop 18 = .ok (.iconst 5, 1) := by decide +kernel
theorem dX3_drop_19 : decode cX3_drop 19 = .ok (.if_icmp .ge 75, 3) := by decide +kernel
theorem dX3_drop_22 : decode cX3_drop 22 = .ok (.iload_n 2, 1) := by decide +kernel
theorem dX3_drop_23 : decode cX3_drop 23 = .ok (.iconst 1, 1) := by decide +kernel
theorem dX3_drop_24 : decode cX3_drop 24 = .ok (.iadd, 1) := by decide +kernel
theorem dX3_drop_25 : decode cX3_drop 25 = .ok (.aload_n 0, 1) := by decide +kernel
theorem dX3_drop_26 : decode cX3_drop 26 = .ok (.getfield 24, 3) := by decide +kernel
theorem dX3_drop_29 : decode cX3_drop 29 = .ok (.if_icmp .ge 65, 3) := by decide +kernel
theorem dX3_drop_32 : decode cX3_drop 32 = .ok (.aload_n 0, 1) := by decide +kernel
theorem dX3_drop_33 : decode cX3_drop 33 = .ok (.getfield 9, 3) := by decide +kernel
theorem dX3_drop_36 : decode cX3_drop 36 = .ok (.iload_n 2, 1) := by decide +kernel
theorem dX3_drop_37 : decode cX3_drop 37 = .ok (.aload_n 0, 1) := by decide +kernel
theorem dX3_drop_38 : decode cX3_drop 38 = .ok (.getfield 9, 3) := by decide +kernel
theorem dX3_drop_41 : decode cX3_drop 41 = .ok (.iload_n 2, 1) := by decide +kernel
theorem dX3_drop_42 : decode cX3_drop 42 = .ok (.iconst 1, 1) := by decide +kernel
theorem dX3_drop_43 : decode cX3_drop 43 = .ok (.iadd, 1) := by decide +kernel
theorem dX3_drop_44 : decode cX3_drop 44 = .ok (.iaload, 1) := by decide +kernel
theorem dX3_drop_45 : decode cX3_drop 45 = .ok (.iastore, 1) := by decide +kernel
theorem dX3_drop_46 : decode cX3_drop 46 = .ok (.aload_n 0, 1) := by decide +kernel
theorem dX3_drop_47 : decode cX3_drop 47 = .ok (.getfield 15, 3) := by decide +kernel
theorem dX3_drop_50 : decode cX3_drop 50 = .ok (.iload_n 2, 1) := by decide +kernel
theorem dX3_drop_51 : decode cX3_drop 51 = .ok (.aload_n 0, 1) := by decide +kernel
theorem dX3_drop_52 : decode cX3_drop 52 = .ok (.getfield 15, 3) := by decide +kernel
theorem dX3_drop_55 : decode cX3_drop 55 = .ok (.iload_n 2, 1) := by decide +kernel
theorem dX3_drop_56 : decode cX3_drop 56 = .ok (.iconst 1, 1) := by decide +kernel
theorem dX3_drop_57 : decode cX3_drop 57 = .ok (.iadd, 1) := by decide +kernel
theorem dX3_drop_58 : decode cX3_drop 58 = .ok (.iaload, 1) := by decide +kernel
theorem dX3_drop_59 : decode cX3_drop 59 = .ok (.iastore, 1) := by decide +kernel
theorem dX3_drop_60 : decode cX3_drop 60 = .ok (.aload_n 0, 1) := by decide +kernel
theorem dX3_drop_61 : decode cX3_drop 61 = .ok (.getfield 18, 3) := by decide +kernel
theorem dX3_drop_64 : decode cX3_drop 64 = .ok (.iload_n 2, 1) := by decide +kernel
theorem dX3_drop_65 : decode cX3_drop 65 = .ok (.aload_n 0, 1) := by decide +kernel
theorem dX3_drop_66 : decode cX3_drop 66 = .ok (.getfield 18, 3) := by decide +kernel
theorem dX3_drop_69 : decode cX3_drop 69 = .ok (.iload_n 2, 1) := by decide +kernel
theorem dX3_drop_70 : decode cX3_drop 70 = .ok (.iconst 1, 1) := by decide +kernel
theorem dX3_drop_71 : decode cX3_drop 71 = .ok (.iadd, 1) := by decide +kernel
theorem dX3_drop_72 : decode cX3_drop 72 = .ok (.iaload, 1) := by decide +kernel
theorem dX3_drop_73 : decode cX3_drop 73 = .ok (.iastore, 1) := by decide +kernel
theorem dX3_drop_74 : decode cX3_drop 74 = .ok (.aload_n 0, 1) := by decide +kernel
theorem dX3_drop_75 : decode cX3_drop 75 = .ok (.getfield 21, 3) := by decide +kernel
theorem dX3_drop_78 : decode cX3_drop 78 = .ok (.iload_n 2, 1) := by decide +kernel
theorem dX3_drop_79 : decode cX3_drop 79 = .ok (.aload_n 0, 1) := by decide +kernel
theorem dX3_drop_80 : decode cX3_drop 80 = .ok (.getfield 21, 3) := by decide +kernel
theorem dX3_drop_83 : decode cX3_drop 83 = .ok (.iload_n 2, 1) := by decide +kernel
theorem dX3_drop_84 : decode cX3_drop 84 = .ok (.iconst 1, 1) := by decide +kernel
theorem dX3_drop_85 : decode cX3_drop 85 = .ok (.iadd, 1) := by decide +kernel
theorem dX3_drop_86 : decode cX3_drop 86 = .ok (.iaload, 1) := by decide +kernel
theorem dX3_drop_87 : decode cX3_drop 87 = .ok (.iastore, 1) := by decide +kernel
theorem dX3_drop_88 : decode cX3_drop 88 = .ok (.iinc 2 1, 3) := by decide +kernel
theorem dX3_drop_91 : decode cX3_drop 91 = .ok (.goto (-76), 3) := by decide +kernel
theorem dX3_drop_94 : decode cX3_drop 94 = .ok (.aload_n 0, 1) := by decide +kernel
theorem dX3_drop_95 : decode cX3_drop 95 = .ok (.dup, 1) := by decide +kernel
theorem dX3_drop_96 : decode cX3_drop 96 = .ok (.getfield 24, 3) := by decide +kernel
theorem dX3_drop_99 : decode cX3_drop 99 = .ok (.iconst 1, 1) := by decide +kernel
theorem dX3_drop_100 : decode cX3_drop 100 = .ok (.isub, 1) := by decide +kernel
theorem dX3_drop_101 : decode cX3_drop 101 = .ok (.putfield 24, 3) := by decide +kernel
theorem dX3_drop_104 : decode cX3_drop 104 = .ok (.aload_n 0, 1) := by decide +kernel
theorem dX3_drop_105 : decode cX3_drop 105 = .ok (.getfield 24, 3) := by decide +kernel
theorem dX3_drop_108 : decode cX3_drop 108 = .ok (.ireturn, 1) := by decide +kernel
theorem dX3_copyFrom_0 : decode cX3_copyFrom 0 = .ok (.aload_n 0, 1) := by decide +kernel
theorem dX3_copyFrom_1 : decode cX3_copyFrom 1 = .ok (.aload_n 1, 1) := by decide +kernel
theorem dX3_copyFrom_2 : decode cX3_copyFrom 2 = .ok (.getfield 24, 3) := by decide +kernel
theorem dX3_copyFrom_5 : decode cX3_copyFrom 5 = .ok (.putfield 24, 3) := by decide +kernel
theorem dX3_copyFrom_8 : decode cX3_copyFrom 8 = .ok (.aload_n 1, 1) := by decide +kernel
theorem dX3_copyFrom_9 : decode cX3_copyFrom 9 = .ok (.getfield 9, 3) := by decide +kernel
theorem dX3_copyFrom_12 : decode cX3_copyFrom 12 = .ok (.aload_n 0, 1) := by decide +kernel
theorem dX3_copyFrom_13 : decode cX3_copyFrom 13 = .ok (.getfield 9, 3) := by decide +kernel
theorem dX3_copyFrom_16 : decode cX3_copyFrom 16 = .ok (.invokestatic 36, 3) := by decide +kernel
theorem dX3_copyFrom_19 : decode cX3_copyFrom 19 = .ok (.aload_n 1, 1) := by decide +kernel
theorem dX3_copyFrom_20 : decode cX3_copyFrom 20 = .ok (.getfield 15, 3) := by decide +kernel
theorem dX3_copyFrom_23 : decode cX3_copyFrom 23 = .ok (.aload_n 0, 1) := by decide +kernel
theorem dX3_copyFrom_24 : decode cX3_copyFrom 24 = .ok (.getfield 15, 3) := by decide +kernel
theorem dX3_copyFrom_27 : decode cX3_copyFrom 27 = .ok (.invokestatic 36, 3) := by decide +kernel
theorem dX3_copyFrom_30 : decode cX3_copyFrom 30 = .ok (.aload_n 1, 1) := by decide +kernel
theorem dX3_copyFrom_31 : decode cX3_copyFrom 31 = .ok (.getfield 18, 3) := by decide +kernel
theorem dX3_copyFrom_34 : decode cX3_copyFrom 34 = .ok (.aload_n 0, 1) := by decide +kernel
theorem dX3_copyFrom_35 : decode cX3_copyFrom 35 = .ok (.getfield 18, 3) := by decide +kernel
theorem dX3_copyFrom_38 : decode cX3_copyFrom 38 = .ok (.invokestatic 36, 3) := by decide +kernel
theorem dX3_copyFrom_41 : decode cX3_copyFrom 41 = .ok (.aload_n 1, 1) := by decide +kernel
theorem dX3_copyFrom_42 : decode cX3_copyFrom 42 = .ok (.getfield 21, 3) := by decide +kernel
theorem dX3_copyFrom_45 : decode cX3_copyFrom 45 = .ok (.aload_n 0, 1) := by decide +kernel
theorem dX3_copyFrom_46 : decode cX3_copyFrom 46 = .ok (.getfield 21, 3) := by decide +kernel
theorem dX3_copyFrom_49 : decode cX3_copyFrom 49 = .ok (.invokestatic 36, 3) := by decide +kernel
theorem dX3_copyFrom_52 : decode cX3_copyFrom 52 = .ok (.return_, 1) := by decide +kernel
theorem dX4_init_0 : decode cX4_init 0 = .ok (.aload_n 0, 1) := by decide +kernel
theorem dX4_init_1 : decode cX4_init 1 = .ok (.invokespecial 3, 3) := by decide +kernel
theorem dX4_init_4 : decode cX4_init 4 = .ok (.aload_n 0, 1) := by decide +kernel
theorem dX4_init_5 : decode cX4_init 5 = .ok (.bipush 10, 2) := by decide +kernel
theorem dX4_init_7 : decode cX4_init 7 = .ok (.putfield 9, 3) := by decide +kernel
theorem dX4_init_10 : decode cX4_init 10 = .ok (.aload_n 0, 1) := by decide +kernel
theorem dX4_init_11 : decode cX4_init 11 = .ok (.bipush 100, 2) := by decide +kernel
theorem dX4_init_13 : decode cX4_init 13 = .ok (.putfield 15, 3) := by decide +kernel
theorem dX4_init_16 : decode cX4_init 16 = .ok (.aload_n 0, 1) := by decide +kernel
theorem dX4_init_17 : decode cX4_init 17 = .ok (.iconst 3, 1) := by decide +kernel
theorem dX4_init_18 : decode cX4_init 18 = .ok (.newarray .boolean, 2) := by decide +kernel
theorem dX4_init_20 : decode cX4_init 20 = .ok (.putfield 18, 3) := by decide +kernel
theorem dX4_init_23 : decode cX4_init 23 = .ok (.aload_n 0, 1) := by decide +kernel
theorem dX4_init_24 : decode cX4_init 24 = .ok (.iconst 3, 1) := by decide +kernel
theorem dX4_init_25 : decode cX4_init 25 = .ok (.newarray .boolean, 2) := by decide +kernel
theorem dX4_init_27 : decode cX4_init 27 = .ok (.putfield 22, 3) := by decide +kernel
theorem dX4_init_30 : decode cX4_init 30 = .ok (.iconst 0, 1) := by decide +kernel
theorem dX4_init_31 : decode cX4_init 31 = .ok (.istore_n 1, 1) := by decide +kernel
theorem dX4_init_32 : decode cX4_init 32 = .ok (.iload_n 1, 1) := by decide +kernel
theorem dX4_init_33 : decode cX4_init 33 = .ok (.iconst 3, 1) := by decide +kernel
theorem dX4_init_34 : decode cX4_init 34 = .ok (.if_icmp .ge 23, 3) := by decide +kernel
theorem dX4_init_37 : decode cX4_init 37 = .ok (.aload_n 0, 1) := by decide +kernel
theorem dX4_init_38 : decode cX4_init 38 = .ok (.getfield 18, 3) := by decide +kernel
theorem dX4_init_41 : decode cX4_init 41 = .ok (.iload_n 1, 1) := by decide +kernel
theorem dX4_init_42 : decode cX4_init 42 = .ok (.iconst 1, 1) := by decide +kernel
theorem dX4_init_43 : decode cX4_init 43 = .ok (.bastore, 1) := by decide +kernel
theorem dX4_init_44 : decode cX4_init 44 = .ok (.aload_n 0, 1) := by decide +kernel
theorem dX4_init_45 : decode cX4_init 45 = .ok (.getfield 22, 3) := by decide +kernel
theorem dX4_init_48 : decode cX4_init 48 = .ok (.iload_n 1, 1) := by decide +kernel
theorem dX4_init_49 : decode cX4_init 49 = .ok (.iconst 1, 1) := by decide +kernel
theorem dX4_init_50 : decode cX4_init 50 = .ok (.bastore, 1) := by decide +kernel
theorem dX4_init_51 : decode cX4_init 51 = .ok (.iinc 1 1, 3) := by decide +kernel
theorem dX4_init_54 : decode cX4_init 54 = .ok (.goto (-22), 3) := by decide +kernel
theorem dX4_init_57 : decode cX4_init 57 = .ok (.return_, 1) := by decide +kernel
theorem dX4_copyFrom_0 : decode cX4_copyFrom 0 = .ok (.aload_n 0, 1) := by decide +kernel
theorem dX4_copyFrom_1 : decode cX4_copyFrom 1 = .ok (.aload_n 1, 1) := by decide +kernel
theorem dX4_copyFrom_2 : decode cX4_copyFrom 2 = .ok (.getfield 25, 3) := by decide +kernel
theorem dX4_copyFrom_5 : decode cX4_copyFrom 5 = .ok (.putfield 25, 3) := by decide +kernel
theorem dX4_copyFrom_8 : decode cX4_copyFrom 8 = .ok (.aload_n 0, 1) := by decide +kernel
theorem dX4_copyFrom_9 : decode cX4_copyFrom 9 = .ok (.aload_n 1, 1) := by decide +kernel
theorem dX4_copyFrom_10 : decode cX4_copyFrom 10 = .ok (.getfield 9, 3) := by decide +kernel
theorem dX4_copyFrom_13 : decode cX4_copyFrom 13 = .ok (.putfield 9, 3) := by decide +kernel
theorem dX4_copyFrom_16 : decode cX4_copyFrom 16 = .ok (.aload_n 0, 1) := by decide +kernel
theorem dX4_copyFrom_17 : decode cX4_copyFrom 17 = .ok (.aload_n 1, 1) := by decide +kernel
theorem dX4_copyFrom_18 : decode cX4_copyFrom 18 = .ok (.getfield 15, 3) := by decide +kernel
theorem dX4_copyFrom_21 : decode cX4_copyFrom 21 = .ok (.putfield 15, 3) := by decide +kernel
theorem dX4_copyFrom_24 : decode cX4_copyFrom 24 = .ok (.aload_n 0, 1) := by decide +kernel
theorem dX4_copyFrom_25 : decode cX4_copyFrom 25 = .ok (.aload_n 1, 1) := by decide +kernel
theorem dX4_copyFrom_26 : decode cX4_copyFrom 26 = .ok (.getfield 28, 3) := by decide +kernel
theorem dX4_copyFrom_29 : decode cX4_copyFrom 29 = .ok (.putfield 28, 3) := by decide +kernel
theorem dX4_copyFrom_32 : decode cX4_copyFrom 32 = .ok (.aload_n 1, 1) := by decide +kernel
theorem dX4_copyFrom_33 : decode cX4_copyFrom 33 = .ok (.getfield 18, 3) := by decide +kernel
theorem dX4_copyFrom_36 : decode cX4_copyFrom 36 = .ok (.aload_n 0, 1) := by decide +kernel
theorem dX4_copyFrom_37 : decode cX4_copyFrom 37 = .ok (.getfield 18, 3) := by decide +kernel
theorem dX4_copyFrom_40 : decode cX4_copyFrom 40 = .ok (.invokestatic 31, 3) := by decide +kernel
theorem dX4_copyFrom_43 : decode cX4_copyFrom 43 = .ok (.aload_n 1, 1) := by decide +kernel
theorem dX4_copyFrom_44 : decode cX4_copyFrom 44 = .ok (.getfield 22, 3) := by decide +kernel
theorem dX4_copyFrom_47 : decode cX4_copyFrom 47 = .ok (.aload_n 0, 1) := by decide +kernel
theorem dX4_copyFrom_48 : decode cX4_copyFrom 48 = .ok (.getfield 22, 3) := by decide +kernel
theorem dX4_copyFrom_51 : decode cX4_copyFrom 51 = .ok (.invokestatic 31, 3) := by decide +kernel
theorem dX4_copyFrom_54 : decode cX4_copyFrom 54 = .ok (.return_, 1) := by decide +kernel
theorem dX5_init_0 : decode cX5_init 0 = .ok (.aload_n 0, 1) := by decide +kernel
theorem dX5_init_1 : decode cX5_init 1 = .ok (.invokespecial 3, 3) := by decide +kernel
theorem dX5_init_4 : decode cX5_init 4 = .ok (.aload_n 0, 1) := by decide +kernel
theorem dX5_init_5 : decode cX5_init 5 = .ok (.new 9, 3) := by decide +kernel
theorem dX5_init_8 : decode cX5_init 8 = .ok (.dup, 1) := by decide +kernel
theorem dX5_init_9 : decode cX5_init 9 = .ok (.invokespecial 11, 3) := by decide +kernel
theorem dX5_init_12 : decode cX5_init 12 = .ok (.putfield 12, 3) := by decide +kernel
theorem dX5_init_15 : decode cX5_init 15 = .ok (.aload_n 0, 1) := by decide +kernel
theorem dX5_init_16 : decode cX5_init 16 = .ok (.new 18, 3) := by decide +kernel
theorem dX5_init_19 : decode cX5_init 19 = .ok (.dup, 1) := by decide +kernel
theorem dX5_init_20 : decode cX5_init 20 = .ok (.invokespecial 20, 3) := by decide +kernel
theorem dX5_init_23 : decode cX5_init 23 = .ok (.putfield 21, 3) := by decide +kernel
theorem dX5_init_26 : decode cX5_init 26 = .ok (.aload_n 0, 1) := by decide +kernel
theorem dX5_init_27 : decode cX5_init 27 = .ok (.new 25, 3) := by decide +kernel
theorem dX5_init_30 : decode cX5_init 30 = .ok (.dup, 1) := by decide +kernel
theorem dX5_init_31 : decode cX5_init 31 = .ok (.invokespecial 27, 3) := by decide +kernel
theorem dX5_init_34 : decode cX5_init 34 = .ok (.putfield 28, 3) := by decide +kernel
theorem dX5_init_37 : decode cX5_init 37 = .ok (.aload_n 0, 1) := by decide +kernel
theorem dX5_init_38 : decode cX5_init 38 = .ok (.new 32, 3) := by decide +kernel
theorem dX5_init_41 : decode cX5_init 41 = .ok (.dup, 1) := by decide +kernel
theorem dX5_init_42 : decode cX5_init 42 = .ok (.invokespecial 34, 3) := by decide +kernel
theorem dX5_init_45 : decode cX5_init 45 = .ok (.putfield 35, 3) := by decide +kernel
theorem dX5_init_48 : decode cX5_init 48 = .ok (.aload_n 0, 1) := by decide +kernel
theorem dX5_init_49 : decode cX5_init 49 = .ok (.aload_n 1, 1) := by decide +kernel
theorem dX5_init_50 : decode cX5_init 50 = .ok (.putfield 39, 3) := by decide +kernel
theorem dX5_init_53 : decode cX5_init 53 = .ok (.return_, 1) := by decide +kernel
theorem dX5_copyFrom_0 : decode cX5_copyFrom 0 = .ok (.aload_n 0, 1) := by decide +kernel
theorem dX5_copyFrom_1 : decode cX5_copyFrom 1 = .ok (.getfield 12, 3) := by decide +kernel
theorem dX5_copyFrom_4 : decode cX5_copyFrom 4 = .ok (.aload_n 1, 1) := by decide +kernel
theorem dX5_copyFrom_5 : decode cX5_copyFrom 5 = .ok (.getfield 12, 3) := by decide +kernel
theorem dX5_copyFrom_8 : decode cX5_copyFrom 8 = .ok (.invokevirtual 43, 3) := by decide +kernel
theorem dX5_copyFrom_11 : decode cX5_copyFrom 11 = .ok (.aload_n 0, 1) := by decide +kernel
theorem dX5_copyFrom_12 : decode cX5_copyFrom 12 = .ok (.getfield 21, 3) := by decide +kernel
theorem dX5_copyFrom_15 : decode cX5_copyFrom 15 = .ok (.aload_n 1, 1) := by decide +kernel
theorem dX5_copyFrom_16 : decode cX5_copyFrom 16 = .ok (.getfield 21, 3) := by decide +kernel
theorem dX5_copyFrom_19 : decode cX5_copyFrom 19 = .ok (.invokevirtual 47, 3) := by decide +kernel
theorem dX5_copyFrom_22 : decode cX5_copyFrom 22 = .ok (.aload_n 0, 1) := by decide +kernel
theorem dX5_copyFrom_23 : decode cX5_copyFrom 23 = .ok (.getfield 28, 3) := by decide +kernel
theorem dX5_copyFrom_26 : decode cX5_copyFrom 26 = .ok (.aload_n 1, 1) := by decide +kernel
theorem dX5_copyFrom_27 : decode cX5_copyFrom 27 = .ok (.getfield 28, 3) := by decide +kernel
theorem dX5_copyFrom_30 : decode cX5_copyFrom 30 = .ok (.invokevirtual 50, 3) := by decide +kernel
theorem dX5_copyFrom_33 : decode cX5_copyFrom 33 = .ok (.aload_n 0, 1) := by decide +kernel
theorem dX5_copyFrom_34 : decode cX5_copyFrom 34 = .ok (.getfield 35, 3) := by decide +kernel
theorem dX5_copyFrom_37 : decode cX5_copyFrom 37 = .ok (.aload_n 1, 1) := by decide +kernel
theorem dX5_copyFrom_38 : decode cX5_copyFrom 38 = .ok (.getfield 35, 3) := by decide +kernel
theorem dX5_copyFrom_41 : decode cX5_copyFrom 41 = .ok (.invokevirtual 53, 3) := by decide +kernel
theorem dX5_copyFrom_44 : decode cX5_copyFrom 44 = .ok (.return_, 1) := by decide +kernel
theorem dX5_directUpFor_0 : decode cX5_directUpFor 0 = .ok (.aload_n 0, 1) := by decide +kernel
theorem dX5_directUpFor_1 : decode cX5_directUpFor 1 = .ok (.iload_n 1, 1) := by decide +kernel
theorem dX5_directUpFor_2 : decode cX5_directUpFor 2 = .ok (.invokevirtual 56, 3) := by decide +kernel
theorem dX5_directUpFor_5 : decode cX5_directUpFor 5 = .ok (.istore_n 2, 1) := by decide +kernel
theorem dX5_directUpFor_6 : decode cX5_directUpFor 6 = .ok (.iload_n 2, 1) := by decide +kernel
theorem dX5_directUpFor_7 : decode cX5_directUpFor 7 = .ok (.invokestatic 60, 3) := by decide +kernel
theorem dX5_directUpFor_10 : decode cX5_directUpFor 10 = .ok (.ifCond .eq 19, 3) := by decide +kernel
theorem dX5_directUpFor_13 : decode cX5_directUpFor 13 = .ok (.aload_n 0, 1) := by decide +kernel
theorem dX5_directUpFor_14 : decode cX5_directUpFor 14 = .ok (.getfield 35, 3) := by decide +kernel
theorem dX5_directUpFor_17 : decode cX5_directUpFor 17 = .ok (.getfield 64, 3) := by decide +kernel
theorem dX5_directUpFor_20 : decode cX5_directUpFor 20 = .ok (.iload_n 2, 1) := by decide +kernel
theorem dX5_directUpFor_21 : decode cX5_directUpFor 21 = .ok (.baload, 1) := by decide +kernel
theorem dX5_directUpFor_22 : decode cX5_directUpFor 22 = .ok (.ifCond .eq 7, 3) := by decide +kernel
theorem dX5_directUpFor_25 : decode cX5_directUpFor 25 = .ok (.iconst 1, 1) := by decide +kernel
theorem dX5_directUpFor_26 : decode cX5_directUpFor 26 = .ok (.goto 4, 3) := by decide +kernel
theorem dX5_directUpFor_29 : decode cX5_directUpFor 29 = .ok (.iconst 0, 1) := by decide +kernel
theorem dX5_directUpFor_30 : decode cX5_directUpFor 30 = .ok (.ireturn, 1) := by decide +kernel
theorem dX5_relayUpFor_0 : decode cX5_relayUpFor 0 = .ok (.aload_n 0, 1) := by decide +kernel
theorem dX5_relayUpFor_1 : decode cX5_relayUpFor 1 = .ok (.iload_n 1, 1) := by decide +kernel
theorem dX5_relayUpFor_2 : decode cX5_relayUpFor 2 = .ok (.invokevirtual 56, 3) := by decide +kernel
theorem dX5_relayUpFor_5 : decode cX5_relayUpFor 5 = .ok (.istore_n 2, 1) := by decide +kernel
theorem dX5_relayUpFor_6 : decode cX5_relayUpFor 6 = .ok (.iload_n 2, 1) := by decide +kernel
theorem dX5_relayUpFor_7 : decode cX5_relayUpFor 7 = .ok (.invokestatic 60, 3) := by decide +kernel
theorem dX5_relayUpFor_10 : decode cX5_relayUpFor 10 = .ok (.ifCond .eq 19, 3) := by decide +kernel
theorem dX5_relayUpFor_13 : decode cX5_relayUpFor 13 = .ok (.aload_n 0, 1) := by decide +kernel
theorem dX5_relayUpFor_14 : decode cX5_relayUpFor 14 = .ok (.getfield 35, 3) := by decide +kernel
theorem dX5_relayUpFor_17 : decode cX5_relayUpFor 17 = .ok (.getfield 68, 3) := by decide +kernel
theorem dX5_relayUpFor_20 : decode cX5_relayUpFor 20 = .ok (.iload_n 2, 1) := by decide +kernel
theorem dX5_relayUpFor_21 : decode cX5_relayUpFor 21 = .ok (.baload, 1) := by decide +kernel
theorem dX5_relayUpFor_22 : decode cX5_relayUpFor 22 = .ok (.ifCond .eq 7, 3) := by decide +kernel
theorem dX5_relayUpFor_25 : decode cX5_relayUpFor 25 = .ok (.iconst 1, 1) := by decide +kernel
theorem dX5_relayUpFor_26 : decode cX5_relayUpFor 26 = .ok (.goto 4, 3) := by decide +kernel
theorem dX5_relayUpFor_29 : decode cX5_relayUpFor 29 = .ok (.iconst 0, 1) := by decide +kernel
theorem dX5_relayUpFor_30 : decode cX5_relayUpFor 30 = .ok (.ireturn, 1) := by decide +kernel
theorem dX5_groupOfClient_0 : decode cX5_groupOfClient 0 = .ok (.iload_n 1, 1) := by decide +kernel
theorem dX5_groupOfClient_1 : decode cX5_groupOfClient 1 = .ok (.invokestatic 71, 3) := by decide +kernel
theorem dX5_groupOfClient_4 : decode cX5_groupOfClient 4 = .ok (.ifCond .eq 22, 3) := by decide +kernel
theorem dX5_groupOfClient_7 : decode cX5_groupOfClient 7 = .ok (.aload_n 0, 1) := by decide +kernel
theorem dX5_groupOfClient_8 : decode cX5_groupOfClient 8 = .ok (.getfield 12, 3) := by decide +kernel
theorem dX5_groupOfClient_11 : decode cX5_groupOfClient 11 = .ok (.aload_n 0, 1) := by decide +kernel
theorem dX5_groupOfClient_12 : decode cX5_groupOfClient 12 = .ok (.getfield 28, 3) := by decide +kernel
theorem dX5_groupOfClient_15 : decode cX5_groupOfClient 15 = .ok (.getfield 74, 3) := by decide +kernel
theorem dX5_groupOfClient_18 : decode cX5_groupOfClient 18 = .ok (.iload_n 1, 1) := by decide +kernel
theorem dX5_groupOfClient_19 : decode cX5_groupOfClient 19 = .ok (.iaload, 1) := by decide +kernel
theorem dX5_groupOfClient_20 : decode cX5_groupOfClient 20 = .ok (.invokevirtual 78, 3) := by decide +kernel
theorem dX5_groupOfClient_23 : decode cX5_groupOfClient 23 = .ok (.goto 4, 3) := by decide +kernel
theorem dX5_groupOfClient_26 : decode cX5_groupOfClient 26 = .ok (.iconst (-1), 1) := by decide +kernel
theorem dX5_groupOfClient_27 : decode cX5_groupOfClient 27 = .ok (.ireturn, 1) := by decide +kernel
theorem dX5_leaseEnd_0 : decode cX5_leaseEnd 0 = .ok (.iload_n 1, 1) := by decide +kernel
theorem dX5_leaseEnd_1 : decode cX5_leaseEnd 1 = .ok (.invokestatic 71, 3) := by decide +kernel
theorem dX5_leaseEnd_4 : decode cX5_leaseEnd 4 = .ok (.ifCond .eq 15, 3) := by decide +kernel
theorem dX5_leaseEnd_7 : decode cX5_leaseEnd 7 = .ok (.aload_n 0, 1) := by decide +kernel
theorem dX5_leaseEnd_8 : decode cX5_leaseEnd 8 = .ok (.getfield 28, 3) := by decide +kernel
theorem dX5_leaseEnd_11 : decode cX5_leaseEnd 11 = .ok (.getfield 74, 3) := by decide +kernel
theorem dX5_leaseEnd_14 : decode cX5_leaseEnd 14 = .ok (.iload_n 1, 1) := by decide +kernel
theorem dX5_leaseEnd_15 : decode cX5_leaseEnd 15 = .ok (.iaload, 1) := by decide +kernel
theorem dX5_leaseEnd_16 : decode cX5_leaseEnd 16 = .ok (.goto 4, 3) := by decide +kernel
theorem dX5_leaseEnd_19 : decode cX5_leaseEnd 19 = .ok (.iconst (-1), 1) := by decide +kernel
theorem dX5_leaseEnd_20 : decode cX5_leaseEnd 20 = .ok (.istore_n 2, 1) := by decide +kernel
theorem dX5_leaseEnd_21 : decode cX5_leaseEnd 21 = .ok (.iload_n 2, 1) := by decide +kernel
theorem dX5_leaseEnd_22 : decode cX5_leaseEnd 22 = .ok (.invokestatic 81, 3) := by decide +kernel
theorem dX5_leaseEnd_25 : decode cX5_leaseEnd 25 = .ok (.ifCond .eq 15, 3) := by decide +kernel
theorem dX5_leaseEnd_28 : decode cX5_leaseEnd 28 = .ok (.aload_n 0, 1) := by decide +kernel
theorem dX5_leaseEnd_29 : decode cX5_leaseEnd 29 = .ok (.getfield 21, 3) := by decide +kernel
theorem dX5_leaseEnd_32 : decode cX5_leaseEnd 32 = .ok (.getfield 84, 3) := by decide +kernel
theorem dX5_leaseEnd_35 : decode cX5_leaseEnd 35 = .ok (.iload_n 2, 1) := by decide +kernel
theorem dX5_leaseEnd_36 : decode cX5_leaseEnd 36 = .ok (.iaload, 1) := by decide +kernel
theorem dX5_leaseEnd_37 : decode cX5_leaseEnd 37 = .ok (.goto 4, 3) := by decide +kernel
theorem dX5_leaseEnd_40 : decode cX5_leaseEnd 40 = .ok (.iconst (-1), 1) := by decide +kernel
theorem dX5_leaseEnd_41 : decode cX5_leaseEnd 41 = .ok (.ireturn, 1) := by decide +kernel
theorem dX5_countInGroup_0 : decode cX5_countInGroup 0 = .ok (.iconst 0, 1) := by decide +kernel
theorem dX5_countInGroup_1 : decode cX5_countInGroup 1 = .ok (.istore_n 3, 1) := by decide +kernel
theorem dX5_countInGroup_2 : decode cX5_countInGroup 2 = .ok (.iconst 0, 1) := by decide +kernel
theorem dX5_countInGroup_3 : decode cX5_countInGroup 3 = .ok (.istore 4, 2) := by decide +kernel
theorem dX5_countInGroup_5 : decode cX5_countInGroup 5 = .ok (.iload 4, 2) := by decide +kernel
theorem dX5_countInGroup_7 : decode cX5_countInGroup 7 = .ok (.iconst 5, 1) := by decide +kernel
theorem dX5_countInGroup_8 : decode cX5_countInGroup 8 = .ok (.if_icmp .ge 66, 3) := by decide +kernel
theorem dX5_countInGroup_11 : decode cX5_countInGroup 11 = .ok (.iload 4, 2) := by decide +kernel
theorem dX5_countInGroup_13 : decode cX5_countInGroup 13 = .ok (.aload_n 0, 1) := by decide +kernel
theorem dX5_countInGroup_14 : decode cX5_countInGroup 14 = .ok (.getfield 12, 3) := by decide +kernel
theorem dX5_countInGroup_17 : decode cX5_countInGroup 17 = .ok (.getfield 87, 3) := by decide +kernel
theorem dX5_countInGroup_20 : decode cX5_countInGroup 20 = .ok (.if_icmp .ge 54, 3) := by decide +kernel
theorem dX5_countInGroup_23 : decode cX5_countInGroup 23 = .ok (.aload_n 0, 1) := by decide +kernel
theorem dX5_countInGroup_24 : decode cX5_countInGroup 24 = .ok (.getfield 12, 3) := by decide +kernel
theorem dX5_countInGroup_27 : decode cX5_countInGroup 27 = .ok (.getfield 91, 3) := by decide +kernel
theorem dX5_countInGroup_30 : decode cX5_countInGroup 30 = .ok (.iload 4, 2) := by decide +kernel
theorem dX5_countInGroup_32 : decode cX5_countInGroup 32 = .ok (.iaload, 1) := by decide +kernel
theorem dX5_countInGroup_33 : decode cX5_countInGroup 33 = .ok (.iload_n 1, 1) := by decide +kernel
theorem dX5_countInGroup_34 : decode cX5_countInGroup 34 = .ok (.if_icmp .ne 34, 3) := by decide +kernel
theorem dX5_countInGroup_37 : decode cX5_countInGroup 37 = .ok (.iload_n 3, 1) := by decide +kernel
theorem dX5_countInGroup_38 : decode cX5_countInGroup 38 = .ok (.aload_n 0, 1) := by decide +kernel
theorem dX5_countInGroup_39 : decode cX5_countInGroup 39 = .ok (.getfield 21, 3) := by decide +kernel
theorem dX5_countInGroup_42 : decode cX5_countInGroup 42 = .ok (.aload_n 0, 1) := by decide +kernel
theorem dX5_countInGroup_43 : decode cX5_countInGroup 43 = .ok (.getfield 12, 3) := by decide +kernel
theorem dX5_countInGroup_46 : decode cX5_countInGroup 46 = .ok (.getfield 94, 3) := by decide +kernel
theorem dX5_countInGroup_49 : decode cX5_countInGroup 49 = .ok (.iload 4, 2) := by decide +kernel
theorem dX5_countInGroup_51 : decode cX5_countInGroup 51 = .ok (.iaload, 1) := by decide +kernel
theorem dX5_countInGroup_52 : decode cX5_countInGroup 52 = .ok (.aload_n 0, 1) := by decide +kernel
theorem dX5_countInGroup_53 : decode cX5_countInGroup 53 = .ok (.getfield 12, 3) := by decide +kernel
theorem dX5_countInGroup_56 : decode cX5_countInGroup 56 = .ok (.getfield 97, 3) := by decide +kernel
theorem dX5_countInGroup_59 : decode cX5_countInGroup 59 = .ok (.iload 4, 2) := by decide +kernel
theorem dX5_countInGroup_61 : decode cX5_countInGroup 61 = .ok (.iaload, 1) := by decide +kernel
theorem dX5_countInGroup_62 : decode cX5_countInGroup 62 = .ok (.iload_n 2, 1) := by decide +kernel
theorem dX5_countInGroup_63 : decode cX5_countInGroup 63 = .ok (.invokevirtual 100, 3) := by decide +kernel
theorem dX5_countInGroup_66 : decode cX5_countInGroup 66 = .ok (.iadd, 1) := by decide +kernel
theorem dX5_countInGroup_67 : decode cX5_countInGroup 67 = .ok (.istore_n 3, 1) := by decide +kernel
theorem dX5_countInGroup_68 : decode cX5_countInGroup 68 = .ok (.iinc 4 1, 3) := by decide +kernel
theorem dX5_countInGroup_71 : decode cX5_countInGroup 71 = .ok (.goto (-66), 3) := by decide +kernel
theorem dX5_countInGroup_74 : decode cX5_countInGroup 74 = .ok (.iload_n 3, 1) := by decide +kernel
theorem dX5_countInGroup_75 : decode cX5_countInGroup 75 = .ok (.ireturn, 1) := by decide +kernel
theorem dX5_sumOfRests_0 : decode cX5_sumOfRests 0 = .ok (.iconst 0, 1) := by decide +kernel
theorem dX5_sumOfRests_1 : decode cX5_sumOfRests 1 = .ok (.istore_n 1, 1) := by decide +kernel
theorem dX5_sumOfRests_2 : decode cX5_sumOfRests 2 = .ok (.iconst 0, 1) := by decide +kernel
theorem dX5_sumOfRests_3 : decode cX5_sumOfRests 3 = .ok (.istore_n 2, 1) := by decide +kernel
theorem dX5_sumOfRests_4 : decode cX5_sumOfRests 4 = .ok (.iload_n 2, 1) := by decide +kernel
theorem dX5_sumOfRests_5 : decode cX5_sumOfRests 5 = .ok (.bipush 20, 2) := by decide +kernel
theorem dX5_sumOfRests_7 : decode cX5_sumOfRests 7 = .ok (.if_icmp .ge 36, 3) := by decide +kernel
theorem dX5_sumOfRests_10 : decode cX5_sumOfRests 10 = .ok (.aload_n 0, 1) := by decide +kernel
theorem dX5_sumOfRests_11 : decode cX5_sumOfRests 11 = .ok (.getfield 28, 3) := by decide +kernel
theorem dX5_sumOfRests_14 : decode cX5_sumOfRests 14 = .ok (.iload_n 2, 1) := by decide +kernel
theorem dX5_sumOfRests_15 : decode cX5_sumOfRests 15 = .ok (.invokevirtual 104, 3) := by decide +kernel
theorem dX5_sumOfRests_18 : decode cX5_sumOfRests 18 = .ok (.ifCond .eq 19, 3) := by decide +kernel
theorem dX5_sumOfRests_21 : decode cX5_sumOfRests 21 = .ok (.iload_n 1, 1) := by decide +kernel
theorem dX5_sumOfRests_22 : decode cX5_sumOfRests 22 = .ok (.aload_n 0, 1) := by decide +kernel
theorem dX5_sumOfRests_23 : decode cX5_sumOfRests 23 = .ok (.iload_n 2, 1) := by decide +kernel
theorem dX5_sumOfRests_24 : decode cX5_sumOfRests 24 = .ok (.invokevirtual 107, 3) := by decide +kernel
theorem dX5_sumOfRests_27 : decode cX5_sumOfRests 27 = .ok (.aload_n 0, 1) := by decide +kernel
theorem dX5_sumOfRests_28 : decode cX5_sumOfRests 28 = .ok (.getfield 35, 3) := by decide +kernel
theorem dX5_sumOfRests_31 : decode cX5_sumOfRests 31 = .ok (.getfield 110, 3) := by decide +kernel
theorem dX5_sumOfRests_34 : decode cX5_sumOfRests 34 = .ok (.isub, 1) := by decide +kernel
theorem dX5_sumOfRests_35 : decode cX5_sumOfRests 35 = .ok (.iadd, 1) := by decide +kernel
theorem dX5_sumOfRests_36 : decode cX5_sumOfRests 36 = .ok (.istore_n 1, 1) := by decide +kernel
theorem dX5_sumOfRests_37 : decode cX5_sumOfRests 37 = .ok (.iinc 2 1, 3) := by decide +kernel
theorem dX5_sumOfRests_40 : decode cX5_sumOfRests 40 = .ok (.goto (-36), 3) := by decide +kernel
theorem dX5_sumOfRests_43 : decode cX5_sumOfRests 43 = .ok (.iload_n 1, 1) := by decide +kernel
theorem dX5_sumOfRests_44 : decode cX5_sumOfRests 44 = .ok (.ireturn, 1) := by decide +kernel
theorem dX5_firstCandidate_0 : decode cX5_firstCandidate 0 = .ok (.iload_n 1, 1) := by decide +kernel
theorem dX5_firstCandidate_1 : decode cX5_firstCandidate 1 = .ok (.invokestatic 71, 3) := by decide +kernel
theorem dX5_firstCandidate_4 : decode cX5_firstCandidate 4 = .ok (.ifCond .eq 15, 3) := by decide +kernel
theorem dX5_firstCandidate_7 : decode cX5_firstCandidate 7 = .ok (.aload_n 0, 1) := by decide +kernel
theorem dX5_firstCandidate_8 : decode cX5_firstCandidate 8 = .ok (.getfield 28, 3) := by decide +kernel
theorem dX5_firstCandidate_11 : decode cX5_firstCandidate 11 = .ok (.getfield 113, 3) := by decide +kernel
theorem dX5_firstCandidate_14 : decode cX5_firstCandidate 14 = .ok (.iload_n 1, 1) := by decide +kernel
theorem dX5_firstCandidate_15 : decode cX5_firstCandidate 15 = .ok (.iaload, 1) := by decide +kernel
theorem dX5_firstCandidate_16 : decode cX5_firstCandidate 16 = .ok (.goto 4, 3) := by decide +kernel
theorem dX5_firstCandidate_19 : decode cX5_firstCandidate 19 = .ok (.iconst (-1), 1) := by decide +kernel
theorem dX5_firstCandidate_20 : decode cX5_firstCandidate 20 = .ok (.istore 4, 2) := by decide +kernel
theorem dX5_firstCandidate_22 : decode cX5_firstCandidate 22 = .ok (.aload_n 0, 1) := by decide +kernel
theorem dX5_firstCandidate_23 : decode cX5_firstCandidate 23 = .ok (.iload 4, 2) := by decide +kernel
theorem dX5_firstCandidate_25 : decode cX5_firstCandidate 25 = .ok (.iload_n 2, 1) := by decide +kernel
theorem dX5_firstCandidate_26 : decode cX5_firstCandidate 26 = .ok (.invokevirtual 116, 3) := by decide +kernel
theorem dX5_firstCandidate_29 : decode cX5_firstCandidate 29 = .ok (.ifCond .eq 6, 3) := by decide +kernel
theorem dX5_firstCandidate_32 : decode cX5_firstCandidate 32 = .ok (.iload 4, 2) := by decide +kernel
theorem dX5_firstCandidate_34 : decode cX5_firstCandidate 34 = .ok (.ireturn, 1) := by decide +kernel
theorem dX5_firstCandidate_35 : decode cX5_firstCandidate 35 = .ok (.aload_n 0, 1) := by decide +kernel
theorem dX5_firstCandidate_36 : decode cX5_firstCandidate 36 = .ok (.iload_n 3, 1) := by decide +kernel
theorem dX5_firstCandidate_37 : decode cX5_firstCandidate 37 = .ok (.iload_n 2, 1) := by decide +kernel
theorem dX5_firstCandidate_38 : decode cX5_firstCandidate 38 = .ok (.invokevirtual 116, 3) := by decide +kernel
theorem dX5_firstCandidate_41 : decode cX5_firstCandidate 41 = .ok (.ifCond .eq 5, 3) := by decide +kernel
theorem dX5_firstCandidate_44 : decode cX5_firstCandidate 44 = .ok (.iload_n 3, 1) := by decide +kernel
theorem dX5_firstCandidate_45 : decode cX5_firstCandidate 45 = .ok (.ireturn, 1) := by decide +kernel
theorem dX5_firstCandidate_46 : decode cX5_firstCandidate 46 = .ok (.aload_n 0, 1) := by decide +kernel
theorem dX5_firstCandidate_47 : decode cX5_firstCandidate 47 = .ok (.iload_n 2, 1) := by decide +kernel
theorem dX5_firstCandidate_48 : decode cX5_firstCandidate 48 = .ok (.invokevirtual 120, 3) := by decide +kernel
theorem dX5_firstCandidate_51 : decode cX5_firstCandidate 51 = .ok (.ireturn, 1) := by decide +kernel
theorem dX5_isCandidate_0 : decode cX5_isCandidate 0 = .ok (.aload_n 0, 1) := by decide +kernel
theorem dX5_isCandidate_1 : decode cX5_isCandidate 1 = .ok (.getfield 21, 3) := by decide +kernel
theorem dX5_isCandidate_4 : decode cX5_isCandidate 4 = .ok (.iload_n 1, 1) := by decide +kernel
theorem dX5_isCandidate_5 : decode cX5_isCandidate 5 = .ok (.invokevirtual 123, 3) := by decide +kernel
theorem dX5_isCandidate_8 : decode cX5_isCandidate 8 = .ok (.ifCond .eq 19, 3) := by decide +kernel
theorem dX5_isCandidate_11 : decode cX5_isCandidate 11 = .ok (.aload_n 0, 1) := by decide +kernel
theorem dX5_isCandidate_12 : decode cX5_isCandidate 12 = .ok (.getfield 12, 3) := by decide +kernel
theorem dX5_isCandidate_15 : decode cX5_isCandidate 15 = .ok (.iload_n 1, 1) := by decide +kernel
theorem dX5_isCandidate_16 : decode cX5_isCandidate 16 = .ok (.invokevirtual 78, 3) := by decide +kernel
theorem dX5_isCandidate_19 : decode cX5_isCandidate 19 = .ok (.iload_n 2, 1) := by decide +kernel
theorem dX5_isCandidate_20 : decode cX5_isCandidate 20 = .ok (.if_icmp .ne 7, 3) := by decide +kernel
theorem dX5_isCandidate_23 : decode cX5_isCandidate 23 = .ok (.iconst 1, 1) := by decide +kernel
theorem dX5_isCandidate_24 : decode cX5_isCandidate 24 = .ok (.goto 4, 3) := by decide +kernel
theorem dX5_isCandidate_27 : decode cX5_isCandidate 27 = .ok (.iconst 0, 1) := by decide +kernel
theorem dX5_isCandidate_28 : decode cX5_isCandidate 28 = .ok (.ireturn, 1) := by decide +kernel
theorem dX5_longestFree_0 : decode cX5_longestFree 0 = .ok (.iconst (-1), 1) := by decide +kernel
theorem dX5_longestFree_1 : decode cX5_longestFree 1 = .ok (.istore_n 2, 1) := by decide +kernel
theorem dX5_longestFree_2 : decode cX5_longestFree 2 = .ok (.iconst 0, 1) := by decide +kernel
theorem dX5_longestFree_3 : decode cX5_longestFree 3 = .ok (.istore_n 3, 1) := by decide +kernel
theorem dX5_longestFree_4 : decode cX5_longestFree 4 = .ok (.iload_n 3, 1) := by decide +kernel
theorem dX5_longestFree_5 : decode cX5_longestFree 5 = .ok (.iconst 5, 1) := by decide +kernel
theorem dX5_longestFree_6 : decode cX5_longestFree 6 = .ok (.if_icmp .ge 57, 3) := by decide +kernel
theorem dX5_longestFree_9 : decode cX5_longestFree 9 = .ok (.iload_n 3, 1) := by decide +kernel
theorem dX5_longestFree_10 : decode cX5_longestFree 10 = .ok (.aload_n 0, 1) := by decide +kernel
theorem dX5_longestFree_11 : decode cX5_longestFree 11 = .ok (.getfield 12, 3) := by decide +kernel
theorem dX5_longestFree_14 : decode cX5_longestFree 14 = .ok (.getfield 87, 3) := by decide +kernel
theorem dX5_longestFree_17 : decode cX5_longestFree 17 = .ok (.if_icmp .ge 46, 3) := by decide +kernel
theorem dX5_longestFree_20 : decode cX5_longestFree 20 = .ok (.aload_n 0, 1) := by decide +kernel
theorem dX5_longestFree_21 : decode cX5_longestFree 21 = .ok (.getfield 12, 3) := by decide +kernel
theorem dX5_longestFree_24 : decode cX5_longestFree 24 = .ok (.getfield 91, 3) := by decide +kernel
theorem dX5_longestFree_27 : decode cX5_longestFree 27 = .ok (.iload_n 3, 1) := by decide +kernel
theorem dX5_longestFree_28 : decode cX5_longestFree 28 = .ok (.iaload, 1) := by decide +kernel
theorem dX5_longestFree_29 : decode cX5_longestFree 29 = .ok (.iload_n 1, 1) := by decide +kernel
theorem dX5_longestFree_30 : decode cX5_longestFree 30 = .ok (.if_icmp .ne 27, 3) := by decide +kernel
theorem dX5_longestFree_33 : decode cX5_longestFree 33 = .ok (.aload_n 0, 1) := by decide +kernel
theorem dX5_longestFree_34 : decode cX5_longestFree 34 = .ok (.aload_n 0, 1) := by decide +kernel
theorem dX5_longestFree_35 : decode cX5_longestFree 35 = .ok (.getfield 12, 3) := by decide +kernel
theorem dX5_longestFree_38 : decode cX5_longestFree 38 = .ok (.getfield 94, 3) := by decide +kernel
theorem dX5_longestFree_41 : decode cX5_longestFree 41 = .ok (.iload_n 3, 1) := by decide +kernel
theorem dX5_longestFree_42 : decode cX5_longestFree 42 = .ok (.iaload, 1) := by decide +kernel
theorem dX5_longestFree_43 : decode cX5_longestFree 43 = .ok (.aload_n 0, 1) := by decide +kernel
theorem dX5_longestFree_44 : decode cX5_longestFree 44 = .ok (.getfield 12, 3) := by decide +kernel
theorem dX5_longestFree_47 : decode cX5_longestFree 47 = .ok (.getfield 97, 3) := by decide +kernel
theorem dX5_longestFree_50 : decode cX5_longestFree 50 = .ok (.iload_n 3, 1) := by decide +kernel
theorem dX5_longestFree_51 : decode cX5_longestFree 51 = .ok (.iaload, 1) := by decide +kernel
theorem dX5_longestFree_52 : decode cX5_longestFree 52 = .ok (.iload_n 2, 1) := by decide +kernel
theorem dX5_longestFree_53 : decode cX5_longestFree 53 = .ok (.invokevirtual 126, 3) := by decide +kernel
theorem dX5_longestFree_56 : decode cX5_longestFree 56 = .ok (.istore_n 2, 1) := by decide +kernel
theorem dX5_longestFree_57 : decode cX5_longestFree 57 = .ok (.iinc 3 1, 3) := by decide +kernel
theorem dX5_longestFree_60 : decode cX5_longestFree 60 = .ok (.goto (-56), 3) := by decide +kernel
theorem dX5_longestFree_63 : decode cX5_longestFree 63 = .ok (.iload_n 2, 1) := by decide +kernel
theorem dX5_longestFree_64 : decode cX5_longestFree 64 = .ok (.ireturn, 1) := by decide +kernel
theorem dX5_longestFreeIn_0 : decode cX5_longestFreeIn 0 = .ok (.iload_n 3, 1) := by decide +kernel
theorem dX5_longestFreeIn_1 : decode cX5_longestFreeIn 1 = .ok (.istore 4, 2) := by decide +kernel
theorem dX5_longestFreeIn_3 : decode cX5_longestFreeIn 3 = .ok (.iload_n 1, 1) := by decide +kernel
theorem dX5_longestFreeIn_4 : decode cX5_longestFreeIn 4 = .ok (.iconst 0, 1) := by decide +kernel
theorem dX5_longestFreeIn_5 : decode cX5_longestFreeIn 5 = .ok (.invokestatic 129, 3) := by decide +kernel
theorem dX5_longestFreeIn_8 : decode cX5_longestFreeIn 8 = .ok (.istore 5, 2) := by decide +kernel
theorem dX5_longestFreeIn_10 : decode cX5_longestFreeIn 10 = .ok (.iload 5, 2) := by decide +kernel
theorem dX5_longestFreeIn_12 : decode cX5_longestFreeIn 12 = .ok (.bipush 100, 2) := by decide +kernel
theorem dX5_longestFreeIn_14 : decode cX5_longestFreeIn 14 = .ok (.if_icmp .ge 51, 3) := by decide +kernel
theorem dX5_longestFreeIn_17 : decode cX5_longestFreeIn 17 = .ok (.iload 5, 2) := by decide +kernel
theorem dX5_longestFreeIn_19 : decode cX5_longestFreeIn 19 = .ok (.iload_n 2, 1) := by decide +kernel
theorem dX5_longestFreeIn_20 : decode cX5_longestFreeIn 20 = .ok (.if_icmp .gt 45, 3) := by decide +kernel
theorem dX5_longestFreeIn_23 : decode cX5_longestFreeIn 23 = .ok (.aload_n 0, 1) := by decide +kernel
theorem dX5_longestFreeIn_24 : decode cX5_longestFreeIn 24 = .ok (.getfield 21, 3) := by decide +kernel
theorem dX5_longestFreeIn_27 : decode cX5_longestFreeIn 27 = .ok (.iload 5, 2) := by decide +kernel
theorem dX5_longestFreeIn_29 : decode cX5_longestFreeIn 29 = .ok (.invokevirtual 123, 3) := by decide +kernel
theorem dX5_longestFreeIn_32 : decode cX5_longestFreeIn 32 = .ok (.ifCond .eq 27, 3) := by decide +kernel
theorem dX5_longestFreeIn_35 : decode cX5_longestFreeIn 35 = .ok (.iload 4, 2) := by decide +kernel
theorem dX5_longestFreeIn_37 : decode cX5_longestFreeIn 37 = .ok (.iconst (-1), 1) := by decide +kernel
theorem dX5_longestFreeIn_38 : decode cX5_longestFreeIn 38 = .ok (.if_icmp .eq 17, 3) := by decide +kernel
theorem dX5_longestFreeIn_41 : decode cX5_longestFreeIn 41 = .ok (.aload_n 0, 1) := by decide +kernel
theorem dX5_longestFreeIn_42 : decode cX5_longestFreeIn 42 = .ok (.getfield 21, 3) := by decide +kernel
theorem dX5_longestFreeIn_45 : decode cX5_longestFreeIn 45 = .ok (.iload 5, 2) := by decide +kernel
theorem dX5_longestFreeIn_47 : decode cX5_longestFreeIn 47 = .ok (.iload 4, 2) := by decide +kernel
theorem dX5_longestFreeIn_49 : decode cX5_longestFreeIn 49 = .ok (.invokevirtual 135, 3) := by decide +kernel
theorem dX5_longestFreeIn_52 : decode cX5_longestFreeIn 52 = .ok (.ifCond .eq 7, 3) := by decide +kernel
theorem dX5_longestFreeIn_55 : decode cX5_longestFreeIn 55 = .ok (.iload 5, 2) := by decide +kernel
theorem dX5_longestFreeIn_57 : decode cX5_longestFreeIn 57 = .ok (.istore 4, 2) := by decide +kernel
theorem dX5_longestFreeIn_59 : decode cX5_longestFreeIn 59 = .ok (.iinc 5 1, 3) := by decide +kernel
theorem dX5_longestFreeIn_62 : decode cX5_longestFreeIn 62 = .ok (.goto (-52), 3) := by decide +kernel
theorem dX5_longestFreeIn_65 : decode cX5_longestFreeIn 65 = .ok (.iload 4, 2) := by decide +kernel
theorem dX5_longestFreeIn_67 : decode cX5_longestFreeIn 67 = .ok (.ireturn, 1) := by decide +kernel
theorem dX5_makeOffer_0 : decode cX5_makeOffer 0 = .ok (.aload_n 0, 1) := by decide +kernel
theorem dX5_makeOffer_1 : decode cX5_makeOffer 1 = .ok (.iload_n 1, 1) := by decide +kernel
theorem dX5_makeOffer_2 : decode cX5_makeOffer 2 = .ok (.invokevirtual 138, 3) := by decide +kernel
theorem dX5_makeOffer_5 : decode cX5_makeOffer 5 = .ok (.iconst 0, 1) := by decide +kernel
theorem dX5_makeOffer_6 : decode cX5_makeOffer 6 = .ok (.istore 4, 2) := by decide +kernel
theorem dX5_makeOffer_8 : decode cX5_makeOffer 8 = .ok (.iload 4, 2) := by decide +kernel
theorem dX5_makeOffer_10 : decode cX5_makeOffer 10 = .ok (.bipush 100, 2) := by decide +kernel
theorem dX5_makeOffer_12 : decode cX5_makeOffer 12 = .ok (.if_icmp .ge 57, 3) := by decide +kernel
theorem dX5_makeOffer_15 : decode cX5_makeOffer 15 = .ok (.aload_n 0, 1) := by decide +kernel
theorem dX5_makeOffer_16 : decode cX5_makeOffer 16 = .ok (.iload_n 1, 1) := by decide +kernel
theorem dX5_makeOffer_17 : decode cX5_makeOffer 17 = .ok (.iload_n 2, 1) := by decide +kernel
theorem dX5_makeOffer_18 : decode cX5_makeOffer 18 = .ok (.iload_n 3, 1) := by decide +kernel
theorem dX5_makeOffer_19 : decode cX5_makeOffer 19 = .ok (.invokevirtual 142, 3) := by decide +kernel
theorem dX5_makeOffer_22 : decode cX5_makeOffer 22 = .ok (.istore 5, 2) := by decide +kernel
theorem dX5_makeOffer_24 : decode cX5_makeOffer 24 = .ok (.iload 5, 2) := by decide +kernel
theorem dX5_makeOffer_26 : decode cX5_makeOffer 26 = .ok (.invokestatic 81, 3) := by decide +kernel
theorem dX5_makeOffer_29 : decode cX5_makeOffer 29 = .ok (.ifCond .ne 5, 3) := by decide +kernel
theorem dX5_makeOffer_32 : decode cX5_makeOffer 32 = .ok (.iconst (-1), 1) := by decide +kernel
theorem dX5_makeOffer_33 : decode cX5_makeOffer 33 = .ok (.ireturn, 1) := by decide +kernel
theorem dX5_makeOffer_34 : decode cX5_makeOffer 34 = .ok (.aload_n 0, 1) := by decide +kernel
theorem dX5_makeOffer_35 : decode cX5_makeOffer 35 = .ok (.getfield 21, 3) := by decide +kernel
theorem dX5_makeOffer_38 : decode cX5_makeOffer 38 = .ok (.getfield 145, 3) := by decide +kernel
theorem dX5_makeOffer_41 : decode cX5_makeOffer 41 = .ok (.iload 5, 2) := by decide +kernel
theorem dX5_makeOffer_43 : decode cX5_makeOffer 43 = .ok (.baload, 1) := by decide +kernel
theorem dX5_makeOffer_44 : decode cX5_makeOffer 44 = .ok (.ifCond .ne 13, 3) := by decide +kernel
theorem dX5_makeOffer_47 : decode cX5_makeOffer 47 = .ok (.aload_n 0, 1) := by decide +kernel
theorem dX5_makeOffer_48 : decode cX5_makeOffer 48 = .ok (.iload_n 1, 1) := by decide +kernel
theorem dX5_makeOffer_49 : decode cX5_makeOffer 49 = .ok (.iload 5, 2) := by decide +kernel
theorem dX5_makeOffer_51 : decode cX5_makeOffer 51 = .ok (.invokevirtual 148, 3) := by decide +kernel
theorem dX5_makeOffer_54 : decode cX5_makeOffer 54 = .ok (.iload 5, 2) := by decide +kernel
theorem dX5_makeOffer_56 : decode cX5_makeOffer 56 = .ok (.ireturn, 1) := by decide +kernel
theorem dX5_makeOffer_57 : decode cX5_makeOffer 57 = .ok (.aload_n 0, 1) := by decide +kernel
theorem dX5_makeOffer_58 : decode cX5_makeOffer 58 = .ok (.iload 5, 2) := by decide +kernel
theorem dX5_makeOffer_60 : decode cX5_makeOffer 60 = .ok (.invokevirtual 152, 3) := by decide +kernel
theorem dX5_makeOffer_63 : decode cX5_makeOffer 63 = .ok (.iinc 4 1, 3) := by decide +kernel
theorem dX5_makeOffer_66 : decode cX5_makeOffer 66 = .ok (.goto (-58), 3) := by decide +kernel
theorem dX5_makeOffer_69 : decode cX5_makeOffer 69 = .ok (.iconst (-1), 1) := by decide +kernel
theorem dX5_makeOffer_70 : decode cX5_makeOffer 70 = .ok (.ireturn, 1) := by decide +kernel
theorem dX5_holdFor_0 : decode cX5_holdFor 0 = .ok (.aload_n 0, 1) := by decide +kernel
theorem dX5_holdFor_1 : decode cX5_holdFor 1 = .ok (.getfield 21, 3) := by decide +kernel
theorem dX5_holdFor_4 : decode cX5_holdFor 4 = .ok (.iload_n 2, 1) := by decide +kernel
theorem dX5_holdFor_5 : decode cX5_holdFor 5 = .ok (.iconst 1, 1) := by decide +kernel
theorem dX5_holdFor_6 : decode cX5_holdFor 6 = .ok (.iload_n 1, 1) := by decide +kernel
theorem dX5_holdFor_7 : decode cX5_holdFor 7 = .ok (.aload_n 0, 1) := by decide +kernel
theorem dX5_holdFor_8 : decode cX5_holdFor 8 = .ok (.getfield 35, 3) := by decide +kernel
theorem dX5_holdFor_11 : decode cX5_holdFor 11 = .ok (.getfield 110, 3) := by decide +kernel
theorem dX5_holdFor_14 : decode cX5_holdFor 14 = .ok (.aload_n 0, 1) := by decide +kernel
theorem dX5_holdFor_15 : decode cX5_holdFor 15 = .ok (.getfield 35, 3) := by decide +kernel
theorem dX5_holdFor_18 : decode cX5_holdFor 18 = .ok (.getfield 155, 3) := by decide +kernel
theorem dX5_holdFor_21 : decode cX5_holdFor 21 = .ok (.iadd, 1) := by decide +kernel
theorem dX5_holdFor_22 : decode cX5_holdFor 22 = .ok (.invokevirtual 158, 3) := by decide +kernel
theorem dX5_holdFor_25 : decode cX5_holdFor 25 = .ok (.aload_n 0, 1) := by decide +kernel
theorem dX5_holdFor_26 : decode cX5_holdFor 26 = .ok (.getfield 28, 3) := by decide +kernel
theorem dX5_holdFor_29 : decode cX5_holdFor 29 = .ok (.iload_n 1, 1) := by decide +kernel
theorem dX5_holdFor_30 : decode cX5_holdFor 30 = .ok (.iload_n 2, 1) := by decide +kernel
theorem dX5_holdFor_31 : decode cX5_holdFor 31 = .ok (.invokevirtual 162, 3) := by decide +kernel
theorem dX5_holdFor_34 : decode cX5_holdFor 34 = .ok (.aload_n 0, 1) := by decide +kernel
theorem dX5_holdFor_35 : decode cX5_holdFor 35 = .ok (.getfield 39, 3) := by decide +kernel
theorem dX5_holdFor_38 : decode cX5_holdFor 38 = .ok (.iconst 1, 1) := by decide +kernel
theorem dX5_holdFor_39 : decode cX5_holdFor 39 = .ok (.iload_n 2, 1) := by decide +kernel
theorem dX5_holdFor_40 : decode cX5_holdFor 40 = .ok (.invokevirtual 165, 3) := by decide +kernel
theorem dX5_holdFor_43 : decode cX5_holdFor 43 = .ok (.return_, 1) := by decide +kernel
theorem dX5_findConflict_0 : decode cX5_findConflict 0 = .ok (.aload_n 0, 1) := by decide +kernel
theorem dX5_findConflict_1 : decode cX5_findConflict 1 = .ok (.getfield 21, 3) := by decide +kernel
theorem dX5_findConflict_4 : decode cX5_findConflict 4 = .ok (.iload_n 1, 1) := by decide +kernel
theorem dX5_findConflict_5 : decode cX5_findConflict 5 = .ok (.aload_n 0, 1) := by decide +kernel
theorem dX5_findConflict_6 : decode cX5_findConflict 6 = .ok (.getfield 35, 3) := by decide +kernel
theorem dX5_findConflict_9 : decode cX5_findConflict 9 = .ok (.getfield 110, 3) := by decide +kernel
theorem dX5_findConflict_12 : decode cX5_findConflict 12 = .ok (.aload_n 0, 1) := by decide +kernel
theorem dX5_findConflict_13 : decode cX5_findConflict 13 = .ok (.getfield 35, 3) := by decide +kernel
theorem dX5_findConflict_16 : decode cX5_findConflict 16 = .ok (.getfield 170, 3) := by decide +kernel
theorem dX5_findConflict_19 : decode cX5_findConflict 19 = .ok (.iadd, 1) := by decide +kernel
theorem dX5_findConflict_20 : decode cX5_findConflict 20 = .ok (.invokevirtual 173, 3) := by decide +kernel
theorem dX5_findConflict_23 : decode cX5_findConflict 23 = .ok (.aload_n 0, 1) := by decide +kernel
theorem dX5_findConflict_24 : decode cX5_findConflict 24 = .ok (.getfield 35, 3) := by decide +kernel
theorem dX5_findConflict_27 : decode cX5_findConflict 27 = .ok (.dup, 1) := by decide +kernel
theorem dX5_findConflict_28 : decode cX5_findConflict 28 = .ok (.getfield 176, 3) := by decide +kernel
theorem dX5_findConflict_31 : decode cX5_findConflict 31 = .ok (.iconst 1, 1) := by decide +kernel
theorem dX5_findConflict_32 : decode cX5_findConflict 32 = .ok (.iadd, 1) := by decide +kernel
theorem dX5_findConflict_33 : decode cX5_findConflict 33 = .ok (.putfield 176, 3) := by decide +kernel
theorem dX5_findConflict_36 : decode cX5_findConflict 36 = .ok (.aload_n 0, 1) := by decide +kernel
theorem dX5_findConflict_37 : decode cX5_findConflict 37 = .ok (.getfield 39, 3) := by decide +kernel
theorem dX5_findConflict_40 : decode cX5_findConflict 40 = .ok (.bipush 8, 2) := by decide +kernel
theorem dX5_findConflict_42 : decode cX5_findConflict 42 = .ok (.iload_n 1, 1) := by decide +kernel
theorem dX5_findConflict_43 : decode cX5_findConflict 43 = .ok (.invokevirtual 165, 3) := by decide +kernel
theorem dX5_findConflict_46 : decode cX5_findConflict 46 = .ok (.return_, 1) := by decide +kernel
theorem dX5_beginLease_0 : decode cX5_beginLease 0 = .ok (.iload_n 1, 1) := by decide +kernel
theorem dX5_beginLease_1 : decode cX5_beginLease 1 = .ok (.invokestatic 71, 3) := by decide +kernel
theorem dX5_beginLease_4 : decode cX5_beginLease 4 = .ok (.ifCond .eq 25, 3) := by decide +kernel
theorem dX5_beginLease_7 : decode cX5_beginLease 7 = .ok (.aload_n 0, 1) := by decide +kernel
theorem dX5_beginLease_8 : decode cX5_beginLease 8 = .ok (.iload_n 1, 1) := by decide +kernel
theorem dX5_beginLease_9 : decode cX5_beginLease 9 = .ok (.invokevirtual 179, 3) := by decide +kernel
theorem dX5_beginLease_12 : decode cX5_beginLease 12 = .ok (.aload_n 0, 1) := by decide +kernel
theorem dX5_beginLease_13 : decode cX5_beginLease 13 = .ok (.getfield 39, 3) := by decide +kernel
theorem dX5_beginLease_16 : decode cX5_beginLease 16 = .ok (.iconst 2, 1) := by decide +kernel
theorem dX5_beginLease_17 : decode cX5_beginLease 17 = .ok (.aload_n 0, 1) := by decide +kernel
theorem dX5_beginLease_18 : decode cX5_beginLease 18 = .ok (.getfield 28, 3) := by decide +kernel
theorem dX5_beginLease_21 : decode cX5_beginLease 21 = .ok (.getfield 74, 3) := by decide +kernel
theorem dX5_beginLease_24 : decode cX5_beginLease 24 = .ok (.iload_n 1, 1) := by decide +kernel
theorem dX5_beginLease_25 : decode cX5_beginLease 25 = .ok (.iaload, 1) := by decide +kernel
theorem dX5_beginLease_26 : decode cX5_beginLease 26 = .ok (.invokevirtual 165, 3) := by decide +kernel
theorem dX5_beginLease_29 : decode cX5_beginLease 29 = .ok (.return_, 1) := by decide +kernel
theorem dX5_startTerm_0 : decode cX5_startTerm 0 = .ok (.aload_n 0, 1) := by decide +kernel
theorem dX5_startTerm_1 : decode cX5_startTerm 1 = .ok (.getfield 28, 3) := by decide +kernel
theorem dX5_startTerm_4 : decode cX5_startTerm 4 = .ok (.getfield 74, 3) := by decide +kernel
theorem dX5_startTerm_7 : decode cX5_startTerm 7 = .ok (.iload_n 1, 1) := by decide +kernel
theorem dX5_startTerm_8 : decode cX5_startTerm 8 = .ok (.iaload, 1) := by decide +kernel
theorem dX5_startTerm_9 : decode cX5_startTerm 9 = .ok (.istore_n 2, 1) := by decide +kernel
theorem dX5_startTerm_10 : decode cX5_startTerm 10 = .ok (.aload_n 0, 1) := by decide +kernel
theorem dX5_startTerm_11 : decode cX5_startTerm 11 = .ok (.getfield 12, 3) := by decide +kernel
theorem dX5_startTerm_14 : decode cX5_startTerm 14 = .ok (.iload_n 2, 1) := by decide +kernel
theorem dX5_startTerm_15 : decode cX5_startTerm 15 = .ok (.invokevirtual 182, 3) := by decide +kernel
theorem dX5_startTerm_18 : decode cX5_startTerm 18 = .ok (.istore_n 3, 1) := by decide +kernel
theorem dX5_startTerm_19 : decode cX5_startTerm 19 = .ok (.aload_n 0, 1) := by decide +kernel
theorem dX5_startTerm_20 : decode cX5_startTerm 20 = .ok (.getfield 21, 3) := by decide +kernel
theorem dX5_startTerm_23 : decode cX5_startTerm 23 = .ok (.iload_n 2, 1) := by decide +kernel
theorem dX5_startTerm_24 : decode cX5_startTerm 24 = .ok (.iconst 2, 1) := by decide +kernel
theorem dX5_startTerm_25 : decode cX5_startTerm 25 = .ok (.iload_n 1, 1) := by decide +kernel
theorem dX5_startTerm_26 : decode cX5_startTerm 26 = .ok (.aload_n 0, 1) := by decide +kernel
theorem dX5_startTerm_27 : decode cX5_startTerm 27 = .ok (.getfield 35, 3) := by decide +kernel
theorem dX5_startTerm_30 : decode cX5_startTerm 30 = .ok (.getfield 110, 3) := by decide +kernel
theorem dX5_startTerm_33 : decode cX5_startTerm 33 = .ok (.iload_n 3, 1) := by decide +kernel
theorem dX5_startTerm_34 : decode cX5_startTerm 34 = .ok (.iadd, 1) := by decide +kernel
theorem dX5_startTerm_35 : decode cX5_startTerm 35 = .ok (.invokevirtual 158, 3) := by decide +kernel
theorem dX5_startTerm_38 : decode cX5_startTerm 38 = .ok (.aload_n 0, 1) := by decide +kernel
theorem dX5_startTerm_39 : decode cX5_startTerm 39 = .ok (.getfield 28, 3) := by decide +kernel
theorem dX5_startTerm_42 : decode cX5_startTerm 42 = .ok (.iload_n 1, 1) := by decide +kernel
theorem dX5_startTerm_43 : decode cX5_startTerm 43 = .ok (.aload_n 0, 1) := by decide +kernel
theorem dX5_startTerm_44 : decode cX5_startTerm 44 = .ok (.getfield 35, 3) := by decide +kernel
theorem dX5_startTerm_47 : decode cX5_startTerm 47 = .ok (.getfield 110, 3) := by decide +kernel
theorem dX5_startTerm_50 : decode cX5_startTerm 50 = .ok (.iload_n 3, 1) := by decide +kernel
theorem dX5_startTerm_51 : decode cX5_startTerm 51 = .ok (.invokevirtual 185, 3) := by decide +kernel
theorem dX5_startTerm_54 : decode cX5_startTerm 54 = .ok (.return_, 1) := by decide +kernel
theorem dX5_endHolding_0 : decode cX5_endHolding 0 = .ok (.iload_n 1, 1) := by decide +kernel
theorem dX5_endHolding_1 : decode cX5_endHolding 1 = .ok (.invokestatic 71, 3) := by decide +kernel
theorem dX5_endHolding_4 : decode cX5_endHolding 4 = .ok (.ifCond .eq 34, 3) := by decide +kernel
theorem dX5_endHolding_7 : decode cX5_endHolding 7 = .ok (.aload_n 0, 1) := by decide +kernel
theorem dX5_endHolding_8 : decode cX5_endHolding 8 = .ok (.getfield 21, 3) := by decide +kernel
theorem dX5_endHolding_11 : decode cX5_endHolding 11 = .ok (.aload_n 0, 1) := by decide +kernel
theorem dX5_endHolding_12 : decode cX5_endHolding 12 = .ok (.getfield 28, 3) := by decide +kernel
theorem dX5_endHolding_15 : decode cX5_endHolding 15 = .ok (.getfield 74, 3) := by decide +kernel
theorem dX5_endHolding_18 : decode cX5_endHolding 18 = .ok (.iload_n 1, 1) := by decide +kernel
theorem dX5_endHolding_19 : decode cX5_endHolding 19 = .ok (.iaload, 1) := by decide +kernel
theorem dX5_endHolding_20 : decode cX5_endHolding 20 = .ok (.aload_n 0, 1) := by decide +kernel
theorem dX5_endHolding_21 : decode cX5_endHolding 21 = .ok (.getfield 35, 3) := by decide +kernel
theorem dX5_endHolding_24 : decode cX5_endHolding 24 = .ok (.getfield 110, 3) := by decide +kernel
theorem dX5_endHolding_27 : decode cX5_endHolding 27 = .ok (.invokevirtual 189, 3) := by decide +kernel
theorem dX5_endHolding_30 : decode cX5_endHolding 30 = .ok (.aload_n 0, 1) := by decide +kernel
theorem dX5_endHolding_31 : decode cX5_endHolding 31 = .ok (.getfield 28, 3) := by decide +kernel
theorem dX5_endHolding_34 : decode cX5_endHolding 34 = .ok (.iload_n 1, 1) := by decide +kernel
theorem dX5_endHolding_35 : decode cX5_endHolding 35 = .ok (.invokevirtual 192, 3) := by decide +kernel
theorem dX5_endHolding_38 : decode cX5_endHolding 38 = .ok (.return_, 1) := by decide +kernel
theorem dX5_declineLease_0 : decode cX5_declineLease 0 = .ok (.iload_n 1, 1) := by decide +kernel
theorem dX5_declineLease_1 : decode cX5_declineLease 1 = .ok (.invokestatic 71, 3) := by decide +kernel
theorem dX5_declineLease_4 : decode cX5_declineLease 4 = .ok (.ifCond .eq 64, 3) := by decide +kernel
theorem dX5_declineLease_7 : decode cX5_declineLease 7 = .ok (.aload_n 0, 1) := by decide +kernel
theorem dX5_declineLease_8 : decode cX5_declineLease 8 = .ok (.getfield 28, 3) := by decide +kernel
theorem dX5_declineLease_11 : decode cX5_declineLease 11 = .ok (.getfield 74, 3) := by decide +kernel
theorem dX5_declineLease_14 : decode cX5_declineLease 14 = .ok (.iload_n 1, 1) := by decide +kernel
theorem dX5_declineLease_15 : decode cX5_declineLease 15 = .ok (.iaload, 1) := by decide +kernel
theorem dX5_declineLease_16 : decode cX5_declineLease 16 = .ok (.istore_n 2, 1) := by decide +kernel
theorem dX5_declineLease_17 : decode cX5_declineLease 17 = .ok (.aload_n 0, 1) := by decide +kernel
theorem dX5_declineLease_18 : decode cX5_declineLease 18 = .ok (.getfield 21, 3) := by decide +kernel
theorem dX5_declineLease_21 : decode cX5_declineLease 21 = .ok (.iload_n 2, 1) := by decide +kernel
theorem dX5_declineLease_22 : decode cX5_declineLease 22 = .ok (.aload_n 0, 1) := by decide +kernel
theorem dX5_declineLease_23 : decode cX5_declineLease 23 = .ok (.getfield 35, 3) := by decide +kernel
theorem dX5_declineLease_26 : decode cX5_declineLease 26 = .ok (.getfield 110, 3) := by decide +kernel
theorem dX5_declineLease_29 : decode cX5_declineLease 29 = .ok (.aload_n 0, 1) := by decide +kernel
theorem dX5_declineLease_30 : decode cX5_declineLease 30 = .ok (.getfield 35, 3) := by decide +kernel
theorem dX5_declineLease_33 : decode cX5_declineLease 33 = .ok (.getfield 170, 3) := by decide +kernel
theorem dX5_declineLease_36 : decode cX5_declineLease 36 = .ok (.iadd, 1) := by decide +kernel
theorem dX5_declineLease_37 : decode cX5_declineLease 37 = .ok (.invokevirtual 173, 3) := by decide +kernel
theorem dX5_declineLease_40 : decode cX5_declineLease 40 = .ok (.aload_n 0, 1) := by decide +kernel
theorem dX5_declineLease_41 : decode cX5_declineLease 41 = .ok (.getfield 28, 3) := by decide +kernel
theorem dX5_declineLease_44 : decode cX5_declineLease 44 = .ok (.iload_n 1, 1) := by decide +kernel
theorem dX5_declineLease_45 : decode cX5_declineLease 45 = .ok (.invokevirtual 192, 3) := by decide +kernel
theorem dX5_declineLease_48 : decode cX5_declineLease 48 = .ok (.aload_n 0, 1) := by decide +kernel
theorem dX5_declineLease_49 : decode cX5_declineLease 49 = .ok (.getfield 28, 3) := by decide +kernel
theorem dX5_declineLease_52 : decode cX5_declineLease 52 = .ok (.getfield 113, 3) := by decide +kernel
theorem dX5_declineLease_55 : decode cX5_declineLease 55 = .ok (.iload_n 1, 1) := by decide +kernel
theorem dX5_declineLease_56 : decode cX5_declineLease 56 = .ok (.iconst (-1), 1) := by decide +kernel
theorem dX5_declineLease_57 : decode cX5_declineLease 57 = .ok (.iastore, 1) := by decide +kernel
theorem dX5_declineLease_58 : decode cX5_declineLease 58 = .ok (.aload_n 0, 1) := by decide +kernel
theorem dX5_declineLease_59 : decode cX5_declineLease 59 = .ok (.getfield 39, 3) := by decide +kernel
theorem dX5_declineLease_62 : decode cX5_declineLease 62 = .ok (.bipush 7, 2) := by decide +kernel
theorem dX5_declineLease_64 : decode cX5_declineLease 64 = .ok (.iload_n 2, 1) := by decide +kernel
theorem dX5_declineLease_65 : decode cX5_declineLease 65 = .ok (.invokevirtual 165, 3) := by decide +kernel
theorem dX5_declineLease_68 : decode cX5_declineLease 68 = .ok (.return_, 1) := by decide +kernel
theorem dX5_renewOrRefuse_0 : decode cX5_renewOrRefuse 0 = .ok (.iload_n 1, 1) := by decide +kernel
theorem dX5_renewOrRefuse_1 : decode cX5_renewOrRefuse 1 = .ok (.invokestatic 71, 3) := by decide +kernel
theorem dX5_renewOrRefuse_4 : decode cX5_renewOrRefuse 4 = .ok (.ifCond .eq 15, 3) := by decide +kernel
theorem dX5_renewOrRefuse_7 : decode cX5_renewOrRefuse 7 = .ok (.aload_n 0, 1) := by decide +kernel
theorem dX5_renewOrRefuse_8 : decode cX5_renewOrRefuse 8 = .ok (.getfield 28, 3) := by decide +kernel
theorem dX5_renewOrRefuse_11 : decode cX5_renewOrRefuse 11 = .ok (.getfield 74, 3) := by decide +kernel
theorem dX5_renewOrRefuse_14 : decode cX5_renewOrRefuse 14 = .ok (.iload_n 1, 1) := by decide +kernel
theorem dX5_renewOrRefuse_15 : decode cX5_renewOrRefuse 15 = .ok (.iaload, 1) := by decide +kernel
theorem dX5_renewOrRefuse_16 : decode cX5_renewOrRefuse 16 = .ok (.goto 4, 3) := by decide +kernel
theorem dX5_renewOrRefuse_19 : decode cX5_renewOrRefuse 19 = .ok (.iconst (-1), 1) := by decide +kernel
theorem dX5_renewOrRefuse_20 : decode cX5_renewOrRefuse 20 = .ok (.istore_n 2, 1) := by decide +kernel
theorem dX5_renewOrRefuse_21 : decode cX5_renewOrRefuse 21 = .ok (.iload_n 2, 1) := by decide +kernel
theorem dX5_renewOrRefuse_22 : decode cX5_renewOrRefuse 22 = .ok (.invokestatic 81, 3) := by decide +kernel
theorem dX5_renewOrRefuse_25 : decode cX5_renewOrRefuse 25 = .ok (.ifCond .ne 5, 3) := by decide +kernel
theorem dX5_renewOrRefuse_28 : decode cX5_renewOrRefuse 28 = .ok (.iconst 0, 1) := by decide +kernel
theorem dX5_renewOrRefuse_29 : decode cX5_renewOrRefuse 29 = .ok (.ireturn, 1) := by decide +kernel
theorem dX5_renewOrRefuse_30 : decode cX5_renewOrRefuse 30 = .ok (.aload_n 0, 1) := by decide +kernel
theorem dX5_renewOrRefuse_31 : decode cX5_renewOrRefuse 31 = .ok (.getfield 21, 3) := by decide +kernel
theorem dX5_renewOrRefuse_34 : decode cX5_renewOrRefuse 34 = .ok (.getfield 195, 3) := by decide +kernel
theorem dX5_renewOrRefuse_37 : decode cX5_renewOrRefuse 37 = .ok (.iload_n 2, 1) := by decide +kernel
theorem dX5_renewOrRefuse_38 : decode cX5_renewOrRefuse 38 = .ok (.baload, 1) := by decide +kernel
theorem dX5_renewOrRefuse_39 : decode cX5_renewOrRefuse 39 = .ok (.ifCond .eq 19, 3) := by decide +kernel
theorem dX5_renewOrRefuse_42 : decode cX5_renewOrRefuse 42 = .ok (.aload_n 0, 1) := by decide +kernel
theorem dX5_renewOrRefuse_43 : decode cX5_renewOrRefuse 43 = .ok (.iload_n 1, 1) := by decide +kernel
theorem dX5_renewOrRefuse_44 : decode cX5_renewOrRefuse 44 = .ok (.invokevirtual 138, 3) := by decide +kernel
theorem dX5_renewOrRefuse_47 : decode cX5_renewOrRefuse 47 = .ok (.aload_n 0, 1) := by decide +kernel
theorem dX5_renewOrRefuse_48 : decode cX5_renewOrRefuse 48 = .ok (.getfield 39, 3) := by decide +kernel
theorem dX5_renewOrRefuse_51 : decode cX5_renewOrRefuse 51 = .ok (.iconst 4, 1) := by decide +kernel
theorem dX5_renewOrRefuse_52 : decode cX5_renewOrRefuse 52 = .ok (.iload_n 2, 1) := by decide +kernel
theorem dX5_renewOrRefuse_53 : decode cX5_renewOrRefuse 53 = .ok (.invokevirtual 165, 3) := by decide +kernel
theorem dX5_renewOrRefuse_56 : decode cX5_renewOrRefuse 56 = .ok (.iconst 0, 1) := by decide +kernel
theorem dX5_renewOrRefuse_57 : decode cX5_renewOrRefuse 57 = .ok (.ireturn, 1) := by decide +kernel
theorem dX5_renewOrRefuse_58 : decode cX5_renewOrRefuse 58 = .ok (.aload_n 0, 1) := by decide +kernel
theorem dX5_renewOrRefuse_59 : decode cX5_renewOrRefuse 59 = .ok (.iload_n 1, 1) := by decide +kernel
theorem dX5_renewOrRefuse_60 : decode cX5_renewOrRefuse 60 = .ok (.invokevirtual 179, 3) := by decide +kernel
theorem dX5_renewOrRefuse_63 : decode cX5_renewOrRefuse 63 = .ok (.aload_n 0, 1) := by decide +kernel
theorem dX5_renewOrRefuse_64 : decode cX5_renewOrRefuse 64 = .ok (.getfield 39, 3) := by decide +kernel
theorem dX5_renewOrRefuse_67 : decode cX5_renewOrRefuse 67 = .ok (.iconst 3, 1) := by decide +kernel
theorem dX5_renewOrRefuse_68 : decode cX5_renewOrRefuse 68 = .ok (.iload_n 2, 1) := by decide +kernel
theorem dX5_renewOrRefuse_69 : decode cX5_renewOrRefuse 69 = .ok (.invokevirtual 165, 3) := by decide +kernel
theorem dX5_renewOrRefuse_72 : decode cX5_renewOrRefuse 72 = .ok (.iconst 1, 1) := by decide +kernel
theorem dX5_renewOrRefuse_73 : decode cX5_renewOrRefuse 73 = .ok (.ireturn, 1) := by decide +kernel
theorem dX5_earliestEvent_0 : decode cX5_earliestEvent 0 = .ok (.aload_n 0, 1) := by decide +kernel
theorem dX5_earliestEvent_1 : decode cX5_earliestEvent 1 = .ok (.invokevirtual 198, 3) := by decide +kernel
theorem dX5_earliestEvent_4 : decode cX5_earliestEvent 4 = .ok (.aload_n 0, 1) := by decide +kernel
theorem dX5_earliestEvent_5 : decode cX5_earliestEvent 5 = .ok (.getfield 21, 3) := by decide +kernel
theorem dX5_earliestEvent_8 : decode cX5_earliestEvent 8 = .ok (.invokevirtual 202, 3) := by decide +kernel
theorem dX5_earliestEvent_11 : decode cX5_earliestEvent 11 = .ok (.invokestatic 205, 3) := by decide +kernel
theorem dX5_earliestEvent_14 : decode cX5_earliestEvent 14 = .ok (.ireturn, 1) := by decide +kernel
theorem dX5_earliestEventOfClients_0 : decode cX5_earliestEventOfClients 0 = .ok (.ldc 208, 2) := by decide +kernel
theorem dX5_earliestEventOfClients_2 : decode cX5_earliestEventOfClients 2 = .ok (.istore_n 1, 1) := by decide +kernel
theorem dX5_earliestEventOfClients_3 : decode cX5_earliestEventOfClients 3 = .ok (.iconst 0, 1) := by decide +kernel
theorem dX5_earliestEventOfClients_4 : decode cX5_earliestEventOfClients 4 = .ok (.istore_n 2, 1) := by decide +kernel
theorem dX5_earliestEventOfClients_5 : decode cX5_earliestEventOfClients 5 = .ok (.iload_n 2, 1) := by decide +kernel
theorem dX5_earliestEventOfClients_6 : decode cX5_earliestEventOfClients 6 = .ok (.bipush 20, 2) := by decide +kernel
theorem dX5_earliestEventOfClients_8 : decode cX5_earliestEventOfClients 8 = .ok (.if_icmp .ge 31, 3) := by decide +kernel
theorem dX5_earliestEventOfClients_11 : decode cX5_earliestEventOfClients 11 = .ok (.aload_n 0, 1) := by decide +kernel
theorem dX5_earliestEventOfClients_12 : decode cX5_earliestEventOfClients 12 = .ok (.getfield 28, 3) := by decide +kernel
theorem dX5_earliestEventOfClients_15 : decode cX5_earliestEventOfClients 15 = .ok (.getfield 209, 3) := by decide +kernel
theorem dX5_earliestEventOfClients_18 : decode cX5_earliestEventOfClients 18 = .ok (.iload_n 2, 1) := by decide +kernel
theorem dX5_earliestEventOfClients_19 : decode cX5_earliestEventOfClients 19 = .ok (.iaload, 1) := by decide +kernel
theorem dX5_earliestEventOfClients_20 : decode cX5_earliestEventOfClients 20 = .ok (.ifCond .eq 13, 3) := by decide +kernel
theorem dX5_earliestEventOfClients_23 : decode cX5_earliestEventOfClients 23 = .ok (.iload_n 1, 1) := by decide +kernel
theorem dX5_earliestEventOfClients_24 : decode cX5_earliestEventOfClients 24 = .ok (.aload_n 0, 1) := by decide +kernel
theorem dX5_earliestEventOfClients_25 : decode cX5_earliestEventOfClients 25 = .ok (.iload_n 2, 1) := by decide +kernel
theorem dX5_earliestEventOfClients_26 : decode cX5_earliestEventOfClients 26 = .ok (.invokevirtual 212, 3) := by decide +kernel
theorem dX5_earliestEventOfClients_29 : decode cX5_earliestEventOfClients 29 = .ok (.invokestatic 205, 3) := by decide +kernel
theorem dX5_earliestEventOfClients_32 : decode cX5_earliestEventOfClients 32 = .ok (.istore_n 1, 1) := by decide +kernel
theorem dX5_earliestEventOfClients_33 : decode cX5_earliestEventOfClients 33 = .ok (.iinc 2 1, 3) := by decide +kernel
theorem dX5_earliestEventOfClients_36 : decode cX5_earliestEventOfClients 36 = .ok (.goto (-31), 3) := by decide +kernel
theorem dX5_earliestEventOfClients_39 : decode cX5_earliestEventOfClients 39 = .ok (.iload_n 1, 1) := by decide +kernel
theorem dX5_earliestEventOfClients_40 : decode cX5_earliestEventOfClients 40 = .ok (.ireturn, 1) := by decide +kernel
theorem dX5_eventOfClient_0 : decode cX5_eventOfClient 0 = .ok (.aload_n 0, 1) := by decide +kernel
theorem dX5_eventOfClient_1 : decode cX5_eventOfClient 1 = .ok (.getfield 28, 3) := by decide +kernel
theorem dX5_eventOfClient_4 : decode cX5_eventOfClient 4 = .ok (.getfield 74, 3) := by decide +kernel
theorem dX5_eventOfClient_7 : decode cX5_eventOfClient 7 = .ok (.iload_n 1, 1) := by decide +kernel
theorem dX5_eventOfClient_8 : decode cX5_eventOfClient 8 = .ok (.iaload, 1) := by decide +kernel
theorem dX5_eventOfClient_9 : decode cX5_eventOfClient 9 = .ok (.istore_n 2, 1) := by decide +kernel
theorem dX5_eventOfClient_10 : decode cX5_eventOfClient 10 = .ok (.iload_n 2, 1) := by decide +kernel
theorem dX5_eventOfClient_11 : decode cX5_eventOfClient 11 = .ok (.invokestatic 81, 3) := by decide +kernel
theorem dX5_eventOfClient_14 : decode cX5_eventOfClient 14 = .ok (.ifCond .ne 6, 3) := by decide +kernel
theorem dX5_eventOfClient_17 : decode cX5_eventOfClient 17 = .ok (.ldc 208, 2) := by decide +kernel
theorem dX5_eventOfClient_19 : decode cX5_eventOfClient 19 = .ok (.ireturn, 1) := by decide +kernel
theorem dX5_eventOfClient_20 : decode cX5_eventOfClient 20 = .ok (.aload_n 0, 1) := by decide +kernel
theorem dX5_eventOfClient_21 : decode cX5_eventOfClient 21 = .ok (.getfield 28, 3) := by decide +kernel
theorem dX5_eventOfClient_24 : decode cX5_eventOfClient 24 = .ok (.getfield 209, 3) := by decide +kernel
theorem dX5_eventOfClient_27 : decode cX5_eventOfClient 27 = .ok (.iload_n 1, 1) := by decide +kernel
theorem dX5_eventOfClient_28 : decode cX5_eventOfClient 28 = .ok (.iaload, 1) := by decide +kernel
theorem dX5_eventOfClient_29 : decode cX5_eventOfClient 29 = .ok (.tableswitch 91 1 4 #[31, 46, 61, 76], 31) := by decide +kernel
theorem dX5_eventOfClient_60 : decode cX5_eventOfClient 60 = .ok (.aload_n 0, 1) := by decide +kernel
theorem dX5_eventOfClient_61 : decode cX5_eventOfClient 61 = .ok (.getfield 21, 3) := by decide +kernel
theorem dX5_eventOfClient_64 : decode cX5_eventOfClient 64 = .ok (.getfield 84, 3) := by decide +kernel
theorem dX5_eventOfClient_67 : decode cX5_eventOfClient 67 = .ok (.iload_n 2, 1) := by decide +kernel
theorem dX5_eventOfClient_68 : decode cX5_eventOfClient 68 = .ok (.iaload, 1) := by decide +kernel
theorem dX5_eventOfClient_69 : decode cX5_eventOfClient 69 = .ok (.iconst 0, 1) := by decide +kernel
theorem dX5_eventOfClient_70 : decode cX5_eventOfClient 70 = .ok (.iload_n 2, 1) := by decide +kernel
theorem dX5_eventOfClient_71 : decode cX5_eventOfClient 71 = .ok (.invokestatic 215, 3) := by decide +kernel
theorem dX5_eventOfClient_74 : decode cX5_eventOfClient 74 = .ok (.ireturn, 1) := by decide +kernel
theorem dX5_eventOfClient_75 : decode cX5_eventOfClient 75 = .ok (.aload_n 0, 1) := by decide +kernel
theorem dX5_eventOfClient_76 : decode cX5_eventOfClient 76 = .ok (.getfield 28, 3) := by decide +kernel
theorem dX5_eventOfClient_79 : decode cX5_eventOfClient 79 = .ok (.getfield 218, 3) := by decide +kernel
theorem dX5_eventOfClient_82 : decode cX5_eventOfClient 82 = .ok (.iload_n 1, 1) := by decide +kernel
theorem dX5_eventOfClient_83 : decode cX5_eventOfClient 83 = .ok (.iaload, 1) := by decide +kernel
theorem dX5_eventOfClient_84 : decode cX5_eventOfClient 84 = .ok (.iconst 2, 1) := by decide +kernel
theorem dX5_eventOfClient_85 : decode cX5_eventOfClient 85 = .ok (.iload_n 2, 1) := by decide +kernel
theorem dX5_eventOfClient_86 : decode cX5_eventOfClient 86 = .ok (.invokestatic 215, 3) := by decide +kernel
theorem dX5_eventOfClient_89 : decode cX5_eventOfClient 89 = .ok (.ireturn, 1) := by decide +kernel
theorem dX5_eventOfClient_90 : decode cX5_eventOfClient 90 = .ok (.aload_n 0, 1) := by decide +kernel
theorem dX5_eventOfClient_91 : decode cX5_eventOfClient 91 = .ok (.getfield 28, 3) := by decide +kernel
theorem dX5_eventOfClient_94 : decode cX5_eventOfClient 94 = .ok (.getfield 221, 3) := by decide +kernel
theorem dX5_eventOfClient_97 : decode cX5_eventOfClient 97 = .ok (.iload_n 1, 1) := by decide +kernel
theorem dX5_eventOfClient_98 : decode cX5_eventOfClient 98 = .ok (.iaload, 1) := by decide +kernel
theorem dX5_eventOfClient_99 : decode cX5_eventOfClient 99 = .ok (.iconst 3, 1) := by decide +kernel
theorem dX5_eventOfClient_100 : decode cX5_eventOfClient 100 = .ok (.iload_n 2, 1) := by decide +kernel
theorem dX5_eventOfClient_101 : decode cX5_eventOfClient 101 = .ok (.invokestatic 215, 3) := by decide +kernel
theorem dX5_eventOfClient_104 : decode cX5_eventOfClient 104 = .ok (.ireturn, 1) := by decide +kernel
theorem dX5_eventOfClient_105 : decode cX5_eventOfClient 105 = .ok (.aload_n 0, 1) := by decide +kernel
theorem dX5_eventOfClient_106 : decode cX5_eventOfClient 106 = .ok (.getfield 21, 3) := by decide +kernel
theorem dX5_eventOfClient_109 : decode cX5_eventOfClient 109 = .ok (.getfield 84, 3) := by decide +kernel
theorem dX5_eventOfClient_112 : decode cX5_eventOfClient 112 = .ok (.iload_n 2, 1) := by decide +kernel
theorem dX5_eventOfClient_113 : decode cX5_eventOfClient 113 = .ok (.iaload, 1) := by decide +kernel
theorem dX5_eventOfClient_114 : decode cX5_eventOfClient 114 = .ok (.iconst 4, 1) := by decide +kernel
theorem dX5_eventOfClient_115 : decode cX5_eventOfClient 115 = .ok (.iload_n 2, 1) := by decide +kernel
theorem dX5_eventOfClient_116 : decode cX5_eventOfClient 116 = .ok (.invokestatic 215, 3) := by decide +kernel
theorem dX5_eventOfClient_119 : decode cX5_eventOfClient 119 = .ok (.ireturn, 1) := by decide +kernel
theorem dX5_eventOfClient_120 : decode cX5_eventOfClient 120 = .ok (.ldc 208, 2) := by decide +kernel
theorem dX5_eventOfClient_122 : decode cX5_eventOfClient 122 = .ok (.ireturn, 1) := by decide +kernel
theorem dX5_passTimeTo_0 : decode cX5_passTimeTo 0 = .ok (.iconst 0, 1) := by decide +kernel
theorem dX5_passTimeTo_1 : decode cX5_passTimeTo 1 = .ok (.istore_n 2, 1) := by decide +kernel
theorem dX5_passTimeTo_2 : decode cX5_passTimeTo 2 = .ok (.aload_n 0, 1) := by decide +kernel
theorem dX5_passTimeTo_3 : decode cX5_passTimeTo 3 = .ok (.getfield 21, 3) := by decide +kernel
theorem dX5_passTimeTo_6 : decode cX5_passTimeTo 6 = .ok (.invokevirtual 202, 3) := by decide +kernel
theorem dX5_passTimeTo_9 : decode cX5_passTimeTo 9 = .ok (.istore_n 3, 1) := by decide +kernel
theorem dX5_passTimeTo_10 : decode cX5_passTimeTo 10 = .ok (.iload_n 2, 1) := by decide +kernel
theorem dX5_passTimeTo_11 : decode cX5_passTimeTo 11 = .ok (.ldc 224, 2) := by decide +kernel
theorem dX5_passTimeTo_13 : decode cX5_passTimeTo 13 = .ok (.if_icmp .ge 61, 3) := by decide +kernel
theorem dX5_passTimeTo_16 : decode cX5_passTimeTo 16 = .ok (.iload_n 3, 1) := by decide +kernel
theorem dX5_passTimeTo_17 : decode cX5_passTimeTo 17 = .ok (.aload_n 0, 1) := by decide +kernel
theorem dX5_passTimeTo_18 : decode cX5_passTimeTo 18 = .ok (.invokevirtual 198, 3) := by decide +kernel
theorem dX5_passTimeTo_21 : decode cX5_passTimeTo 21 = .ok (.invokestatic 205, 3) := by decide +kernel
theorem dX5_passTimeTo_24 : decode cX5_passTimeTo 24 = .ok (.istore 4, 2) := by decide +kernel
theorem dX5_passTimeTo_26 : decode cX5_passTimeTo 26 = .ok (.iload 4, 2) := by decide +kernel
theorem dX5_passTimeTo_28 : decode cX5_passTimeTo 28 = .ok (.ldc 208, 2) := by decide +kernel
theorem dX5_passTimeTo_30 : decode cX5_passTimeTo 30 = .ok (.if_icmp .eq 44, 3) := by decide +kernel
theorem dX5_passTimeTo_33 : decode cX5_passTimeTo 33 = .ok (.iload 4, 2) := by decide +kernel
theorem dX5_passTimeTo_35 : decode cX5_passTimeTo 35 = .ok (.invokestatic 225, 3) := by decide +kernel
theorem dX5_passTimeTo_38 : decode cX5_passTimeTo 38 = .ok (.iload_n 1, 1) := by decide +kernel
theorem dX5_passTimeTo_39 : decode cX5_passTimeTo 39 = .ok (.if_icmp .le 6, 3) := by decide +kernel
theorem dX5_passTimeTo_42 : decode cX5_passTimeTo 42 = .ok (.goto 32, 3) := by decide +kernel
theorem dX5_passTimeTo_45 : decode cX5_passTimeTo 45 = .ok (.aload_n 0, 1) := by decide +kernel
theorem dX5_passTimeTo_46 : decode cX5_passTimeTo 46 = .ok (.iload 4, 2) := by decide +kernel
theorem dX5_passTimeTo_48 : decode cX5_passTimeTo 48 = .ok (.invokevirtual 228, 3) := by decide +kernel
theorem dX5_passTimeTo_51 : decode cX5_passTimeTo 51 = .ok (.iinc 2 1, 3) := by decide +kernel
theorem dX5_passTimeTo_54 : decode cX5_passTimeTo 54 = .ok (.iload 4, 2) := by decide +kernel
theorem dX5_passTimeTo_56 : decode cX5_passTimeTo 56 = .ok (.invokestatic 231, 3) := by decide +kernel
theorem dX5_passTimeTo_59 : decode cX5_passTimeTo 59 = .ok (.iconst 1, 1) := by decide +kernel
theorem dX5_passTimeTo_60 : decode cX5_passTimeTo 60 = .ok (.if_icmp .ne 11, 3) := by decide +kernel
theorem dX5_passTimeTo_63 : decode cX5_passTimeTo 63 = .ok (.aload_n 0, 1) := by decide +kernel
theorem dX5_passTimeTo_64 : decode cX5_passTimeTo 64 = .ok (.getfield 21, 3) := by decide +kernel
theorem dX5_passTimeTo_67 : decode cX5_passTimeTo 67 = .ok (.invokevirtual 202, 3) := by decide +kernel
theorem dX5_passTimeTo_70 : decode cX5_passTimeTo 70 = .ok (.istore_n 3, 1) := by decide +kernel
theorem dX5_passTimeTo_71 : decode cX5_passTimeTo 71 = .ok (.goto (-61), 3) := by decide +kernel
theorem dX5_passTimeTo_74 : decode cX5_passTimeTo 74 = .ok (.aload_n 0, 1) := by decide +kernel
theorem dX5_passTimeTo_75 : decode cX5_passTimeTo 75 = .ok (.getfield 35, 3) := by decide +kernel
theorem dX5_passTimeTo_78 : decode cX5_passTimeTo 78 = .ok (.iload_n 1, 1) := by decide +kernel
theorem dX5_passTimeTo_79 : decode cX5_passTimeTo 79 = .ok (.putfield 110, 3) := by decide +kernel
theorem dX5_passTimeTo_82 : decode cX5_passTimeTo 82 = .ok (.iload_n 2, 1) := by decide +kernel
theorem dX5_passTimeTo_83 : decode cX5_passTimeTo 83 = .ok (.ireturn, 1) := by decide +kernel
theorem dX5_carryOut_0 : decode cX5_carryOut 0 = .ok (.iload_n 1, 1) := by decide +kernel
theorem dX5_carryOut_1 : decode cX5_carryOut 1 = .ok (.invokestatic 234, 3) := by decide +kernel
theorem dX5_carryOut_4 : decode cX5_carryOut 4 = .ok (.istore_n 2, 1) := by decide +kernel
theorem dX5_carryOut_5 : decode cX5_carryOut 5 = .ok (.aload_n 0, 1) := by decide +kernel
theorem dX5_carryOut_6 : decode cX5_carryOut 6 = .ok (.getfield 35, 3) := by decide +kernel
theorem dX5_carryOut_9 : decode cX5_carryOut 9 = .ok (.iload_n 1, 1) := by decide +kernel
theorem dX5_carryOut_10 : decode cX5_carryOut 10 = .ok (.invokestatic 225, 3) := by decide +kernel
theorem dX5_carryOut_13 : decode cX5_carryOut 13 = .ok (.putfield 110, 3) := by decide +kernel
theorem dX5_carryOut_16 : decode cX5_carryOut 16 = .ok (.iload_n 1, 1) := by decide +kernel
theorem dX5_carryOut_17 : decode cX5_carryOut 17 = .ok (.invokestatic 231, 3) := by decide +kernel
theorem dX5_carryOut_20 : decode cX5_carryOut 20 = .ok (.iconst 1, 1) := by decide +kernel
theorem dX5_carryOut_21 : decode cX5_carryOut 21 = .ok (.if_icmp .ne 21, 3) := by decide +kernel
theorem dX5_carryOut_24 : decode cX5_carryOut 24 = .ok (.aload_n 0, 1) := by decide +kernel
theorem dX5_carryOut_25 : decode cX5_carryOut 25 = .ok (.getfield 21, 3) := by decide +kernel
theorem dX5_carryOut_28 : decode cX5_carryOut 28 = .ok (.iload_n 2, 1) := by decide +kernel
theorem dX5_carryOut_29 : decode cX5_carryOut 29 = .ok (.aload_n 0, 1) := by decide +kernel
theorem dX5_carryOut_30 : decode cX5_carryOut 30 = .ok (.getfield 35, 3) := by decide +kernel
theorem dX5_carryOut_33 : decode cX5_carryOut 33 = .ok (.getfield 110, 3) := by decide +kernel
theorem dX5_carryOut_36 : decode cX5_carryOut 36 = .ok (.invokevirtual 189, 3) := by decide +kernel
theorem dX5_carryOut_39 : decode cX5_carryOut 39 = .ok (.goto 28, 3) := by decide +kernel
theorem dX5_carryOut_42 : decode cX5_carryOut 42 = .ok (.iload_n 2, 1) := by decide +kernel
theorem dX5_carryOut_43 : decode cX5_carryOut 43 = .ok (.invokestatic 81, 3) := by decide +kernel
theorem dX5_carryOut_46 : decode cX5_carryOut 46 = .ok (.ifCond .eq 21, 3) := by decide +kernel
theorem dX5_carryOut_49 : decode cX5_carryOut 49 = .ok (.aload_n 0, 1) := by decide +kernel
theorem dX5_carryOut_50 : decode cX5_carryOut 50 = .ok (.iload_n 1, 1) := by decide +kernel
theorem dX5_carryOut_51 : decode cX5_carryOut 51 = .ok (.invokestatic 231, 3) := by decide +kernel
theorem dX5_carryOut_54 : decode cX5_carryOut 54 = .ok (.aload_n 0, 1) := by decide +kernel
theorem dX5_carryOut_55 : decode cX5_carryOut 55 = .ok (.getfield 21, 3) := by decide +kernel
theorem dX5_carryOut_58 : decode cX5_carryOut 58 = .ok (.getfield 237, 3) := by decide +kernel
theorem dX5_carryOut_61 : decode cX5_carryOut 61 = .ok (.iload_n 2, 1) := by decide +kernel
theorem dX5_carryOut_62 : decode cX5_carryOut 62 = .ok (.iaload, 1) := by decide +kernel
theorem dX5_carryOut_63 : decode cX5_carryOut 63 = .ok (.iload_n 2, 1) := by decide +kernel
theorem dX5_carryOut_64 : decode cX5_carryOut 64 = .ok (.invokevirtual 240, 3) := by decide +kernel
theorem dX5_carryOut_67 : decode cX5_carryOut 67 = .ok (.return_, 1) := by decide +kernel
theorem dX5_carryOutForHolder_0 : decode cX5_carryOutForHolder 0 = .ok (.iload_n 1, 1) := by decide +kernel
theorem dX5_carryOutForHolder_1 : decode cX5_carryOutForHolder 1 = .ok (.tableswitch 98 0 4 #[35, 98, 53, 67, 81], 35) := by decide +kernel
theorem dX5_carryOutForHolder_36 : decode cX5_carryOutForHolder 36 = .ok (.aload_n 0, 1) := by decide +kernel
theorem dX5_carryOutForHolder_37 : decode cX5_carryOutForHolder 37 = .ok (.iload_n 2, 1) := by decide +kernel
theorem dX5_carryOutForHolder_38 : decode cX5_carryOutForHolder 38 = .ok (.invokevirtual 138, 3) := by decide +kernel
theorem dX5_carryOutForHolder_41 : decode cX5_carryOutForHolder 41 = .ok (.aload_n 0, 1) := by decide +kernel
theorem dX5_carryOutForHolder_42 : decode cX5_carryOutForHolder 42 = .ok (.getfield 39, 3) := by decide +kernel
theorem dX5_carryOutForHolder_45 : decode cX5_carryOutForHolder 45 = .ok (.bipush 9, 2) := by decide +kernel
theorem dX5_carryOutForHolder_47 : decode cX5_carryOutForHolder 47 = .ok (.iload_n 3, 1) := by decide +kernel
theorem dX5_carryOutForHolder_48 : decode cX5_carryOutForHolder 48 = .ok (.invokevirtual 165, 3) := by decide +kernel
theorem dX5_carryOutForHolder_51 : decode cX5_carryOutForHolder 51 = .ok (.goto 48, 3) := by decide +kernel
theorem dX5_carryOutForHolder_54 : decode cX5_carryOutForHolder 54 = .ok (.aload_n 0, 1) := by decide +kernel
theorem dX5_carryOutForHolder_55 : decode cX5_carryOutForHolder 55 = .ok (.iload_n 2, 1) := by decide +kernel
theorem dX5_carryOutForHolder_56 : decode cX5_carryOutForHolder 56 = .ok (.aload_n 0, 1) := by decide +kernel
theorem dX5_carryOutForHolder_57 : decode cX5_carryOutForHolder 57 = .ok (.iload_n 2, 1) := by decide +kernel
theorem dX5_carryOutForHolder_58 : decode cX5_carryOutForHolder 58 = .ok (.invokevirtual 243, 3) := by decide +kernel
theorem dX5_carryOutForHolder_61 : decode cX5_carryOutForHolder 61 = .ok (.iconst 3, 1) := by decide +kernel
theorem dX5_carryOutForHolder_62 : decode cX5_carryOutForHolder 62 = .ok (.invokevirtual 246, 3) := by decide +kernel
theorem dX5_carryOutForHolder_65 : decode cX5_carryOutForHolder 65 = .ok (.goto 34, 3) := by decide +kernel
theorem dX5_carryOutForHolder_68 : decode cX5_carryOutForHolder 68 = .ok (.aload_n 0, 1) := by decide +kernel
theorem dX5_carryOutForHolder_69 : decode cX5_carryOutForHolder 69 = .ok (.iload_n 2, 1) := by decide +kernel
theorem dX5_carryOutForHolder_70 : decode cX5_carryOutForHolder 70 = .ok (.aload_n 0, 1) := by decide +kernel
theorem dX5_carryOutForHolder_71 : decode cX5_carryOutForHolder 71 = .ok (.iload_n 2, 1) := by decide +kernel
theorem dX5_carryOutForHolder_72 : decode cX5_carryOutForHolder 72 = .ok (.invokevirtual 250, 3) := by decide +kernel
theorem dX5_carryOutForHolder_75 : decode cX5_carryOutForHolder 75 = .ok (.iconst 4, 1) := by decide +kernel
theorem dX5_carryOutForHolder_76 : decode cX5_carryOutForHolder 76 = .ok (.invokevirtual 246, 3) := by decide +kernel
theorem dX5_carryOutForHolder_79 : decode cX5_carryOutForHolder 79 = .ok (.goto 20, 3) := by decide +kernel
theorem dX5_carryOutForHolder_82 : decode cX5_carryOutForHolder 82 = .ok (.aload_n 0, 1) := by decide +kernel
theorem dX5_carryOutForHolder_83 : decode cX5_carryOutForHolder 83 = .ok (.iload_n 2, 1) := by decide +kernel
theorem dX5_carryOutForHolder_84 : decode cX5_carryOutForHolder 84 = .ok (.invokevirtual 138, 3) := by decide +kernel
theorem dX5_carryOutForHolder_87 : decode cX5_carryOutForHolder 87 = .ok (.aload_n 0, 1) := by decide +kernel
theorem dX5_carryOutForHolder_88 : decode cX5_carryOutForHolder 88 = .ok (.getfield 39, 3) := by decide +kernel
theorem dX5_carryOutForHolder_91 : decode cX5_carryOutForHolder 91 = .ok (.iconst 5, 1) := by decide +kernel
theorem dX5_carryOutForHolder_92 : decode cX5_carryOutForHolder 92 = .ok (.iload_n 3, 1) := by decide +kernel
theorem dX5_carryOutForHolder_93 : decode cX5_carryOutForHolder 93 = .ok (.invokevirtual 165, 3) := by decide +kernel
theorem dX5_carryOutForHolder_96 : decode cX5_carryOutForHolder 96 = .ok (.goto 3, 3) := by decide +kernel
theorem dX5_carryOutForHolder_99 : decode cX5_carryOutForHolder 99 = .ok (.return_, 1) := by decide +kernel
theorem dX5_renewOrTurn_0 : decode cX5_renewOrTurn 0 = .ok (.iload_n 2, 1) := by decide +kernel
theorem dX5_renewOrTurn_1 : decode cX5_renewOrTurn 1 = .ok (.ifCond .eq 12, 3) := by decide +kernel
theorem dX5_renewOrTurn_4 : decode cX5_renewOrTurn 4 = .ok (.aload_n 0, 1) := by decide +kernel
theorem dX5_renewOrTurn_5 : decode cX5_renewOrTurn 5 = .ok (.iload_n 1, 1) := by decide +kernel
theorem dX5_renewOrTurn_6 : decode cX5_renewOrTurn 6 = .ok (.invokevirtual 253, 3) := by decide +kernel
theorem dX5_renewOrTurn_9 : decode cX5_renewOrTurn 9 = .ok (.pop, 1) := by decide +kernel
theorem dX5_renewOrTurn_10 : decode cX5_renewOrTurn 10 = .ok (.goto 20, 3) := by decide +kernel
theorem dX5_renewOrTurn_13 : decode cX5_renewOrTurn 13 = .ok (.iload_n 1, 1) := by decide +kernel
theorem dX5_renewOrTurn_14 : decode cX5_renewOrTurn 14 = .ok (.invokestatic 71, 3) := by decide +kernel
theorem dX5_renewOrTurn_17 : decode cX5_renewOrTurn 17 = .ok (.ifCond .eq 13, 3) := by decide +kernel
theorem dX5_renewOrTurn_20 : decode cX5_renewOrTurn 20 = .ok (.aload_n 0, 1) := by decide +kernel
theorem dX5_renewOrTurn_21 : decode cX5_renewOrTurn 21 = .ok (.getfield 28, 3) := by decide +kernel
theorem dX5_renewOrTurn_24 : decode cX5_renewOrTurn 24 = .ok (.getfield 209, 3) := by decide +kernel
theorem dX5_renewOrTurn_27 : decode cX5_renewOrTurn 27 = .ok (.iload_n 1, 1) := by decide +kernel
theorem dX5_renewOrTurn_28 : decode cX5_renewOrTurn 28 = .ok (.iload_n 3, 1) := by decide +kernel
theorem dX5_renewOrTurn_29 : decode cX5_renewOrTurn 29 = .ok (.iastore, 1) := by decide +kernel
theorem dX5_renewOrTurn_30 : decode cX5_renewOrTurn 30 = .ok (.return_, 1) := by decide +kernel
theorem dX6_init_0 : decode cX6_init 0 = .ok (.aload_n 0, 1) := by decide +kernel
theorem dX6_init_1 : decode cX6_init 1 = .ok (.invokespecial 1, 3) := by decide +kernel
theorem dX6_init_4 : decode cX6_init 4 = .ok (.aload_n 0, 1) := by decide +kernel
theorem dX6_init_5 : decode cX6_init 5 = .ok (.new 7, 3) := by decide +kernel
theorem dX6_init_8 : decode cX6_init 8 = .ok (.dup, 1) := by decide +kernel
theorem dX6_init_9 : decode cX6_init 9 = .ok (.invokespecial 9, 3) := by decide +kernel
theorem dX6_init_12 : decode cX6_init 12 = .ok (.putfield 10, 3) := by decide +kernel
theorem dX6_init_15 : decode cX6_init 15 = .ok (.aload_n 0, 1) := by decide +kernel
theorem dX6_init_16 : decode cX6_init 16 = .ok (.new 16, 3) := by decide +kernel
theorem dX6_init_19 : decode cX6_init 19 = .ok (.dup, 1) := by decide +kernel
theorem dX6_init_20 : decode cX6_init 20 = .ok (.aload_n 0, 1) := by decide +kernel
theorem dX6_init_21 : decode cX6_init 21 = .ok (.getfield 10, 3) := by decide +kernel
theorem dX6_init_24 : decode cX6_init 24 = .ok (.invokespecial 18, 3) := by decide +kernel
theorem dX6_init_27 : decode cX6_init 27 = .ok (.putfield 21, 3) := by decide +kernel
theorem dX6_init_30 : decode cX6_init 30 = .ok (.aload_n 0, 1) := by decide +kernel
theorem dX6_init_31 : decode cX6_init 31 = .ok (.new 16, 3) := by decide +kernel
theorem dX6_init_34 : decode cX6_init 34 = .ok (.dup, 1) := by decide +kernel
theorem dX6_init_35 : decode cX6_init 35 = .ok (.aload_n 0, 1) := by decide +kernel
theorem dX6_init_36 : decode cX6_init 36 = .ok (.getfield 10, 3) := by decide +kernel
theorem dX6_init_39 : decode cX6_init 39 = .ok (.invokespecial 18, 3) := by decide +kernel
theorem dX6_init_42 : decode cX6_init 42 = .ok (.putfield 25, 3) := by decide +kernel
theorem dX6_init_45 : decode cX6_init 45 = .ok (.return_, 1) := by decide +kernel
theorem dX6_addPool_0 : decode cX6_addPool 0 = .ok (.iload_n 1, 1) := by decide +kernel
theorem dX6_addPool_1 : decode cX6_addPool 1 = .ok (.invokestatic 28, 3) := by decide +kernel
theorem dX6_addPool_4 : decode cX6_addPool 4 = .ok (.iload_n 2, 1) := by decide +kernel
theorem dX6_addPool_5 : decode cX6_addPool 5 = .ok (.invokestatic 32, 3) := by decide +kernel
theorem dX6_addPool_8 : decode cX6_addPool 8 = .ok (.ifCond .eq 15, 3) := by decide +kernel
theorem dX6_addPool_11 : decode cX6_addPool 11 = .ok (.iload_n 3, 1) := by decide +kernel
theorem dX6_addPool_12 : decode cX6_addPool 12 = .ok (.invokestatic 32, 3) := by decide +kernel
theorem dX6_addPool_15 : decode cX6_addPool 15 = .ok (.ifCond .eq 8, 3) := by decide +kernel
theorem dX6_addPool_18 : decode cX6_addPool 18 = .ok (.iload_n 2, 1) := by decide +kernel
theorem dX6_addPool_19 : decode cX6_addPool 19 = .ok (.iload_n 3, 1) := by decide +kernel
theorem dX6_addPool_20 : decode cX6_addPool 20 = .ok (.if_icmp .le 13, 3) := by decide +kernel
theorem dX6_addPool_23 : decode cX6_addPool 23 = .ok (.new 36, 3) := by decide +kernel
theorem dX6_addPool_26 : decode cX6_addPool 26 = .ok (.dup, 1) := by decide +kernel
theorem dX6_addPool_27 : decode cX6_addPool 27 = .ok (.ldc 38, 2) := by decide +kernel
theorem dX6_addPool_29 : decode cX6_addPool 29 = .ok (.invokespecial 40, 3) := by decide +kernel
theorem dX6_addPool_32 : decode cX6_addPool 32 = .ok (.athrow, 1) := by decide +kernel
theorem dX6_addPool_33 : decode cX6_addPool 33 = .ok (.iload 4, 2) := by decide +kernel
theorem dX6_addPool_35 : decode cX6_addPool 35 = .ok (.bipush 8, 2) := by decide +kernel
theorem dX6_addPool_37 : decode cX6_addPool 37 = .ok (.if_icmp .lt 11, 3) := by decide +kernel
theorem dX6_addPool_40 : decode cX6_addPool 40 = .ok (.iload 4, 2) := by decide +kernel
theorem dX6_addPool_42 : decode cX6_addPool 42 = .ok (.sipush 800, 3) := by decide +kernel
theorem dX6_addPool_45 : decode cX6_addPool 45 = .ok (.if_icmp .le 13, 3) := by decide +kernel
theorem dX6_addPool_48 : decode cX6_addPool 48 = .ok (.new 36, 3) := by decide +kernel
theorem dX6_addPool_51 : decode cX6_addPool 51 = .ok (.dup, 1) := by decide +kernel
theorem dX6_addPool_52 : decode cX6_addPool 52 = .ok (.ldc 43, 2) := by decide +kernel
theorem dX6_addPool_54 : decode cX6_addPool 54 = .ok (.invokespecial 40, 3) := by decide +kernel
theorem dX6_addPool_57 : decode cX6_addPool 57 = .ok (.athrow, 1) := by decide +kernel
theorem dX6_addPool_58 : decode cX6_addPool 58 = .ok (.aload_n 0, 1) := by decide +kernel
theorem dX6_addPool_59 : decode cX6_addPool 59 = .ok (.getfield 21, 3) := by decide +kernel
theorem dX6_addPool_62 : decode cX6_addPool 62 = .ok (.getfield 45, 3) := by decide +kernel
theorem dX6_addPool_65 : decode cX6_addPool 65 = .ok (.getfield 49, 3) := by decide +kernel
theorem dX6_addPool_68 : decode cX6_addPool 68 = .ok (.iconst 5, 1) := by decide +kernel
theorem dX6_addPool_69 : decode cX6_addPool 69 = .ok (.if_icmp .lt 13, 3) := by decide +kernel
theorem dX6_addPool_72 : decode cX6_addPool 72 = .ok (.new 55, 3) := by decide +kernel
theorem dX6_addPool_75 : decode cX6_addPool 75 = .ok (.dup, 1) := by decide +kernel
theorem dX6_addPool_76 : decode cX6_addPool 76 = .ok (.ldc 57, 2) := by decide +kernel
theorem dX6_addPool_78 : decode cX6_addPool 78 = .ok (.invokespecial 59, 3) := by decide +kernel
theorem dX6_addPool_81 : decode cX6_addPool 81 = .ok (.athrow, 1) := by decide +kernel
theorem dX6_addPool_82 : decode cX6_addPool 82 = .ok (.aload_n 0, 1) := by decide +kernel
theorem dX6_addPool_83 : decode cX6_addPool 83 = .ok (.getfield 21, 3) := by decide +kernel
theorem dX6_addPool_86 : decode cX6_addPool 86 = .ok (.getfield 45, 3) := by decide +kernel
theorem dX6_addPool_89 : decode cX6_addPool 89 = .ok (.iload_n 2, 1) := by decide +kernel
theorem dX6_addPool_90 : decode cX6_addPool 90 = .ok (.iload_n 3, 1) := by decide +kernel
theorem dX6_addPool_91 : decode cX6_addPool 91 = .ok (.invokevirtual 60, 3) := by decide +kernel
theorem dX6_addPool_94 : decode cX6_addPool 94 = .ok (.ifCond .eq 13, 3) := by decide +kernel
theorem dX6_addPool_97 : decode cX6_addPool 97 = .ok (.new 55, 3) := by decide +kernel
theorem dX6_addPool_100 : decode cX6_addPool 100 = .ok (.dup, 1) := by decide +kernel
theorem dX6_addPool_101 : decode cX6_addPool 101 = .ok (.ldc 64, 2) := by decide +kernel
theorem dX6_addPool_103 : decode cX6_addPool 103 = .ok (.invokespecial 59, 3) := by decide +kernel
theorem dX6_addPool_106 : decode cX6_addPool 106 = .ok (.athrow, 1) := by decide +kernel
theorem dX6_addPool_107 : decode cX6_addPool 107 = .ok (.aload_n 0, 1) := by decide +kernel
theorem dX6_addPool_108 : decode cX6_addPool 108 = .ok (.getfield 21, 3) := by decide +kernel
theorem dX6_addPool_111 : decode cX6_addPool 111 = .ok (.getfield 66, 3) := by decide +kernel
theorem dX6_addPool_114 : decode cX6_addPool 114 = .ok (.iload_n 2, 1) := by decide +kernel
theorem dX6_addPool_115 : decode cX6_addPool 115 = .ok (.iload_n 3, 1) := by decide +kernel
theorem dX6_addPool_116 : decode cX6_addPool 116 = .ok (.invokevirtual 70, 3) := by decide +kernel
theorem dX6_addPool_119 : decode cX6_addPool 119 = .ok (.aload_n 0, 1) := by decide +kernel
theorem dX6_addPool_120 : decode cX6_addPool 120 = .ok (.getfield 21, 3) := by decide +kernel
theorem dX6_addPool_123 : decode cX6_addPool 123 = .ok (.getfield 45, 3) := by decide +kernel
theorem dX6_addPool_126 : decode cX6_addPool 126 = .ok (.iload_n 1, 1) := by decide +kernel
theorem dX6_addPool_127 : decode cX6_addPool 127 = .ok (.iload_n 2, 1) := by decide +kernel
theorem dX6_addPool_128 : decode cX6_addPool 128 = .ok (.iload_n 3, 1) := by decide +kernel
theorem dX6_addPool_129 : decode cX6_addPool 129 = .ok (.iload 4, 2) := by decide +kernel
theorem dX6_addPool_131 : decode cX6_addPool 131 = .ok (.invokevirtual 76, 3) := by decide +kernel
theorem dX6_addPool_134 : decode cX6_addPool 134 = .ok (.ireturn, 1) := by decide +kernel
theorem dX6_removePool_0 : decode cX6_removePool 0 = .ok (.aload_n 0, 1) := by decide +kernel
theorem dX6_removePool_1 : decode cX6_removePool 1 = .ok (.iload_n 1, 1) := by decide +kernel
theorem dX6_removePool_2 : decode cX6_removePool 2 = .ok (.invokevirtual 80, 3) := by decide +kernel
theorem dX6_removePool_5 : decode cX6_removePool 5 = .ok (.aload_n 0, 1) := by decide +kernel
theorem dX6_removePool_6 : decode cX6_removePool 6 = .ok (.getfield 21, 3) := by decide +kernel
theorem dX6_removePool_9 : decode cX6_removePool 9 = .ok (.getfield 45, 3) := by decide +kernel
theorem dX6_removePool_12 : decode cX6_removePool 12 = .ok (.getfield 83, 3) := by decide +kernel
theorem dX6_removePool_15 : decode cX6_removePool 15 = .ok (.iload_n 1, 1) := by decide +kernel
theorem dX6_removePool_16 : decode cX6_removePool 16 = .ok (.iaload, 1) := by decide +kernel
theorem dX6_removePool_17 : decode cX6_removePool 17 = .ok (.istore_n 2, 1) := by decide +kernel
theorem dX6_removePool_18 : decode cX6_removePool 18 = .ok (.aload_n 0, 1) := by decide +kernel
theorem dX6_removePool_19 : decode cX6_removePool 19 = .ok (.getfield 21, 3) := by decide +kernel
theorem dX6_removePool_22 : decode cX6_removePool 22 = .ok (.getfield 45, 3) := by decide +kernel
theorem dX6_removePool_25 : decode cX6_removePool 25 = .ok (.getfield 87, 3) := by decide +kernel
theorem dX6_removePool_28 : decode cX6_removePool 28 = .ok (.iload_n 1, 1) := by decide +kernel
theorem dX6_removePool_29 : decode cX6_removePool 29 = .ok (.iaload, 1) := by decide +kernel
theorem dX6_removePool_30 : decode cX6_removePool 30 = .ok (.istore_n 3, 1) := by decide +kernel
theorem dX6_removePool_31 : decode cX6_removePool 31 = .ok (.aload_n 0, 1) := by decide +kernel
theorem dX6_removePool_32 : decode cX6_removePool 32 = .ok (.getfield 21, 3) := by decide +kernel
theorem dX6_removePool_35 : decode cX6_removePool 35 = .ok (.getfield 66, 3) := by decide +kernel
theorem dX6_removePool_38 : decode cX6_removePool 38 = .ok (.iload_n 2, 1) := by decide +kernel
theorem dX6_removePool_39 : decode cX6_removePool 39 = .ok (.iload_n 3, 1) := by decide +kernel
theorem dX6_removePool_40 : decode cX6_removePool 40 = .ok (.iconst 0, 1) := by decide +kernel
theorem dX6_removePool_41 : decode cX6_removePool 41 = .ok (.invokevirtual 90, 3) := by decide +kernel
theorem dX6_removePool_44 : decode cX6_removePool 44 = .ok (.iload_n 3, 1) := by decide +kernel
theorem dX6_removePool_45 : decode cX6_removePool 45 = .ok (.iload_n 2, 1) := by decide +kernel
theorem dX6_removePool_46 : decode cX6_removePool 46 = .ok (.isub, 1) := by decide +kernel
theorem dX6_removePool_47 : decode cX6_removePool 47 = .ok (.iconst 1, 1) := by decide +kernel
theorem dX6_removePool_48 : decode cX6_removePool 48 = .ok (.iadd, 1) := by decide +kernel
theorem dX6_removePool_49 : decode cX6_removePool 49 = .ok (.if_icmp .eq 13, 3) := by decide +kernel
theorem dX6_removePool_52 : decode cX6_removePool 52 = .ok (.new 55, 3) := by decide +kernel
theorem dX6_removePool_55 : decode cX6_removePool 55 = .ok (.dup, 1) := by decide +kernel
theorem dX6_removePool_56 : decode cX6_removePool 56 = .ok (.ldc 94, 2) := by decide +kernel
theorem dX6_removePool_58 : decode cX6_removePool 58 = .ok (.invokespecial 59, 3) := by decide +kernel
theorem dX6_removePool_61 : decode cX6_removePool 61 = .ok (.athrow, 1) := by decide +kernel
theorem dX6_removePool_62 : decode cX6_removePool 62 = .ok (.aload_n 0, 1) := by decide +kernel
theorem dX6_removePool_63 : decode cX6_removePool 63 = .ok (.getfield 21, 3) := by decide +kernel
theorem dX6_removePool_66 : decode cX6_removePool 66 = .ok (.getfield 45, 3) := by decide +kernel
theorem dX6_removePool_69 : decode cX6_removePool 69 = .ok (.iload_n 1, 1) := by decide +kernel
theorem dX6_removePool_70 : decode cX6_removePool 70 = .ok (.invokevirtual 96, 3) := by decide +kernel
theorem dX6_removePool_73 : decode cX6_removePool 73 = .ok (.ireturn, 1) := by decide +kernel
theorem dX6_poolCount_0 : decode cX6_poolCount 0 = .ok (.aload_n 0, 1) := by decide +kernel
theorem dX6_poolCount_1 : decode cX6_poolCount 1 = .ok (.getfield 21, 3) := by decide +kernel
theorem dX6_poolCount_4 : decode cX6_poolCount 4 = .ok (.getfield 45, 3) := by decide +kernel
theorem dX6_poolCount_7 : decode cX6_poolCount 7 = .ok (.getfield 49, 3) := by decide +kernel
theorem dX6_poolCount_10 : decode cX6_poolCount 10 = .ok (.ireturn, 1) := by decide +kernel
theorem dX6_pool_0 : decode cX6_pool 0 = .ok (.aload_n 0, 1) := by decide +kernel
theorem dX6_pool_1 : decode cX6_pool 1 = .ok (.iload_n 1, 1) := by decide +kernel
theorem dX6_pool_2 : decode cX6_pool 2 = .ok (.invokevirtual 80, 3) := by decide +kernel
theorem dX6_pool_5 : decode cX6_pool 5 = .ok (.aload_n 0, 1) := by decide +kernel
theorem dX6_pool_6 : decode cX6_pool 6 = .ok (.getfield 21, 3) := by decide +kernel
theorem dX6_pool_9 : decode cX6_pool 9 = .ok (.getfield 45, 3) := by decide +kernel
theorem dX6_pool_12 : decode cX6_pool 12 = .ok (.astore_n 3, 1) := by decide +kernel
theorem dX6_pool_13 : decode cX6_pool 13 = .ok (.iload_n 2, 1) := by decide +kernel
theorem dX6_pool_14 : decode cX6_pool 14 = .ok (.tableswitch 85 0 4 #[34, 41, 48, 55, 62], 34) := by decide +kernel
theorem dX6_pool_48 : decode cX6_pool 48 = .ok (.aload_n 3, 1) := by decide +kernel
theorem dX6_pool_49 : decode cX6_pool 49 = .ok (.getfield 100, 3) := by decide +kernel
theorem dX6_pool_52 : decode cX6_pool 52 = .ok (.iload_n 1, 1) := by decide +kernel
theorem dX6_pool_53 : decode cX6_pool 53 = .ok (.iaload, 1) := by decide +kernel
theorem dX6_pool_54 : decode cX6_pool 54 = .ok (.ireturn, 1) := by decide +kernel
theorem dX6_pool_55 : decode cX6_pool 55 = .ok (.aload_n 3, 1) := by decide +kernel
theorem dX6_pool_56 : decode cX6_pool 56 = .ok (.getfield 83, 3) := by decide +kernel
theorem dX6_pool_59 : decode cX6_pool 59 = .ok (.iload_n 1, 1) := by decide +kernel
theorem dX6_pool_60 : decode cX6_pool 60 = .ok (.iaload, 1) := by decide +kernel
theorem dX6_pool_61 : decode cX6_pool 61 = .ok (.ireturn, 1) := by decide +kernel
theorem dX6_pool_62 : decode cX6_pool 62 = .ok (.aload_n 3, 1) := by decide +kernel
theorem dX6_pool_63 : decode cX6_pool 63 = .ok (.getfield 87, 3) := by decide +kernel
theorem dX6_pool_66 : decode cX6_pool 66 = .ok (.iload_n 1, 1) := by decide +kernel
theorem dX6_pool_67 : decode cX6_pool 67 = .ok (.iaload, 1) := by decide +kernel
theorem dX6_pool_68 : decode cX6_pool 68 = .ok (.ireturn, 1) := by decide +kernel
theorem dX6_pool_69 : decode cX6_pool 69 = .ok (.aload_n 3, 1) := by decide +kernel
theorem dX6_pool_70 : decode cX6_pool 70 = .ok (.getfield 103, 3) := by decide +kernel
theorem dX6_pool_73 : decode cX6_pool 73 = .ok (.iload_n 1, 1) := by decide +kernel
theorem dX6_pool_74 : decode cX6_pool 74 = .ok (.iaload, 1) := by decide +kernel
theorem dX6_pool_75 : decode cX6_pool 75 = .ok (.ireturn, 1) := by decide +kernel
theorem dX6_pool_76 : decode cX6_pool 76 = .ok (.aload_n 0, 1) := by decide +kernel
theorem dX6_pool_77 : decode cX6_pool 77 = .ok (.getfield 21, 3) := by decide +kernel
theorem dX6_pool_80 : decode cX6_pool 80 = .ok (.getfield 66, 3) := by decide +kernel
theorem dX6_pool_83 : decode cX6_pool 83 = .ok (.aload_n 3, 1) := by decide +kernel
theorem dX6_pool_84 : decode cX6_pool 84 = .ok (.getfield 83, 3) := by decide +kernel
theorem dX6_pool_87 : decode cX6_pool 87 = .ok (.iload_n 1, 1) := by decide +kernel
theorem dX6_pool_88 : decode cX6_pool 88 = .ok (.iaload, 1) := by decide +kernel
theorem dX6_pool_89 : decode cX6_pool 89 = .ok (.aload_n 3, 1) := by decide +kernel
theorem dX6_pool_90 : decode cX6_pool 90 = .ok (.getfield 87, 3) := by decide +kernel
theorem dX6_pool_93 : decode cX6_pool 93 = .ok (.iload_n 1, 1) := by decide +kernel
theorem dX6_pool_94 : decode cX6_pool 94 = .ok (.iaload, 1) := by decide +kernel
theorem dX6_pool_95 : decode cX6_pool 95 = .ok (.invokevirtual 106, 3) := by decide +kernel
theorem dX6_pool_98 : decode cX6_pool 98 = .ok (.ireturn, 1) := by decide +kernel
theorem dX6_pool_99 : decode cX6_pool 99 = .ok (.new 36, 3) := by decide +kernel
theorem dX6_pool_102 : decode cX6_pool 102 = .ok (.dup, 1) := by decide +kernel
theorem dX6_pool_103 : decode cX6_pool 103 = .ok (.ldc 110, 2) := by decide +kernel
theorem dX6_pool_105 : decode cX6_pool 105 = .ok (.invokespecial 40, 3) := by decide +kernel
theorem dX6_pool_108 : decode cX6_pool 108 = .ok (.athrow, 1) := by decide +kernel
theorem dX6_poolOf_0 : decode cX6_poolOf 0 = .ok (.iload_n 1, 1) := by decide +kernel
theorem dX6_poolOf_1 : decode cX6_poolOf 1 = .ok (.invokestatic 112, 3) := by decide +kernel
theorem dX6_poolOf_4 : decode cX6_poolOf 4 = .ok (.aload_n 0, 1) := by decide +kernel
theorem dX6_poolOf_5 : decode cX6_poolOf 5 = .ok (.iload_n 1, 1) := by decide +kernel
theorem dX6_poolOf_6 : decode cX6_poolOf 6 = .ok (.invokevirtual 115, 3) := by decide +kernel
theorem dX6_poolOf_9 : decode cX6_poolOf 9 = .ok (.aload_n 0, 1) := by decide +kernel
theorem dX6_poolOf_10 : decode cX6_poolOf 10 = .ok (.getfield 21, 3) := by decide +kernel
theorem dX6_poolOf_13 : decode cX6_poolOf 13 = .ok (.getfield 45, 3) := by decide +kernel
theorem dX6_poolOf_16 : decode cX6_poolOf 16 = .ok (.iload_n 1, 1) := by decide +kernel
theorem dX6_poolOf_17 : decode cX6_poolOf 17 = .ok (.invokevirtual 118, 3) := by decide +kernel
theorem dX6_poolOf_20 : decode cX6_poolOf 20 = .ok (.ireturn, 1) := by decide +kernel
theorem dX6_exclude_0 : decode cX6_exclude 0 = .ok (.iload_n 1, 1) := by decide +kernel
theorem dX6_exclude_1 : decode cX6_exclude 1 = .ok (.invokestatic 112, 3) := by decide +kernel
theorem dX6_exclude_4 : decode cX6_exclude 4 = .ok (.aload_n 0, 1) := by decide +kernel
theorem dX6_exclude_5 : decode cX6_exclude 5 = .ok (.getfield 21, 3) := by decide +kernel
theorem dX6_exclude_8 : decode cX6_exclude 8 = .ok (.getfield 66, 3) := by decide +kernel
theorem dX6_exclude_11 : decode cX6_exclude 11 = .ok (.getfield 121, 3) := by decide +kernel
theorem dX6_exclude_14 : decode cX6_exclude 14 = .ok (.iload_n 1, 1) := by decide +kernel
theorem dX6_exclude_15 : decode cX6_exclude 15 = .ok (.baload, 1) := by decide +kernel
theorem dX6_exclude_16 : decode cX6_exclude 16 = .ok (.istore_n 3, 1) := by decide +kernel
theorem dX6_exclude_17 : decode cX6_exclude 17 = .ok (.aload_n 0, 1) := by decide +kernel
theorem dX6_exclude_18 : decode cX6_exclude 18 = .ok (.getfield 21, 3) := by decide +kernel
theorem dX6_exclude_21 : decode cX6_exclude 21 = .ok (.getfield 66, 3) := by decide +kernel
theorem dX6_exclude_24 : decode cX6_exclude 24 = .ok (.getfield 121, 3) := by decide +kernel
theorem dX6_exclude_27 : decode cX6_exclude 27 = .ok (.iload_n 1, 1) := by decide +kernel
theorem dX6_exclude_28 : decode cX6_exclude 28 = .ok (.iload_n 2, 1) := by decide +kernel
theorem dX6_exclude_29 : decode cX6_exclude 29 = .ok (.bastore, 1) := by decide +kernel
theorem dX6_exclude_30 : decode cX6_exclude 30 = .ok (.iload_n 3, 1) := by decide +kernel
theorem dX6_exclude_31 : decode cX6_exclude 31 = .ok (.ireturn, 1) := by decide +kernel
theorem dX6_setStranger_0 : decode cX6_setStranger 0 = .ok (.iload_n 1, 1) := by decide +kernel
theorem dX6_setStranger_1 : decode cX6_setStranger 1 = .ok (.invokestatic 112, 3) := by decide +kernel
theorem dX6_setStranger_4 : decode cX6_setStranger 4 = .ok (.aload_n 0, 1) := by decide +kernel
theorem dX6_setStranger_5 : decode cX6_setStranger 5 = .ok (.getfield 21, 3) := by decide +kernel
theorem dX6_setStranger_8 : decode cX6_setStranger 8 = .ok (.getfield 66, 3) := by decide +kernel
theorem dX6_setStranger_11 : decode cX6_setStranger 11 = .ok (.getfield 125, 3) := by decide +kernel
theorem dX6_setStranger_14 : decode cX6_setStranger 14 = .ok (.iload_n 1, 1) := by decide +kernel
theorem dX6_setStranger_15 : decode cX6_setStranger 15 = .ok (.baload, 1) := by decide +kernel
theorem dX6_setStranger_16 : decode cX6_setStranger 16 = .ok (.istore_n 3, 1) := by decide +kernel
theorem dX6_setStranger_17 : decode cX6_setStranger 17 = .ok (.aload_n 0, 1) := by decide +kernel
theorem dX6_setStranger_18 : decode cX6_setStranger 18 = .ok (.getfield 21, 3) := by decide +kernel
theorem dX6_setStranger_21 : decode cX6_setStranger 21 = .ok (.getfield 66, 3) := by decide +kernel
theorem dX6_setStranger_24 : decode cX6_setStranger 24 = .ok (.getfield 125, 3) := by decide +kernel
theorem dX6_setStranger_27 : decode cX6_setStranger 27 = .ok (.iload_n 1, 1) := by decide +kernel
theorem dX6_setStranger_28 : decode cX6_setStranger 28 = .ok (.iload_n 2, 1) := by decide +kernel
theorem dX6_setStranger_29 : decode cX6_setStranger 29 = .ok (.bastore, 1) := by decide +kernel
theorem dX6_setStranger_30 : decode cX6_setStranger 30 = .ok (.iload_n 3, 1) := by decide +kernel
theorem dX6_setStranger_31 : decode cX6_setStranger 31 = .ok (.ireturn, 1) := by decide +kernel
theorem dX6_setHold_0 : decode cX6_setHold 0 = .ok (.iload_n 1, 1) := by decide +kernel
theorem dX6_setHold_1 : decode cX6_setHold 1 = .ok (.iconst 1, 1) := by decide +kernel
theorem dX6_setHold_2 : decode cX6_setHold 2 = .ok (.if_icmp .lt 9, 3) := by decide +kernel
theorem dX6_setHold_5 : decode cX6_setHold 5 = .ok (.iload_n 1, 1) := by decide +kernel
theorem dX6_setHold_6 : decode cX6_setHold 6 = .ok (.bipush 50, 2) := by decide +kernel
theorem dX6_setHold_8 : decode cX6_setHold 8 = .ok (.if_icmp .le 13, 3) := by decide +kernel
theorem dX6_setHold_11 : decode cX6_setHold 11 = .ok (.new 36, 3) := by decide +kernel
theorem dX6_setHold_14 : decode cX6_setHold 14 = .ok (.dup, 1) := by decide +kernel
theorem dX6_setHold_15 : decode cX6_setHold 15 = .ok (.ldc 128, 2) := by decide +kernel
theorem dX6_setHold_17 : decode cX6_setHold 17 = .ok (.invokespecial 40, 3) := by decide +kernel
theorem dX6_setHold_20 : decode cX6_setHold 20 = .ok (.athrow, 1) := by decide +kernel
theorem dX6_setHold_21 : decode cX6_setHold 21 = .ok (.aload_n 0, 1) := by decide +kernel
theorem dX6_setHold_22 : decode cX6_setHold 22 = .ok (.getfield 21, 3) := by decide +kernel
theorem dX6_setHold_25 : decode cX6_setHold 25 = .ok (.getfield 130, 3) := by decide +kernel
theorem dX6_setHold_28 : decode cX6_setHold 28 = .ok (.getfield 134, 3) := by decide +kernel
theorem dX6_setHold_31 : decode cX6_setHold 31 = .ok (.istore_n 2, 1) := by decide +kernel
theorem dX6_setHold_32 : decode cX6_setHold 32 = .ok (.aload_n 0, 1) := by decide +kernel
theorem dX6_setHold_33 : decode cX6_setHold 33 = .ok (.getfield 21, 3) := by decide +kernel
theorem dX6_setHold_36 : decode cX6_setHold 36 = .ok (.getfield 130, 3) := by decide +kernel
theorem dX6_setHold_39 : decode cX6_setHold 39 = .ok (.iload_n 1, 1) := by decide +kernel
theorem dX6_setHold_40 : decode cX6_setHold 40 = .ok (.putfield 134, 3) := by decide +kernel
theorem dX6_setHold_43 : decode cX6_setHold 43 = .ok (.iload_n 2, 1) := by decide +kernel
theorem dX6_setHold_44 : decode cX6_setHold 44 = .ok (.ireturn, 1) := by decide +kernel
theorem dX6_setQuarantine_0 : decode cX6_setQuarantine 0 = .ok (.iload_n 1, 1) := by decide +kernel
theorem dX6_setQuarantine_1 : decode cX6_setQuarantine 1 = .ok (.iconst 1, 1) := by decide +kernel
theorem dX6_setQuarantine_2 : decode cX6_setQuarantine 2 = .ok (.if_icmp .lt 10, 3) := by decide +kernel
theorem dX6_setQuarantine_5 : decode cX6_setQuarantine 5 = .ok (.iload_n 1, 1) := by decide +kernel
theorem dX6_setQuarantine_6 : decode cX6_setQuarantine 6 = .ok (.sipush 500, 3) := by decide +kernel
theorem dX6_setQuarantine_9 : decode cX6_setQuarantine 9 = .ok (.if_icmp .le 13, 3) := by decide +kernel
theorem dX6_setQuarantine_12 : decode cX6_setQuarantine 12 = .ok (.new 36, 3) := by decide +kernel
theorem dX6_setQuarantine_15 : decode cX6_setQuarantine 15 = .ok (.dup, 1) := by decide +kernel
theorem dX6_setQuarantine_16 : decode cX6_setQuarantine 16 = .ok (.ldc 139, 2) := by decide +kernel
theorem dX6_setQuarantine_18 : decode cX6_setQuarantine 18 = .ok (.invokespecial 40, 3) := by decide +kernel
theorem dX6_setQuarantine_21 : decode cX6_setQuarantine 21 = .ok (.athrow, 1) := by decide +kernel
theorem dX6_setQuarantine_22 : decode cX6_setQuarantine 22 = .ok (.aload_n 0, 1) := by decide +kernel
theorem dX6_setQuarantine_23 : decode cX6_setQuarantine 23 = .ok (.getfield 21, 3) := by decide +kernel
theorem dX6_setQuarantine_26 : decode cX6_setQuarantine 26 = .ok (.getfield 130, 3) := by decide +kernel
theorem dX6_setQuarantine_29 : decode cX6_setQuarantine 29 = .ok (.getfield 141, 3) := by decide +kernel
theorem dX6_setQuarantine_32 : decode cX6_setQuarantine 32 = .ok (.istore_n 2, 1) := by decide +kernel
theorem dX6_setQuarantine_33 : decode cX6_setQuarantine 33 = .ok (.aload_n 0, 1) := by decide +kernel
theorem dX6_setQuarantine_34 : decode cX6_setQuarantine 34 = .ok (.getfield 21, 3) := by decide +kernel
theorem dX6_setQuarantine_37 : decode cX6_setQuarantine 37 = .ok (.getfield 130, 3) := by decide +kernel
theorem dX6_setQuarantine_40 : decode cX6_setQuarantine 40 = .ok (.iload_n 1, 1) := by decide +kernel
theorem dX6_setQuarantine_41 : decode cX6_setQuarantine 41 = .ok (.putfield 141, 3) := by decide +kernel
theorem dX6_setQuarantine_44 : decode cX6_setQuarantine 44 = .ok (.iload_n 2, 1) := by decide +kernel
theorem dX6_setQuarantine_45 : decode cX6_setQuarantine 45 = .ok (.ireturn, 1) := by decide +kernel
theorem dX6_setDirect_0 : decode cX6_setDirect 0 = .ok (.iload_n 1, 1) := by decide +kernel
theorem dX6_setDirect_1 : decode cX6_setDirect 1 = .ok (.invokestatic 28, 3) := by decide +kernel
theorem dX6_setDirect_4 : decode cX6_setDirect 4 = .ok (.aload_n 0, 1) := by decide +kernel
theorem dX6_setDirect_5 : decode cX6_setDirect 5 = .ok (.getfield 21, 3) := by decide +kernel
theorem dX6_setDirect_8 : decode cX6_setDirect 8 = .ok (.getfield 130, 3) := by decide +kernel
theorem dX6_setDirect_11 : decode cX6_setDirect 11 = .ok (.getfield 144, 3) := by decide +kernel
theorem dX6_setDirect_14 : decode cX6_setDirect 14 = .ok (.iload_n 1, 1) := by decide +kernel
theorem dX6_setDirect_15 : decode cX6_setDirect 15 = .ok (.baload, 1) := by decide +kernel
theorem dX6_setDirect_16 : decode cX6_setDirect 16 = .ok (.istore_n 3, 1) := by decide +kernel
theorem dX6_setDirect_17 : decode cX6_setDirect 17 = .ok (.aload_n 0, 1) := by decide +kernel
theorem dX6_setDirect_18 : decode cX6_setDirect 18 = .ok (.getfield 21, 3) := by decide +kernel
theorem dX6_setDirect_21 : decode cX6_setDirect 21 = .ok (.getfield 130, 3) := by decide +kernel
theorem dX6_setDirect_24 : decode cX6_setDirect 24 = .ok (.getfield 144, 3) := by decide +kernel
theorem dX6_setDirect_27 : decode cX6_setDirect 27 = .ok (.iload_n 1, 1) := by decide +kernel
theorem dX6_setDirect_28 : decode cX6_setDirect 28 = .ok (.iload_n 2, 1) := by decide +kernel
theorem dX6_setDirect_29 : decode cX6_setDirect 29 = .ok (.bastore, 1) := by decide +kernel
theorem dX6_setDirect_30 : decode cX6_setDirect 30 = .ok (.iload_n 3, 1) := by decide +kernel
theorem dX6_setDirect_31 : decode cX6_setDirect 31 = .ok (.ireturn, 1) := by decide +kernel
theorem dX6_setRelay_0 : decode cX6_setRelay 0 = .ok (.iload_n 1, 1) := by decide +kernel
theorem dX6_setRelay_1 : decode cX6_setRelay 1 = .ok (.invokestatic 28, 3) := by decide +kernel
theorem dX6_setRelay_4 : decode cX6_setRelay 4 = .ok (.aload_n 0, 1) := by decide +kernel
theorem dX6_setRelay_5 : decode cX6_setRelay 5 = .ok (.getfield 21, 3) := by decide +kernel
theorem dX6_setRelay_8 : decode cX6_setRelay 8 = .ok (.getfield 130, 3) := by decide +kernel
theorem dX6_setRelay_11 : decode cX6_setRelay 11 = .ok (.getfield 147, 3) := by decide +kernel
theorem dX6_setRelay_14 : decode cX6_setRelay 14 = .ok (.iload_n 1, 1) := by decide +kernel
theorem dX6_setRelay_15 : decode cX6_setRelay 15 = .ok (.baload, 1) := by decide +kernel
theorem dX6_setRelay_16 : decode cX6_setRelay 16 = .ok (.istore_n 3, 1) := by decide +kernel
theorem dX6_setRelay_17 : decode cX6_setRelay 17 = .ok (.aload_n 0, 1) := by decide +kernel
theorem dX6_setRelay_18 : decode cX6_setRelay 18 = .ok (.getfield 21, 3) := by decide +kernel
theorem dX6_setRelay_21 : decode cX6_setRelay 21 = .ok (.getfield 130, 3) := by decide +kernel
theorem dX6_setRelay_24 : decode cX6_setRelay 24 = .ok (.getfield 147, 3) := by decide +kernel
theorem dX6_setRelay_27 : decode cX6_setRelay 27 = .ok (.iload_n 1, 1) := by decide +kernel
theorem dX6_setRelay_28 : decode cX6_setRelay 28 = .ok (.iload_n 2, 1) := by decide +kernel
theorem dX6_setRelay_29 : decode cX6_setRelay 29 = .ok (.bastore, 1) := by decide +kernel
theorem dX6_setRelay_30 : decode cX6_setRelay 30 = .ok (.iload_n 3, 1) := by decide +kernel
theorem dX6_setRelay_31 : decode cX6_setRelay 31 = .ok (.ireturn, 1) := by decide +kernel
theorem dX6_discover_0 : decode cX6_discover 0 = .ok (.iload_n 1, 1) := by decide +kernel
theorem dX6_discover_1 : decode cX6_discover 1 = .ok (.invokestatic 150, 3) := by decide +kernel
theorem dX6_discover_4 : decode cX6_discover 4 = .ok (.iload_n 2, 1) := by decide +kernel
theorem dX6_discover_5 : decode cX6_discover 5 = .ok (.invokestatic 28, 3) := by decide +kernel
theorem dX6_discover_8 : decode cX6_discover 8 = .ok (.aload_n 0, 1) := by decide +kernel
theorem dX6_discover_9 : decode cX6_discover 9 = .ok (.getfield 21, 3) := by decide +kernel
theorem dX6_discover_12 : decode cX6_discover 12 = .ok (.getfield 153, 3) := by decide +kernel
theorem dX6_discover_15 : decode cX6_discover 15 = .ok (.iload_n 1, 1) := by decide +kernel
theorem dX6_discover_16 : decode cX6_discover 16 = .ok (.invokevirtual 157, 3) := by decide +kernel
theorem dX6_discover_19 : decode cX6_discover 19 = .ok (.ifCond .eq 13, 3) := by decide +kernel
theorem dX6_discover_22 : decode cX6_discover 22 = .ok (.new 55, 3) := by decide +kernel
theorem dX6_discover_25 : decode cX6_discover 25 = .ok (.dup, 1) := by decide +kernel
theorem dX6_discover_26 : decode cX6_discover 26 = .ok (.ldc 162, 2) := by decide +kernel
theorem dX6_discover_28 : decode cX6_discover 28 = .ok (.invokespecial 59, 3) := by decide +kernel
theorem dX6_discover_31 : decode cX6_discover 31 = .ok (.athrow, 1) := by decide +kernel
theorem dX6_discover_32 : decode cX6_discover 32 = .ok (.aload_n 0, 1) := by decide +kernel
theorem dX6_discover_33 : decode cX6_discover 33 = .ok (.getfield 21, 3) := by decide +kernel
theorem dX6_discover_36 : decode cX6_discover 36 = .ok (.getfield 130, 3) := by decide +kernel
theorem dX6_discover_39 : decode cX6_discover 39 = .ok (.getfield 147, 3) := by decide +kernel
theorem dX6_discover_42 : decode cX6_discover 42 = .ok (.iload_n 2, 1) := by decide +kernel
theorem dX6_discover_43 : decode cX6_discover 43 = .ok (.baload, 1) := by decide +kernel
theorem dX6_discover_44 : decode cX6_discover 44 = .ok (.ifCond .ne 13, 3) := by decide +kernel
theorem dX6_discover_47 : decode cX6_discover 47 = .ok (.new 55, 3) := by decide +kernel
theorem dX6_discover_50 : decode cX6_discover 50 = .ok (.dup, 1) := by decide +kernel
theorem dX6_discover_51 : decode cX6_discover 51 = .ok (.ldc 164, 2) := by decide +kernel
theorem dX6_discover_53 : decode cX6_discover 53 = .ok (.invokespecial 59, 3) := by decide +kernel
theorem dX6_discover_56 : decode cX6_discover 56 = .ok (.athrow, 1) := by decide +kernel
theorem dX6_discover_57 : decode cX6_discover 57 = .ok (.aload_n 0, 1) := by decide +kernel
theorem dX6_discover_58 : decode cX6_discover 58 = .ok (.getfield 21, 3) := by decide +kernel
theorem dX6_discover_61 : decode cX6_discover 61 = .ok (.iload_n 1, 1) := by decide +kernel
theorem dX6_discover_62 : decode cX6_discover 62 = .ok (.iload_n 2, 1) := by decide +kernel
theorem dX6_discover_63 : decode cX6_discover 63 = .ok (.iload_n 3, 1) := by decide +kernel
theorem dX6_discover_64 : decode cX6_discover 64 = .ok (.invokevirtual 166, 3) := by decide +kernel
theorem dX6_discover_67 : decode cX6_discover 67 = .ok (.istore 4, 2) := by decide +kernel
theorem dX6_discover_69 : decode cX6_discover 69 = .ok (.iload 4, 2) := by decide +kernel
theorem dX6_discover_71 : decode cX6_discover 71 = .ok (.iconst (-1), 1) := by decide +kernel
theorem dX6_discover_72 : decode cX6_discover 72 = .ok (.if_icmp .ne 13, 3) := by decide +kernel
theorem dX6_discover_75 : decode cX6_discover 75 = .ok (.new 169, 3) := by decide +kernel
theorem dX6_discover_78 : decode cX6_discover 78 = .ok (.dup, 1) := by decide +kernel
theorem dX6_discover_79 : decode cX6_discover 79 = .ok (.ldc 171, 2) := by decide +kernel
theorem dX6_discover_81 : decode cX6_discover 81 = .ok (.invokespecial 173, 3) := by decide +kernel
theorem dX6_discover_84 : decode cX6_discover 84 = .ok (.athrow, 1) := by decide +kernel
theorem dX6_discover_85 : decode cX6_discover 85 = .ok (.iload 4, 2) := by decide +kernel
theorem dX6_discover_87 : decode cX6_discover 87 = .ok (.ireturn, 1) := by decide +kernel
theorem dX6_accept_0 : decode cX6_accept 0 = .ok (.iload_n 1, 1) := by decide +kernel
theorem dX6_accept_1 : decode cX6_accept 1 = .ok (.invokestatic 150, 3) := by decide +kernel
theorem dX6_accept_4 : decode cX6_accept 4 = .ok (.aload_n 0, 1) := by decide +kernel
theorem dX6_accept_5 : decode cX6_accept 5 = .ok (.getfield 21, 3) := by decide +kernel
theorem dX6_accept_8 : decode cX6_accept 8 = .ok (.getfield 153, 3) := by decide +kernel
theorem dX6_accept_11 : decode cX6_accept 11 = .ok (.getfield 174, 3) := by decide +kernel
theorem dX6_accept_14 : decode cX6_accept 14 = .ok (.iload_n 1, 1) := by decide +kernel
theorem dX6_accept_15 : decode cX6_accept 15 = .ok (.iaload, 1) := by decide +kernel
theorem dX6_accept_16 : decode cX6_accept 16 = .ok (.iconst 1, 1) := by decide +kernel
theorem dX6_accept_17 : decode cX6_accept 17 = .ok (.if_icmp .eq 13, 3) := by decide +kernel
theorem dX6_accept_20 : decode cX6_accept 20 = .ok (.new 169, 3) := by decide +kernel
theorem dX6_accept_23 : decode cX6_accept 23 = .ok (.dup, 1) := by decide +kernel
theorem dX6_accept_24 : decode cX6_accept 24 = .ok (.ldc 176, 2) := by decide +kernel
theorem dX6_accept_26 : decode cX6_accept 26 = .ok (.invokespecial 173, 3) := by decide +kernel
theorem dX6_accept_29 : decode cX6_accept 29 = .ok (.athrow, 1) := by decide +kernel
theorem dX6_accept_30 : decode cX6_accept 30 = .ok (.aload_n 0, 1) := by decide +kernel
theorem dX6_accept_31 : decode cX6_accept 31 = .ok (.getfield 21, 3) := by decide +kernel
theorem dX6_accept_34 : decode cX6_accept 34 = .ok (.iload_n 1, 1) := by decide +kernel
theorem dX6_accept_35 : decode cX6_accept 35 = .ok (.invokevirtual 178, 3) := by decide +kernel
theorem dX6_accept_38 : decode cX6_accept 38 = .ok (.ifCond .ne 13, 3) := by decide +kernel
theorem dX6_accept_41 : decode cX6_accept 41 = .ok (.new 55, 3) := by decide +kernel
theorem dX6_accept_44 : decode cX6_accept 44 = .ok (.dup, 1) := by decide +kernel
theorem dX6_accept_45 : decode cX6_accept 45 = .ok (.ldc 164, 2) := by decide +kernel
theorem dX6_accept_47 : decode cX6_accept 47 = .ok (.invokespecial 59, 3) := by decide +kernel
theorem dX6_accept_50 : decode cX6_accept 50 = .ok (.athrow, 1) := by decide +kernel
theorem dX6_accept_51 : decode cX6_accept 51 = .ok (.aload_n 0, 1) := by decide +kernel
theorem dX6_accept_52 : decode cX6_accept 52 = .ok (.getfield 21, 3) := by decide +kernel
theorem dX6_accept_55 : decode cX6_accept 55 = .ok (.iload_n 1, 1) := by decide +kernel
theorem dX6_accept_56 : decode cX6_accept 56 = .ok (.invokevirtual 181, 3) := by decide +kernel
theorem dX6_accept_59 : decode cX6_accept 59 = .ok (.aload_n 0, 1) := by decide +kernel
theorem dX6_accept_60 : decode cX6_accept 60 = .ok (.getfield 21, 3) := by decide +kernel
theorem dX6_accept_63 : decode cX6_accept 63 = .ok (.getfield 153, 3) := by decide +kernel
theorem dX6_accept_66 : decode cX6_accept 66 = .ok (.getfield 184, 3) := by decide +kernel
theorem dX6_accept_69 : decode cX6_accept 69 = .ok (.iload_n 1, 1) := by decide +kernel
theorem dX6_accept_70 : decode cX6_accept 70 = .ok (.iaload, 1) := by decide +kernel
theorem dX6_accept_71 : decode cX6_accept 71 = .ok (.ireturn, 1) := by decide +kernel
theorem dX6_release_0 : decode cX6_release 0 = .ok (.iload_n 1, 1) := by decide +kernel
theorem dX6_release_1 : decode cX6_release 1 = .ok (.invokestatic 150, 3) := by decide +kernel
theorem dX6_release_4 : decode cX6_release 4 = .ok (.aload_n 0, 1) := by decide +kernel
theorem dX6_release_5 : decode cX6_release 5 = .ok (.iload_n 1, 1) := by decide +kernel
theorem dX6_release_6 : decode cX6_release 6 = .ok (.invokevirtual 187, 3) := by decide +kernel
theorem dX6_release_9 : decode cX6_release 9 = .ok (.aload_n 0, 1) := by decide +kernel
theorem dX6_release_10 : decode cX6_release 10 = .ok (.getfield 21, 3) := by decide +kernel
theorem dX6_release_13 : decode cX6_release 13 = .ok (.getfield 153, 3) := by decide +kernel
theorem dX6_release_16 : decode cX6_release 16 = .ok (.getfield 184, 3) := by decide +kernel
theorem dX6_release_19 : decode cX6_release 19 = .ok (.iload_n 1, 1) := by decide +kernel
theorem dX6_release_20 : decode cX6_release 20 = .ok (.iaload, 1) := by decide +kernel
theorem dX6_release_21 : decode cX6_release 21 = .ok (.istore_n 2, 1) := by decide +kernel
theorem dX6_release_22 : decode cX6_release 22 = .ok (.aload_n 0, 1) := by decide +kernel
theorem dX6_release_23 : decode cX6_release 23 = .ok (.getfield 21, 3) := by decide +kernel
theorem dX6_release_26 : decode cX6_release 26 = .ok (.iload_n 1, 1) := by decide +kernel
theorem dX6_release_27 : decode cX6_release 27 = .ok (.invokevirtual 190, 3) := by decide +kernel
theorem dX6_release_30 : decode cX6_release 30 = .ok (.aload_n 0, 1) := by decide +kernel
theorem dX6_release_31 : decode cX6_release 31 = .ok (.getfield 10, 3) := by decide +kernel
theorem dX6_release_34 : decode cX6_release 34 = .ok (.bipush 6, 2) := by decide +kernel
theorem dX6_release_36 : decode cX6_release 36 = .ok (.iload_n 2, 1) := by decide +kernel
theorem dX6_release_37 : decode cX6_release 37 = .ok (.invokevirtual 193, 3) := by decide +kernel
theorem dX6_release_40 : decode cX6_release 40 = .ok (.iload_n 2, 1) := by decide +kernel
theorem dX6_release_41 : decode cX6_release 41 = .ok (.ireturn, 1) := by decide +kernel
theorem dX6_decline_0 : decode cX6_decline 0 = .ok (.iload_n 1, 1) := by decide +kernel
theorem dX6_decline_1 : decode cX6_decline 1 = .ok (.invokestatic 150, 3) := by decide +kernel
theorem dX6_decline_4 : decode cX6_decline 4 = .ok (.aload_n 0, 1) := by decide +kernel
theorem dX6_decline_5 : decode cX6_decline 5 = .ok (.iload_n 1, 1) := by decide +kernel
theorem dX6_decline_6 : decode cX6_decline 6 = .ok (.invokevirtual 187, 3) := by decide +kernel
theorem dX6_decline_9 : decode cX6_decline 9 = .ok (.aload_n 0, 1) := by decide +kernel
theorem dX6_decline_10 : decode cX6_decline 10 = .ok (.getfield 21, 3) := by decide +kernel
theorem dX6_decline_13 : decode cX6_decline 13 = .ok (.getfield 153, 3) := by decide +kernel
theorem dX6_decline_16 : decode cX6_decline 16 = .ok (.getfield 184, 3) := by decide +kernel
theorem dX6_decline_19 : decode cX6_decline 19 = .ok (.iload_n 1, 1) := by decide +kernel
theorem dX6_decline_20 : decode cX6_decline 20 = .ok (.iaload, 1) := by decide +kernel
theorem dX6_decline_21 : decode cX6_decline 21 = .ok (.istore_n 2, 1) := by decide +kernel
theorem dX6_decline_22 : decode cX6_decline 22 = .ok (.aload_n 0, 1) := by decide +kernel
theorem dX6_decline_23 : decode cX6_decline 23 = .ok (.getfield 21, 3) := by decide +kernel
theorem dX6_decline_26 : decode cX6_decline 26 = .ok (.iload_n 1, 1) := by decide +kernel
theorem dX6_decline_27 : decode cX6_decline 27 = .ok (.invokevirtual 196, 3) := by decide +kernel
theorem dX6_decline_30 : decode cX6_decline 30 = .ok (.iload_n 2, 1) := by decide +kernel
theorem dX6_decline_31 : decode cX6_decline 31 = .ok (.ireturn, 1) := by decide +kernel
theorem dX6_renew_0 : decode cX6_renew 0 = .ok (.iload_n 1, 1) := by decide +kernel
theorem dX6_renew_1 : decode cX6_renew 1 = .ok (.invokestatic 150, 3) := by decide +kernel
theorem dX6_renew_4 : decode cX6_renew 4 = .ok (.aload_n 0, 1) := by decide +kernel
theorem dX6_renew_5 : decode cX6_renew 5 = .ok (.iload_n 1, 1) := by decide +kernel
theorem dX6_renew_6 : decode cX6_renew 6 = .ok (.invokevirtual 187, 3) := by decide +kernel
theorem dX6_renew_9 : decode cX6_renew 9 = .ok (.aload_n 0, 1) := by decide +kernel
theorem dX6_renew_10 : decode cX6_renew 10 = .ok (.getfield 21, 3) := by decide +kernel
theorem dX6_renew_13 : decode cX6_renew 13 = .ok (.iload_n 1, 1) := by decide +kernel
theorem dX6_renew_14 : decode cX6_renew 14 = .ok (.invokevirtual 199, 3) := by decide +kernel
theorem dX6_renew_17 : decode cX6_renew 17 = .ok (.ifCond .ne 13, 3) := by decide +kernel
theorem dX6_renew_20 : decode cX6_renew 20 = .ok (.new 55, 3) := by decide +kernel
theorem dX6_renew_23 : decode cX6_renew 23 = .ok (.dup, 1) := by decide +kernel
theorem dX6_renew_24 : decode cX6_renew 24 = .ok (.ldc 202, 2) := by decide +kernel
theorem dX6_renew_26 : decode cX6_renew 26 = .ok (.invokespecial 59, 3) := by decide +kernel
theorem dX6_renew_29 : decode cX6_renew 29 = .ok (.athrow, 1) := by decide +kernel
theorem dX6_renew_30 : decode cX6_renew 30 = .ok (.aload_n 0, 1) := by decide +kernel
theorem dX6_renew_31 : decode cX6_renew 31 = .ok (.getfield 21, 3) := by decide +kernel
theorem dX6_renew_34 : decode cX6_renew 34 = .ok (.iload_n 1, 1) := by decide +kernel
theorem dX6_renew_35 : decode cX6_renew 35 = .ok (.invokevirtual 204, 3) := by decide +kernel
theorem dX6_renew_38 : decode cX6_renew 38 = .ok (.ireturn, 1) := by decide +kernel
theorem dX6_advance_0 : decode cX6_advance 0 = .ok (.iload_n 1, 1) := by decide +kernel
theorem dX6_advance_1 : decode cX6_advance 1 = .ok (.iconst 1, 1) := by decide +kernel
theorem dX6_advance_2 : decode cX6_advance 2 = .ok (.if_icmp .lt 10, 3) := by decide +kernel
theorem dX6_advance_5 : decode cX6_advance 5 = .ok (.iload_n 1, 1) := by decide +kernel
theorem dX6_advance_6 : decode cX6_advance 6 = .ok (.sipush 2000, 3) := by decide +kernel
theorem dX6_advance_9 : decode cX6_advance 9 = .ok (.if_icmp .le 13, 3) := by decide +kernel
theorem dX6_advance_12 : decode cX6_advance 12 = .ok (.new 36, 3) := by decide +kernel
theorem dX6_advance_15 : decode cX6_advance 15 = .ok (.dup, 1) := by decide +kernel
theorem dX6_advance_16 : decode cX6_advance 16 = .ok (.ldc 207, 2) := by decide +kernel
theorem dX6_advance_18 : decode cX6_advance 18 = .ok (.invokespecial 40, 3) := by decide +kernel
theorem dX6_advance_21 : decode cX6_advance 21 = .ok (.athrow, 1) := by decide +kernel
theorem dX6_advance_22 : decode cX6_advance 22 = .ok (.aload_n 0, 1) := by decide +kernel
theorem dX6_advance_23 : decode cX6_advance 23 = .ok (.getfield 21, 3) := by decide +kernel
theorem dX6_advance_26 : decode cX6_advance 26 = .ok (.getfield 130, 3) := by decide +kernel
theorem dX6_advance_29 : decode cX6_advance 29 = .ok (.getfield 209, 3) := by decide +kernel
theorem dX6_advance_32 : decode cX6_advance 32 = .ok (.iload_n 1, 1) := by decide +kernel
theorem dX6_advance_33 : decode cX6_advance 33 = .ok (.iadd, 1) := by decide +kernel
theorem dX6_advance_34 : decode cX6_advance 34 = .ok (.istore_n 2, 1) := by decide +kernel
theorem dX6_advance_35 : decode cX6_advance 35 = .ok (.iload_n 2, 1) := by decide +kernel
theorem dX6_advance_36 : decode cX6_advance 36 = .ok (.ldc 212, 2) := by decide +kernel
theorem dX6_advance_38 : decode cX6_advance 38 = .ok (.if_icmp .le 13, 3) := by decide +kernel
theorem dX6_advance_41 : decode cX6_advance 41 = .ok (.new 55, 3) := by decide +kernel
theorem dX6_advance_44 : decode cX6_advance 44 = .ok (.dup, 1) := by decide +kernel
theorem dX6_advance_45 : decode cX6_advance 45 = .ok (.ldc 213, 2) := by decide +kernel
theorem dX6_advance_47 : decode cX6_advance 47 = .ok (.invokespecial 59, 3) := by decide +kernel
theorem dX6_advance_50 : decode cX6_advance 50 = .ok (.athrow, 1) := by decide +kernel
theorem dX6_advance_51 : decode cX6_advance 51 = .ok (.aload_n 0, 1) := by decide +kernel
theorem dX6_advance_52 : decode cX6_advance 52 = .ok (.getfield 21, 3) := by decide +kernel
theorem dX6_advance_55 : decode cX6_advance 55 = .ok (.iload_n 2, 1) := by decide +kernel
theorem dX6_advance_56 : decode cX6_advance 56 = .ok (.invokevirtual 215, 3) := by decide +kernel
theorem dX6_advance_59 : decode cX6_advance 59 = .ok (.ireturn, 1) := by decide +kernel
theorem dX6_advanceToEvent_0 : decode cX6_advanceToEvent 0 = .ok (.aload_n 0, 1) := by decide +kernel
theorem dX6_advanceToEvent_1 : decode cX6_advanceToEvent 1 = .ok (.getfield 21, 3) := by decide +kernel
theorem dX6_advanceToEvent_4 : decode cX6_advanceToEvent 4 = .ok (.invokevirtual 218, 3) := by decide +kernel
theorem dX6_advanceToEvent_7 : decode cX6_advanceToEvent 7 = .ok (.istore_n 1, 1) := by decide +kernel
theorem dX6_advanceToEvent_8 : decode cX6_advanceToEvent 8 = .ok (.iload_n 1, 1) := by decide +kernel
theorem dX6_advanceToEvent_9 : decode cX6_advanceToEvent 9 = .ok (.ldc 222, 2) := by decide +kernel
theorem dX6_advanceToEvent_11 : decode cX6_advanceToEvent 11 = .ok (.if_icmp .ne 13, 3) := by decide +kernel
theorem dX6_advanceToEvent_14 : decode cX6_advanceToEvent 14 = .ok (.new 169, 3) := by decide +kernel
theorem dX6_advanceToEvent_17 : decode cX6_advanceToEvent 17 = .ok (.dup, 1) := by decide +kernel
theorem dX6_advanceToEvent_18 : decode cX6_advanceToEvent 18 = .ok (.ldc 223, 2) := by decide +kernel
theorem dX6_advanceToEvent_20 : decode cX6_advanceToEvent 20 = .ok (.invokespecial 173, 3) := by decide +kernel
theorem dX6_advanceToEvent_23 : decode cX6_advanceToEvent 23 = .ok (.athrow, 1) := by decide +kernel
theorem dX6_advanceToEvent_24 : decode cX6_advanceToEvent 24 = .ok (.iload_n 1, 1) := by decide +kernel
theorem dX6_advanceToEvent_25 : decode cX6_advanceToEvent 25 = .ok (.invokestatic 225, 3) := by decide +kernel
theorem dX6_advanceToEvent_28 : decode cX6_advanceToEvent 28 = .ok (.istore_n 2, 1) := by decide +kernel
theorem dX6_advanceToEvent_29 : decode cX6_advanceToEvent 29 = .ok (.iload_n 2, 1) := by decide +kernel
theorem dX6_advanceToEvent_30 : decode cX6_advanceToEvent 30 = .ok (.ldc 212, 2) := by decide +kernel
theorem dX6_advanceToEvent_32 : decode cX6_advanceToEvent 32 = .ok (.if_icmp .le 13, 3) := by decide +kernel
theorem dX6_advanceToEvent_35 : decode cX6_advanceToEvent 35 = .ok (.new 55, 3) := by decide +kernel
theorem dX6_advanceToEvent_38 : decode cX6_advanceToEvent 38 = .ok (.dup, 1) := by decide +kernel
theorem dX6_advanceToEvent_39 : decode cX6_advanceToEvent 39 = .ok (.ldc 213, 2) := by decide +kernel
theorem dX6_advanceToEvent_41 : decode cX6_advanceToEvent 41 = .ok (.invokespecial 59, 3) := by decide +kernel
theorem dX6_advanceToEvent_44 : decode cX6_advanceToEvent 44 = .ok (.athrow, 1) := by decide +kernel
theorem dX6_advanceToEvent_45 : decode cX6_advanceToEvent 45 = .ok (.aload_n 0, 1) := by decide +kernel
theorem dX6_advanceToEvent_46 : decode cX6_advanceToEvent 46 = .ok (.getfield 21, 3) := by decide +kernel
theorem dX6_advanceToEvent_49 : decode cX6_advanceToEvent 49 = .ok (.iload_n 2, 1) := by decide +kernel
theorem dX6_advanceToEvent_50 : decode cX6_advanceToEvent 50 = .ok (.invokevirtual 215, 3) := by decide +kernel
theorem dX6_advanceToEvent_53 : decode cX6_advanceToEvent 53 = .ok (.pop, 1) := by decide +kernel
theorem dX6_advanceToEvent_54 : decode cX6_advanceToEvent 54 = .ok (.iload_n 2, 1) := by decide +kernel
theorem dX6_advanceToEvent_55 : decode cX6_advanceToEvent 55 = .ok (.ireturn, 1) := by decide +kernel
theorem dX6_time_0 : decode cX6_time 0 = .ok (.aload_n 0, 1) := by decide +kernel
theorem dX6_time_1 : decode cX6_time 1 = .ok (.getfield 21, 3) := by decide +kernel
theorem dX6_time_4 : decode cX6_time 4 = .ok (.getfield 130, 3) := by decide +kernel
theorem dX6_time_7 : decode cX6_time 7 = .ok (.getfield 209, 3) := by decide +kernel
theorem dX6_time_10 : decode cX6_time 10 = .ok (.ireturn, 1) := by decide +kernel
theorem dX6_clientState_0 : decode cX6_clientState 0 = .ok (.iload_n 1, 1) := by decide +kernel
theorem dX6_clientState_1 : decode cX6_clientState 1 = .ok (.invokestatic 150, 3) := by decide +kernel
theorem dX6_clientState_4 : decode cX6_clientState 4 = .ok (.aload_n 0, 1) := by decide +kernel
theorem dX6_clientState_5 : decode cX6_clientState 5 = .ok (.getfield 21, 3) := by decide +kernel
theorem dX6_clientState_8 : decode cX6_clientState 8 = .ok (.getfield 153, 3) := by decide +kernel
theorem dX6_clientState_11 : decode cX6_clientState 11 = .ok (.getfield 174, 3) := by decide +kernel
theorem dX6_clientState_14 : decode cX6_clientState 14 = .ok (.iload_n 1, 1) := by decide +kernel
theorem dX6_clientState_15 : decode cX6_clientState 15 = .ok (.iaload, 1) := by decide +kernel
theorem dX6_clientState_16 : decode cX6_clientState 16 = .ok (.ireturn, 1) := by decide +kernel
theorem dX6_addressOf_0 : decode cX6_addressOf 0 = .ok (.iload_n 1, 1) := by decide +kernel
theorem dX6_addressOf_1 : decode cX6_addressOf 1 = .ok (.invokestatic 150, 3) := by decide +kernel
theorem dX6_addressOf_4 : decode cX6_addressOf 4 = .ok (.aload_n 0, 1) := by decide +kernel
theorem dX6_addressOf_5 : decode cX6_addressOf 5 = .ok (.getfield 21, 3) := by decide +kernel
theorem dX6_addressOf_8 : decode cX6_addressOf 8 = .ok (.getfield 153, 3) := by decide +kernel
theorem dX6_addressOf_11 : decode cX6_addressOf 11 = .ok (.getfield 174, 3) := by decide +kernel
theorem dX6_addressOf_14 : decode cX6_addressOf 14 = .ok (.iload_n 1, 1) := by decide +kernel
theorem dX6_addressOf_15 : decode cX6_addressOf 15 = .ok (.iaload, 1) := by decide +kernel
theorem dX6_addressOf_16 : decode cX6_addressOf 16 = .ok (.ifCond .ne 13, 3) := by decide +kernel
theorem dX6_addressOf_19 : decode cX6_addressOf 19 = .ok (.new 169, 3) := by decide +kernel
theorem dX6_addressOf_22 : decode cX6_addressOf 22 = .ok (.dup, 1) := by decide +kernel
theorem dX6_addressOf_23 : decode cX6_addressOf 23 = .ok (.ldc 228, 2) := by decide +kernel
theorem dX6_addressOf_25 : decode cX6_addressOf 25 = .ok (.invokespecial 173, 3) := by decide +kernel
theorem dX6_addressOf_28 : decode cX6_addressOf 28 = .ok (.athrow, 1) := by decide +kernel
theorem dX6_addressOf_29 : decode cX6_addressOf 29 = .ok (.aload_n 0, 1) := by decide +kernel
theorem dX6_addressOf_30 : decode cX6_addressOf 30 = .ok (.getfield 21, 3) := by decide +kernel
theorem dX6_addressOf_33 : decode cX6_addressOf 33 = .ok (.getfield 153, 3) := by decide +kernel
theorem dX6_addressOf_36 : decode cX6_addressOf 36 = .ok (.getfield 184, 3) := by decide +kernel
theorem dX6_addressOf_39 : decode cX6_addressOf 39 = .ok (.iload_n 1, 1) := by decide +kernel
theorem dX6_addressOf_40 : decode cX6_addressOf 40 = .ok (.iaload, 1) := by decide +kernel
theorem dX6_addressOf_41 : decode cX6_addressOf 41 = .ok (.ireturn, 1) := by decide +kernel
theorem dX6_remembered_0 : decode cX6_remembered 0 = .ok (.iload_n 1, 1) := by decide +kernel
theorem dX6_remembered_1 : decode cX6_remembered 1 = .ok (.invokestatic 150, 3) := by decide +kernel
theorem dX6_remembered_4 : decode cX6_remembered 4 = .ok (.aload_n 0, 1) := by decide +kernel
theorem dX6_remembered_5 : decode cX6_remembered 5 = .ok (.getfield 21, 3) := by decide +kernel
theorem dX6_remembered_8 : decode cX6_remembered 8 = .ok (.getfield 153, 3) := by decide +kernel
theorem dX6_remembered_11 : decode cX6_remembered 11 = .ok (.getfield 230, 3) := by decide +kernel
theorem dX6_remembered_14 : decode cX6_remembered 14 = .ok (.iload_n 1, 1) := by decide +kernel
theorem dX6_remembered_15 : decode cX6_remembered 15 = .ok (.iaload, 1) := by decide +kernel
theorem dX6_remembered_16 : decode cX6_remembered 16 = .ok (.iconst (-1), 1) := by decide +kernel
theorem dX6_remembered_17 : decode cX6_remembered 17 = .ok (.if_icmp .ne 13, 3) := by decide +kernel
theorem dX6_remembered_20 : decode cX6_remembered 20 = .ok (.new 169, 3) := by decide +kernel
theorem dX6_remembered_23 : decode cX6_remembered 23 = .ok (.dup, 1) := by decide +kernel
theorem dX6_remembered_24 : decode cX6_remembered 24 = .ok (.ldc 233, 2) := by decide +kernel
theorem dX6_remembered_26 : decode cX6_remembered 26 = .ok (.invokespecial 173, 3) := by decide +kernel
theorem dX6_remembered_29 : decode cX6_remembered 29 = .ok (.athrow, 1) := by decide +kernel
theorem dX6_remembered_30 : decode cX6_remembered 30 = .ok (.aload_n 0, 1) := by decide +kernel
theorem dX6_remembered_31 : decode cX6_remembered 31 = .ok (.getfield 21, 3) := by decide +kernel
theorem dX6_remembered_34 : decode cX6_remembered 34 = .ok (.getfield 153, 3) := by decide +kernel
theorem dX6_remembered_37 : decode cX6_remembered 37 = .ok (.getfield 230, 3) := by decide +kernel
theorem dX6_remembered_40 : decode cX6_remembered 40 = .ok (.iload_n 1, 1) := by decide +kernel
theorem dX6_remembered_41 : decode cX6_remembered 41 = .ok (.iaload, 1) := by decide +kernel
theorem dX6_remembered_42 : decode cX6_remembered 42 = .ok (.ireturn, 1) := by decide +kernel
theorem dX6_timer_0 : decode cX6_timer 0 = .ok (.iload_n 1, 1) := by decide +kernel
theorem dX6_timer_1 : decode cX6_timer 1 = .ok (.invokestatic 150, 3) := by decide +kernel
theorem dX6_timer_4 : decode cX6_timer 4 = .ok (.aload_n 0, 1) := by decide +kernel
theorem dX6_timer_5 : decode cX6_timer 5 = .ok (.iload_n 1, 1) := by decide +kernel
theorem dX6_timer_6 : decode cX6_timer 6 = .ok (.invokevirtual 187, 3) := by decide +kernel
theorem dX6_timer_9 : decode cX6_timer 9 = .ok (.iload_n 2, 1) := by decide +kernel
theorem dX6_timer_10 : decode cX6_timer 10 = .ok (.tableswitch 61 0 2 #[26, 39, 52], 26) := by decide +kernel
theorem dX6_timer_36 : decode cX6_timer 36 = .ok (.aload_n 0, 1) := by decide +kernel
theorem dX6_timer_37 : decode cX6_timer 37 = .ok (.getfield 21, 3) := by decide +kernel
theorem dX6_timer_40 : decode cX6_timer 40 = .ok (.getfield 153, 3) := by decide +kernel
theorem dX6_timer_43 : decode cX6_timer 43 = .ok (.getfield 235, 3) := by decide +kernel
theorem dX6_timer_46 : decode cX6_timer 46 = .ok (.iload_n 1, 1) := by decide +kernel
theorem dX6_timer_47 : decode cX6_timer 47 = .ok (.iaload, 1) := by decide +kernel
theorem dX6_timer_48 : decode cX6_timer 48 = .ok (.ireturn, 1) := by decide +kernel
theorem dX6_timer_49 : decode cX6_timer 49 = .ok (.aload_n 0, 1) := by decide +kernel
theorem dX6_timer_50 : decode cX6_timer 50 = .ok (.getfield 21, 3) := by decide +kernel
theorem dX6_timer_53 : decode cX6_timer 53 = .ok (.getfield 153, 3) := by decide +kernel
theorem dX6_timer_56 : decode cX6_timer 56 = .ok (.getfield 238, 3) := by decide +kernel
theorem dX6_timer_59 : decode cX6_timer 59 = .ok (.iload_n 1, 1) := by decide +kernel
theorem dX6_timer_60 : decode cX6_timer 60 = .ok (.iaload, 1) := by decide +kernel
theorem dX6_timer_61 : decode cX6_timer 61 = .ok (.ireturn, 1) := by decide +kernel
theorem dX6_timer_62 : decode cX6_timer 62 = .ok (.aload_n 0, 1) := by decide +kernel
theorem dX6_timer_63 : decode cX6_timer 63 = .ok (.getfield 21, 3) := by decide +kernel
theorem dX6_timer_66 : decode cX6_timer 66 = .ok (.iload_n 1, 1) := by decide +kernel
theorem dX6_timer_67 : decode cX6_timer 67 = .ok (.invokevirtual 241, 3) := by decide +kernel
theorem dX6_timer_70 : decode cX6_timer 70 = .ok (.ireturn, 1) := by decide +kernel
theorem dX6_timer_71 : decode cX6_timer 71 = .ok (.new 36, 3) := by decide +kernel
theorem dX6_timer_74 : decode cX6_timer 74 = .ok (.dup, 1) := by decide +kernel
theorem dX6_timer_75 : decode cX6_timer 75 = .ok (.ldc 110, 2) := by decide +kernel
theorem dX6_timer_77 : decode cX6_timer 77 = .ok (.invokespecial 40, 3) := by decide +kernel
theorem dX6_timer_80 : decode cX6_timer 80 = .ok (.athrow, 1) := by decide +kernel
theorem dX6_addressState_0 : decode cX6_addressState 0 = .ok (.iload_n 1, 1) := by decide +kernel
theorem dX6_addressState_1 : decode cX6_addressState 1 = .ok (.invokestatic 112, 3) := by decide +kernel
theorem dX6_addressState_4 : decode cX6_addressState 4 = .ok (.aload_n 0, 1) := by decide +kernel
theorem dX6_addressState_5 : decode cX6_addressState 5 = .ok (.iload_n 1, 1) := by decide +kernel
theorem dX6_addressState_6 : decode cX6_addressState 6 = .ok (.invokevirtual 115, 3) := by decide +kernel
theorem dX6_addressState_9 : decode cX6_addressState 9 = .ok (.aload_n 0, 1) := by decide +kernel
theorem dX6_addressState_10 : decode cX6_addressState 10 = .ok (.getfield 21, 3) := by decide +kernel
theorem dX6_addressState_13 : decode cX6_addressState 13 = .ok (.getfield 66, 3) := by decide +kernel
theorem dX6_addressState_16 : decode cX6_addressState 16 = .ok (.getfield 244, 3) := by decide +kernel
theorem dX6_addressState_19 : decode cX6_addressState 19 = .ok (.iload_n 1, 1) := by decide +kernel
theorem dX6_addressState_20 : decode cX6_addressState 20 = .ok (.iaload, 1) := by decide +kernel
theorem dX6_addressState_21 : decode cX6_addressState 21 = .ok (.ireturn, 1) := by decide +kernel
theorem dX6_holder_0 : decode cX6_holder 0 = .ok (.iload_n 1, 1) := by decide +kernel
theorem dX6_holder_1 : decode cX6_holder 1 = .ok (.invokestatic 112, 3) := by decide +kernel
theorem dX6_holder_4 : decode cX6_holder 4 = .ok (.aload_n 0, 1) := by decide +kernel
theorem dX6_holder_5 : decode cX6_holder 5 = .ok (.iload_n 1, 1) := by decide +kernel
theorem dX6_holder_6 : decode cX6_holder 6 = .ok (.invokevirtual 115, 3) := by decide +kernel
theorem dX6_holder_9 : decode cX6_holder 9 = .ok (.aload_n 0, 1) := by decide +kernel
theorem dX6_holder_10 : decode cX6_holder 10 = .ok (.getfield 21, 3) := by decide +kernel
theorem dX6_holder_13 : decode cX6_holder 13 = .ok (.getfield 66, 3) := by decide +kernel
theorem dX6_holder_16 : decode cX6_holder 16 = .ok (.getfield 245, 3) := by decide +kernel
theorem dX6_holder_19 : decode cX6_holder 19 = .ok (.iload_n 1, 1) := by decide +kernel
theorem dX6_holder_20 : decode cX6_holder 20 = .ok (.iaload, 1) := by decide +kernel
theorem dX6_holder_21 : decode cX6_holder 21 = .ok (.iconst (-1), 1) := by decide +kernel
theorem dX6_holder_22 : decode cX6_holder 22 = .ok (.if_icmp .ne 13, 3) := by decide +kernel
theorem dX6_holder_25 : decode cX6_holder 25 = .ok (.new 169, 3) := by decide +kernel
theorem dX6_holder_28 : decode cX6_holder 28 = .ok (.dup, 1) := by decide +kernel
theorem dX6_holder_29 : decode cX6_holder 29 = .ok (.ldc 248, 2) := by decide +kernel
theorem dX6_holder_31 : decode cX6_holder 31 = .ok (.invokespecial 173, 3) := by decide +kernel
theorem dX6_holder_34 : decode cX6_holder 34 = .ok (.athrow, 1) := by decide +kernel
theorem dX6_holder_35 : decode cX6_holder 35 = .ok (.aload_n 0, 1) := by decide +kernel
theorem dX6_holder_36 : decode cX6_holder 36 = .ok (.getfield 21, 3) := by decide +kernel
theorem dX6_holder_39 : decode cX6_holder 39 = .ok (.getfield 66, 3) := by decide +kernel
theorem dX6_holder_42 : decode cX6_holder 42 = .ok (.getfield 245, 3) := by decide +kernel
theorem dX6_holder_45 : decode cX6_holder 45 = .ok (.iload_n 1, 1) := by decide +kernel
theorem dX6_holder_46 : decode cX6_holder 46 = .ok (.iaload, 1) := by decide +kernel
theorem dX6_holder_47 : decode cX6_holder 47 = .ok (.ireturn, 1) := by decide +kernel
theorem dX6_until_0 : decode cX6_until 0 = .ok (.iload_n 1, 1) := by decide +kernel
theorem dX6_until_1 : decode cX6_until 1 = .ok (.invokestatic 112, 3) := by decide +kernel
theorem dX6_until_4 : decode cX6_until 4 = .ok (.aload_n 0, 1) := by decide +kernel
theorem dX6_until_5 : decode cX6_until 5 = .ok (.iload_n 1, 1) := by decide +kernel
theorem dX6_until_6 : decode cX6_until 6 = .ok (.invokevirtual 115, 3) := by decide +kernel
theorem dX6_until_9 : decode cX6_until 9 = .ok (.aload_n 0, 1) := by decide +kernel
theorem dX6_until_10 : decode cX6_until 10 = .ok (.getfield 21, 3) := by decide +kernel
theorem dX6_until_13 : decode cX6_until 13 = .ok (.getfield 66, 3) := by decide +kernel
theorem dX6_until_16 : decode cX6_until 16 = .ok (.getfield 244, 3) := by decide +kernel
theorem dX6_until_19 : decode cX6_until 19 = .ok (.iload_n 1, 1) := by decide +kernel
theorem dX6_until_20 : decode cX6_until 20 = .ok (.iaload, 1) := by decide +kernel
theorem dX6_until_21 : decode cX6_until 21 = .ok (.ifCond .ne 13, 3) := by decide +kernel
theorem dX6_until_24 : decode cX6_until 24 = .ok (.new 169, 3) := by decide +kernel
theorem dX6_until_27 : decode cX6_until 27 = .ok (.dup, 1) := by decide +kernel
theorem dX6_until_28 : decode cX6_until 28 = .ok (.ldc 250, 2) := by decide +kernel
theorem dX6_until_30 : decode cX6_until 30 = .ok (.invokespecial 173, 3) := by decide +kernel
theorem dX6_until_33 : decode cX6_until 33 = .ok (.athrow, 1) := by decide +kernel
theorem dX6_until_34 : decode cX6_until 34 = .ok (.aload_n 0, 1) := by decide +kernel
theorem dX6_until_35 : decode cX6_until 35 = .ok (.getfield 21, 3) := by decide +kernel
theorem dX6_until_38 : decode cX6_until 38 = .ok (.getfield 66, 3) := by decide +kernel
theorem dX6_until_41 : decode cX6_until 41 = .ok (.getfield 252, 3) := by decide +kernel
theorem dX6_until_44 : decode cX6_until 44 = .ok (.iload_n 1, 1) := by decide +kernel
theorem dX6_until_45 : decode cX6_until 45 = .ok (.iaload, 1) := by decide +kernel
theorem dX6_until_46 : decode cX6_until 46 = .ok (.ireturn, 1) := by decide +kernel
theorem dX6_freeSince_0 : decode cX6_freeSince 0 = .ok (.iload_n 1, 1) := by decide +kernel
theorem dX6_freeSince_1 : decode cX6_freeSince 1 = .ok (.invokestatic 112, 3) := by decide +kernel
theorem dX6_freeSince_4 : decode cX6_freeSince 4 = .ok (.aload_n 0, 1) := by decide +kernel
theorem dX6_freeSince_5 : decode cX6_freeSince 5 = .ok (.iload_n 1, 1) := by decide +kernel
theorem dX6_freeSince_6 : decode cX6_freeSince 6 = .ok (.invokevirtual 115, 3) := by decide +kernel
theorem dX6_freeSince_9 : decode cX6_freeSince 9 = .ok (.aload_n 0, 1) := by decide +kernel
theorem dX6_freeSince_10 : decode cX6_freeSince 10 = .ok (.getfield 21, 3) := by decide +kernel
theorem dX6_freeSince_13 : decode cX6_freeSince 13 = .ok (.getfield 66, 3) := by decide +kernel
theorem dX6_freeSince_16 : decode cX6_freeSince 16 = .ok (.getfield 244, 3) := by decide +kernel
theorem dX6_freeSince_19 : decode cX6_freeSince 19 = .ok (.iload_n 1, 1) := by decide +kernel
theorem dX6_freeSince_20 : decode cX6_freeSince 20 = .ok (.iaload, 1) := by decide +kernel
theorem dX6_freeSince_21 : decode cX6_freeSince 21 = .ok (.ifCond .eq 13, 3) := by decide +kernel
theorem dX6_freeSince_24 : decode cX6_freeSince 24 = .ok (.new 169, 3) := by decide +kernel
theorem dX6_freeSince_27 : decode cX6_freeSince 27 = .ok (.dup, 1) := by decide +kernel
theorem dX6_freeSince_28 : decode cX6_freeSince 28 = .ok (.ldc 255, 2) := by decide +kernel
theorem dX6_freeSince_30 : decode cX6_freeSince 30 = .ok (.invokespecial 173, 3) := by decide +kernel
theorem dX6_freeSince_33 : decode cX6_freeSince 33 = .ok (.athrow, 1) := by decide +kernel
theorem dX6_freeSince_34 : decode cX6_freeSince 34 = .ok (.aload_n 0, 1) := by decide +kernel
theorem dX6_freeSince_35 : decode cX6_freeSince 35 = .ok (.getfield 21, 3) := by decide +kernel
theorem dX6_freeSince_38 : decode cX6_freeSince 38 = .ok (.getfield 66, 3) := by decide +kernel
theorem dX6_freeSince_41 : decode cX6_freeSince 41 = .ok (.getfield 257, 3) := by decide +kernel
theorem dX6_freeSince_44 : decode cX6_freeSince 44 = .ok (.iload_n 1, 1) := by decide +kernel
theorem dX6_freeSince_45 : decode cX6_freeSince 45 = .ok (.iaload, 1) := by decide +kernel
theorem dX6_freeSince_46 : decode cX6_freeSince 46 = .ok (.ireturn, 1) := by decide +kernel
theorem dX6_nextCandidate_0 : decode cX6_nextCandidate 0 = .ok (.iload_n 1, 1) := by decide +kernel
theorem dX6_nextCandidate_1 : decode cX6_nextCandidate 1 = .ok (.invokestatic 150, 3) := by decide +kernel
theorem dX6_nextCandidate_4 : decode cX6_nextCandidate 4 = .ok (.iload_n 2, 1) := by decide +kernel
theorem dX6_nextCandidate_5 : decode cX6_nextCandidate 5 = .ok (.invokestatic 28, 3) := by decide +kernel
theorem dX6_nextCandidate_8 : decode cX6_nextCandidate 8 = .ok (.aload_n 0, 1) := by decide +kernel
theorem dX6_nextCandidate_9 : decode cX6_nextCandidate 9 = .ok (.getfield 21, 3) := by decide +kernel
theorem dX6_nextCandidate_12 : decode cX6_nextCandidate 12 = .ok (.iload_n 1, 1) := by decide +kernel
theorem dX6_nextCandidate_13 : decode cX6_nextCandidate 13 = .ok (.iload_n 2, 1) := by decide +kernel
theorem dX6_nextCandidate_14 : decode cX6_nextCandidate 14 = .ok (.iconst (-1), 1) := by decide +kernel
theorem dX6_nextCandidate_15 : decode cX6_nextCandidate 15 = .ok (.invokevirtual 260, 3) := by decide +kernel
theorem dX6_nextCandidate_18 : decode cX6_nextCandidate 18 = .ok (.istore_n 3, 1) := by decide +kernel
theorem dX6_nextCandidate_19 : decode cX6_nextCandidate 19 = .ok (.iload_n 3, 1) := by decide +kernel
theorem dX6_nextCandidate_20 : decode cX6_nextCandidate 20 = .ok (.iconst (-1), 1) := by decide +kernel
theorem dX6_nextCandidate_21 : decode cX6_nextCandidate 21 = .ok (.if_icmp .ne 14, 3) := by decide +kernel
theorem dX6_nextCandidate_24 : decode cX6_nextCandidate 24 = .ok (.new 169, 3) := by decide +kernel
theorem dX6_nextCandidate_27 : decode cX6_nextCandidate 27 = .ok (.dup, 1) := by decide +kernel
theorem dX6_nextCandidate_28 : decode cX6_nextCandidate 28 = .ok (.ldc_w 263, 3) := by decide +kernel
theorem dX6_nextCandidate_31 : decode cX6_nextCandidate 31 = .ok (.invokespecial 173, 3) := by decide +kernel
theorem dX6_nextCandidate_34 : decode cX6_nextCandidate 34 = .ok (.athrow, 1) := by decide +kernel
theorem dX6_nextCandidate_35 : decode cX6_nextCandidate 35 = .ok (.iload_n 3, 1) := by decide +kernel
theorem dX6_nextCandidate_36 : decode cX6_nextCandidate 36 = .ok (.ireturn, 1) := by decide +kernel
theorem dX6_countState_0 : decode cX6_countState 0 = .ok (.iload_n 1, 1) := by decide +kernel
theorem dX6_countState_1 : decode cX6_countState 1 = .ok (.invokestatic 28, 3) := by decide +kernel
theorem dX6_countState_4 : decode cX6_countState 4 = .ok (.iload_n 2, 1) := by decide +kernel
theorem dX6_countState_5 : decode cX6_countState 5 = .ok (.ifCond .lt 8, 3) := by decide +kernel
theorem dX6_countState_8 : decode cX6_countState 8 = .ok (.iload_n 2, 1) := by decide +kernel
theorem dX6_countState_9 : decode cX6_countState 9 = .ok (.iconst 3, 1) := by decide +kernel
theorem dX6_countState_10 : decode cX6_countState 10 = .ok (.if_icmp .le 14, 3) := by decide +kernel
theorem dX6_countState_13 : decode cX6_countState 13 = .ok (.new 36, 3) := by decide +kernel
theorem dX6_countState_16 : decode cX6_countState 16 = .ok (.dup, 1) := by decide +kernel
theorem dX6_countState_17 : decode cX6_countState 17 = .ok (.ldc_w 265, 3) := by decide +kernel
theorem dX6_countState_20 : decode cX6_countState 20 = .ok (.invokespecial 40, 3) := by decide +kernel
theorem dX6_countState_23 : decode cX6_countState 23 = .ok (.athrow, 1) := by decide +kernel
theorem dX6_countState_24 : decode cX6_countState 24 = .ok (.aload_n 0, 1) := by decide +kernel
theorem dX6_countState_25 : decode cX6_countState 25 = .ok (.getfield 21, 3) := by decide +kernel
theorem dX6_countState_28 : decode cX6_countState 28 = .ok (.iload_n 1, 1) := by decide +kernel
theorem dX6_countState_29 : decode cX6_countState 29 = .ok (.iload_n 2, 1) := by decide +kernel
theorem dX6_countState_30 : decode cX6_countState 30 = .ok (.invokevirtual 267, 3) := by decide +kernel
theorem dX6_countState_33 : decode cX6_countState 33 = .ok (.ireturn, 1) := by decide +kernel
theorem dX6_bound_0 : decode cX6_bound 0 = .ok (.aload_n 0, 1) := by decide +kernel
theorem dX6_bound_1 : decode cX6_bound 1 = .ok (.getfield 21, 3) := by decide +kernel
theorem dX6_bound_4 : decode cX6_bound 4 = .ok (.getfield 153, 3) := by decide +kernel
theorem dX6_bound_7 : decode cX6_bound 7 = .ok (.invokevirtual 270, 3) := by decide +kernel
theorem dX6_bound_10 : decode cX6_bound 10 = .ok (.ireturn, 1) := by decide +kernel
theorem dX6_conflicts_0 : decode cX6_conflicts 0 = .ok (.aload_n 0, 1) := by decide +kernel
theorem dX6_conflicts_1 : decode cX6_conflicts 1 = .ok (.getfield 21, 3) := by decide +kernel
theorem dX6_conflicts_4 : decode cX6_conflicts 4 = .ok (.getfield 130, 3) := by decide +kernel
theorem dX6_conflicts_7 : decode cX6_conflicts 7 = .ok (.getfield 273, 3) := by decide +kernel
theorem dX6_conflicts_10 : decode cX6_conflicts 10 = .ok (.ireturn, 1) := by decide +kernel
theorem dX6_logSize_0 : decode cX6_logSize 0 = .ok (.aload_n 0, 1) := by decide +kernel
theorem dX6_logSize_1 : decode cX6_logSize 1 = .ok (.getfield 10, 3) := by decide +kernel
theorem dX6_logSize_4 : decode cX6_logSize 4 = .ok (.getfield 276, 3) := by decide +kernel
theorem dX6_logSize_7 : decode cX6_logSize 7 = .ok (.ireturn, 1) := by decide +kernel
theorem dX6_log_0 : decode cX6_log 0 = .ok (.iload_n 1, 1) := by decide +kernel
theorem dX6_log_1 : decode cX6_log 1 = .ok (.ifCond .lt 14, 3) := by decide +kernel
theorem dX6_log_4 : decode cX6_log 4 = .ok (.iload_n 1, 1) := by decide +kernel
theorem dX6_log_5 : decode cX6_log 5 = .ok (.aload_n 0, 1) := by decide +kernel
theorem dX6_log_6 : decode cX6_log 6 = .ok (.getfield 10, 3) := by decide +kernel
theorem dX6_log_9 : decode cX6_log 9 = .ok (.getfield 276, 3) := by decide +kernel
theorem dX6_log_12 : decode cX6_log 12 = .ok (.if_icmp .lt 14, 3) := by decide +kernel
theorem dX6_log_15 : decode cX6_log 15 = .ok (.new 279, 3) := by decide +kernel
theorem dX6_log_18 : decode cX6_log 18 = .ok (.dup, 1) := by decide +kernel
theorem dX6_log_19 : decode cX6_log 19 = .ok (.ldc_w 281, 3) := by decide +kernel
theorem dX6_log_22 : decode cX6_log 22 = .ok (.invokespecial 283, 3) := by decide +kernel
theorem dX6_log_25 : decode cX6_log 25 = .ok (.athrow, 1) := by decide +kernel
theorem dX6_log_26 : decode cX6_log 26 = .ok (.aload_n 0, 1) := by decide +kernel
theorem dX6_log_27 : decode cX6_log 27 = .ok (.getfield 10, 3) := by decide +kernel
theorem dX6_log_30 : decode cX6_log 30 = .ok (.iload_n 1, 1) := by decide +kernel
theorem dX6_log_31 : decode cX6_log 31 = .ok (.invokevirtual 284, 3) := by decide +kernel
theorem dX6_log_34 : decode cX6_log 34 = .ok (.ireturn, 1) := by decide +kernel
theorem dX6_utilization_0 : decode cX6_utilization 0 = .ok (.iload_n 1, 1) := by decide +kernel
theorem dX6_utilization_1 : decode cX6_utilization 1 = .ok (.invokestatic 28, 3) := by decide +kernel
theorem dX6_utilization_4 : decode cX6_utilization 4 = .ok (.aload_n 0, 1) := by decide +kernel
theorem dX6_utilization_5 : decode cX6_utilization 5 = .ok (.getfield 21, 3) := by decide +kernel
theorem dX6_utilization_8 : decode cX6_utilization 8 = .ok (.getfield 45, 3) := by decide +kernel
theorem dX6_utilization_11 : decode cX6_utilization 11 = .ok (.iload_n 1, 1) := by decide +kernel
theorem dX6_utilization_12 : decode cX6_utilization 12 = .ok (.invokevirtual 287, 3) := by decide +kernel
theorem dX6_utilization_15 : decode cX6_utilization 15 = .ok (.istore_n 2, 1) := by decide +kernel
theorem dX6_utilization_16 : decode cX6_utilization 16 = .ok (.iload_n 2, 1) := by decide +kernel
theorem dX6_utilization_17 : decode cX6_utilization 17 = .ok (.ifCond .ne 14, 3) := by decide +kernel
theorem dX6_utilization_20 : decode cX6_utilization 20 = .ok (.new 290, 3) := by decide +kernel
theorem dX6_utilization_23 : decode cX6_utilization 23 = .ok (.dup, 1) := by decide +kernel
theorem dX6_utilization_24 : decode cX6_utilization 24 = .ok (.ldc_w 292, 3) := by decide +kernel
theorem dX6_utilization_27 : decode cX6_utilization 27 = .ok (.invokespecial 294, 3) := by decide +kernel
theorem dX6_utilization_30 : decode cX6_utilization 30 = .ok (.athrow, 1) := by decide +kernel
theorem dX6_utilization_31 : decode cX6_utilization 31 = .ok (.aload_n 0, 1) := by decide +kernel
theorem dX6_utilization_32 : decode cX6_utilization 32 = .ok (.getfield 21, 3) := by decide +kernel
theorem dX6_utilization_35 : decode cX6_utilization 35 = .ok (.iload_n 1, 1) := by decide +kernel
theorem dX6_utilization_36 : decode cX6_utilization 36 = .ok (.iconst 2, 1) := by decide +kernel
theorem dX6_utilization_37 : decode cX6_utilization 37 = .ok (.invokevirtual 267, 3) := by decide +kernel
theorem dX6_utilization_40 : decode cX6_utilization 40 = .ok (.i2d, 1) := by decide +kernel
theorem dX6_utilization_41 : decode cX6_utilization 41 = .ok (.iload_n 2, 1) := by decide +kernel
theorem dX6_utilization_42 : decode cX6_utilization 42 = .ok (.i2d, 1) := by decide +kernel
theorem dX6_utilization_43 : decode cX6_utilization 43 = .ok (.ddiv, 1) := by decide +kernel
theorem dX6_utilization_44 : decode cX6_utilization 44 = .ok (.dreturn, 1) := by decide +kernel
theorem dX6_averageRest_0 : decode cX6_averageRest 0 = .ok (.aload_n 0, 1) := by decide +kernel
theorem dX6_averageRest_1 : decode cX6_averageRest 1 = .ok (.getfield 21, 3) := by decide +kernel
theorem dX6_averageRest_4 : decode cX6_averageRest 4 = .ok (.getfield 153, 3) := by decide +kernel
theorem dX6_averageRest_7 : decode cX6_averageRest 7 = .ok (.invokevirtual 270, 3) := by decide +kernel
theorem dX6_averageRest_10 : decode cX6_averageRest 10 = .ok (.istore_n 1, 1) := by decide +kernel
theorem dX6_averageRest_11 : decode cX6_averageRest 11 = .ok (.iload_n 1, 1) := by decide +kernel
theorem dX6_averageRest_12 : decode cX6_averageRest 12 = .ok (.ifCond .ne 14, 3) := by decide +kernel
theorem dX6_averageRest_15 : decode cX6_averageRest 15 = .ok (.new 290, 3) := by decide +kernel
theorem dX6_averageRest_18 : decode cX6_averageRest 18 = .ok (.dup, 1) := by decide +kernel
theorem dX6_averageRest_19 : decode cX6_averageRest 19 = .ok (.ldc_w 295, 3) := by decide +kernel
theorem dX6_averageRest_22 : decode cX6_averageRest 22 = .ok (.invokespecial 294, 3) := by decide +kernel
theorem dX6_averageRest_25 : decode cX6_averageRest 25 = .ok (.athrow, 1) := by decide +kernel
theorem dX6_averageRest_26 : decode cX6_averageRest 26 = .ok (.aload_n 0, 1) := by decide +kernel
theorem dX6_averageRest_27 : decode cX6_averageRest 27 = .ok (.getfield 21, 3) := by decide +kernel
theorem dX6_averageRest_30 : decode cX6_averageRest 30 = .ok (.invokevirtual 297, 3) := by decide +kernel
theorem dX6_averageRest_33 : decode cX6_averageRest 33 = .ok (.i2f, 1) := by decide +kernel
theorem dX6_averageRest_34 : decode cX6_averageRest 34 = .ok (.iload_n 1, 1) := by decide +kernel
theorem dX6_averageRest_35 : decode cX6_averageRest 35 = .ok (.i2f, 1) := by decide +kernel
theorem dX6_averageRest_36 : decode cX6_averageRest 36 = .ok (.fdiv, 1) := by decide +kernel
theorem dX6_averageRest_37 : decode cX6_averageRest 37 = .ok (.freturn, 1) := by decide +kernel
theorem dX6_save_0 : decode cX6_save 0 = .ok (.aload_n 0, 1) := by decide +kernel
theorem dX6_save_1 : decode cX6_save 1 = .ok (.getfield 25, 3) := by decide +kernel
theorem dX6_save_4 : decode cX6_save 4 = .ok (.aload_n 0, 1) := by decide +kernel
theorem dX6_save_5 : decode cX6_save 5 = .ok (.getfield 21, 3) := by decide +kernel
theorem dX6_save_8 : decode cX6_save 8 = .ok (.invokevirtual 300, 3) := by decide +kernel
theorem dX6_save_11 : decode cX6_save 11 = .ok (.aload_n 0, 1) := by decide +kernel
theorem dX6_save_12 : decode cX6_save 12 = .ok (.iconst 1, 1) := by decide +kernel
theorem dX6_save_13 : decode cX6_save 13 = .ok (.putfield 304, 3) := by decide +kernel
theorem dX6_save_16 : decode cX6_save 16 = .ok (.aload_n 0, 1) := by decide +kernel
theorem dX6_save_17 : decode cX6_save 17 = .ok (.getfield 21, 3) := by decide +kernel
theorem dX6_save_20 : decode cX6_save 20 = .ok (.getfield 153, 3) := by decide +kernel
theorem dX6_save_23 : decode cX6_save 23 = .ok (.invokevirtual 270, 3) := by decide +kernel
theorem dX6_save_26 : decode cX6_save 26 = .ok (.ireturn, 1) := by decide +kernel
theorem dX6_restore_0 : decode cX6_restore 0 = .ok (.aload_n 0, 1) := by decide +kernel
theorem dX6_restore_1 : decode cX6_restore 1 = .ok (.getfield 304, 3) := by decide +kernel
theorem dX6_restore_4 : decode cX6_restore 4 = .ok (.ifCond .ne 14, 3) := by decide +kernel
theorem dX6_restore_7 : decode cX6_restore 7 = .ok (.new 55, 3) := by decide +kernel
theorem dX6_restore_10 : decode cX6_restore 10 = .ok (.dup, 1) := by decide +kernel
theorem dX6_restore_11 : decode cX6_restore 11 = .ok (.ldc_w 308, 3) := by decide +kernel
theorem dX6_restore_14 : decode cX6_restore 14 = .ok (.invokespecial 59, 3) := by decide +kernel
theorem dX6_restore_17 : decode cX6_restore 17 = .ok (.athrow, 1) := by decide +kernel
theorem dX6_restore_18 : decode cX6_restore 18 = .ok (.aload_n 0, 1) := by decide +kernel
theorem dX6_restore_19 : decode cX6_restore 19 = .ok (.getfield 21, 3) := by decide +kernel
theorem dX6_restore_22 : decode cX6_restore 22 = .ok (.aload_n 0, 1) := by decide +kernel
theorem dX6_restore_23 : decode cX6_restore 23 = .ok (.getfield 25, 3) := by decide +kernel
theorem dX6_restore_26 : decode cX6_restore 26 = .ok (.invokevirtual 300, 3) := by decide +kernel
theorem dX6_restore_29 : decode cX6_restore 29 = .ok (.aload_n 0, 1) := by decide +kernel
theorem dX6_restore_30 : decode cX6_restore 30 = .ok (.getfield 21, 3) := by decide +kernel
theorem dX6_restore_33 : decode cX6_restore 33 = .ok (.getfield 153, 3) := by decide +kernel
theorem dX6_restore_36 : decode cX6_restore 36 = .ok (.invokevirtual 270, 3) := by decide +kernel
theorem dX6_restore_39 : decode cX6_restore 39 = .ok (.ireturn, 1) := by decide +kernel
theorem dX6_isAddress_0 : decode cX6_isAddress 0 = .ok (.iload_n 0, 1) := by decide +kernel
theorem dX6_isAddress_1 : decode cX6_isAddress 1 = .ok (.ifCond .lt 13, 3) := by decide +kernel
theorem dX6_isAddress_4 : decode cX6_isAddress 4 = .ok (.iload_n 0, 1) := by decide +kernel
theorem dX6_isAddress_5 : decode cX6_isAddress 5 = .ok (.bipush 100, 2) := by decide +kernel
theorem dX6_isAddress_7 : decode cX6_isAddress 7 = .ok (.if_icmp .ge 7, 3) := by decide +kernel
theorem dX6_isAddress_10 : decode cX6_isAddress 10 = .ok (.iconst 1, 1) := by decide +kernel
theorem dX6_isAddress_11 : decode cX6_isAddress 11 = .ok (.goto 4, 3) := by decide +kernel
theorem dX6_isAddress_14 : decode cX6_isAddress 14 = .ok (.iconst 0, 1) := by decide +kernel
theorem dX6_isAddress_15 : decode cX6_isAddress 15 = .ok (.ireturn, 1) := by decide +kernel
theorem dX6_isClient_0 : decode cX6_isClient 0 = .ok (.iload_n 0, 1) := by decide +kernel
theorem dX6_isClient_1 : decode cX6_isClient 1 = .ok (.ifCond .lt 13, 3) := by decide +kernel
theorem dX6_isClient_4 : decode cX6_isClient 4 = .ok (.iload_n 0, 1) := by decide +kernel
theorem dX6_isClient_5 : decode cX6_isClient 5 = .ok (.bipush 20, 2) := by decide +kernel
theorem dX6_isClient_7 : decode cX6_isClient 7 = .ok (.if_icmp .ge 7, 3) := by decide +kernel
theorem dX6_isClient_10 : decode cX6_isClient 10 = .ok (.iconst 1, 1) := by decide +kernel
theorem dX6_isClient_11 : decode cX6_isClient 11 = .ok (.goto 4, 3) := by decide +kernel
theorem dX6_isClient_14 : decode cX6_isClient 14 = .ok (.iconst 0, 1) := by decide +kernel
theorem dX6_isClient_15 : decode cX6_isClient 15 = .ok (.ireturn, 1) := by decide +kernel
theorem dX6_isGroup_0 : decode cX6_isGroup 0 = .ok (.iload_n 0, 1) := by decide +kernel
theorem dX6_isGroup_1 : decode cX6_isGroup 1 = .ok (.ifCond .lt 12, 3) := by decide +kernel
theorem dX6_isGroup_4 : decode cX6_isGroup 4 = .ok (.iload_n 0, 1) := by decide +kernel
theorem dX6_isGroup_5 : decode cX6_isGroup 5 = .ok (.iconst 3, 1) := by decide +kernel
theorem dX6_isGroup_6 : decode cX6_isGroup 6 = .ok (.if_icmp .ge 7, 3) := by decide +kernel
theorem dX6_isGroup_9 : decode cX6_isGroup 9 = .ok (.iconst 1, 1) := by decide +kernel
theorem dX6_isGroup_10 : decode cX6_isGroup 10 = .ok (.goto 4, 3) := by decide +kernel
theorem dX6_isGroup_13 : decode cX6_isGroup 13 = .ok (.iconst 0, 1) := by decide +kernel
theorem dX6_isGroup_14 : decode cX6_isGroup 14 = .ok (.ireturn, 1) := by decide +kernel
theorem dX6_requireAddress_0 : decode cX6_requireAddress 0 = .ok (.iload_n 0, 1) := by decide +kernel
theorem dX6_requireAddress_1 : decode cX6_requireAddress 1 = .ok (.invokestatic 32, 3) := by decide +kernel
theorem dX6_requireAddress_4 : decode cX6_requireAddress 4 = .ok (.ifCond .ne 14, 3) := by decide +kernel
theorem dX6_requireAddress_7 : decode cX6_requireAddress 7 = .ok (.new 279, 3) := by decide +kernel
theorem dX6_requireAddress_10 : decode cX6_requireAddress 10 = .ok (.dup, 1) := by decide +kernel
theorem dX6_requireAddress_11 : decode cX6_requireAddress 11 = .ok (.ldc_w 310, 3) := by decide +kernel
theorem dX6_requireAddress_14 : decode cX6_requireAddress 14 = .ok (.invokespecial 283, 3) := by decide +kernel
theorem dX6_requireAddress_17 : decode cX6_requireAddress 17 = .ok (.athrow, 1) := by decide +kernel
theorem dX6_requireAddress_18 : decode cX6_requireAddress 18 = .ok (.return_, 1) := by decide +kernel
theorem dX6_requireClient_0 : decode cX6_requireClient 0 = .ok (.iload_n 0, 1) := by decide +kernel
theorem dX6_requireClient_1 : decode cX6_requireClient 1 = .ok (.invokestatic 312, 3) := by decide +kernel
theorem dX6_requireClient_4 : decode cX6_requireClient 4 = .ok (.ifCond .ne 14, 3) := by decide +kernel
theorem dX6_requireClient_7 : decode cX6_requireClient 7 = .ok (.new 279, 3) := by decide +kernel
theorem dX6_requireClient_10 : decode cX6_requireClient 10 = .ok (.dup, 1) := by decide +kernel
theorem dX6_requireClient_11 : decode cX6_requireClient 11 = .ok (.ldc_w 315, 3) := by decide +kernel
theorem dX6_requireClient_14 : decode cX6_requireClient 14 = .ok (.invokespecial 283, 3) := by decide +kernel
theorem dX6_requireClient_17 : decode cX6_requireClient 17 = .ok (.athrow, 1) := by decide +kernel
theorem dX6_requireClient_18 : decode cX6_requireClient 18 = .ok (.return_, 1) := by decide +kernel
theorem dX6_requireGroup_0 : decode cX6_requireGroup 0 = .ok (.iload_n 0, 1) := by decide +kernel
theorem dX6_requireGroup_1 : decode cX6_requireGroup 1 = .ok (.invokestatic 317, 3) := by decide +kernel
theorem dX6_requireGroup_4 : decode cX6_requireGroup 4 = .ok (.ifCond .ne 14, 3) := by decide +kernel
theorem dX6_requireGroup_7 : decode cX6_requireGroup 7 = .ok (.new 279, 3) := by decide +kernel
theorem dX6_requireGroup_10 : decode cX6_requireGroup 10 = .ok (.dup, 1) := by decide +kernel
theorem dX6_requireGroup_11 : decode cX6_requireGroup 11 = .ok (.ldc_w 320, 3) := by decide +kernel
theorem dX6_requireGroup_14 : decode cX6_requireGroup 14 = .ok (.invokespecial 283, 3) := by decide +kernel
theorem dX6_requireGroup_17 : decode cX6_requireGroup 17 = .ok (.athrow, 1) := by decide +kernel
theorem dX6_requireGroup_18 : decode cX6_requireGroup 18 = .ok (.return_, 1) := by decide +kernel
theorem dX6_requirePool_0 : decode cX6_requirePool 0 = .ok (.aload_n 0, 1) := by decide +kernel
theorem dX6_requirePool_1 : decode cX6_requirePool 1 = .ok (.getfield 21, 3) := by decide +kernel
theorem dX6_requirePool_4 : decode cX6_requirePool 4 = .ok (.getfield 45, 3) := by decide +kernel
theorem dX6_requirePool_7 : decode cX6_requirePool 7 = .ok (.iload_n 1, 1) := by decide +kernel
theorem dX6_requirePool_8 : decode cX6_requirePool 8 = .ok (.invokevirtual 322, 3) := by decide +kernel
theorem dX6_requirePool_11 : decode cX6_requirePool 11 = .ok (.ifCond .ne 14, 3) := by decide +kernel
theorem dX6_requirePool_14 : decode cX6_requirePool 14 = .ok (.new 279, 3) := by decide +kernel
theorem dX6_requirePool_17 : decode cX6_requirePool 17 = .ok (.dup, 1) := by decide +kernel
theorem dX6_requirePool_18 : decode cX6_requirePool 18 = .ok (.ldc_w 325, 3) := by decide +kernel
theorem dX6_requirePool_21 : decode cX6_requirePool 21 = .ok (.invokespecial 283, 3) := by decide +kernel
theorem dX6_requirePool_24 : decode cX6_requirePool 24 = .ok (.athrow, 1) := by decide +kernel
theorem dX6_requirePool_25 : decode cX6_requirePool 25 = .ok (.return_, 1) := by decide +kernel
theorem dX6_requireInPool_0 : decode cX6_requireInPool 0 = .ok (.aload_n 0, 1) := by decide +kernel
theorem dX6_requireInPool_1 : decode cX6_requireInPool 1 = .ok (.getfield 21, 3) := by decide +kernel
theorem dX6_requireInPool_4 : decode cX6_requireInPool 4 = .ok (.getfield 45, 3) := by decide +kernel
theorem dX6_requireInPool_7 : decode cX6_requireInPool 7 = .ok (.iload_n 1, 1) := by decide +kernel
theorem dX6_requireInPool_8 : decode cX6_requireInPool 8 = .ok (.invokevirtual 118, 3) := by decide +kernel
theorem dX6_requireInPool_11 : decode cX6_requireInPool 11 = .ok (.iconst (-1), 1) := by decide +kernel
theorem dX6_requireInPool_12 : decode cX6_requireInPool 12 = .ok (.if_icmp .ne 14, 3) := by decide +kernel
theorem dX6_requireInPool_15 : decode cX6_requireInPool 15 = .ok (.new 169, 3) := by decide +kernel
theorem dX6_requireInPool_18 : decode cX6_requireInPool 18 = .ok (.dup, 1) := by decide +kernel
theorem dX6_requireInPool_19 : decode cX6_requireInPool 19 = .ok (.ldc_w 327, 3) := by decide +kernel
theorem dX6_requireInPool_22 : decode cX6_requireInPool 22 = .ok (.invokespecial 173, 3) := by decide +kernel
theorem dX6_requireInPool_25 : decode cX6_requireInPool 25 = .ok (.athrow, 1) := by decide +kernel
theorem dX6_requireInPool_26 : decode cX6_requireInPool 26 = .ok (.return_, 1) := by decide +kernel
theorem dX6_requireBound_0 : decode cX6_requireBound 0 = .ok (.aload_n 0, 1) := by decide +kernel
theorem dX6_requireBound_1 : decode cX6_requireBound 1 = .ok (.getfield 21, 3) := by decide +kernel
theorem dX6_requireBound_4 : decode cX6_requireBound 4 = .ok (.getfield 153, 3) := by decide +kernel
theorem dX6_requireBound_7 : decode cX6_requireBound 7 = .ok (.iload_n 1, 1) := by decide +kernel
theorem dX6_requireBound_8 : decode cX6_requireBound 8 = .ok (.invokevirtual 157, 3) := by decide +kernel
theorem dX6_requireBound_11 : decode cX6_requireBound 11 = .ok (.ifCond .ne 14, 3) := by decide +kernel
theorem dX6_requireBound_14 : decode cX6_requireBound 14 = .ok (.new 169, 3) := by decide +kernel
theorem dX6_requireBound_17 : decode cX6_requireBound 17 = .ok (.dup, 1) := by decide +kernel
theorem dX6_requireBound_18 : decode cX6_requireBound 18 = .ok (.ldc_w 329, 3) := by decide +kernel
theorem dX6_requireBound_21 : decode cX6_requireBound 21 = .ok (.invokespecial 173, 3) := by decide +kernel
theorem dX6_requireBound_24 : decode cX6_requireBound 24 = .ok (.athrow, 1) := by decide +kernel
theorem dX6_requireBound_25 : decode cX6_requireBound 25 = .ok (.return_, 1) := by decide +kernel
theorem dX6_eventAt_0 : decode cX6_eventAt 0 = .ok (.iload_n 0, 1) := by decide +kernel
theorem dX6_eventAt_1 : decode cX6_eventAt 1 = .ok (.iconst 5, 1) := by decide +kernel
theorem dX6_eventAt_2 : decode cX6_eventAt 2 = .ok (.imul, 1) := by decide +kernel
theorem dX6_eventAt_3 : decode cX6_eventAt 3 = .ok (.iload_n 1, 1) := by decide +kernel
theorem dX6_eventAt_4 : decode cX6_eventAt 4 = .ok (.iadd, 1) := by decide +kernel
theorem dX6_eventAt_5 : decode cX6_eventAt 5 = .ok (.bipush 100, 2) := by decide +kernel
theorem dX6_eventAt_7 : decode cX6_eventAt 7 = .ok (.imul, 1) := by decide +kernel
theorem dX6_eventAt_8 : decode cX6_eventAt 8 = .ok (.iload_n 2, 1) := by decide +kernel
theorem dX6_eventAt_9 : decode cX6_eventAt 9 = .ok (.iadd, 1) := by decide +kernel
theorem dX6_eventAt_10 : decode cX6_eventAt 10 = .ok (.ireturn, 1) := by decide +kernel
theorem dX6_timeOfEvent_0 : decode cX6_timeOfEvent 0 = .ok (.iload_n 0, 1) := by decide +kernel
theorem dX6_timeOfEvent_1 : decode cX6_timeOfEvent 1 = .ok (.bipush 100, 2) := by decide +kernel
theorem dX6_timeOfEvent_3 : decode cX6_timeOfEvent 3 = .ok (.idiv, 1) := by decide +kernel
theorem dX6_timeOfEvent_4 : decode cX6_timeOfEvent 4 = .ok (.iconst 5, 1) := by decide +kernel
theorem dX6_timeOfEvent_5 : decode cX6_timeOfEvent 5 = .ok (.idiv, 1) := by decide +kernel
theorem dX6_timeOfEvent_6 : decode cX6_timeOfEvent 6 = .ok (.ireturn, 1) := by decide +kernel
theorem dX6_kindOfEvent_0 : decode cX6_kindOfEvent 0 = .ok (.iload_n 0, 1) := by decide +kernel
theorem dX6_kindOfEvent_1 : decode cX6_kindOfEvent 1 = .ok (.bipush 100, 2) := by decide +kernel
theorem dX6_kindOfEvent_3 : decode cX6_kindOfEvent 3 = .ok (.idiv, 1) := by decide +kernel
theorem dX6_kindOfEvent_4 : decode cX6_kindOfEvent 4 = .ok (.iconst 5, 1) := by decide +kernel
theorem dX6_kindOfEvent_5 : decode cX6_kindOfEvent 5 = .ok (.irem, 1) := by decide +kernel
theorem dX6_kindOfEvent_6 : decode cX6_kindOfEvent 6 = .ok (.ireturn, 1) := by decide +kernel
theorem dX6_addressOfEvent_0 : decode cX6_addressOfEvent 0 = .ok (.iload_n 0, 1) := by decide +kernel
theorem dX6_addressOfEvent_1 : decode cX6_addressOfEvent 1 = .ok (.bipush 100, 2) := by decide +kernel
theorem dX6_addressOfEvent_3 : decode cX6_addressOfEvent 3 = .ok (.irem, 1) := by decide +kernel
theorem dX6_addressOfEvent_4 : decode cX6_addressOfEvent 4 = .ok (.ireturn, 1) := by decide +kernel
theorem dX6_copyNumbers_0 : decode cX6_copyNumbers 0 = .ok (.aload_n 0, 1) := by decide +kernel
theorem dX6_copyNumbers_1 : decode cX6_copyNumbers 1 = .ok (.iconst 0, 1) := by decide +kernel
theorem dX6_copyNumbers_2 : decode cX6_copyNumbers 2 = .ok (.aload_n 1, 1) := by decide +kernel
theorem dX6_copyNumbers_3 : decode cX6_copyNumbers 3 = .ok (.iconst 0, 1) := by decide +kernel
theorem dX6_copyNumbers_4 : decode cX6_copyNumbers 4 = .ok (.aload_n 0, 1) := by decide +kernel
theorem dX6_copyNumbers_5 : decode cX6_copyNumbers 5 = .ok (.arraylength, 1) := by decide +kernel
theorem dX6_copyNumbers_6 : decode cX6_copyNumbers 6 = .ok (.aload_n 1, 1) := by decide +kernel
theorem dX6_copyNumbers_7 : decode cX6_copyNumbers 7 = .ok (.arraylength, 1) := by decide +kernel
theorem dX6_copyNumbers_8 : decode cX6_copyNumbers 8 = .ok (.invokestatic 331, 3) := by decide +kernel
theorem dX6_copyNumbers_11 : decode cX6_copyNumbers 11 = .ok (.invokestatic 336, 3) := by decide +kernel
theorem dX6_copyNumbers_14 : decode cX6_copyNumbers 14 = .ok (.return_, 1) := by decide +kernel
theorem dX6_copyFlags_0 : decode cX6_copyFlags 0 = .ok (.iconst 0, 1) := by decide +kernel
theorem dX6_copyFlags_1 : decode cX6_copyFlags 1 = .ok (.istore_n 2, 1) := by decide +kernel
theorem dX6_copyFlags_2 : decode cX6_copyFlags 2 = .ok (.iload_n 2, 1) := by decide +kernel
theorem dX6_copyFlags_3 : decode cX6_copyFlags 3 = .ok (.aload_n 0, 1) := by decide +kernel
theorem dX6_copyFlags_4 : decode cX6_copyFlags 4 = .ok (.arraylength, 1) := by decide +kernel
theorem dX6_copyFlags_5 : decode cX6_copyFlags 5 = .ok (.if_icmp .ge 21, 3) := by decide +kernel
theorem dX6_copyFlags_8 : decode cX6_copyFlags 8 = .ok (.iload_n 2, 1) := by decide +kernel
theorem dX6_copyFlags_9 : decode cX6_copyFlags 9 = .ok (.aload_n 1, 1) := by decide +kernel
theorem dX6_copyFlags_10 : decode cX6_copyFlags 10 = .ok (.arraylength, 1) := by decide +kernel
theorem dX6_copyFlags_11 : decode cX6_copyFlags 11 = .ok (.if_icmp .ge 15, 3) := by decide +kernel
theorem dX6_copyFlags_14 : decode cX6_copyFlags 14 = .ok (.aload_n 1, 1) := by decide +kernel
theorem dX6_copyFlags_15 : decode cX6_copyFlags 15 = .ok (.iload_n 2, 1) := by decide +kernel
theorem dX6_copyFlags_16 : decode cX6_copyFlags 16 = .ok (.aload_n 0, 1) := by decide +kernel
theorem dX6_copyFlags_17 : decode cX6_copyFlags 17 = .ok (.iload_n 2, 1) := by decide +kernel
theorem dX6_copyFlags_18 : decode cX6_copyFlags 18 = .ok (.baload, 1) := by decide +kernel
theorem dX6_copyFlags_19 : decode cX6_copyFlags 19 = .ok (.bastore, 1) := by decide +kernel
theorem dX6_copyFlags_20 : decode cX6_copyFlags 20 = .ok (.iinc 2 1, 3) := by decide +kernel
theorem dX6_copyFlags_23 : decode cX6_copyFlags 23 = .ok (.goto (-21), 3) := by decide +kernel
theorem dX6_copyFlags_26 : decode cX6_copyFlags 26 = .ok (.return_, 1) := by decide +kernel
theorem dJx00060_init_a7421_0 : decode cJx00060_init_a7421 0 = .ok (.aload_n 0, 1) := by decide +kernel
theorem dJx00060_init_a7421_1 : decode cJx00060_init_a7421 1 = .ok (.aload_n 1, 1) := by decide +kernel
theorem dJx00060_init_a7421_2 : decode cJx00060_init_a7421 2 = .ok (.invokespecial 7, 3) := by decide +kernel
theorem dJx00060_init_a7421_5 : decode cJx00060_init_a7421 5 = .ok (.return_, 1) := by decide +kernel
theorem dJ9_floorMod_7cf53_0 : decode cJ9_floorMod_7cf53 0 = .ok (.iload_n 0, 1) := by decide +kernel
theorem dJ9_floorMod_7cf53_1 : decode cJ9_floorMod_7cf53 1 = .ok (.iload_n 1, 1) := by decide +kernel
theorem dJ9_floorMod_7cf53_2 : decode cJ9_floorMod_7cf53 2 = .ok (.irem, 1) := by decide +kernel
theorem dJ9_floorMod_7cf53_3 : decode cJ9_floorMod_7cf53 3 = .ok (.istore_n 2, 1) := by decide +kernel
theorem dJ9_floorMod_7cf53_4 : decode cJ9_floorMod_7cf53 4 = .ok (.iload_n 0, 1) := by decide +kernel
theorem dJ9_floorMod_7cf53_5 : decode cJ9_floorMod_7cf53 5 = .ok (.iload_n 1, 1) := by decide +kernel
theorem dJ9_floorMod_7cf53_6 : decode cJ9_floorMod_7cf53 6 = .ok (.ixor, 1) := by decide +kernel
theorem dJ9_floorMod_7cf53_7 : decode cJ9_floorMod_7cf53 7 = .ok (.ifCond .ge 11, 3) := by decide +kernel
theorem dJ9_floorMod_7cf53_10 : decode cJ9_floorMod_7cf53 10 = .ok (.iload_n 2, 1) := by decide +kernel
theorem dJ9_floorMod_7cf53_11 : decode cJ9_floorMod_7cf53 11 = .ok (.ifCond .eq 7, 3) := by decide +kernel
theorem dJ9_floorMod_7cf53_14 : decode cJ9_floorMod_7cf53 14 = .ok (.iload_n 2, 1) := by decide +kernel
theorem dJ9_floorMod_7cf53_15 : decode cJ9_floorMod_7cf53 15 = .ok (.iload_n 1, 1) := by decide +kernel
theorem dJ9_floorMod_7cf53_16 : decode cJ9_floorMod_7cf53 16 = .ok (.iadd, 1) := by decide +kernel
theorem dJ9_floorMod_7cf53_17 : decode cJ9_floorMod_7cf53 17 = .ok (.ireturn, 1) := by decide +kernel
theorem dJ9_floorMod_7cf53_18 : decode cJ9_floorMod_7cf53 18 = .ok (.iload_n 2, 1) := by decide +kernel
theorem dJ9_floorMod_7cf53_19 : decode cJ9_floorMod_7cf53 19 = .ok (.ireturn, 1) := by decide +kernel
theorem dJ9_max_7cf53_0 : decode cJ9_max_7cf53 0 = .ok (.iload_n 0, 1) := by decide +kernel
theorem dJ9_max_7cf53_1 : decode cJ9_max_7cf53 1 = .ok (.iload_n 1, 1) := by decide +kernel
theorem dJ9_max_7cf53_2 : decode cJ9_max_7cf53 2 = .ok (.if_icmp .lt 7, 3) := by decide +kernel
theorem dJ9_max_7cf53_5 : decode cJ9_max_7cf53 5 = .ok (.iload_n 0, 1) := by decide +kernel
theorem dJ9_max_7cf53_6 : decode cJ9_max_7cf53 6 = .ok (.goto 4, 3) := by decide +kernel
theorem dJ9_max_7cf53_9 : decode cJ9_max_7cf53 9 = .ok (.iload_n 1, 1) := by decide +kernel
theorem dJ9_max_7cf53_10 : decode cJ9_max_7cf53 10 = .ok (.ireturn, 1) := by decide +kernel
theorem dJ9_min_7cf53_0 : decode cJ9_min_7cf53 0 = .ok (.iload_n 0, 1) := by decide +kernel
theorem dJ9_min_7cf53_1 : decode cJ9_min_7cf53 1 = .ok (.iload_n 1, 1) := by decide +kernel
theorem dJ9_min_7cf53_2 : decode cJ9_min_7cf53 2 = .ok (.if_icmp .gt 7, 3) := by decide +kernel
theorem dJ9_min_7cf53_5 : decode cJ9_min_7cf53 5 = .ok (.iload_n 0, 1) := by decide +kernel
theorem dJ9_min_7cf53_6 : decode cJ9_min_7cf53 6 = .ok (.goto 4, 3) := by decide +kernel
theorem dJ9_min_7cf53_9 : decode cJ9_min_7cf53 9 = .ok (.iload_n 1, 1) := by decide +kernel
theorem dJ9_min_7cf53_10 : decode cJ9_min_7cf53 10 = .ok (.ireturn, 1) := by decide +kernel
theorem dJ7_fill_53178_0 : decode cJ7_fill_53178 0 = .ok (.iconst 0, 1) := by decide +kernel
theorem dJ7_fill_53178_1 : decode cJ7_fill_53178 1 = .ok (.istore_n 2, 1) := by decide +kernel
theorem dJ7_fill_53178_2 : decode cJ7_fill_53178 2 = .ok (.aload_n 0, 1) := by decide +kernel
theorem dJ7_fill_53178_3 : decode cJ7_fill_53178 3 = .ok (.arraylength, 1) := by decide +kernel
theorem dJ7_fill_53178_4 : decode cJ7_fill_53178 4 = .ok (.istore_n 3, 1) := by decide +kernel
theorem dJ7_fill_53178_5 : decode cJ7_fill_53178 5 = .ok (.iload_n 2, 1) := by decide +kernel
theorem dJ7_fill_53178_6 : decode cJ7_fill_53178 6 = .ok (.iload_n 3, 1) := by decide +kernel
theorem dJ7_fill_53178_7 : decode cJ7_fill_53178 7 = .ok (.if_icmp .ge 13, 3) := by decide +kernel
theorem dJ7_fill_53178_10 : decode cJ7_fill_53178 10 = .ok (.aload_n 0, 1) := by decide +kernel
theorem dJ7_fill_53178_11 : decode cJ7_fill_53178 11 = .ok (.iload_n 2, 1) := by decide +kernel
theorem dJ7_fill_53178_12 : decode cJ7_fill_53178 12 = .ok (.iload_n 1, 1) := by decide +kernel
theorem dJ7_fill_53178_13 : decode cJ7_fill_53178 13 = .ok (.iastore, 1) := by decide +kernel
theorem dJ7_fill_53178_14 : decode cJ7_fill_53178 14 = .ok (.iinc 2 1, 3) := by decide +kernel
theorem dJ7_fill_53178_17 : decode cJ7_fill_53178 17 = .ok (.goto (-12), 3) := by decide +kernel
theorem dJ7_fill_53178_20 : decode cJ7_fill_53178 20 = .ok (.return_, 1) := by decide +kernel
end
section
theorem dX7_init_0 : decode cX7_init 0 = .ok (.aload_n 0, 1) := by decide +kernel
theorem dX7_init_1 : decode cX7_init 1 = .ok (.invokespecial 3, 3) := by decide +kernel
theorem dX7_init_4 : decode cX7_init 4 = .ok (.aload_n 0, 1) := by decide +kernel
theorem dX7_init_5 : decode cX7_init 5 = .ok (.sipush 731, 3) := by decide +kernel
theorem dX7_init_8 : decode cX7_init 8 = .ok (.newarray .int, 2) := by decide +kernel
theorem dX7_init_10 : decode cX7_init 10 = .ok (.putfield 9, 3) := by decide +kernel
theorem dX7_init_13 : decode cX7_init 13 = .ok (.aload_n 0, 1) := by decide +kernel
theorem dX7_init_14 : decode cX7_init 14 = .ok (.sipush 731, 3) := by decide +kernel
theorem dX7_init_17 : decode cX7_init 17 = .ok (.newarray .int, 2) := by decide +kernel
theorem dX7_init_19 : decode cX7_init 19 = .ok (.putfield 13, 3) := by decide +kernel
theorem dX7_init_22 : decode cX7_init 22 = .ok (.aload_n 0, 1) := by decide +kernel
theorem dX7_init_23 : decode cX7_init 23 = .ok (.bipush 30, 2) := by decide +kernel
theorem dX7_init_25 : decode cX7_init 25 = .ok (.newarray .int, 2) := by decide +kernel
theorem dX7_init_27 : decode cX7_init 27 = .ok (.putfield 16, 3) := by decide +kernel
theorem dX7_init_30 : decode cX7_init 30 = .ok (.aload_n 0, 1) := by decide +kernel
theorem dX7_init_31 : decode cX7_init 31 = .ok (.getfield 9, 3) := by decide +kernel
theorem dX7_init_34 : decode cX7_init 34 = .ok (.iconst 1, 1) := by decide +kernel
theorem dX7_init_35 : decode cX7_init 35 = .ok (.bipush 10, 2) := by decide +kernel
theorem dX7_init_37 : decode cX7_init 37 = .ok (.iastore, 1) := by decide +kernel
theorem dX7_init_38 : decode cX7_init 38 = .ok (.aload_n 0, 1) := by decide +kernel
theorem dX7_init_39 : decode cX7_init 39 = .ok (.getfield 9, 3) := by decide +kernel
theorem dX7_init_42 : decode cX7_init 42 = .ok (.iconst 2, 1) := by decide +kernel
theorem dX7_init_43 : decode cX7_init 43 = .ok (.bipush 100, 2) := by decide +kernel
theorem dX7_init_45 : decode cX7_init 45 = .ok (.iastore, 1) := by decide +kernel
theorem dX7_init_46 : decode cX7_init 46 = .ok (.iconst 0, 1) := by decide +kernel
theorem dX7_init_47 : decode cX7_init 47 = .ok (.istore_n 1, 1) := by decide +kernel
theorem dX7_init_48 : decode cX7_init 48 = .ok (.iload_n 1, 1) := by decide +kernel
theorem dX7_init_49 : decode cX7_init 49 = .ok (.iconst 3, 1) := by decide +kernel
theorem dX7_init_50 : decode cX7_init 50 = .ok (.if_icmp .ge 29, 3) := by decide +kernel
theorem dX7_init_53 : decode cX7_init 53 = .ok (.aload_n 0, 1) := by decide +kernel
theorem dX7_init_54 : decode cX7_init 54 = .ok (.getfield 9, 3) := by decide +kernel
theorem dX7_init_57 : decode cX7_init 57 = .ok (.bipush 25, 2) := by decide +kernel
theorem dX7_init_59 : decode cX7_init 59 = .ok (.iload_n 1, 1) := by decide +kernel
theorem dX7_init_60 : decode cX7_init 60 = .ok (.iadd, 1) := by decide +kernel
theorem dX7_init_61 : decode cX7_init 61 = .ok (.iconst 1, 1) := by decide +kernel
theorem dX7_init_62 : decode cX7_init 62 = .ok (.iastore, 1) := by decide +kernel
theorem dX7_init_63 : decode cX7_init 63 = .ok (.aload_n 0, 1) := by decide +kernel
theorem dX7_init_64 : decode cX7_init 64 = .ok (.getfield 9, 3) := by decide +kernel
theorem dX7_init_67 : decode cX7_init 67 = .ok (.bipush 28, 2) := by decide +kernel
theorem dX7_init_69 : decode cX7_init 69 = .ok (.iload_n 1, 1) := by decide +kernel
theorem dX7_init_70 : decode cX7_init 70 = .ok (.iadd, 1) := by decide +kernel
theorem dX7_init_71 : decode cX7_init 71 = .ok (.iconst 1, 1) := by decide +kernel
theorem dX7_init_72 : decode cX7_init 72 = .ok (.iastore, 1) := by decide +kernel
theorem dX7_init_73 : decode cX7_init 73 = .ok (.iinc 1 1, 3) := by decide +kernel
theorem dX7_init_76 : decode cX7_init 76 = .ok (.goto (-28), 3) := by decide +kernel
theorem dX7_init_79 : decode cX7_init 79 = .ok (.return_, 1) := by decide +kernel
theorem dX7_thrown_0 : decode cX7_thrown 0 = .ok (.aload_n 0, 1) := by decide +kernel
theorem dX7_thrown_1 : decode cX7_thrown 1 = .ok (.getfield 19, 3) := by decide +kernel
theorem dX7_thrown_4 : decode cX7_thrown 4 = .ok (.ireturn, 1) := by decide +kernel
theorem dX7_in_0 : decode cX7_in 0 = .ok (.iload_n 0, 1) := by decide +kernel
theorem dX7_in_1 : decode cX7_in 1 = .ok (.iload_n 1, 1) := by decide +kernel
theorem dX7_in_2 : decode cX7_in 2 = .ok (.if_icmp .lt 12, 3) := by decide +kernel
theorem dX7_in_5 : decode cX7_in 5 = .ok (.iload_n 0, 1) := by decide +kernel
theorem dX7_in_6 : decode cX7_in 6 = .ok (.iload_n 2, 1) := by decide +kernel
theorem dX7_in_7 : decode cX7_in 7 = .ok (.if_icmp .gt 7, 3) := by decide +kernel
theorem dX7_in_10 : decode cX7_in 10 = .ok (.iconst 1, 1) := by decide +kernel
theorem dX7_in_11 : decode cX7_in 11 = .ok (.goto 4, 3) := by decide +kernel
theorem dX7_in_14 : decode cX7_in 14 = .ok (.iconst 0, 1) := by decide +kernel
theorem dX7_in_15 : decode cX7_in 15 = .ok (.ireturn, 1) := by decide +kernel
theorem dX7_raises_0 : decode cX7_raises 0 = .ok (.aload_n 0, 1) := by decide +kernel
theorem dX7_raises_1 : decode cX7_raises 1 = .ok (.iload_n 1, 1) := by decide +kernel
theorem dX7_raises_2 : decode cX7_raises 2 = .ok (.putfield 19, 3) := by decide +kernel
theorem dX7_raises_5 : decode cX7_raises 5 = .ok (.iconst 0, 1) := by decide +kernel
theorem dX7_raises_6 : decode cX7_raises 6 = .ok (.ireturn, 1) := by decide +kernel
theorem dX7_isAddress_0 : decode cX7_isAddress 0 = .ok (.iload_n 0, 1) := by decide +kernel
theorem dX7_isAddress_1 : decode cX7_isAddress 1 = .ok (.iconst 0, 1) := by decide +kernel
theorem dX7_isAddress_2 : decode cX7_isAddress 2 = .ok (.bipush 99, 2) := by decide +kernel
theorem dX7_isAddress_4 : decode cX7_isAddress 4 = .ok (.invokestatic 23, 3) := by decide +kernel
theorem dX7_isAddress_7 : decode cX7_isAddress 7 = .ok (.ireturn, 1) := by decide +kernel
theorem dX7_isClient_0 : decode cX7_isClient 0 = .ok (.iload_n 0, 1) := by decide +kernel
theorem dX7_isClient_1 : decode cX7_isClient 1 = .ok (.iconst 0, 1) := by decide +kernel
theorem dX7_isClient_2 : decode cX7_isClient 2 = .ok (.bipush 19, 2) := by decide +kernel
theorem dX7_isClient_4 : decode cX7_isClient 4 = .ok (.invokestatic 23, 3) := by decide +kernel
theorem dX7_isClient_7 : decode cX7_isClient 7 = .ok (.ireturn, 1) := by decide +kernel
theorem dX7_isGroup_0 : decode cX7_isGroup 0 = .ok (.iload_n 0, 1) := by decide +kernel
theorem dX7_isGroup_1 : decode cX7_isGroup 1 = .ok (.iconst 0, 1) := by decide +kernel
theorem dX7_isGroup_2 : decode cX7_isGroup 2 = .ok (.iconst 2, 1) := by decide +kernel
theorem dX7_isGroup_3 : decode cX7_isGroup 3 = .ok (.invokestatic 23, 3) := by decide +kernel
theorem dX7_isGroup_6 : decode cX7_isGroup 6 = .ok (.ireturn, 1) := by decide +kernel
theorem dX7_sets_0 : decode cX7_sets 0 = .ok (.aload_n 0, 1) := by decide +kernel
theorem dX7_sets_1 : decode cX7_sets 1 = .ok (.getfield 9, 3) := by decide +kernel
theorem dX7_sets_4 : decode cX7_sets 4 = .ok (.iload_n 1, 1) := by decide +kernel
theorem dX7_sets_5 : decode cX7_sets 5 = .ok (.iaload, 1) := by decide +kernel
theorem dX7_sets_6 : decode cX7_sets 6 = .ok (.istore_n 3, 1) := by decide +kernel
theorem dX7_sets_7 : decode cX7_sets 7 = .ok (.aload_n 0, 1) := by decide +kernel
theorem dX7_sets_8 : decode cX7_sets 8 = .ok (.getfield 9, 3) := by decide +kernel
theorem dX7_sets_11 : decode cX7_sets 11 = .ok (.iload_n 1, 1) := by decide +kernel
theorem dX7_sets_12 : decode cX7_sets 12 = .ok (.iload_n 2, 1) := by decide +kernel
theorem dX7_sets_13 : decode cX7_sets 13 = .ok (.iastore, 1) := by decide +kernel
theorem dX7_sets_14 : decode cX7_sets 14 = .ok (.iload_n 3, 1) := by decide +kernel
theorem dX7_sets_15 : decode cX7_sets 15 = .ok (.ireturn, 1) := by decide +kernel
theorem dX7_logs_0 : decode cX7_logs 0 = .ok (.aload_n 0, 1) := by decide +kernel
theorem dX7_logs_1 : decode cX7_logs 1 = .ok (.getfield 27, 3) := by decide +kernel
theorem dX7_logs_4 : decode cX7_logs 4 = .ok (.bipush 30, 2) := by decide +kernel
theorem dX7_logs_6 : decode cX7_logs 6 = .ok (.if_icmp .ge 13, 3) := by decide +kernel
theorem dX7_logs_9 : decode cX7_logs 9 = .ok (.aload_n 0, 1) := by decide +kernel
theorem dX7_logs_10 : decode cX7_logs 10 = .ok (.dup, 1) := by decide +kernel
theorem dX7_logs_11 : decode cX7_logs 11 = .ok (.getfield 27, 3) := by decide +kernel
theorem dX7_logs_14 : decode cX7_logs 14 = .ok (.iconst 1, 1) := by decide +kernel
theorem dX7_logs_15 : decode cX7_logs 15 = .ok (.iadd, 1) := by decide +kernel
theorem dX7_logs_16 : decode cX7_logs 16 = .ok (.putfield 27, 3) := by decide +kernel
theorem dX7_logs_19 : decode cX7_logs 19 = .ok (.aload_n 0, 1) := by decide +kernel
theorem dX7_logs_20 : decode cX7_logs 20 = .ok (.getfield 27, 3) := by decide +kernel
theorem dX7_logs_23 : decode cX7_logs 23 = .ok (.iconst 1, 1) := by decide +kernel
theorem dX7_logs_24 : decode cX7_logs 24 = .ok (.isub, 1) := by decide +kernel
theorem dX7_logs_25 : decode cX7_logs 25 = .ok (.istore_n 3, 1) := by decide +kernel
theorem dX7_logs_26 : decode cX7_logs 26 = .ok (.iload_n 3, 1) := by decide +kernel
theorem dX7_logs_27 : decode cX7_logs 27 = .ok (.ifCond .le 23, 3) := by decide +kernel
theorem dX7_logs_30 : decode cX7_logs 30 = .ok (.aload_n 0, 1) := by decide +kernel
theorem dX7_logs_31 : decode cX7_logs 31 = .ok (.getfield 16, 3) := by decide +kernel
theorem dX7_logs_34 : decode cX7_logs 34 = .ok (.iload_n 3, 1) := by decide +kernel
theorem dX7_logs_35 : decode cX7_logs 35 = .ok (.aload_n 0, 1) := by decide +kernel
theorem dX7_logs_36 : decode cX7_logs 36 = .ok (.getfield 16, 3) := by decide +kernel
theorem dX7_logs_39 : decode cX7_logs 39 = .ok (.iload_n 3, 1) := by decide +kernel
theorem dX7_logs_40 : decode cX7_logs 40 = .ok (.iconst 1, 1) := by decide +kernel
theorem dX7_logs_41 : decode cX7_logs 41 = .ok (.isub, 1) := by decide +kernel
theorem dX7_logs_42 : decode cX7_logs 42 = .ok (.iaload, 1) := by decide +kernel
theorem dX7_logs_43 : decode cX7_logs 43 = .ok (.iastore, 1) := by decide +kernel
theorem dX7_logs_44 : decode cX7_logs 44 = .ok (.iinc 3 (-1), 3) := by decide +kernel
theorem dX7_logs_47 : decode cX7_logs 47 = .ok (.goto (-21), 3) := by decide +kernel
theorem dX7_logs_50 : decode cX7_logs 50 = .ok (.aload_n 0, 1) := by decide +kernel
theorem dX7_logs_51 : decode cX7_logs 51 = .ok (.getfield 16, 3) := by decide +kernel
theorem dX7_logs_54 : decode cX7_logs 54 = .ok (.iconst 0, 1) := by decide +kernel
theorem dX7_logs_55 : decode cX7_logs 55 = .ok (.sipush 1000, 3) := by decide +kernel
theorem dX7_logs_58 : decode cX7_logs 58 = .ok (.iload_n 1, 1) := by decide +kernel
theorem dX7_logs_59 : decode cX7_logs 59 = .ok (.imul, 1) := by decide +kernel
theorem dX7_logs_60 : decode cX7_logs 60 = .ok (.iload_n 2, 1) := by decide +kernel
theorem dX7_logs_61 : decode cX7_logs 61 = .ok (.iadd, 1) := by decide +kernel
theorem dX7_logs_62 : decode cX7_logs 62 = .ok (.iastore, 1) := by decide +kernel
theorem dX7_logs_63 : decode cX7_logs 63 = .ok (.return_, 1) := by decide +kernel
theorem dX7_pool_0 : decode cX7_pool 0 = .ok (.iconst 5, 1) := by decide +kernel
theorem dX7_pool_1 : decode cX7_pool 1 = .ok (.iconst 4, 1) := by decide +kernel
theorem dX7_pool_2 : decode cX7_pool 2 = .ok (.iload_n 1, 1) := by decide +kernel
theorem dX7_pool_3 : decode cX7_pool 3 = .ok (.imul, 1) := by decide +kernel
theorem dX7_pool_4 : decode cX7_pool 4 = .ok (.iadd, 1) := by decide +kernel
theorem dX7_pool_5 : decode cX7_pool 5 = .ok (.ireturn, 1) := by decide +kernel
theorem dX7_owner_0 : decode cX7_owner 0 = .ok (.iconst 0, 1) := by decide +kernel
theorem dX7_owner_1 : decode cX7_owner 1 = .ok (.istore_n 2, 1) := by decide +kernel
theorem dX7_owner_2 : decode cX7_owner 2 = .ok (.iload_n 2, 1) := by decide +kernel
theorem dX7_owner_3 : decode cX7_owner 3 = .ok (.aload_n 0, 1) := by decide +kernel
theorem dX7_owner_4 : decode cX7_owner 4 = .ok (.getfield 9, 3) := by decide +kernel
theorem dX7_owner_7 : decode cX7_owner 7 = .ok (.iconst 4, 1) := by decide +kernel
theorem dX7_owner_8 : decode cX7_owner 8 = .ok (.iaload, 1) := by decide +kernel
theorem dX7_owner_9 : decode cX7_owner 9 = .ok (.if_icmp .ge 42, 3) := by decide +kernel
theorem dX7_owner_12 : decode cX7_owner 12 = .ok (.iload_n 1, 1) := by decide +kernel
theorem dX7_owner_13 : decode cX7_owner 13 = .ok (.aload_n 0, 1) := by decide +kernel
theorem dX7_owner_14 : decode cX7_owner 14 = .ok (.getfield 9, 3) := by decide +kernel
theorem dX7_owner_17 : decode cX7_owner 17 = .ok (.aload_n 0, 1) := by decide +kernel
theorem dX7_owner_18 : decode cX7_owner 18 = .ok (.iload_n 2, 1) := by decide +kernel
theorem dX7_owner_19 : decode cX7_owner 19 = .ok (.invokevirtual 30, 3) := by decide +kernel
theorem dX7_owner_22 : decode cX7_owner 22 = .ok (.iconst 1, 1) := by decide +kernel
theorem dX7_owner_23 : decode cX7_owner 23 = .ok (.iadd, 1) := by decide +kernel
theorem dX7_owner_24 : decode cX7_owner 24 = .ok (.iaload, 1) := by decide +kernel
theorem dX7_owner_25 : decode cX7_owner 25 = .ok (.aload_n 0, 1) := by decide +kernel
theorem dX7_owner_26 : decode cX7_owner 26 = .ok (.getfield 9, 3) := by decide +kernel
theorem dX7_owner_29 : decode cX7_owner 29 = .ok (.aload_n 0, 1) := by decide +kernel
theorem dX7_owner_30 : decode cX7_owner 30 = .ok (.iload_n 2, 1) := by decide +kernel
theorem dX7_owner_31 : decode cX7_owner 31 = .ok (.invokevirtual 30, 3) := by decide +kernel
theorem dX7_owner_34 : decode cX7_owner 34 = .ok (.iconst 2, 1) := by decide +kernel
theorem dX7_owner_35 : decode cX7_owner 35 = .ok (.iadd, 1) := by decide +kernel
theorem dX7_owner_36 : decode cX7_owner 36 = .ok (.iaload, 1) := by decide +kernel
theorem dX7_owner_37 : decode cX7_owner 37 = .ok (.invokestatic 23, 3) := by decide +kernel
theorem dX7_owner_40 : decode cX7_owner 40 = .ok (.ifCond .eq 5, 3) := by decide +kernel
theorem dX7_owner_43 : decode cX7_owner 43 = .ok (.iload_n 2, 1) := by decide +kernel
theorem dX7_owner_44 : decode cX7_owner 44 = .ok (.ireturn, 1) := by decide +kernel
theorem dX7_owner_45 : decode cX7_owner 45 = .ok (.iinc 2 1, 3) := by decide +kernel
theorem dX7_owner_48 : decode cX7_owner 48 = .ok (.goto (-46), 3) := by decide +kernel
theorem dX7_owner_51 : decode cX7_owner 51 = .ok (.iconst (-1), 1) := by decide +kernel
theorem dX7_owner_52 : decode cX7_owner 52 = .ok (.ireturn, 1) := by decide +kernel
theorem dX7_groupOf_0 : decode cX7_groupOf 0 = .ok (.aload_n 0, 1) := by decide +kernel
theorem dX7_groupOf_1 : decode cX7_groupOf 1 = .ok (.iload_n 1, 1) := by decide +kernel
theorem dX7_groupOf_2 : decode cX7_groupOf 2 = .ok (.invokevirtual 34, 3) := by decide +kernel
theorem dX7_groupOf_5 : decode cX7_groupOf 5 = .ok (.istore_n 2, 1) := by decide +kernel
theorem dX7_groupOf_6 : decode cX7_groupOf 6 = .ok (.iload_n 2, 1) := by decide +kernel
theorem dX7_groupOf_7 : decode cX7_groupOf 7 = .ok (.ifCond .ge 7, 3) := by decide +kernel
theorem dX7_groupOf_10 : decode cX7_groupOf 10 = .ok (.iconst (-1), 1) := by decide +kernel
theorem dX7_groupOf_11 : decode cX7_groupOf 11 = .ok (.goto 13, 3) := by decide +kernel
theorem dX7_groupOf_14 : decode cX7_groupOf 14 = .ok (.aload_n 0, 1) := by decide +kernel
theorem dX7_groupOf_15 : decode cX7_groupOf 15 = .ok (.getfield 9, 3) := by decide +kernel
theorem dX7_groupOf_18 : decode cX7_groupOf 18 = .ok (.aload_n 0, 1) := by decide +kernel
theorem dX7_groupOf_19 : decode cX7_groupOf 19 = .ok (.iload_n 2, 1) := by decide +kernel
theorem dX7_groupOf_20 : decode cX7_groupOf 20 = .ok (.invokevirtual 30, 3) := by decide +kernel
theorem dX7_groupOf_23 : decode cX7_groupOf 23 = .ok (.iaload, 1) := by decide +kernel
theorem dX7_groupOf_24 : decode cX7_groupOf 24 = .ok (.ireturn, 1) := by decide +kernel
theorem dX7_addPool_0 : decode cX7_addPool 0 = .ok (.aload_n 0, 1) := by decide +kernel
theorem dX7_addPool_1 : decode cX7_addPool 1 = .ok (.iconst 0, 1) := by decide +kernel
theorem dX7_addPool_2 : decode cX7_addPool 2 = .ok (.putfield 19, 3) := by decide +kernel
theorem dX7_addPool_5 : decode cX7_addPool 5 = .ok (.iload_n 1, 1) := by decide +kernel
theorem dX7_addPool_6 : decode cX7_addPool 6 = .ok (.invokestatic 37, 3) := by decide +kernel
theorem dX7_addPool_9 : decode cX7_addPool 9 = .ok (.ifCond .ne 9, 3) := by decide +kernel
theorem dX7_addPool_12 : decode cX7_addPool 12 = .ok (.aload_n 0, 1) := by decide +kernel
theorem dX7_addPool_13 : decode cX7_addPool 13 = .ok (.iconst 1, 1) := by decide +kernel
theorem dX7_addPool_14 : decode cX7_addPool 14 = .ok (.invokevirtual 41, 3) := by decide +kernel
theorem dX7_addPool_17 : decode cX7_addPool 17 = .ok (.ireturn, 1) := by decide +kernel
theorem dX7_addPool_18 : decode cX7_addPool 18 = .ok (.iload_n 2, 1) := by decide +kernel
theorem dX7_addPool_19 : decode cX7_addPool 19 = .ok (.invokestatic 44, 3) := by decide +kernel
theorem dX7_addPool_22 : decode cX7_addPool 22 = .ok (.ifCond .eq 28, 3) := by decide +kernel
theorem dX7_addPool_25 : decode cX7_addPool 25 = .ok (.iload_n 3, 1) := by decide +kernel
theorem dX7_addPool_26 : decode cX7_addPool 26 = .ok (.invokestatic 44, 3) := by decide +kernel
theorem dX7_addPool_29 : decode cX7_addPool 29 = .ok (.ifCond .eq 21, 3) := by decide +kernel
theorem dX7_addPool_32 : decode cX7_addPool 32 = .ok (.iload 4, 2) := by decide +kernel
theorem dX7_addPool_34 : decode cX7_addPool 34 = .ok (.bipush 8, 2) := by decide +kernel
theorem dX7_addPool_36 : decode cX7_addPool 36 = .ok (.sipush 800, 3) := by decide +kernel
theorem dX7_addPool_39 : decode cX7_addPool 39 = .ok (.invokestatic 23, 3) := by decide +kernel
theorem dX7_addPool_42 : decode cX7_addPool 42 = .ok (.ifCond .eq 8, 3) := by decide +kernel
theorem dX7_addPool_45 : decode cX7_addPool 45 = .ok (.iload_n 2, 1) := by decide +kernel
theorem dX7_addPool_46 : decode cX7_addPool 46 = .ok (.iload_n 3, 1) := by decide +kernel
theorem dX7_addPool_47 : decode cX7_addPool 47 = .ok (.if_icmp .le 9, 3) := by decide +kernel
theorem dX7_addPool_50 : decode cX7_addPool 50 = .ok (.aload_n 0, 1) := by decide +kernel
theorem dX7_addPool_51 : decode cX7_addPool 51 = .ok (.iconst 2, 1) := by decide +kernel
theorem dX7_addPool_52 : decode cX7_addPool 52 = .ok (.invokevirtual 41, 3) := by decide +kernel
theorem dX7_addPool_55 : decode cX7_addPool 55 = .ok (.ireturn, 1) := by decide +kernel
theorem dX7_addPool_56 : decode cX7_addPool 56 = .ok (.aload_n 0, 1) := by decide +kernel
theorem dX7_addPool_57 : decode cX7_addPool 57 = .ok (.getfield 9, 3) := by decide +kernel
theorem dX7_addPool_60 : decode cX7_addPool 60 = .ok (.iconst 4, 1) := by decide +kernel
theorem dX7_addPool_61 : decode cX7_addPool 61 = .ok (.iaload, 1) := by decide +kernel
theorem dX7_addPool_62 : decode cX7_addPool 62 = .ok (.iconst 5, 1) := by decide +kernel
theorem dX7_addPool_63 : decode cX7_addPool 63 = .ok (.if_icmp .ne 9, 3) := by decide +kernel
theorem dX7_addPool_66 : decode cX7_addPool 66 = .ok (.aload_n 0, 1) := by decide +kernel
theorem dX7_addPool_67 : decode cX7_addPool 67 = .ok (.iconst 3, 1) := by decide +kernel
theorem dX7_addPool_68 : decode cX7_addPool 68 = .ok (.invokevirtual 41, 3) := by decide +kernel
theorem dX7_addPool_71 : decode cX7_addPool 71 = .ok (.ireturn, 1) := by decide +kernel
theorem dX7_addPool_72 : decode cX7_addPool 72 = .ok (.iload_n 2, 1) := by decide +kernel
theorem dX7_addPool_73 : decode cX7_addPool 73 = .ok (.istore 5, 2) := by decide +kernel
theorem dX7_addPool_75 : decode cX7_addPool 75 = .ok (.iload 5, 2) := by decide +kernel
theorem dX7_addPool_77 : decode cX7_addPool 77 = .ok (.iload_n 3, 1) := by decide +kernel
theorem dX7_addPool_78 : decode cX7_addPool 78 = .ok (.if_icmp .gt 24, 3) := by decide +kernel
theorem dX7_addPool_81 : decode cX7_addPool 81 = .ok (.aload_n 0, 1) := by decide +kernel
theorem dX7_addPool_82 : decode cX7_addPool 82 = .ok (.iload 5, 2) := by decide +kernel
theorem dX7_addPool_84 : decode cX7_addPool 84 = .ok (.invokevirtual 34, 3) := by decide +kernel
theorem dX7_addPool_87 : decode cX7_addPool 87 = .ok (.ifCond .lt 9, 3) := by decide +kernel
theorem dX7_addPool_90 : decode cX7_addPool 90 = .ok (.aload_n 0, 1) := by decide +kernel
theorem dX7_addPool_91 : decode cX7_addPool 91 = .ok (.iconst 3, 1) := by decide +kernel
theorem dX7_addPool_92 : decode cX7_addPool 92 = .ok (.invokevirtual 41, 3) := by decide +kernel
theorem dX7_addPool_95 : decode cX7_addPool 95 = .ok (.ireturn, 1) := by decide +kernel
theorem dX7_addPool_96 : decode cX7_addPool 96 = .ok (.iinc 5 1, 3) := by decide +kernel
theorem dX7_addPool_99 : decode cX7_addPool 99 = .ok (.goto (-24), 3) := by decide +kernel
theorem dX7_addPool_102 : decode cX7_addPool 102 = .ok (.aload_n 0, 1) := by decide +kernel
theorem dX7_addPool_103 : decode cX7_addPool 103 = .ok (.aload_n 0, 1) := by decide +kernel
theorem dX7_addPool_104 : decode cX7_addPool 104 = .ok (.getfield 9, 3) := by decide +kernel
theorem dX7_addPool_107 : decode cX7_addPool 107 = .ok (.iconst 4, 1) := by decide +kernel
theorem dX7_addPool_108 : decode cX7_addPool 108 = .ok (.iaload, 1) := by decide +kernel
theorem dX7_addPool_109 : decode cX7_addPool 109 = .ok (.invokevirtual 30, 3) := by decide +kernel
theorem dX7_addPool_112 : decode cX7_addPool 112 = .ok (.istore 5, 2) := by decide +kernel
theorem dX7_addPool_114 : decode cX7_addPool 114 = .ok (.aload_n 0, 1) := by decide +kernel
theorem dX7_addPool_115 : decode cX7_addPool 115 = .ok (.getfield 9, 3) := by decide +kernel
theorem dX7_addPool_118 : decode cX7_addPool 118 = .ok (.iload 5, 2) := by decide +kernel
theorem dX7_addPool_120 : decode cX7_addPool 120 = .ok (.iload_n 1, 1) := by decide +kernel
theorem dX7_addPool_121 : decode cX7_addPool 121 = .ok (.iastore, 1) := by decide +kernel
theorem dX7_addPool_122 : decode cX7_addPool 122 = .ok (.aload_n 0, 1) := by decide +kernel
theorem dX7_addPool_123 : decode cX7_addPool 123 = .ok (.getfield 9, 3) := by decide +kernel
theorem dX7_addPool_126 : decode cX7_addPool 126 = .ok (.iload 5, 2) := by decide +kernel
theorem dX7_addPool_128 : decode cX7_addPool 128 = .ok (.iconst 1, 1) := by decide +kernel
theorem dX7_addPool_129 : decode cX7_addPool 129 = .ok (.iadd, 1) := by decide +kernel
theorem dX7_addPool_130 : decode cX7_addPool 130 = .ok (.iload_n 2, 1) := by decide +kernel
theorem dX7_addPool_131 : decode cX7_addPool 131 = .ok (.iastore, 1) := by decide +kernel
theorem dX7_addPool_132 : decode cX7_addPool 132 = .ok (.aload_n 0, 1) := by decide +kernel
theorem dX7_addPool_133 : decode cX7_addPool 133 = .ok (.getfield 9, 3) := by decide +kernel
theorem dX7_addPool_136 : decode cX7_addPool 136 = .ok (.iload 5, 2) := by decide +kernel
theorem dX7_addPool_138 : decode cX7_addPool 138 = .ok (.iconst 2, 1) := by decide +kernel
theorem dX7_addPool_139 : decode cX7_addPool 139 = .ok (.iadd, 1) := by decide +kernel
theorem dX7_addPool_140 : decode cX7_addPool 140 = .ok (.iload_n 3, 1) := by decide +kernel
theorem dX7_addPool_141 : decode cX7_addPool 141 = .ok (.iastore, 1) := by decide +kernel
theorem dX7_addPool_142 : decode cX7_addPool 142 = .ok (.aload_n 0, 1) := by decide +kernel
theorem dX7_addPool_143 : decode cX7_addPool 143 = .ok (.getfield 9, 3) := by decide +kernel
theorem dX7_addPool_146 : decode cX7_addPool 146 = .ok (.iload 5, 2) := by decide +kernel
theorem dX7_addPool_148 : decode cX7_addPool 148 = .ok (.iconst 3, 1) := by decide +kernel
theorem dX7_addPool_149 : decode cX7_addPool 149 = .ok (.iadd, 1) := by decide +kernel
theorem dX7_addPool_150 : decode cX7_addPool 150 = .ok (.iload 4, 2) := by decide +kernel
theorem dX7_addPool_152 : decode cX7_addPool 152 = .ok (.iastore, 1) := by decide +kernel
theorem dX7_addPool_153 : decode cX7_addPool 153 = .ok (.iload_n 2, 1) := by decide +kernel
theorem dX7_addPool_154 : decode cX7_addPool 154 = .ok (.istore 6, 2) := by decide +kernel
theorem dX7_addPool_156 : decode cX7_addPool 156 = .ok (.iload 6, 2) := by decide +kernel
theorem dX7_addPool_158 : decode cX7_addPool 158 = .ok (.iload_n 3, 1) := by decide +kernel
theorem dX7_addPool_159 : decode cX7_addPool 159 = .ok (.if_icmp .gt 33, 3) := by decide +kernel
theorem dX7_addPool_162 : decode cX7_addPool 162 = .ok (.aload_n 0, 1) := by decide +kernel
theorem dX7_addPool_163 : decode cX7_addPool 163 = .ok (.getfield 9, 3) := by decide +kernel
theorem dX7_addPool_166 : decode cX7_addPool 166 = .ok (.sipush 231, 3) := by decide +kernel
theorem dX7_addPool_169 : decode cX7_addPool 169 = .ok (.iload 6, 2) := by decide +kernel
theorem dX7_addPool_171 : decode cX7_addPool 171 = .ok (.iadd, 1) := by decide +kernel
theorem dX7_addPool_172 : decode cX7_addPool 172 = .ok (.iconst 0, 1) := by decide +kernel
theorem dX7_addPool_173 : decode cX7_addPool 173 = .ok (.iastore, 1) := by decide +kernel
theorem dX7_addPool_174 : decode cX7_addPool 174 = .ok (.aload_n 0, 1) := by decide +kernel
theorem dX7_addPool_175 : decode cX7_addPool 175 = .ok (.getfield 9, 3) := by decide +kernel
theorem dX7_addPool_178 : decode cX7_addPool 178 = .ok (.sipush 531, 3) := by decide +kernel
theorem dX7_addPool_181 : decode cX7_addPool 181 = .ok (.iload 6, 2) := by decide +kernel
theorem dX7_addPool_183 : decode cX7_addPool 183 = .ok (.iadd, 1) := by decide +kernel
theorem dX7_addPool_184 : decode cX7_addPool 184 = .ok (.iconst (-1), 1) := by decide +kernel
theorem dX7_addPool_185 : decode cX7_addPool 185 = .ok (.iastore, 1) := by decide +kernel
theorem dX7_addPool_186 : decode cX7_addPool 186 = .ok (.iinc 6 1, 3) := by decide +kernel
theorem dX7_addPool_189 : decode cX7_addPool 189 = .ok (.goto (-33), 3) := by decide +kernel
theorem dX7_addPool_192 : decode cX7_addPool 192 = .ok (.aload_n 0, 1) := by decide +kernel
theorem dX7_addPool_193 : decode cX7_addPool 193 = .ok (.getfield 9, 3) := by decide +kernel
theorem dX7_addPool_196 : decode cX7_addPool 196 = .ok (.iconst 4, 1) := by decide +kernel
theorem dX7_addPool_197 : decode cX7_addPool 197 = .ok (.dup2, 1) := by decide +kernel
theorem dX7_addPool_198 : decode cX7_addPool 198 = .ok (.iaload, 1) := by decide +kernel
theorem dX7_addPool_199 : decode cX7_addPool 199 = .ok (.dup_x2, 1) := by decide +kernel
theorem dX7_addPool_200 : decode cX7_addPool 200 = .ok (.iconst 1, 1) := by decide +kernel
theorem dX7_addPool_201 : decode cX7_addPool 201 = .ok (.iadd, 1) := by decide +kernel
theorem dX7_addPool_202 : decode cX7_addPool 202 = .ok (.iastore, 1) := by decide +kernel
theorem dX7_addPool_203 : decode cX7_addPool 203 = .ok (.ireturn, 1) := by decide +kernel
theorem dX7_isPool_0 : decode cX7_isPool 0 = .ok (.iload_n 1, 1) := by decide +kernel
theorem dX7_isPool_1 : decode cX7_isPool 1 = .ok (.iconst 0, 1) := by decide +kernel
theorem dX7_isPool_2 : decode cX7_isPool 2 = .ok (.aload_n 0, 1) := by decide +kernel
theorem dX7_isPool_3 : decode cX7_isPool 3 = .ok (.getfield 9, 3) := by decide +kernel
theorem dX7_isPool_6 : decode cX7_isPool 6 = .ok (.iconst 4, 1) := by decide +kernel
theorem dX7_isPool_7 : decode cX7_isPool 7 = .ok (.iaload, 1) := by decide +kernel
theorem dX7_isPool_8 : decode cX7_isPool 8 = .ok (.iconst 1, 1) := by decide +kernel
theorem dX7_isPool_9 : decode cX7_isPool 9 = .ok (.isub, 1) := by decide +kernel
theorem dX7_isPool_10 : decode cX7_isPool 10 = .ok (.invokestatic 23, 3) := by decide +kernel
theorem dX7_isPool_13 : decode cX7_isPool 13 = .ok (.ireturn, 1) := by decide +kernel
theorem dX7_removePool_0 : decode cX7_removePool 0 = .ok (.aload_n 0, 1) := by decide +kernel
theorem dX7_removePool_1 : decode cX7_removePool 1 = .ok (.iconst 0, 1) := by decide +kernel
theorem dX7_removePool_2 : decode cX7_removePool 2 = .ok (.putfield 19, 3) := by decide +kernel
theorem dX7_removePool_5 : decode cX7_removePool 5 = .ok (.aload_n 0, 1) := by decide +kernel
theorem dX7_removePool_6 : decode cX7_removePool 6 = .ok (.iload_n 1, 1) := by decide +kernel
theorem dX7_removePool_7 : decode cX7_removePool 7 = .ok (.invokevirtual 47, 3) := by decide +kernel
theorem dX7_removePool_10 : decode cX7_removePool 10 = .ok (.ifCond .ne 9, 3) := by decide +kernel
theorem dX7_removePool_13 : decode cX7_removePool 13 = .ok (.aload_n 0, 1) := by decide +kernel
theorem dX7_removePool_14 : decode cX7_removePool 14 = .ok (.iconst 1, 1) := by decide +kernel
theorem dX7_removePool_15 : decode cX7_removePool 15 = .ok (.invokevirtual 41, 3) := by decide +kernel
theorem dX7_removePool_18 : decode cX7_removePool 18 = .ok (.ireturn, 1) := by decide +kernel
theorem dX7_removePool_19 : decode cX7_removePool 19 = .ok (.aload_n 0, 1) := by decide +kernel
theorem dX7_removePool_20 : decode cX7_removePool 20 = .ok (.getfield 9, 3) := by decide +kernel
theorem dX7_removePool_23 : decode cX7_removePool 23 = .ok (.aload_n 0, 1) := by decide +kernel
theorem dX7_removePool_24 : decode cX7_removePool 24 = .ok (.iload_n 1, 1) := by decide +kernel
theorem dX7_removePool_25 : decode cX7_removePool 25 = .ok (.invokevirtual 30, 3) := by decide +kernel
theorem dX7_removePool_28 : decode cX7_removePool 28 = .ok (.iconst 1, 1) := by decide +kernel
theorem dX7_removePool_29 : decode cX7_removePool 29 = .ok (.iadd, 1) := by decide +kernel
theorem dX7_removePool_30 : decode cX7_removePool 30 = .ok (.iaload, 1) := by decide +kernel
theorem dX7_removePool_31 : decode cX7_removePool 31 = .ok (.istore_n 2, 1) := by decide +kernel
theorem dX7_removePool_32 : decode cX7_removePool 32 = .ok (.iload_n 2, 1) := by decide +kernel
theorem dX7_removePool_33 : decode cX7_removePool 33 = .ok (.aload_n 0, 1) := by decide +kernel
theorem dX7_removePool_34 : decode cX7_removePool 34 = .ok (.getfield 9, 3) := by decide +kernel
theorem dX7_removePool_37 : decode cX7_removePool 37 = .ok (.aload_n 0, 1) := by decide +kernel
theorem dX7_removePool_38 : decode cX7_removePool 38 = .ok (.iload_n 1, 1) := by decide +kernel
theorem dX7_removePool_39 : decode cX7_removePool 39 = .ok (.invokevirtual 30, 3) := by decide +kernel
theorem dX7_removePool_42 : decode cX7_removePool 42 = .ok (.iconst 2, 1) := by decide +kernel
theorem dX7_removePool_43 : decode cX7_removePool 43 = .ok (.iadd, 1) := by decide +kernel
theorem dX7_removePool_44 : decode cX7_removePool 44 = .ok (.iaload, 1) := by decide +kernel
theorem dX7_removePool_45 : decode cX7_removePool 45 = .ok (.if_icmp .gt 28, 3) := by decide +kernel
theorem dX7_removePool_48 : decode cX7_removePool 48 = .ok (.aload_n 0, 1) := by decide +kernel
theorem dX7_removePool_49 : decode cX7_removePool 49 = .ok (.getfield 9, 3) := by decide +kernel
theorem dX7_removePool_52 : decode cX7_removePool 52 = .ok (.sipush 231, 3) := by decide +kernel
theorem dX7_removePool_55 : decode cX7_removePool 55 = .ok (.iload_n 2, 1) := by decide +kernel
theorem dX7_removePool_56 : decode cX7_removePool 56 = .ok (.iadd, 1) := by decide +kernel
theorem dX7_removePool_57 : decode cX7_removePool 57 = .ok (.iaload, 1) := by decide +kernel
theorem dX7_removePool_58 : decode cX7_removePool 58 = .ok (.ifCond .eq 9, 3) := by decide +kernel
theorem dX7_removePool_61 : decode cX7_removePool 61 = .ok (.aload_n 0, 1) := by decide +kernel
theorem dX7_removePool_62 : decode cX7_removePool 62 = .ok (.iconst 2, 1) := by decide +kernel
theorem dX7_removePool_63 : decode cX7_removePool 63 = .ok (.invokevirtual 41, 3) := by decide +kernel
theorem dX7_removePool_66 : decode cX7_removePool 66 = .ok (.ireturn, 1) := by decide +kernel
theorem dX7_removePool_67 : decode cX7_removePool 67 = .ok (.iinc 2 1, 3) := by decide +kernel
theorem dX7_removePool_70 : decode cX7_removePool 70 = .ok (.goto (-38), 3) := by decide +kernel
theorem dX7_removePool_73 : decode cX7_removePool 73 = .ok (.aload_n 0, 1) := by decide +kernel
theorem dX7_removePool_74 : decode cX7_removePool 74 = .ok (.getfield 9, 3) := by decide +kernel
theorem dX7_removePool_77 : decode cX7_removePool 77 = .ok (.iconst 4, 1) := by decide +kernel
theorem dX7_removePool_78 : decode cX7_removePool 78 = .ok (.dup2, 1) := by decide +kernel
theorem dX7_removePool_79 : decode cX7_removePool 79 = .ok (.iaload, 1) := by decide +kernel
theorem dX7_removePool_80 : decode cX7_removePool 80 = .ok (.iconst 1, 1) := by decide +kernel
theorem dX7_removePool_81 : decode cX7_removePool 81 = .ok (.isub, 1) := by decide +kernel
theorem dX7_removePool_82 : decode cX7_removePool 82 = .ok (.iastore, 1) := by decide +kernel
theorem dX7_removePool_83 : decode cX7_removePool 83 = .ok (.aload_n 0, 1) := by decide +kernel
theorem dX7_removePool_84 : decode cX7_removePool 84 = .ok (.iload_n 1, 1) := by decide +kernel
theorem dX7_removePool_85 : decode cX7_removePool 85 = .ok (.invokevirtual 30, 3) := by decide +kernel
theorem dX7_removePool_88 : decode cX7_removePool 88 = .ok (.istore_n 2, 1) := by decide +kernel
theorem dX7_removePool_89 : decode cX7_removePool 89 = .ok (.iload_n 2, 1) := by decide +kernel
theorem dX7_removePool_90 : decode cX7_removePool 90 = .ok (.aload_n 0, 1) := by decide +kernel
theorem dX7_removePool_91 : decode cX7_removePool 91 = .ok (.aload_n 0, 1) := by decide +kernel
theorem dX7_removePool_92 : decode cX7_removePool 92 = .ok (.getfield 9, 3) := by decide +kernel
theorem dX7_removePool_95 : decode cX7_removePool 95 = .ok (.iconst 4, 1) := by decide +kernel
theorem dX7_removePool_96 : decode cX7_removePool 96 = .ok (.iaload, 1) := by decide +kernel
theorem dX7_removePool_97 : decode cX7_removePool 97 = .ok (.invokevirtual 30, 3) := by decide +kernel
theorem dX7_removePool_100 : decode cX7_removePool 100 = .ok (.if_icmp .ge 23, 3) := by decide +kernel
theorem dX7_removePool_103 : decode cX7_removePool 103 = .ok (.aload_n 0, 1) := by decide +kernel
theorem dX7_removePool_104 : decode cX7_removePool 104 = .ok (.getfield 9, 3) := by decide +kernel
theorem dX7_removePool_107 : decode cX7_removePool 107 = .ok (.iload_n 2, 1) := by decide +kernel
theorem dX7_removePool_108 : decode cX7_removePool 108 = .ok (.aload_n 0, 1) := by decide +kernel
theorem dX7_removePool_109 : decode cX7_removePool 109 = .ok (.getfield 9, 3) := by decide +kernel
theorem dX7_removePool_112 : decode cX7_removePool 112 = .ok (.iload_n 2, 1) := by decide +kernel
theorem dX7_removePool_113 : decode cX7_removePool 113 = .ok (.iconst 4, 1) := by decide +kernel
theorem dX7_removePool_114 : decode cX7_removePool 114 = .ok (.iadd, 1) := by decide +kernel
theorem dX7_removePool_115 : decode cX7_removePool 115 = .ok (.iaload, 1) := by decide +kernel
theorem dX7_removePool_116 : decode cX7_removePool 116 = .ok (.iastore, 1) := by decide +kernel
theorem dX7_removePool_117 : decode cX7_removePool 117 = .ok (.iinc 2 1, 3) := by decide +kernel
theorem dX7_removePool_120 : decode cX7_removePool 120 = .ok (.goto (-31), 3) := by decide +kernel
theorem dX7_removePool_123 : decode cX7_removePool 123 = .ok (.aload_n 0, 1) := by decide +kernel
theorem dX7_removePool_124 : decode cX7_removePool 124 = .ok (.getfield 9, 3) := by decide +kernel
theorem dX7_removePool_127 : decode cX7_removePool 127 = .ok (.iconst 4, 1) := by decide +kernel
theorem dX7_removePool_128 : decode cX7_removePool 128 = .ok (.iaload, 1) := by decide +kernel
theorem dX7_removePool_129 : decode cX7_removePool 129 = .ok (.ireturn, 1) := by decide +kernel
theorem dX7_poolCount_0 : decode cX7_poolCount 0 = .ok (.aload_n 0, 1) := by decide +kernel
theorem dX7_poolCount_1 : decode cX7_poolCount 1 = .ok (.iconst 0, 1) := by decide +kernel
theorem dX7_poolCount_2 : decode cX7_poolCount 2 = .ok (.putfield 19, 3) := by decide +kernel
theorem dX7_poolCount_5 : decode cX7_poolCount 5 = .ok (.aload_n 0, 1) := by decide +kernel
theorem dX7_poolCount_6 : decode cX7_poolCount 6 = .ok (.getfield 9, 3) := by decide +kernel
theorem dX7_poolCount_9 : decode cX7_poolCount 9 = .ok (.iconst 4, 1) := by decide +kernel
theorem dX7_poolCount_10 : decode cX7_poolCount 10 = .ok (.iaload, 1) := by decide +kernel
theorem dX7_poolCount_11 : decode cX7_poolCount 11 = .ok (.ireturn, 1) := by decide +kernel
theorem dX7_isCandidate_0 : decode cX7_isCandidate 0 = .ok (.aload_n 0, 1) := by decide +kernel
theorem dX7_isCandidate_1 : decode cX7_isCandidate 1 = .ok (.iload_n 1, 1) := by decide +kernel
theorem dX7_isCandidate_2 : decode cX7_isCandidate 2 = .ok (.invokevirtual 50, 3) := by decide +kernel
theorem dX7_isCandidate_5 : decode cX7_isCandidate 5 = .ok (.iload_n 2, 1) := by decide +kernel
theorem dX7_isCandidate_6 : decode cX7_isCandidate 6 = .ok (.if_icmp .ne 32, 3) := by decide +kernel
theorem dX7_isCandidate_9 : decode cX7_isCandidate 9 = .ok (.aload_n 0, 1) := by decide +kernel
theorem dX7_isCandidate_10 : decode cX7_isCandidate 10 = .ok (.getfield 9, 3) := by decide +kernel
theorem dX7_isCandidate_13 : decode cX7_isCandidate 13 = .ok (.sipush 231, 3) := by decide +kernel
theorem dX7_isCandidate_16 : decode cX7_isCandidate 16 = .ok (.iload_n 1, 1) := by decide +kernel
theorem dX7_isCandidate_17 : decode cX7_isCandidate 17 = .ok (.iadd, 1) := by decide +kernel
theorem dX7_isCandidate_18 : decode cX7_isCandidate 18 = .ok (.iaload, 1) := by decide +kernel
theorem dX7_isCandidate_19 : decode cX7_isCandidate 19 = .ok (.ifCond .ne 19, 3) := by decide +kernel
theorem dX7_isCandidate_22 : decode cX7_isCandidate 22 = .ok (.aload_n 0, 1) := by decide +kernel
theorem dX7_isCandidate_23 : decode cX7_isCandidate 23 = .ok (.getfield 9, 3) := by decide +kernel
theorem dX7_isCandidate_26 : decode cX7_isCandidate 26 = .ok (.bipush 31, 2) := by decide +kernel
theorem dX7_isCandidate_28 : decode cX7_isCandidate 28 = .ok (.iload_n 1, 1) := by decide +kernel
theorem dX7_isCandidate_29 : decode cX7_isCandidate 29 = .ok (.iadd, 1) := by decide +kernel
theorem dX7_isCandidate_30 : decode cX7_isCandidate 30 = .ok (.iaload, 1) := by decide +kernel
theorem dX7_isCandidate_31 : decode cX7_isCandidate 31 = .ok (.ifCond .ne 7, 3) := by decide +kernel
theorem dX7_isCandidate_34 : decode cX7_isCandidate 34 = .ok (.iconst 1, 1) := by decide +kernel
theorem dX7_isCandidate_35 : decode cX7_isCandidate 35 = .ok (.goto 4, 3) := by decide +kernel
theorem dX7_isCandidate_38 : decode cX7_isCandidate 38 = .ok (.iconst 0, 1) := by decide +kernel
theorem dX7_isCandidate_39 : decode cX7_isCandidate 39 = .ok (.ireturn, 1) := by decide +kernel
theorem dX7_pool__0 : decode cX7_pool_ 0 = .ok (.aload_n 0, 1) := by decide +kernel
theorem dX7_pool__1 : decode cX7_pool_ 1 = .ok (.iconst 0, 1) := by decide +kernel
theorem dX7_pool__2 : decode cX7_pool_ 2 = .ok (.putfield 19, 3) := by decide +kernel
theorem dX7_pool__5 : decode cX7_pool_ 5 = .ok (.aload_n 0, 1) := by decide +kernel
theorem dX7_pool__6 : decode cX7_pool_ 6 = .ok (.iload_n 1, 1) := by decide +kernel
theorem dX7_pool__7 : decode cX7_pool_ 7 = .ok (.invokevirtual 47, 3) := by decide +kernel
theorem dX7_pool__10 : decode cX7_pool_ 10 = .ok (.ifCond .ne 9, 3) := by decide +kernel
theorem dX7_pool__13 : decode cX7_pool_ 13 = .ok (.aload_n 0, 1) := by decide +kernel
theorem dX7_pool__14 : decode cX7_pool_ 14 = .ok (.iconst 1, 1) := by decide +kernel
theorem dX7_pool__15 : decode cX7_pool_ 15 = .ok (.invokevirtual 41, 3) := by decide +kernel
theorem dX7_pool__18 : decode cX7_pool_ 18 = .ok (.ireturn, 1) := by decide +kernel
theorem dX7_pool__19 : decode cX7_pool_ 19 = .ok (.iload_n 2, 1) := by decide +kernel
theorem dX7_pool__20 : decode cX7_pool_ 20 = .ok (.iconst 0, 1) := by decide +kernel
theorem dX7_pool__21 : decode cX7_pool_ 21 = .ok (.iconst 4, 1) := by decide +kernel
theorem dX7_pool__22 : decode cX7_pool_ 22 = .ok (.invokestatic 23, 3) := by decide +kernel
theorem dX7_pool__25 : decode cX7_pool_ 25 = .ok (.ifCond .ne 9, 3) := by decide +kernel
theorem dX7_pool__28 : decode cX7_pool_ 28 = .ok (.aload_n 0, 1) := by decide +kernel
theorem dX7_pool__29 : decode cX7_pool_ 29 = .ok (.iconst 2, 1) := by decide +kernel
theorem dX7_pool__30 : decode cX7_pool_ 30 = .ok (.invokevirtual 41, 3) := by decide +kernel
theorem dX7_pool__33 : decode cX7_pool_ 33 = .ok (.ireturn, 1) := by decide +kernel
theorem dX7_pool__34 : decode cX7_pool_ 34 = .ok (.iload_n 2, 1) := by decide +kernel
theorem dX7_pool__35 : decode cX7_pool_ 35 = .ok (.iconst 4, 1) := by decide +kernel
theorem dX7_pool__36 : decode cX7_pool_ 36 = .ok (.if_icmp .ge 16, 3) := by decide +kernel
theorem dX7_pool__39 : decode cX7_pool_ 39 = .ok (.aload_n 0, 1) := by decide +kernel
theorem dX7_pool__40 : decode cX7_pool_ 40 = .ok (.getfield 9, 3) := by decide +kernel
theorem dX7_pool__43 : decode cX7_pool_ 43 = .ok (.aload_n 0, 1) := by decide +kernel
theorem dX7_pool__44 : decode cX7_pool_ 44 = .ok (.iload_n 1, 1) := by decide +kernel
theorem dX7_pool__45 : decode cX7_pool_ 45 = .ok (.invokevirtual 30, 3) := by decide +kernel
theorem dX7_pool__48 : decode cX7_pool_ 48 = .ok (.iload_n 2, 1) := by decide +kernel
theorem dX7_pool__49 : decode cX7_pool_ 49 = .ok (.iadd, 1) := by decide +kernel
theorem dX7_pool__50 : decode cX7_pool_ 50 = .ok (.iaload, 1) := by decide +kernel
theorem dX7_pool__51 : decode cX7_pool_ 51 = .ok (.ireturn, 1) := by decide +kernel
theorem dX7_pool__52 : decode cX7_pool_ 52 = .ok (.iconst 0, 1) := by decide +kernel
theorem dX7_pool__53 : decode cX7_pool_ 53 = .ok (.istore_n 3, 1) := by decide +kernel
theorem dX7_pool__54 : decode cX7_pool_ 54 = .ok (.aload_n 0, 1) := by decide +kernel
theorem dX7_pool__55 : decode cX7_pool_ 55 = .ok (.getfield 9, 3) := by decide +kernel
theorem dX7_pool__58 : decode cX7_pool_ 58 = .ok (.aload_n 0, 1) := by decide +kernel
theorem dX7_pool__59 : decode cX7_pool_ 59 = .ok (.iload_n 1, 1) := by decide +kernel
theorem dX7_pool__60 : decode cX7_pool_ 60 = .ok (.invokevirtual 30, 3) := by decide +kernel
theorem dX7_pool__63 : decode cX7_pool_ 63 = .ok (.iconst 1, 1) := by decide +kernel
theorem dX7_pool__64 : decode cX7_pool_ 64 = .ok (.iadd, 1) := by decide +kernel
theorem dX7_pool__65 : decode cX7_pool_ 65 = .ok (.iaload, 1) := by decide +kernel
theorem dX7_pool__66 : decode cX7_pool_ 66 = .ok (.istore 4, 2) := by decide +kernel
theorem dX7_pool__68 : decode cX7_pool_ 68 = .ok (.iload 4, 2) := by decide +kernel
theorem dX7_pool__70 : decode cX7_pool_ 70 = .ok (.aload_n 0, 1) := by decide +kernel
theorem dX7_pool__71 : decode cX7_pool_ 71 = .ok (.getfield 9, 3) := by decide +kernel
theorem dX7_pool__74 : decode cX7_pool_ 74 = .ok (.aload_n 0, 1) := by decide +kernel
theorem dX7_pool__75 : decode cX7_pool_ 75 = .ok (.iload_n 1, 1) := by decide +kernel
theorem dX7_pool__76 : decode cX7_pool_ 76 = .ok (.invokevirtual 30, 3) := by decide +kernel
theorem dX7_pool__79 : decode cX7_pool_ 79 = .ok (.iconst 2, 1) := by decide +kernel
theorem dX7_pool__80 : decode cX7_pool_ 80 = .ok (.iadd, 1) := by decide +kernel
theorem dX7_pool__81 : decode cX7_pool_ 81 = .ok (.iaload, 1) := by decide +kernel
theorem dX7_pool__82 : decode cX7_pool_ 82 = .ok (.if_icmp .gt 31, 3) := by decide +kernel
theorem dX7_pool__85 : decode cX7_pool_ 85 = .ok (.aload_n 0, 1) := by decide +kernel
theorem dX7_pool__86 : decode cX7_pool_ 86 = .ok (.iload 4, 2) := by decide +kernel
theorem dX7_pool__88 : decode cX7_pool_ 88 = .ok (.aload_n 0, 1) := by decide +kernel
theorem dX7_pool__89 : decode cX7_pool_ 89 = .ok (.getfield 9, 3) := by decide +kernel
theorem dX7_pool__92 : decode cX7_pool_ 92 = .ok (.aload_n 0, 1) := by decide +kernel
theorem dX7_pool__93 : decode cX7_pool_ 93 = .ok (.iload_n 1, 1) := by decide +kernel
theorem dX7_pool__94 : decode cX7_pool_ 94 = .ok (.invokevirtual 30, 3) := by decide +kernel
theorem dX7_pool__97 : decode cX7_pool_ 97 = .ok (.iaload, 1) := by decide +kernel
theorem dX7_pool__98 : decode cX7_pool_ 98 = .ok (.invokevirtual 53, 3) := by decide +kernel
theorem dX7_pool__101 : decode cX7_pool_ 101 = .ok (.ifCond .eq 6, 3) := by decide +kernel
theorem dX7_pool__104 : decode cX7_pool_ 104 = .ok (.iinc 3 1, 3) := by decide +kernel
theorem dX7_pool__107 : decode cX7_pool_ 107 = .ok (.iinc 4 1, 3) := by decide +kernel
theorem dX7_pool__110 : decode cX7_pool_ 110 = .ok (.goto (-42), 3) := by decide +kernel
theorem dX7_pool__113 : decode cX7_pool_ 113 = .ok (.iload_n 3, 1) := by decide +kernel
theorem dX7_pool__114 : decode cX7_pool_ 114 = .ok (.ireturn, 1) := by decide +kernel
theorem dX7_poolOf_0 : decode cX7_poolOf 0 = .ok (.aload_n 0, 1) := by decide +kernel
theorem dX7_poolOf_1 : decode cX7_poolOf 1 = .ok (.iconst 0, 1) := by decide +kernel
theorem dX7_poolOf_2 : decode cX7_poolOf 2 = .ok (.putfield 19, 3) := by decide +kernel
theorem dX7_poolOf_5 : decode cX7_poolOf 5 = .ok (.iload_n 1, 1) := by decide +kernel
theorem dX7_poolOf_6 : decode cX7_poolOf 6 = .ok (.invokestatic 44, 3) := by decide +kernel
theorem dX7_poolOf_9 : decode cX7_poolOf 9 = .ok (.ifCond .ne 9, 3) := by decide +kernel
theorem dX7_poolOf_12 : decode cX7_poolOf 12 = .ok (.aload_n 0, 1) := by decide +kernel
theorem dX7_poolOf_13 : decode cX7_poolOf 13 = .ok (.iconst 1, 1) := by decide +kernel
theorem dX7_poolOf_14 : decode cX7_poolOf 14 = .ok (.invokevirtual 41, 3) := by decide +kernel
theorem dX7_poolOf_17 : decode cX7_poolOf 17 = .ok (.ireturn, 1) := by decide +kernel
theorem dX7_poolOf_18 : decode cX7_poolOf 18 = .ok (.aload_n 0, 1) := by decide +kernel
theorem dX7_poolOf_19 : decode cX7_poolOf 19 = .ok (.iload_n 1, 1) := by decide +kernel
theorem dX7_poolOf_20 : decode cX7_poolOf 20 = .ok (.invokevirtual 34, 3) := by decide +kernel
theorem dX7_poolOf_23 : decode cX7_poolOf 23 = .ok (.ifCond .ge 11, 3) := by decide +kernel
theorem dX7_poolOf_26 : decode cX7_poolOf 26 = .ok (.aload_n 0, 1) := by decide +kernel
theorem dX7_poolOf_27 : decode cX7_poolOf 27 = .ok (.iconst 2, 1) := by decide +kernel
theorem dX7_poolOf_28 : decode cX7_poolOf 28 = .ok (.invokevirtual 41, 3) := by decide +kernel
theorem dX7_poolOf_31 : decode cX7_poolOf 31 = .ok (.goto 8, 3) := by decide +kernel
theorem dX7_poolOf_34 : decode cX7_poolOf 34 = .ok (.aload_n 0, 1) := by decide +kernel
theorem dX7_poolOf_35 : decode cX7_poolOf 35 = .ok (.iload_n 1, 1) := by decide +kernel
theorem dX7_poolOf_36 : decode cX7_poolOf 36 = .ok (.invokevirtual 34, 3) := by decide +kernel
theorem dX7_poolOf_39 : decode cX7_poolOf 39 = .ok (.ireturn, 1) := by decide +kernel
theorem dX7_flips_0 : decode cX7_flips 0 = .ok (.aload_n 0, 1) := by decide +kernel
theorem dX7_flips_1 : decode cX7_flips 1 = .ok (.iload_n 1, 1) := by decide +kernel
theorem dX7_flips_2 : decode cX7_flips 2 = .ok (.ifCond .eq 7, 3) := by decide +kernel
theorem dX7_flips_5 : decode cX7_flips 5 = .ok (.iconst 0, 1) := by decide +kernel
theorem dX7_flips_6 : decode cX7_flips 6 = .ok (.goto 4, 3) := by decide +kernel
theorem dX7_flips_9 : decode cX7_flips 9 = .ok (.iconst 1, 1) := by decide +kernel
theorem dX7_flips_10 : decode cX7_flips 10 = .ok (.putfield 19, 3) := by decide +kernel
theorem dX7_flips_13 : decode cX7_flips 13 = .ok (.iload_n 1, 1) := by decide +kernel
theorem dX7_flips_14 : decode cX7_flips 14 = .ok (.ifCond .eq 25, 3) := by decide +kernel
theorem dX7_flips_17 : decode cX7_flips 17 = .ok (.aload_n 0, 1) := by decide +kernel
theorem dX7_flips_18 : decode cX7_flips 18 = .ok (.iload_n 2, 1) := by decide +kernel
theorem dX7_flips_19 : decode cX7_flips 19 = .ok (.iload_n 3, 1) := by decide +kernel
theorem dX7_flips_20 : decode cX7_flips 20 = .ok (.ifCond .eq 7, 3) := by decide +kernel
theorem dX7_flips_23 : decode cX7_flips 23 = .ok (.iconst 1, 1) := by decide +kernel
theorem dX7_flips_24 : decode cX7_flips 24 = .ok (.goto 4, 3) := by decide +kernel
theorem dX7_flips_27 : decode cX7_flips 27 = .ok (.iconst 0, 1) := by decide +kernel
theorem dX7_flips_28 : decode cX7_flips 28 = .ok (.invokevirtual 57, 3) := by decide +kernel
theorem dX7_flips_31 : decode cX7_flips 31 = .ok (.iconst 1, 1) := by decide +kernel
theorem dX7_flips_32 : decode cX7_flips 32 = .ok (.if_icmp .ne 7, 3) := by decide +kernel
theorem dX7_flips_35 : decode cX7_flips 35 = .ok (.iconst 1, 1) := by decide +kernel
theorem dX7_flips_36 : decode cX7_flips 36 = .ok (.goto 4, 3) := by decide +kernel
theorem dX7_flips_39 : decode cX7_flips 39 = .ok (.iconst 0, 1) := by decide +kernel
theorem dX7_flips_40 : decode cX7_flips 40 = .ok (.ireturn, 1) := by decide +kernel
theorem dX7_exclude_0 : decode cX7_exclude 0 = .ok (.aload_n 0, 1) := by decide +kernel
theorem dX7_exclude_1 : decode cX7_exclude 1 = .ok (.iload_n 1, 1) := by decide +kernel
theorem dX7_exclude_2 : decode cX7_exclude 2 = .ok (.invokestatic 44, 3) := by decide +kernel
theorem dX7_exclude_5 : decode cX7_exclude 5 = .ok (.bipush 31, 2) := by decide +kernel
theorem dX7_exclude_7 : decode cX7_exclude 7 = .ok (.iload_n 1, 1) := by decide +kernel
theorem dX7_exclude_8 : decode cX7_exclude 8 = .ok (.iadd, 1) := by decide +kernel
theorem dX7_exclude_9 : decode cX7_exclude 9 = .ok (.iload_n 2, 1) := by decide +kernel
theorem dX7_exclude_10 : decode cX7_exclude 10 = .ok (.invokevirtual 61, 3) := by decide +kernel
theorem dX7_exclude_13 : decode cX7_exclude 13 = .ok (.ireturn, 1) := by decide +kernel
theorem dX7_setStranger_0 : decode cX7_setStranger 0 = .ok (.aload_n 0, 1) := by decide +kernel
theorem dX7_setStranger_1 : decode cX7_setStranger 1 = .ok (.iload_n 1, 1) := by decide +kernel
theorem dX7_setStranger_2 : decode cX7_setStranger 2 = .ok (.invokestatic 44, 3) := by decide +kernel
theorem dX7_setStranger_5 : decode cX7_setStranger 5 = .ok (.sipush 131, 3) := by decide +kernel
theorem dX7_setStranger_8 : decode cX7_setStranger 8 = .ok (.iload_n 1, 1) := by decide +kernel
theorem dX7_setStranger_9 : decode cX7_setStranger 9 = .ok (.iadd, 1) := by decide +kernel
theorem dX7_setStranger_10 : decode cX7_setStranger 10 = .ok (.iload_n 2, 1) := by decide +kernel
theorem dX7_setStranger_11 : decode cX7_setStranger 11 = .ok (.invokevirtual 61, 3) := by decide +kernel
theorem dX7_setStranger_14 : decode cX7_setStranger 14 = .ok (.ireturn, 1) := by decide +kernel
theorem dX7_setHold_0 : decode cX7_setHold 0 = .ok (.aload_n 0, 1) := by decide +kernel
theorem dX7_setHold_1 : decode cX7_setHold 1 = .ok (.iconst 0, 1) := by decide +kernel
theorem dX7_setHold_2 : decode cX7_setHold 2 = .ok (.putfield 19, 3) := by decide +kernel
theorem dX7_setHold_5 : decode cX7_setHold 5 = .ok (.iload_n 1, 1) := by decide +kernel
theorem dX7_setHold_6 : decode cX7_setHold 6 = .ok (.iconst 1, 1) := by decide +kernel
theorem dX7_setHold_7 : decode cX7_setHold 7 = .ok (.bipush 50, 2) := by decide +kernel
theorem dX7_setHold_9 : decode cX7_setHold 9 = .ok (.invokestatic 23, 3) := by decide +kernel
theorem dX7_setHold_12 : decode cX7_setHold 12 = .ok (.ifCond .eq 12, 3) := by decide +kernel
theorem dX7_setHold_15 : decode cX7_setHold 15 = .ok (.aload_n 0, 1) := by decide +kernel
theorem dX7_setHold_16 : decode cX7_setHold 16 = .ok (.iconst 1, 1) := by decide +kernel
theorem dX7_setHold_17 : decode cX7_setHold 17 = .ok (.iload_n 1, 1) := by decide +kernel
theorem dX7_setHold_18 : decode cX7_setHold 18 = .ok (.invokevirtual 57, 3) := by decide +kernel
theorem dX7_setHold_21 : decode cX7_setHold 21 = .ok (.goto 8, 3) := by decide +kernel
theorem dX7_setHold_24 : decode cX7_setHold 24 = .ok (.aload_n 0, 1) := by decide +kernel
theorem dX7_setHold_25 : decode cX7_setHold 25 = .ok (.iconst 1, 1) := by decide +kernel
theorem dX7_setHold_26 : decode cX7_setHold 26 = .ok (.invokevirtual 41, 3) := by decide +kernel
theorem dX7_setHold_29 : decode cX7_setHold 29 = .ok (.ireturn, 1) := by decide +kernel
theorem dX7_setQuarantine_0 : decode cX7_setQuarantine 0 = .ok (.aload_n 0, 1) := by decide +kernel
theorem dX7_setQuarantine_1 : decode cX7_setQuarantine 1 = .ok (.iconst 0, 1) := by decide +kernel
theorem dX7_setQuarantine_2 : decode cX7_setQuarantine 2 = .ok (.putfield 19, 3) := by decide +kernel
theorem dX7_setQuarantine_5 : decode cX7_setQuarantine 5 = .ok (.iload_n 1, 1) := by decide +kernel
theorem dX7_setQuarantine_6 : decode cX7_setQuarantine 6 = .ok (.iconst 1, 1) := by decide +kernel
theorem dX7_setQuarantine_7 : decode cX7_setQuarantine 7 = .ok (.sipush 500, 3) := by decide +kernel
theorem dX7_setQuarantine_10 : decode cX7_setQuarantine 10 = .ok (.invokestatic 23, 3) := by decide +kernel
theorem dX7_setQuarantine_13 : decode cX7_setQuarantine 13 = .ok (.ifCond .eq 12, 3) := by decide +kernel
theorem dX7_setQuarantine_16 : decode cX7_setQuarantine 16 = .ok (.aload_n 0, 1) := by decide +kernel
theorem dX7_setQuarantine_17 : decode cX7_setQuarantine 17 = .ok (.iconst 2, 1) := by decide +kernel
theorem dX7_setQuarantine_18 : decode cX7_setQuarantine 18 = .ok (.iload_n 1, 1) := by decide +kernel
theorem dX7_setQuarantine_19 : decode cX7_setQuarantine 19 = .ok (.invokevirtual 57, 3) := by decide +kernel
theorem dX7_setQuarantine_22 : decode cX7_setQuarantine 22 = .ok (.goto 8, 3) := by decide +kernel
theorem dX7_setQuarantine_25 : decode cX7_setQuarantine 25 = .ok (.aload_n 0, 1) := by decide +kernel
theorem dX7_setQuarantine_26 : decode cX7_setQuarantine 26 = .ok (.iconst 1, 1) := by decide +kernel
theorem dX7_setQuarantine_27 : decode cX7_setQuarantine 27 = .ok (.invokevirtual 41, 3) := by decide +kernel
theorem dX7_setQuarantine_30 : decode cX7_setQuarantine 30 = .ok (.ireturn, 1) := by decide +kernel
theorem dX7_setDirect_0 : decode cX7_setDirect 0 = .ok (.aload_n 0, 1) := by decide +kernel
theorem dX7_setDirect_1 : decode cX7_setDirect 1 = .ok (.iload_n 1, 1) := by decide +kernel
theorem dX7_setDirect_2 : decode cX7_setDirect 2 = .ok (.invokestatic 37, 3) := by decide +kernel
theorem dX7_setDirect_5 : decode cX7_setDirect 5 = .ok (.bipush 25, 2) := by decide +kernel
theorem dX7_setDirect_7 : decode cX7_setDirect 7 = .ok (.iload_n 1, 1) := by decide +kernel
theorem dX7_setDirect_8 : decode cX7_setDirect 8 = .ok (.iadd, 1) := by decide +kernel
theorem dX7_setDirect_9 : decode cX7_setDirect 9 = .ok (.iload_n 2, 1) := by decide +kernel
theorem dX7_setDirect_10 : decode cX7_setDirect 10 = .ok (.invokevirtual 61, 3) := by decide +kernel
theorem dX7_setDirect_13 : decode cX7_setDirect 13 = .ok (.ireturn, 1) := by decide +kernel
theorem dX7_setRelay_0 : decode cX7_setRelay 0 = .ok (.aload_n 0, 1) := by decide +kernel
theorem dX7_setRelay_1 : decode cX7_setRelay 1 = .ok (.iload_n 1, 1) := by decide +kernel
theorem dX7_setRelay_2 : decode cX7_setRelay 2 = .ok (.invokestatic 37, 3) := by decide +kernel
theorem dX7_setRelay_5 : decode cX7_setRelay 5 = .ok (.bipush 28, 2) := by decide +kernel
theorem dX7_setRelay_7 : decode cX7_setRelay 7 = .ok (.iload_n 1, 1) := by decide +kernel
theorem dX7_setRelay_8 : decode cX7_setRelay 8 = .ok (.iadd, 1) := by decide +kernel
theorem dX7_setRelay_9 : decode cX7_setRelay 9 = .ok (.iload_n 2, 1) := by decide +kernel
theorem dX7_setRelay_10 : decode cX7_setRelay 10 = .ok (.invokevirtual 61, 3) := by decide +kernel
theorem dX7_setRelay_13 : decode cX7_setRelay 13 = .ok (.ireturn, 1) := by decide +kernel
theorem dX7_frees_0 : decode cX7_frees 0 = .ok (.aload_n 0, 1) := by decide +kernel
theorem dX7_frees_1 : decode cX7_frees 1 = .ok (.getfield 9, 3) := by decide +kernel
theorem dX7_frees_4 : decode cX7_frees 4 = .ok (.sipush 231, 3) := by decide +kernel
theorem dX7_frees_7 : decode cX7_frees 7 = .ok (.iload_n 1, 1) := by decide +kernel
theorem dX7_frees_8 : decode cX7_frees 8 = .ok (.iadd, 1) := by decide +kernel
theorem dX7_frees_9 : decode cX7_frees 9 = .ok (.iconst 0, 1) := by decide +kernel
theorem dX7_frees_10 : decode cX7_frees 10 = .ok (.iastore, 1) := by decide +kernel
theorem dX7_frees_11 : decode cX7_frees 11 = .ok (.aload_n 0, 1) := by decide +kernel
theorem dX7_frees_12 : decode cX7_frees 12 = .ok (.getfield 9, 3) := by decide +kernel
theorem dX7_frees_15 : decode cX7_frees 15 = .ok (.sipush 531, 3) := by decide +kernel
theorem dX7_frees_18 : decode cX7_frees 18 = .ok (.iload_n 1, 1) := by decide +kernel
theorem dX7_frees_19 : decode cX7_frees 19 = .ok (.iadd, 1) := by decide +kernel
theorem dX7_frees_20 : decode cX7_frees 20 = .ok (.iload_n 2, 1) := by decide +kernel
theorem dX7_frees_21 : decode cX7_frees 21 = .ok (.iastore, 1) := by decide +kernel
theorem dX7_frees_22 : decode cX7_frees 22 = .ok (.return_, 1) := by decide +kernel
theorem dX7_declines_0 : decode cX7_declines 0 = .ok (.aload_n 0, 1) := by decide +kernel
theorem dX7_declines_1 : decode cX7_declines 1 = .ok (.getfield 9, 3) := by decide +kernel
theorem dX7_declines_4 : decode cX7_declines 4 = .ok (.sipush 231, 3) := by decide +kernel
theorem dX7_declines_7 : decode cX7_declines 7 = .ok (.iload_n 1, 1) := by decide +kernel
theorem dX7_declines_8 : decode cX7_declines 8 = .ok (.iadd, 1) := by decide +kernel
theorem dX7_declines_9 : decode cX7_declines 9 = .ok (.iconst 3, 1) := by decide +kernel
theorem dX7_declines_10 : decode cX7_declines 10 = .ok (.iastore, 1) := by decide +kernel
theorem dX7_declines_11 : decode cX7_declines 11 = .ok (.aload_n 0, 1) := by decide +kernel
theorem dX7_declines_12 : decode cX7_declines 12 = .ok (.getfield 9, 3) := by decide +kernel
theorem dX7_declines_15 : decode cX7_declines 15 = .ok (.sipush 431, 3) := by decide +kernel
theorem dX7_declines_18 : decode cX7_declines 18 = .ok (.iload_n 1, 1) := by decide +kernel
theorem dX7_declines_19 : decode cX7_declines 19 = .ok (.iadd, 1) := by decide +kernel
theorem dX7_declines_20 : decode cX7_declines 20 = .ok (.aload_n 0, 1) := by decide +kernel
theorem dX7_declines_21 : decode cX7_declines 21 = .ok (.getfield 9, 3) := by decide +kernel
theorem dX7_declines_24 : decode cX7_declines 24 = .ok (.iconst 0, 1) := by decide +kernel
theorem dX7_declines_25 : decode cX7_declines 25 = .ok (.iaload, 1) := by decide +kernel
theorem dX7_declines_26 : decode cX7_declines 26 = .ok (.aload_n 0, 1) := by decide +kernel
theorem dX7_declines_27 : decode cX7_declines 27 = .ok (.getfield 9, 3) := by decide +kernel
theorem dX7_declines_30 : decode cX7_declines 30 = .ok (.iconst 2, 1) := by decide +kernel
theorem dX7_declines_31 : decode cX7_declines 31 = .ok (.iaload, 1) := by decide +kernel
theorem dX7_declines_32 : decode cX7_declines 32 = .ok (.iadd, 1) := by decide +kernel
theorem dX7_declines_33 : decode cX7_declines 33 = .ok (.iastore, 1) := by decide +kernel
theorem dX7_declines_34 : decode cX7_declines 34 = .ok (.return_, 1) := by decide +kernel
theorem dX7_isBound_0 : decode cX7_isBound 0 = .ok (.aload_n 0, 1) := by decide +kernel
theorem dX7_isBound_1 : decode cX7_isBound 1 = .ok (.getfield 9, 3) := by decide +kernel
theorem dX7_isBound_4 : decode cX7_isBound 4 = .ok (.sipush 631, 3) := by decide +kernel
theorem dX7_isBound_7 : decode cX7_isBound 7 = .ok (.iload_n 1, 1) := by decide +kernel
theorem dX7_isBound_8 : decode cX7_isBound 8 = .ok (.iadd, 1) := by decide +kernel
theorem dX7_isBound_9 : decode cX7_isBound 9 = .ok (.iaload, 1) := by decide +kernel
theorem dX7_isBound_10 : decode cX7_isBound 10 = .ok (.iconst 1, 1) := by decide +kernel
theorem dX7_isBound_11 : decode cX7_isBound 11 = .ok (.if_icmp .le 7, 3) := by decide +kernel
theorem dX7_isBound_14 : decode cX7_isBound 14 = .ok (.iconst 1, 1) := by decide +kernel
theorem dX7_isBound_15 : decode cX7_isBound 15 = .ok (.goto 4, 3) := by decide +kernel
theorem dX7_isBound_18 : decode cX7_isBound 18 = .ok (.iconst 0, 1) := by decide +kernel
theorem dX7_isBound_19 : decode cX7_isBound 19 = .ok (.ireturn, 1) := by decide +kernel
theorem dX7_candidate_0 : decode cX7_candidate 0 = .ok (.aload_n 0, 1) := by decide +kernel
theorem dX7_candidate_1 : decode cX7_candidate 1 = .ok (.getfield 9, 3) := by decide +kernel
theorem dX7_candidate_4 : decode cX7_candidate 4 = .ok (.sipush 711, 3) := by decide +kernel
theorem dX7_candidate_7 : decode cX7_candidate 7 = .ok (.iload_n 1, 1) := by decide +kernel
theorem dX7_candidate_8 : decode cX7_candidate 8 = .ok (.iadd, 1) := by decide +kernel
theorem dX7_candidate_9 : decode cX7_candidate 9 = .ok (.iaload, 1) := by decide +kernel
theorem dX7_candidate_10 : decode cX7_candidate 10 = .ok (.iconst 1, 1) := by decide +kernel
theorem dX7_candidate_11 : decode cX7_candidate 11 = .ok (.isub, 1) := by decide +kernel
theorem dX7_candidate_12 : decode cX7_candidate 12 = .ok (.istore 4, 2) := by decide +kernel
theorem dX7_candidate_14 : decode cX7_candidate 14 = .ok (.iload 4, 2) := by decide +kernel
theorem dX7_candidate_16 : decode cX7_candidate 16 = .ok (.ifCond .lt 16, 3) := by decide +kernel
theorem dX7_candidate_19 : decode cX7_candidate 19 = .ok (.aload_n 0, 1) := by decide +kernel
theorem dX7_candidate_20 : decode cX7_candidate 20 = .ok (.iload 4, 2) := by decide +kernel
theorem dX7_candidate_22 : decode cX7_candidate 22 = .ok (.iload_n 2, 1) := by decide +kernel
theorem dX7_candidate_23 : decode cX7_candidate 23 = .ok (.invokevirtual 53, 3) := by decide +kernel
theorem dX7_candidate_26 : decode cX7_candidate 26 = .ok (.ifCond .eq 6, 3) := by decide +kernel
theorem dX7_candidate_29 : decode cX7_candidate 29 = .ok (.iload 4, 2) := by decide +kernel
theorem dX7_candidate_31 : decode cX7_candidate 31 = .ok (.ireturn, 1) := by decide +kernel
theorem dX7_candidate_32 : decode cX7_candidate 32 = .ok (.iload_n 3, 1) := by decide +kernel
theorem dX7_candidate_33 : decode cX7_candidate 33 = .ok (.invokestatic 44, 3) := by decide +kernel
theorem dX7_candidate_36 : decode cX7_candidate 36 = .ok (.ifCond .eq 14, 3) := by decide +kernel
theorem dX7_candidate_39 : decode cX7_candidate 39 = .ok (.aload_n 0, 1) := by decide +kernel
theorem dX7_candidate_40 : decode cX7_candidate 40 = .ok (.iload_n 3, 1) := by decide +kernel
theorem dX7_candidate_41 : decode cX7_candidate 41 = .ok (.iload_n 2, 1) := by decide +kernel
theorem dX7_candidate_42 : decode cX7_candidate 42 = .ok (.invokevirtual 53, 3) := by decide +kernel
theorem dX7_candidate_45 : decode cX7_candidate 45 = .ok (.ifCond .eq 5, 3) := by decide +kernel
theorem dX7_candidate_48 : decode cX7_candidate 48 = .ok (.iload_n 3, 1) := by decide +kernel
theorem dX7_candidate_49 : decode cX7_candidate 49 = .ok (.ireturn, 1) := by decide +kernel
theorem dX7_candidate_50 : decode cX7_candidate 50 = .ok (.iconst (-1), 1) := by decide +kernel
theorem dX7_candidate_51 : decode cX7_candidate 51 = .ok (.istore 5, 2) := by decide +kernel
theorem dX7_candidate_53 : decode cX7_candidate 53 = .ok (.iconst 0, 1) := by decide +kernel
theorem dX7_candidate_54 : decode cX7_candidate 54 = .ok (.istore 6, 2) := by decide +kernel
theorem dX7_candidate_56 : decode cX7_candidate 56 = .ok (.iload 6, 2) := by decide +kernel
theorem dX7_candidate_58 : decode cX7_candidate 58 = .ok (.bipush 100, 2) := by decide +kernel
theorem dX7_candidate_60 : decode cX7_candidate 60 = .ok (.if_icmp .ge 53, 3) := by decide +kernel
theorem dX7_candidate_63 : decode cX7_candidate 63 = .ok (.aload_n 0, 1) := by decide +kernel
theorem dX7_candidate_64 : decode cX7_candidate 64 = .ok (.iload 6, 2) := by decide +kernel
theorem dX7_candidate_66 : decode cX7_candidate 66 = .ok (.iload_n 2, 1) := by decide +kernel
theorem dX7_candidate_67 : decode cX7_candidate 67 = .ok (.invokevirtual 53, 3) := by decide +kernel
theorem dX7_candidate_70 : decode cX7_candidate 70 = .ok (.ifCond .eq 37, 3) := by decide +kernel
theorem dX7_candidate_73 : decode cX7_candidate 73 = .ok (.iload 5, 2) := by decide +kernel
theorem dX7_candidate_75 : decode cX7_candidate 75 = .ok (.ifCond .lt 28, 3) := by decide +kernel
theorem dX7_candidate_78 : decode cX7_candidate 78 = .ok (.aload_n 0, 1) := by decide +kernel
theorem dX7_candidate_79 : decode cX7_candidate 79 = .ok (.getfield 9, 3) := by decide +kernel
theorem dX7_candidate_82 : decode cX7_candidate 82 = .ok (.sipush 531, 3) := by decide +kernel
theorem dX7_candidate_85 : decode cX7_candidate 85 = .ok (.iload 6, 2) := by decide +kernel
theorem dX7_candidate_87 : decode cX7_candidate 87 = .ok (.iadd, 1) := by decide +kernel
theorem dX7_candidate_88 : decode cX7_candidate 88 = .ok (.iaload, 1) := by decide +kernel
theorem dX7_candidate_89 : decode cX7_candidate 89 = .ok (.aload_n 0, 1) := by decide +kernel
theorem dX7_candidate_90 : decode cX7_candidate 90 = .ok (.getfield 9, 3) := by decide +kernel
theorem dX7_candidate_93 : decode cX7_candidate 93 = .ok (.sipush 531, 3) := by decide +kernel
theorem dX7_candidate_96 : decode cX7_candidate 96 = .ok (.iload 5, 2) := by decide +kernel
theorem dX7_candidate_98 : decode cX7_candidate 98 = .ok (.iadd, 1) := by decide +kernel
theorem dX7_candidate_99 : decode cX7_candidate 99 = .ok (.iaload, 1) := by decide +kernel
theorem dX7_candidate_100 : decode cX7_candidate 100 = .ok (.if_icmp .ge 7, 3) := by decide +kernel
theorem dX7_candidate_103 : decode cX7_candidate 103 = .ok (.iload 6, 2) := by decide +kernel
theorem dX7_candidate_105 : decode cX7_candidate 105 = .ok (.istore 5, 2) := by decide +kernel
theorem dX7_candidate_107 : decode cX7_candidate 107 = .ok (.iinc 6 1, 3) := by decide +kernel
theorem dX7_candidate_110 : decode cX7_candidate 110 = .ok (.goto (-54), 3) := by decide +kernel
theorem dX7_candidate_113 : decode cX7_candidate 113 = .ok (.iload 5, 2) := by decide +kernel
theorem dX7_candidate_115 : decode cX7_candidate 115 = .ok (.ireturn, 1) := by decide +kernel
theorem dX7_discover_0 : decode cX7_discover 0 = .ok (.aload_n 0, 1) := by decide +kernel
theorem dX7_discover_1 : decode cX7_discover 1 = .ok (.iconst 0, 1) := by decide +kernel
theorem dX7_discover_2 : decode cX7_discover 2 = .ok (.putfield 19, 3) := by decide +kernel
theorem dX7_discover_5 : decode cX7_discover 5 = .ok (.iload_n 1, 1) := by decide +kernel
theorem dX7_discover_6 : decode cX7_discover 6 = .ok (.invokestatic 65, 3) := by decide +kernel
theorem dX7_discover_9 : decode cX7_discover 9 = .ok (.ifCond .eq 10, 3) := by decide +kernel
theorem dX7_discover_12 : decode cX7_discover 12 = .ok (.iload_n 2, 1) := by decide +kernel
theorem dX7_discover_13 : decode cX7_discover 13 = .ok (.invokestatic 37, 3) := by decide +kernel
theorem dX7_discover_16 : decode cX7_discover 16 = .ok (.ifCond .ne 9, 3) := by decide +kernel
theorem dX7_discover_19 : decode cX7_discover 19 = .ok (.aload_n 0, 1) := by decide +kernel
theorem dX7_discover_20 : decode cX7_discover 20 = .ok (.iconst 1, 1) := by decide +kernel
theorem dX7_discover_21 : decode cX7_discover 21 = .ok (.invokevirtual 41, 3) := by decide +kernel
theorem dX7_discover_24 : decode cX7_discover 24 = .ok (.ireturn, 1) := by decide +kernel
theorem dX7_discover_25 : decode cX7_discover 25 = .ok (.aload_n 0, 1) := by decide +kernel
theorem dX7_discover_26 : decode cX7_discover 26 = .ok (.iload_n 1, 1) := by decide +kernel
theorem dX7_discover_27 : decode cX7_discover 27 = .ok (.invokevirtual 68, 3) := by decide +kernel
theorem dX7_discover_30 : decode cX7_discover 30 = .ok (.ifCond .ne 15, 3) := by decide +kernel
theorem dX7_discover_33 : decode cX7_discover 33 = .ok (.aload_n 0, 1) := by decide +kernel
theorem dX7_discover_34 : decode cX7_discover 34 = .ok (.getfield 9, 3) := by decide +kernel
theorem dX7_discover_37 : decode cX7_discover 37 = .ok (.bipush 28, 2) := by decide +kernel
theorem dX7_discover_39 : decode cX7_discover 39 = .ok (.iload_n 2, 1) := by decide +kernel
theorem dX7_discover_40 : decode cX7_discover 40 = .ok (.iadd, 1) := by decide +kernel
theorem dX7_discover_41 : decode cX7_discover 41 = .ok (.iaload, 1) := by decide +kernel
theorem dX7_discover_42 : decode cX7_discover 42 = .ok (.ifCond .ne 9, 3) := by decide +kernel
theorem dX7_discover_45 : decode cX7_discover 45 = .ok (.aload_n 0, 1) := by decide +kernel
theorem dX7_discover_46 : decode cX7_discover 46 = .ok (.iconst 2, 1) := by decide +kernel
theorem dX7_discover_47 : decode cX7_discover 47 = .ok (.invokevirtual 41, 3) := by decide +kernel
theorem dX7_discover_50 : decode cX7_discover 50 = .ok (.ireturn, 1) := by decide +kernel
theorem dX7_discover_51 : decode cX7_discover 51 = .ok (.aload_n 0, 1) := by decide +kernel
theorem dX7_discover_52 : decode cX7_discover 52 = .ok (.getfield 9, 3) := by decide +kernel
theorem dX7_discover_55 : decode cX7_discover 55 = .ok (.sipush 631, 3) := by decide +kernel
theorem dX7_discover_58 : decode cX7_discover 58 = .ok (.iload_n 1, 1) := by decide +kernel
theorem dX7_discover_59 : decode cX7_discover 59 = .ok (.iadd, 1) := by decide +kernel
theorem dX7_discover_60 : decode cX7_discover 60 = .ok (.iaload, 1) := by decide +kernel
theorem dX7_discover_61 : decode cX7_discover 61 = .ok (.iconst 1, 1) := by decide +kernel
theorem dX7_discover_62 : decode cX7_discover 62 = .ok (.if_icmp .ne 23, 3) := by decide +kernel
theorem dX7_discover_65 : decode cX7_discover 65 = .ok (.aload_n 0, 1) := by decide +kernel
theorem dX7_discover_66 : decode cX7_discover 66 = .ok (.aload_n 0, 1) := by decide +kernel
theorem dX7_discover_67 : decode cX7_discover 67 = .ok (.getfield 9, 3) := by decide +kernel
theorem dX7_discover_70 : decode cX7_discover 70 = .ok (.sipush 651, 3) := by decide +kernel
theorem dX7_discover_73 : decode cX7_discover 73 = .ok (.iload_n 1, 1) := by decide +kernel
theorem dX7_discover_74 : decode cX7_discover 74 = .ok (.iadd, 1) := by decide +kernel
theorem dX7_discover_75 : decode cX7_discover 75 = .ok (.iaload, 1) := by decide +kernel
theorem dX7_discover_76 : decode cX7_discover 76 = .ok (.aload_n 0, 1) := by decide +kernel
theorem dX7_discover_77 : decode cX7_discover 77 = .ok (.getfield 9, 3) := by decide +kernel
theorem dX7_discover_80 : decode cX7_discover 80 = .ok (.iconst 0, 1) := by decide +kernel
theorem dX7_discover_81 : decode cX7_discover 81 = .ok (.iaload, 1) := by decide +kernel
theorem dX7_discover_82 : decode cX7_discover 82 = .ok (.invokevirtual 71, 3) := by decide +kernel
theorem dX7_discover_85 : decode cX7_discover 85 = .ok (.aload_n 0, 1) := by decide +kernel
theorem dX7_discover_86 : decode cX7_discover 86 = .ok (.getfield 9, 3) := by decide +kernel
theorem dX7_discover_89 : decode cX7_discover 89 = .ok (.sipush 631, 3) := by decide +kernel
theorem dX7_discover_92 : decode cX7_discover 92 = .ok (.iload_n 1, 1) := by decide +kernel
theorem dX7_discover_93 : decode cX7_discover 93 = .ok (.iadd, 1) := by decide +kernel
theorem dX7_discover_94 : decode cX7_discover 94 = .ok (.iconst 0, 1) := by decide +kernel
theorem dX7_discover_95 : decode cX7_discover 95 = .ok (.iastore, 1) := by decide +kernel
theorem dX7_discover_96 : decode cX7_discover 96 = .ok (.aload_n 0, 1) := by decide +kernel
theorem dX7_discover_97 : decode cX7_discover 97 = .ok (.iload_n 1, 1) := by decide +kernel
theorem dX7_discover_98 : decode cX7_discover 98 = .ok (.iload_n 2, 1) := by decide +kernel
theorem dX7_discover_99 : decode cX7_discover 99 = .ok (.iload_n 3, 1) := by decide +kernel
theorem dX7_discover_100 : decode cX7_discover 100 = .ok (.invokevirtual 75, 3) := by decide +kernel
theorem dX7_discover_103 : decode cX7_discover 103 = .ok (.istore 4, 2) := by decide +kernel
theorem dX7_discover_105 : decode cX7_discover 105 = .ok (.iload 4, 2) := by decide +kernel
theorem dX7_discover_107 : decode cX7_discover 107 = .ok (.ifCond .lt 54, 3) := by decide +kernel
theorem dX7_discover_110 : decode cX7_discover 110 = .ok (.aload_n 0, 1) := by decide +kernel
theorem dX7_discover_111 : decode cX7_discover 111 = .ok (.getfield 9, 3) := by decide +kernel
theorem dX7_discover_114 : decode cX7_discover 114 = .ok (.sipush 131, 3) := by decide +kernel
theorem dX7_discover_117 : decode cX7_discover 117 = .ok (.iload 4, 2) := by decide +kernel
theorem dX7_discover_119 : decode cX7_discover 119 = .ok (.iadd, 1) := by decide +kernel
theorem dX7_discover_120 : decode cX7_discover 120 = .ok (.iaload, 1) := by decide +kernel
theorem dX7_discover_121 : decode cX7_discover 121 = .ok (.iconst 1, 1) := by decide +kernel
theorem dX7_discover_122 : decode cX7_discover 122 = .ok (.if_icmp .ne 39, 3) := by decide +kernel
theorem dX7_discover_125 : decode cX7_discover 125 = .ok (.aload_n 0, 1) := by decide +kernel
theorem dX7_discover_126 : decode cX7_discover 126 = .ok (.iload 4, 2) := by decide +kernel
theorem dX7_discover_128 : decode cX7_discover 128 = .ok (.invokevirtual 79, 3) := by decide +kernel
theorem dX7_discover_131 : decode cX7_discover 131 = .ok (.aload_n 0, 1) := by decide +kernel
theorem dX7_discover_132 : decode cX7_discover 132 = .ok (.getfield 9, 3) := by decide +kernel
theorem dX7_discover_135 : decode cX7_discover 135 = .ok (.iconst 3, 1) := by decide +kernel
theorem dX7_discover_136 : decode cX7_discover 136 = .ok (.dup2, 1) := by decide +kernel
theorem dX7_discover_137 : decode cX7_discover 137 = .ok (.iaload, 1) := by decide +kernel
theorem dX7_discover_138 : decode cX7_discover 138 = .ok (.iconst 1, 1) := by decide +kernel
theorem dX7_discover_139 : decode cX7_discover 139 = .ok (.iadd, 1) := by decide +kernel
theorem dX7_discover_140 : decode cX7_discover 140 = .ok (.iastore, 1) := by decide +kernel
theorem dX7_discover_141 : decode cX7_discover 141 = .ok (.aload_n 0, 1) := by decide +kernel
theorem dX7_discover_142 : decode cX7_discover 142 = .ok (.bipush 8, 2) := by decide +kernel
theorem dX7_discover_144 : decode cX7_discover 144 = .ok (.iload 4, 2) := by decide +kernel
theorem dX7_discover_146 : decode cX7_discover 146 = .ok (.invokevirtual 83, 3) := by decide +kernel
theorem dX7_discover_149 : decode cX7_discover 149 = .ok (.aload_n 0, 1) := by decide +kernel
theorem dX7_discover_150 : decode cX7_discover 150 = .ok (.iload_n 1, 1) := by decide +kernel
theorem dX7_discover_151 : decode cX7_discover 151 = .ok (.iload_n 2, 1) := by decide +kernel
theorem dX7_discover_152 : decode cX7_discover 152 = .ok (.iload_n 3, 1) := by decide +kernel
theorem dX7_discover_153 : decode cX7_discover 153 = .ok (.invokevirtual 75, 3) := by decide +kernel
theorem dX7_discover_156 : decode cX7_discover 156 = .ok (.istore 4, 2) := by decide +kernel
theorem dX7_discover_158 : decode cX7_discover 158 = .ok (.goto (-53), 3) := by decide +kernel
theorem dX7_discover_161 : decode cX7_discover 161 = .ok (.iload 4, 2) := by decide +kernel
theorem dX7_discover_163 : decode cX7_discover 163 = .ok (.ifCond .ge 9, 3) := by decide +kernel
theorem dX7_discover_166 : decode cX7_discover 166 = .ok (.aload_n 0, 1) := by decide +kernel
theorem dX7_discover_167 : decode cX7_discover 167 = .ok (.iconst 3, 1) := by decide +kernel
theorem dX7_discover_168 : decode cX7_discover 168 = .ok (.invokevirtual 41, 3) := by decide +kernel
theorem dX7_discover_171 : decode cX7_discover 171 = .ok (.ireturn, 1) := by decide +kernel
theorem dX7_discover_172 : decode cX7_discover 172 = .ok (.aload_n 0, 1) := by decide +kernel
theorem dX7_discover_173 : decode cX7_discover 173 = .ok (.getfield 9, 3) := by decide +kernel
theorem dX7_discover_176 : decode cX7_discover 176 = .ok (.sipush 231, 3) := by decide +kernel
theorem dX7_discover_179 : decode cX7_discover 179 = .ok (.iload 4, 2) := by decide +kernel
theorem dX7_discover_181 : decode cX7_discover 181 = .ok (.iadd, 1) := by decide +kernel
theorem dX7_discover_182 : decode cX7_discover 182 = .ok (.iconst 1, 1) := by decide +kernel
theorem dX7_discover_183 : decode cX7_discover 183 = .ok (.iastore, 1) := by decide +kernel
theorem dX7_discover_184 : decode cX7_discover 184 = .ok (.aload_n 0, 1) := by decide +kernel
theorem dX7_discover_185 : decode cX7_discover 185 = .ok (.getfield 9, 3) := by decide +kernel
theorem dX7_discover_188 : decode cX7_discover 188 = .ok (.sipush 331, 3) := by decide +kernel
theorem dX7_discover_191 : decode cX7_discover 191 = .ok (.iload 4, 2) := by decide +kernel
theorem dX7_discover_193 : decode cX7_discover 193 = .ok (.iadd, 1) := by decide +kernel
theorem dX7_discover_194 : decode cX7_discover 194 = .ok (.iload_n 1, 1) := by decide +kernel
theorem dX7_discover_195 : decode cX7_discover 195 = .ok (.iastore, 1) := by decide +kernel
theorem dX7_discover_196 : decode cX7_discover 196 = .ok (.aload_n 0, 1) := by decide +kernel
theorem dX7_discover_197 : decode cX7_discover 197 = .ok (.getfield 9, 3) := by decide +kernel
theorem dX7_discover_200 : decode cX7_discover 200 = .ok (.sipush 431, 3) := by decide +kernel
theorem dX7_discover_203 : decode cX7_discover 203 = .ok (.iload 4, 2) := by decide +kernel
theorem dX7_discover_205 : decode cX7_discover 205 = .ok (.iadd, 1) := by decide +kernel
theorem dX7_discover_206 : decode cX7_discover 206 = .ok (.aload_n 0, 1) := by decide +kernel
theorem dX7_discover_207 : decode cX7_discover 207 = .ok (.getfield 9, 3) := by decide +kernel
theorem dX7_discover_210 : decode cX7_discover 210 = .ok (.iconst 0, 1) := by decide +kernel
theorem dX7_discover_211 : decode cX7_discover 211 = .ok (.iaload, 1) := by decide +kernel
theorem dX7_discover_212 : decode cX7_discover 212 = .ok (.aload_n 0, 1) := by decide +kernel
theorem dX7_discover_213 : decode cX7_discover 213 = .ok (.getfield 9, 3) := by decide +kernel
theorem dX7_discover_216 : decode cX7_discover 216 = .ok (.iconst 1, 1) := by decide +kernel
theorem dX7_discover_217 : decode cX7_discover 217 = .ok (.iaload, 1) := by decide +kernel
theorem dX7_discover_218 : decode cX7_discover 218 = .ok (.iadd, 1) := by decide +kernel
theorem dX7_discover_219 : decode cX7_discover 219 = .ok (.iastore, 1) := by decide +kernel
theorem dX7_discover_220 : decode cX7_discover 220 = .ok (.aload_n 0, 1) := by decide +kernel
theorem dX7_discover_221 : decode cX7_discover 221 = .ok (.getfield 9, 3) := by decide +kernel
theorem dX7_discover_224 : decode cX7_discover 224 = .ok (.sipush 631, 3) := by decide +kernel
theorem dX7_discover_227 : decode cX7_discover 227 = .ok (.iload_n 1, 1) := by decide +kernel
theorem dX7_discover_228 : decode cX7_discover 228 = .ok (.iadd, 1) := by decide +kernel
theorem dX7_discover_229 : decode cX7_discover 229 = .ok (.iconst 1, 1) := by decide +kernel
theorem dX7_discover_230 : decode cX7_discover 230 = .ok (.iastore, 1) := by decide +kernel
theorem dX7_discover_231 : decode cX7_discover 231 = .ok (.aload_n 0, 1) := by decide +kernel
theorem dX7_discover_232 : decode cX7_discover 232 = .ok (.getfield 9, 3) := by decide +kernel
theorem dX7_discover_235 : decode cX7_discover 235 = .ok (.sipush 651, 3) := by decide +kernel
theorem dX7_discover_238 : decode cX7_discover 238 = .ok (.iload_n 1, 1) := by decide +kernel
theorem dX7_discover_239 : decode cX7_discover 239 = .ok (.iadd, 1) := by decide +kernel
theorem dX7_discover_240 : decode cX7_discover 240 = .ok (.iload 4, 2) := by decide +kernel
theorem dX7_discover_242 : decode cX7_discover 242 = .ok (.iastore, 1) := by decide +kernel
theorem dX7_discover_243 : decode cX7_discover 243 = .ok (.aload_n 0, 1) := by decide +kernel
theorem dX7_discover_244 : decode cX7_discover 244 = .ok (.iconst 1, 1) := by decide +kernel
theorem dX7_discover_245 : decode cX7_discover 245 = .ok (.iload 4, 2) := by decide +kernel
theorem dX7_discover_247 : decode cX7_discover 247 = .ok (.invokevirtual 83, 3) := by decide +kernel
theorem dX7_discover_250 : decode cX7_discover 250 = .ok (.iload 4, 2) := by decide +kernel
theorem dX7_discover_252 : decode cX7_discover 252 = .ok (.ireturn, 1) := by decide +kernel
theorem dX7_lasts_0 : decode cX7_lasts 0 = .ok (.aload_n 0, 1) := by decide +kernel
theorem dX7_lasts_1 : decode cX7_lasts 1 = .ok (.getfield 9, 3) := by decide +kernel
theorem dX7_lasts_4 : decode cX7_lasts 4 = .ok (.sipush 651, 3) := by decide +kernel
theorem dX7_lasts_7 : decode cX7_lasts 7 = .ok (.iload_n 1, 1) := by decide +kernel
theorem dX7_lasts_8 : decode cX7_lasts 8 = .ok (.iadd, 1) := by decide +kernel
theorem dX7_lasts_9 : decode cX7_lasts 9 = .ok (.iaload, 1) := by decide +kernel
theorem dX7_lasts_10 : decode cX7_lasts 10 = .ok (.istore_n 3, 1) := by decide +kernel
theorem dX7_lasts_11 : decode cX7_lasts 11 = .ok (.aload_n 0, 1) := by decide +kernel
theorem dX7_lasts_12 : decode cX7_lasts 12 = .ok (.getfield 9, 3) := by decide +kernel
theorem dX7_lasts_15 : decode cX7_lasts 15 = .ok (.aload_n 0, 1) := by decide +kernel
theorem dX7_lasts_16 : decode cX7_lasts 16 = .ok (.aload_n 0, 1) := by decide +kernel
theorem dX7_lasts_17 : decode cX7_lasts 17 = .ok (.iload_n 3, 1) := by decide +kernel
theorem dX7_lasts_18 : decode cX7_lasts 18 = .ok (.invokevirtual 34, 3) := by decide +kernel
theorem dX7_lasts_21 : decode cX7_lasts 21 = .ok (.invokevirtual 30, 3) := by decide +kernel
theorem dX7_lasts_24 : decode cX7_lasts 24 = .ok (.iconst 3, 1) := by decide +kernel
theorem dX7_lasts_25 : decode cX7_lasts 25 = .ok (.iadd, 1) := by decide +kernel
theorem dX7_lasts_26 : decode cX7_lasts 26 = .ok (.iaload, 1) := by decide +kernel
theorem dX7_lasts_27 : decode cX7_lasts 27 = .ok (.istore 4, 2) := by decide +kernel
theorem dX7_lasts_29 : decode cX7_lasts 29 = .ok (.aload_n 0, 1) := by decide +kernel
theorem dX7_lasts_30 : decode cX7_lasts 30 = .ok (.getfield 9, 3) := by decide +kernel
theorem dX7_lasts_33 : decode cX7_lasts 33 = .ok (.sipush 631, 3) := by decide +kernel
theorem dX7_lasts_36 : decode cX7_lasts 36 = .ok (.iload_n 1, 1) := by decide +kernel
theorem dX7_lasts_37 : decode cX7_lasts 37 = .ok (.iadd, 1) := by decide +kernel
theorem dX7_lasts_38 : decode cX7_lasts 38 = .ok (.iconst 2, 1) := by decide +kernel
theorem dX7_lasts_39 : decode cX7_lasts 39 = .ok (.iastore, 1) := by decide +kernel
theorem dX7_lasts_40 : decode cX7_lasts 40 = .ok (.aload_n 0, 1) := by decide +kernel
theorem dX7_lasts_41 : decode cX7_lasts 41 = .ok (.getfield 9, 3) := by decide +kernel
theorem dX7_lasts_44 : decode cX7_lasts 44 = .ok (.sipush 671, 3) := by decide +kernel
theorem dX7_lasts_47 : decode cX7_lasts 47 = .ok (.iload_n 1, 1) := by decide +kernel
theorem dX7_lasts_48 : decode cX7_lasts 48 = .ok (.iadd, 1) := by decide +kernel
theorem dX7_lasts_49 : decode cX7_lasts 49 = .ok (.iload_n 2, 1) := by decide +kernel
theorem dX7_lasts_50 : decode cX7_lasts 50 = .ok (.iload 4, 2) := by decide +kernel
theorem dX7_lasts_52 : decode cX7_lasts 52 = .ok (.iconst 2, 1) := by decide +kernel
theorem dX7_lasts_53 : decode cX7_lasts 53 = .ok (.idiv, 1) := by decide +kernel
theorem dX7_lasts_54 : decode cX7_lasts 54 = .ok (.iadd, 1) := by decide +kernel
theorem dX7_lasts_55 : decode cX7_lasts 55 = .ok (.iastore, 1) := by decide +kernel
theorem dX7_lasts_56 : decode cX7_lasts 56 = .ok (.aload_n 0, 1) := by decide +kernel
theorem dX7_lasts_57 : decode cX7_lasts 57 = .ok (.getfield 9, 3) := by decide +kernel
theorem dX7_lasts_60 : decode cX7_lasts 60 = .ok (.sipush 691, 3) := by decide +kernel
theorem dX7_lasts_63 : decode cX7_lasts 63 = .ok (.iload_n 1, 1) := by decide +kernel
theorem dX7_lasts_64 : decode cX7_lasts 64 = .ok (.iadd, 1) := by decide +kernel
theorem dX7_lasts_65 : decode cX7_lasts 65 = .ok (.iload_n 2, 1) := by decide +kernel
theorem dX7_lasts_66 : decode cX7_lasts 66 = .ok (.bipush 7, 2) := by decide +kernel
theorem dX7_lasts_68 : decode cX7_lasts 68 = .ok (.iload 4, 2) := by decide +kernel
theorem dX7_lasts_70 : decode cX7_lasts 70 = .ok (.imul, 1) := by decide +kernel
theorem dX7_lasts_71 : decode cX7_lasts 71 = .ok (.bipush 8, 2) := by decide +kernel
theorem dX7_lasts_73 : decode cX7_lasts 73 = .ok (.idiv, 1) := by decide +kernel
theorem dX7_lasts_74 : decode cX7_lasts 74 = .ok (.iadd, 1) := by decide +kernel
theorem dX7_lasts_75 : decode cX7_lasts 75 = .ok (.iastore, 1) := by decide +kernel
theorem dX7_lasts_76 : decode cX7_lasts 76 = .ok (.aload_n 0, 1) := by decide +kernel
theorem dX7_lasts_77 : decode cX7_lasts 77 = .ok (.getfield 9, 3) := by decide +kernel
theorem dX7_lasts_80 : decode cX7_lasts 80 = .ok (.sipush 431, 3) := by decide +kernel
theorem dX7_lasts_83 : decode cX7_lasts 83 = .ok (.iload_n 3, 1) := by decide +kernel
theorem dX7_lasts_84 : decode cX7_lasts 84 = .ok (.iadd, 1) := by decide +kernel
theorem dX7_lasts_85 : decode cX7_lasts 85 = .ok (.iload_n 2, 1) := by decide +kernel
theorem dX7_lasts_86 : decode cX7_lasts 86 = .ok (.iload 4, 2) := by decide +kernel
theorem dX7_lasts_88 : decode cX7_lasts 88 = .ok (.iadd, 1) := by decide +kernel
theorem dX7_lasts_89 : decode cX7_lasts 89 = .ok (.iastore, 1) := by decide +kernel
theorem dX7_lasts_90 : decode cX7_lasts 90 = .ok (.return_, 1) := by decide +kernel
theorem dX7_accept_0 : decode cX7_accept 0 = .ok (.aload_n 0, 1) := by decide +kernel
theorem dX7_accept_1 : decode cX7_accept 1 = .ok (.iconst 0, 1) := by decide +kernel
theorem dX7_accept_2 : decode cX7_accept 2 = .ok (.putfield 19, 3) := by decide +kernel
theorem dX7_accept_5 : decode cX7_accept 5 = .ok (.iload_n 1, 1) := by decide +kernel
theorem dX7_accept_6 : decode cX7_accept 6 = .ok (.invokestatic 65, 3) := by decide +kernel
theorem dX7_accept_9 : decode cX7_accept 9 = .ok (.ifCond .ne 9, 3) := by decide +kernel
theorem dX7_accept_12 : decode cX7_accept 12 = .ok (.aload_n 0, 1) := by decide +kernel
theorem dX7_accept_13 : decode cX7_accept 13 = .ok (.iconst 1, 1) := by decide +kernel
theorem dX7_accept_14 : decode cX7_accept 14 = .ok (.invokevirtual 41, 3) := by decide +kernel
theorem dX7_accept_17 : decode cX7_accept 17 = .ok (.ireturn, 1) := by decide +kernel
theorem dX7_accept_18 : decode cX7_accept 18 = .ok (.aload_n 0, 1) := by decide +kernel
theorem dX7_accept_19 : decode cX7_accept 19 = .ok (.getfield 9, 3) := by decide +kernel
theorem dX7_accept_22 : decode cX7_accept 22 = .ok (.sipush 631, 3) := by decide +kernel
theorem dX7_accept_25 : decode cX7_accept 25 = .ok (.iload_n 1, 1) := by decide +kernel
theorem dX7_accept_26 : decode cX7_accept 26 = .ok (.iadd, 1) := by decide +kernel
theorem dX7_accept_27 : decode cX7_accept 27 = .ok (.iaload, 1) := by decide +kernel
theorem dX7_accept_28 : decode cX7_accept 28 = .ok (.iconst 1, 1) := by decide +kernel
theorem dX7_accept_29 : decode cX7_accept 29 = .ok (.if_icmp .eq 9, 3) := by decide +kernel
theorem dX7_accept_32 : decode cX7_accept 32 = .ok (.aload_n 0, 1) := by decide +kernel
theorem dX7_accept_33 : decode cX7_accept 33 = .ok (.iconst 2, 1) := by decide +kernel
theorem dX7_accept_34 : decode cX7_accept 34 = .ok (.invokevirtual 41, 3) := by decide +kernel
theorem dX7_accept_37 : decode cX7_accept 37 = .ok (.ireturn, 1) := by decide +kernel
theorem dX7_accept_38 : decode cX7_accept 38 = .ok (.aload_n 0, 1) := by decide +kernel
theorem dX7_accept_39 : decode cX7_accept 39 = .ok (.getfield 9, 3) := by decide +kernel
theorem dX7_accept_42 : decode cX7_accept 42 = .ok (.sipush 651, 3) := by decide +kernel
theorem dX7_accept_45 : decode cX7_accept 45 = .ok (.iload_n 1, 1) := by decide +kernel
theorem dX7_accept_46 : decode cX7_accept 46 = .ok (.iadd, 1) := by decide +kernel
theorem dX7_accept_47 : decode cX7_accept 47 = .ok (.iaload, 1) := by decide +kernel
theorem dX7_accept_48 : decode cX7_accept 48 = .ok (.istore_n 2, 1) := by decide +kernel
theorem dX7_accept_49 : decode cX7_accept 49 = .ok (.aload_n 0, 1) := by decide +kernel
theorem dX7_accept_50 : decode cX7_accept 50 = .ok (.getfield 9, 3) := by decide +kernel
theorem dX7_accept_53 : decode cX7_accept 53 = .ok (.bipush 28, 2) := by decide +kernel
theorem dX7_accept_55 : decode cX7_accept 55 = .ok (.aload_n 0, 1) := by decide +kernel
theorem dX7_accept_56 : decode cX7_accept 56 = .ok (.iload_n 2, 1) := by decide +kernel
theorem dX7_accept_57 : decode cX7_accept 57 = .ok (.invokevirtual 50, 3) := by decide +kernel
theorem dX7_accept_60 : decode cX7_accept 60 = .ok (.iadd, 1) := by decide +kernel
theorem dX7_accept_61 : decode cX7_accept 61 = .ok (.iaload, 1) := by decide +kernel
theorem dX7_accept_62 : decode cX7_accept 62 = .ok (.ifCond .ne 9, 3) := by decide +kernel
theorem dX7_accept_65 : decode cX7_accept 65 = .ok (.aload_n 0, 1) := by decide +kernel
theorem dX7_accept_66 : decode cX7_accept 66 = .ok (.iconst 3, 1) := by decide +kernel
theorem dX7_accept_67 : decode cX7_accept 67 = .ok (.invokevirtual 41, 3) := by decide +kernel
theorem dX7_accept_70 : decode cX7_accept 70 = .ok (.ireturn, 1) := by decide +kernel
theorem dX7_accept_71 : decode cX7_accept 71 = .ok (.aload_n 0, 1) := by decide +kernel
theorem dX7_accept_72 : decode cX7_accept 72 = .ok (.getfield 9, 3) := by decide +kernel
theorem dX7_accept_75 : decode cX7_accept 75 = .ok (.sipush 231, 3) := by decide +kernel
theorem dX7_accept_78 : decode cX7_accept 78 = .ok (.iload_n 2, 1) := by decide +kernel
theorem dX7_accept_79 : decode cX7_accept 79 = .ok (.iadd, 1) := by decide +kernel
theorem dX7_accept_80 : decode cX7_accept 80 = .ok (.iconst 2, 1) := by decide +kernel
theorem dX7_accept_81 : decode cX7_accept 81 = .ok (.iastore, 1) := by decide +kernel
theorem dX7_accept_82 : decode cX7_accept 82 = .ok (.aload_n 0, 1) := by decide +kernel
theorem dX7_accept_83 : decode cX7_accept 83 = .ok (.getfield 9, 3) := by decide +kernel
theorem dX7_accept_86 : decode cX7_accept 86 = .ok (.sipush 711, 3) := by decide +kernel
theorem dX7_accept_89 : decode cX7_accept 89 = .ok (.iload_n 1, 1) := by decide +kernel
theorem dX7_accept_90 : decode cX7_accept 90 = .ok (.iadd, 1) := by decide +kernel
theorem dX7_accept_91 : decode cX7_accept 91 = .ok (.iload_n 2, 1) := by decide +kernel
theorem dX7_accept_92 : decode cX7_accept 92 = .ok (.iconst 1, 1) := by decide +kernel
theorem dX7_accept_93 : decode cX7_accept 93 = .ok (.iadd, 1) := by decide +kernel
theorem dX7_accept_94 : decode cX7_accept 94 = .ok (.iastore, 1) := by decide +kernel
theorem dX7_accept_95 : decode cX7_accept 95 = .ok (.aload_n 0, 1) := by decide +kernel
theorem dX7_accept_96 : decode cX7_accept 96 = .ok (.iload_n 1, 1) := by decide +kernel
theorem dX7_accept_97 : decode cX7_accept 97 = .ok (.aload_n 0, 1) := by decide +kernel
theorem dX7_accept_98 : decode cX7_accept 98 = .ok (.getfield 9, 3) := by decide +kernel
theorem dX7_accept_101 : decode cX7_accept 101 = .ok (.iconst 0, 1) := by decide +kernel
theorem dX7_accept_102 : decode cX7_accept 102 = .ok (.iaload, 1) := by decide +kernel
theorem dX7_accept_103 : decode cX7_accept 103 = .ok (.invokevirtual 86, 3) := by decide +kernel
theorem dX7_accept_106 : decode cX7_accept 106 = .ok (.aload_n 0, 1) := by decide +kernel
theorem dX7_accept_107 : decode cX7_accept 107 = .ok (.iconst 2, 1) := by decide +kernel
theorem dX7_accept_108 : decode cX7_accept 108 = .ok (.iload_n 2, 1) := by decide +kernel
theorem dX7_accept_109 : decode cX7_accept 109 = .ok (.invokevirtual 83, 3) := by decide +kernel
theorem dX7_accept_112 : decode cX7_accept 112 = .ok (.iload_n 2, 1) := by decide +kernel
theorem dX7_accept_113 : decode cX7_accept 113 = .ok (.ireturn, 1) := by decide +kernel
theorem dX7_lacksLease_0 : decode cX7_lacksLease 0 = .ok (.iload_n 1, 1) := by decide +kernel
theorem dX7_lacksLease_1 : decode cX7_lacksLease 1 = .ok (.invokestatic 65, 3) := by decide +kernel
theorem dX7_lacksLease_4 : decode cX7_lacksLease 4 = .ok (.ifCond .ne 7, 3) := by decide +kernel
theorem dX7_lacksLease_7 : decode cX7_lacksLease 7 = .ok (.iconst 1, 1) := by decide +kernel
theorem dX7_lacksLease_8 : decode cX7_lacksLease 8 = .ok (.goto 16, 3) := by decide +kernel
theorem dX7_lacksLease_11 : decode cX7_lacksLease 11 = .ok (.aload_n 0, 1) := by decide +kernel
theorem dX7_lacksLease_12 : decode cX7_lacksLease 12 = .ok (.iload_n 1, 1) := by decide +kernel
theorem dX7_lacksLease_13 : decode cX7_lacksLease 13 = .ok (.invokevirtual 68, 3) := by decide +kernel
theorem dX7_lacksLease_16 : decode cX7_lacksLease 16 = .ok (.ifCond .eq 7, 3) := by decide +kernel
theorem dX7_lacksLease_19 : decode cX7_lacksLease 19 = .ok (.iconst 0, 1) := by decide +kernel
theorem dX7_lacksLease_20 : decode cX7_lacksLease 20 = .ok (.goto 4, 3) := by decide +kernel
theorem dX7_lacksLease_23 : decode cX7_lacksLease 23 = .ok (.iconst 2, 1) := by decide +kernel
theorem dX7_lacksLease_24 : decode cX7_lacksLease 24 = .ok (.ireturn, 1) := by decide +kernel
theorem dX7_release_0 : decode cX7_release 0 = .ok (.aload_n 0, 1) := by decide +kernel
theorem dX7_release_1 : decode cX7_release 1 = .ok (.aload_n 0, 1) := by decide +kernel
theorem dX7_release_2 : decode cX7_release 2 = .ok (.iload_n 1, 1) := by decide +kernel
theorem dX7_release_3 : decode cX7_release 3 = .ok (.invokevirtual 89, 3) := by decide +kernel
theorem dX7_release_6 : decode cX7_release 6 = .ok (.putfield 19, 3) := by decide +kernel
theorem dX7_release_9 : decode cX7_release 9 = .ok (.aload_n 0, 1) := by decide +kernel
theorem dX7_release_10 : decode cX7_release 10 = .ok (.getfield 19, 3) := by decide +kernel
theorem dX7_release_13 : decode cX7_release 13 = .ok (.ifCond .le 5, 3) := by decide +kernel
theorem dX7_release_16 : decode cX7_release 16 = .ok (.iconst 0, 1) := by decide +kernel
theorem dX7_release_17 : decode cX7_release 17 = .ok (.ireturn, 1) := by decide +kernel
theorem dX7_release_18 : decode cX7_release 18 = .ok (.aload_n 0, 1) := by decide +kernel
theorem dX7_release_19 : decode cX7_release 19 = .ok (.getfield 9, 3) := by decide +kernel
theorem dX7_release_22 : decode cX7_release 22 = .ok (.sipush 651, 3) := by decide +kernel
theorem dX7_release_25 : decode cX7_release 25 = .ok (.iload_n 1, 1) := by decide +kernel
theorem dX7_release_26 : decode cX7_release 26 = .ok (.iadd, 1) := by decide +kernel
theorem dX7_release_27 : decode cX7_release 27 = .ok (.iaload, 1) := by decide +kernel
theorem dX7_release_28 : decode cX7_release 28 = .ok (.istore_n 2, 1) := by decide +kernel
theorem dX7_release_29 : decode cX7_release 29 = .ok (.aload_n 0, 1) := by decide +kernel
theorem dX7_release_30 : decode cX7_release 30 = .ok (.iload_n 2, 1) := by decide +kernel
theorem dX7_release_31 : decode cX7_release 31 = .ok (.aload_n 0, 1) := by decide +kernel
theorem dX7_release_32 : decode cX7_release 32 = .ok (.getfield 9, 3) := by decide +kernel
theorem dX7_release_35 : decode cX7_release 35 = .ok (.iconst 0, 1) := by decide +kernel
theorem dX7_release_36 : decode cX7_release 36 = .ok (.iaload, 1) := by decide +kernel
theorem dX7_release_37 : decode cX7_release 37 = .ok (.invokevirtual 71, 3) := by decide +kernel
theorem dX7_release_40 : decode cX7_release 40 = .ok (.aload_n 0, 1) := by decide +kernel
theorem dX7_release_41 : decode cX7_release 41 = .ok (.getfield 9, 3) := by decide +kernel
theorem dX7_release_44 : decode cX7_release 44 = .ok (.sipush 631, 3) := by decide +kernel
theorem dX7_release_47 : decode cX7_release 47 = .ok (.iload_n 1, 1) := by decide +kernel
theorem dX7_release_48 : decode cX7_release 48 = .ok (.iadd, 1) := by decide +kernel
theorem dX7_release_49 : decode cX7_release 49 = .ok (.iconst 0, 1) := by decide +kernel
theorem dX7_release_50 : decode cX7_release 50 = .ok (.iastore, 1) := by decide +kernel
theorem dX7_release_51 : decode cX7_release 51 = .ok (.aload_n 0, 1) := by decide +kernel
theorem dX7_release_52 : decode cX7_release 52 = .ok (.bipush 6, 2) := by decide +kernel
theorem dX7_release_54 : decode cX7_release 54 = .ok (.iload_n 2, 1) := by decide +kernel
theorem dX7_release_55 : decode cX7_release 55 = .ok (.invokevirtual 83, 3) := by decide +kernel
theorem dX7_release_58 : decode cX7_release 58 = .ok (.iload_n 2, 1) := by decide +kernel
theorem dX7_release_59 : decode cX7_release 59 = .ok (.ireturn, 1) := by decide +kernel
theorem dX7_decline_0 : decode cX7_decline 0 = .ok (.aload_n 0, 1) := by decide +kernel
theorem dX7_decline_1 : decode cX7_decline 1 = .ok (.aload_n 0, 1) := by decide +kernel
theorem dX7_decline_2 : decode cX7_decline 2 = .ok (.iload_n 1, 1) := by decide +kernel
theorem dX7_decline_3 : decode cX7_decline 3 = .ok (.invokevirtual 89, 3) := by decide +kernel
theorem dX7_decline_6 : decode cX7_decline 6 = .ok (.putfield 19, 3) := by decide +kernel
theorem dX7_decline_9 : decode cX7_decline 9 = .ok (.aload_n 0, 1) := by decide +kernel
theorem dX7_decline_10 : decode cX7_decline 10 = .ok (.getfield 19, 3) := by decide +kernel
theorem dX7_decline_13 : decode cX7_decline 13 = .ok (.ifCond .le 5, 3) := by decide +kernel
theorem dX7_decline_16 : decode cX7_decline 16 = .ok (.iconst 0, 1) := by decide +kernel
theorem dX7_decline_17 : decode cX7_decline 17 = .ok (.ireturn, 1) := by decide +kernel
theorem dX7_decline_18 : decode cX7_decline 18 = .ok (.aload_n 0, 1) := by decide +kernel
theorem dX7_decline_19 : decode cX7_decline 19 = .ok (.getfield 9, 3) := by decide +kernel
theorem dX7_decline_22 : decode cX7_decline 22 = .ok (.sipush 651, 3) := by decide +kernel
theorem dX7_decline_25 : decode cX7_decline 25 = .ok (.iload_n 1, 1) := by decide +kernel
theorem dX7_decline_26 : decode cX7_decline 26 = .ok (.iadd, 1) := by decide +kernel
theorem dX7_decline_27 : decode cX7_decline 27 = .ok (.iaload, 1) := by decide +kernel
theorem dX7_decline_28 : decode cX7_decline 28 = .ok (.istore_n 2, 1) := by decide +kernel
theorem dX7_decline_29 : decode cX7_decline 29 = .ok (.aload_n 0, 1) := by decide +kernel
theorem dX7_decline_30 : decode cX7_decline 30 = .ok (.iload_n 2, 1) := by decide +kernel
theorem dX7_decline_31 : decode cX7_decline 31 = .ok (.invokevirtual 79, 3) := by decide +kernel
theorem dX7_decline_34 : decode cX7_decline 34 = .ok (.aload_n 0, 1) := by decide +kernel
theorem dX7_decline_35 : decode cX7_decline 35 = .ok (.getfield 9, 3) := by decide +kernel
theorem dX7_decline_38 : decode cX7_decline 38 = .ok (.sipush 631, 3) := by decide +kernel
theorem dX7_decline_41 : decode cX7_decline 41 = .ok (.iload_n 1, 1) := by decide +kernel
theorem dX7_decline_42 : decode cX7_decline 42 = .ok (.iadd, 1) := by decide +kernel
theorem dX7_decline_43 : decode cX7_decline 43 = .ok (.iconst 0, 1) := by decide +kernel
theorem dX7_decline_44 : decode cX7_decline 44 = .ok (.iastore, 1) := by decide +kernel
theorem dX7_decline_45 : decode cX7_decline 45 = .ok (.aload_n 0, 1) := by decide +kernel
theorem dX7_decline_46 : decode cX7_decline 46 = .ok (.getfield 9, 3) := by decide +kernel
theorem dX7_decline_49 : decode cX7_decline 49 = .ok (.sipush 711, 3) := by decide +kernel
theorem dX7_decline_52 : decode cX7_decline 52 = .ok (.iload_n 1, 1) := by decide +kernel
theorem dX7_decline_53 : decode cX7_decline 53 = .ok (.iadd, 1) := by decide +kernel
theorem dX7_decline_54 : decode cX7_decline 54 = .ok (.iconst 0, 1) := by decide +kernel
theorem dX7_decline_55 : decode cX7_decline 55 = .ok (.iastore, 1) := by decide +kernel
theorem dX7_decline_56 : decode cX7_decline 56 = .ok (.aload_n 0, 1) := by decide +kernel
theorem dX7_decline_57 : decode cX7_decline 57 = .ok (.bipush 7, 2) := by decide +kernel
theorem dX7_decline_59 : decode cX7_decline 59 = .ok (.iload_n 2, 1) := by decide +kernel
theorem dX7_decline_60 : decode cX7_decline 60 = .ok (.invokevirtual 83, 3) := by decide +kernel
theorem dX7_decline_63 : decode cX7_decline 63 = .ok (.iload_n 2, 1) := by decide +kernel
theorem dX7_decline_64 : decode cX7_decline 64 = .ok (.ireturn, 1) := by decide +kernel
theorem dX7_renews_0 : decode cX7_renews 0 = .ok (.aload_n 0, 1) := by decide +kernel
theorem dX7_renews_1 : decode cX7_renews 1 = .ok (.getfield 9, 3) := by decide +kernel
theorem dX7_renews_4 : decode cX7_renews 4 = .ok (.sipush 651, 3) := by decide +kernel
theorem dX7_renews_7 : decode cX7_renews 7 = .ok (.iload_n 1, 1) := by decide +kernel
theorem dX7_renews_8 : decode cX7_renews 8 = .ok (.iadd, 1) := by decide +kernel
theorem dX7_renews_9 : decode cX7_renews 9 = .ok (.iaload, 1) := by decide +kernel
theorem dX7_renews_10 : decode cX7_renews 10 = .ok (.istore_n 3, 1) := by decide +kernel
theorem dX7_renews_11 : decode cX7_renews 11 = .ok (.aload_n 0, 1) := by decide +kernel
theorem dX7_renews_12 : decode cX7_renews 12 = .ok (.getfield 9, 3) := by decide +kernel
theorem dX7_renews_15 : decode cX7_renews 15 = .ok (.bipush 31, 2) := by decide +kernel
theorem dX7_renews_17 : decode cX7_renews 17 = .ok (.iload_n 3, 1) := by decide +kernel
theorem dX7_renews_18 : decode cX7_renews 18 = .ok (.iadd, 1) := by decide +kernel
theorem dX7_renews_19 : decode cX7_renews 19 = .ok (.iaload, 1) := by decide +kernel
theorem dX7_renews_20 : decode cX7_renews 20 = .ok (.iconst 1, 1) := by decide +kernel
theorem dX7_renews_21 : decode cX7_renews 21 = .ok (.if_icmp .ne 28, 3) := by decide +kernel
theorem dX7_renews_24 : decode cX7_renews 24 = .ok (.aload_n 0, 1) := by decide +kernel
theorem dX7_renews_25 : decode cX7_renews 25 = .ok (.iload_n 3, 1) := by decide +kernel
theorem dX7_renews_26 : decode cX7_renews 26 = .ok (.iload_n 2, 1) := by decide +kernel
theorem dX7_renews_27 : decode cX7_renews 27 = .ok (.invokevirtual 71, 3) := by decide +kernel
theorem dX7_renews_30 : decode cX7_renews 30 = .ok (.aload_n 0, 1) := by decide +kernel
theorem dX7_renews_31 : decode cX7_renews 31 = .ok (.getfield 9, 3) := by decide +kernel
theorem dX7_renews_34 : decode cX7_renews 34 = .ok (.sipush 631, 3) := by decide +kernel
theorem dX7_renews_37 : decode cX7_renews 37 = .ok (.iload_n 1, 1) := by decide +kernel
theorem dX7_renews_38 : decode cX7_renews 38 = .ok (.iadd, 1) := by decide +kernel
theorem dX7_renews_39 : decode cX7_renews 39 = .ok (.iconst 0, 1) := by decide +kernel
theorem dX7_renews_40 : decode cX7_renews 40 = .ok (.iastore, 1) := by decide +kernel
theorem dX7_renews_41 : decode cX7_renews 41 = .ok (.aload_n 0, 1) := by decide +kernel
theorem dX7_renews_42 : decode cX7_renews 42 = .ok (.iconst 4, 1) := by decide +kernel
theorem dX7_renews_43 : decode cX7_renews 43 = .ok (.iload_n 3, 1) := by decide +kernel
theorem dX7_renews_44 : decode cX7_renews 44 = .ok (.invokevirtual 83, 3) := by decide +kernel
theorem dX7_renews_47 : decode cX7_renews 47 = .ok (.iconst 0, 1) := by decide +kernel
theorem dX7_renews_48 : decode cX7_renews 48 = .ok (.ireturn, 1) := by decide +kernel
theorem dX7_renews_49 : decode cX7_renews 49 = .ok (.aload_n 0, 1) := by decide +kernel
theorem dX7_renews_50 : decode cX7_renews 50 = .ok (.iload_n 1, 1) := by decide +kernel
theorem dX7_renews_51 : decode cX7_renews 51 = .ok (.iload_n 2, 1) := by decide +kernel
theorem dX7_renews_52 : decode cX7_renews 52 = .ok (.invokevirtual 86, 3) := by decide +kernel
theorem dX7_renews_55 : decode cX7_renews 55 = .ok (.aload_n 0, 1) := by decide +kernel
theorem dX7_renews_56 : decode cX7_renews 56 = .ok (.iconst 3, 1) := by decide +kernel
theorem dX7_renews_57 : decode cX7_renews 57 = .ok (.iload_n 3, 1) := by decide +kernel
theorem dX7_renews_58 : decode cX7_renews 58 = .ok (.invokevirtual 83, 3) := by decide +kernel
theorem dX7_renews_61 : decode cX7_renews 61 = .ok (.iconst 1, 1) := by decide +kernel
theorem dX7_renews_62 : decode cX7_renews 62 = .ok (.ireturn, 1) := by decide +kernel
theorem dX7_renew_0 : decode cX7_renew 0 = .ok (.aload_n 0, 1) := by decide +kernel
theorem dX7_renew_1 : decode cX7_renew 1 = .ok (.aload_n 0, 1) := by decide +kernel
theorem dX7_renew_2 : decode cX7_renew 2 = .ok (.iload_n 1, 1) := by decide +kernel
theorem dX7_renew_3 : decode cX7_renew 3 = .ok (.invokevirtual 89, 3) := by decide +kernel
theorem dX7_renew_6 : decode cX7_renew 6 = .ok (.putfield 19, 3) := by decide +kernel
theorem dX7_renew_9 : decode cX7_renew 9 = .ok (.aload_n 0, 1) := by decide +kernel
theorem dX7_renew_10 : decode cX7_renew 10 = .ok (.getfield 19, 3) := by decide +kernel
theorem dX7_renew_13 : decode cX7_renew 13 = .ok (.ifCond .le 5, 3) := by decide +kernel
theorem dX7_renew_16 : decode cX7_renew 16 = .ok (.iconst 0, 1) := by decide +kernel
theorem dX7_renew_17 : decode cX7_renew 17 = .ok (.ireturn, 1) := by decide +kernel
theorem dX7_renew_18 : decode cX7_renew 18 = .ok (.aload_n 0, 1) := by decide +kernel
theorem dX7_renew_19 : decode cX7_renew 19 = .ok (.getfield 9, 3) := by decide +kernel
theorem dX7_renew_22 : decode cX7_renew 22 = .ok (.bipush 25, 2) := by decide +kernel
theorem dX7_renew_24 : decode cX7_renew 24 = .ok (.aload_n 0, 1) := by decide +kernel
theorem dX7_renew_25 : decode cX7_renew 25 = .ok (.aload_n 0, 1) := by decide +kernel
theorem dX7_renew_26 : decode cX7_renew 26 = .ok (.getfield 9, 3) := by decide +kernel
theorem dX7_renew_29 : decode cX7_renew 29 = .ok (.sipush 651, 3) := by decide +kernel
theorem dX7_renew_32 : decode cX7_renew 32 = .ok (.iload_n 1, 1) := by decide +kernel
theorem dX7_renew_33 : decode cX7_renew 33 = .ok (.iadd, 1) := by decide +kernel
theorem dX7_renew_34 : decode cX7_renew 34 = .ok (.iaload, 1) := by decide +kernel
theorem dX7_renew_35 : decode cX7_renew 35 = .ok (.invokevirtual 50, 3) := by decide +kernel
theorem dX7_renew_38 : decode cX7_renew 38 = .ok (.iadd, 1) := by decide +kernel
theorem dX7_renew_39 : decode cX7_renew 39 = .ok (.iaload, 1) := by decide +kernel
theorem dX7_renew_40 : decode cX7_renew 40 = .ok (.ifCond .ne 8, 3) := by decide +kernel
theorem dX7_renew_43 : decode cX7_renew 43 = .ok (.aload_n 0, 1) := by decide +kernel
theorem dX7_renew_44 : decode cX7_renew 44 = .ok (.iconst 3, 1) := by decide +kernel
theorem dX7_renew_45 : decode cX7_renew 45 = .ok (.putfield 19, 3) := by decide +kernel
theorem dX7_renew_48 : decode cX7_renew 48 = .ok (.aload_n 0, 1) := by decide +kernel
theorem dX7_renew_49 : decode cX7_renew 49 = .ok (.getfield 19, 3) := by decide +kernel
theorem dX7_renew_52 : decode cX7_renew 52 = .ok (.ifCond .ne 21, 3) := by decide +kernel
theorem dX7_renew_55 : decode cX7_renew 55 = .ok (.aload_n 0, 1) := by decide +kernel
theorem dX7_renew_56 : decode cX7_renew 56 = .ok (.iload_n 1, 1) := by decide +kernel
theorem dX7_renew_57 : decode cX7_renew 57 = .ok (.aload_n 0, 1) := by decide +kernel
theorem dX7_renew_58 : decode cX7_renew 58 = .ok (.getfield 9, 3) := by decide +kernel
theorem dX7_renew_61 : decode cX7_renew 61 = .ok (.iconst 0, 1) := by decide +kernel
theorem dX7_renew_62 : decode cX7_renew 62 = .ok (.iaload, 1) := by decide +kernel
theorem dX7_renew_63 : decode cX7_renew 63 = .ok (.invokevirtual 92, 3) := by decide +kernel
theorem dX7_renew_66 : decode cX7_renew 66 = .ok (.ifCond .eq 7, 3) := by decide +kernel
theorem dX7_renew_69 : decode cX7_renew 69 = .ok (.iconst 1, 1) := by decide +kernel
theorem dX7_renew_70 : decode cX7_renew 70 = .ok (.goto 4, 3) := by decide +kernel
theorem dX7_renew_73 : decode cX7_renew 73 = .ok (.iconst 0, 1) := by decide +kernel
theorem dX7_renew_74 : decode cX7_renew 74 = .ok (.ireturn, 1) := by decide +kernel
theorem dX7_stateOf_0 : decode cX7_stateOf 0 = .ok (.aload_n 0, 1) := by decide +kernel
theorem dX7_stateOf_1 : decode cX7_stateOf 1 = .ok (.iload_n 1, 1) := by decide +kernel
theorem dX7_stateOf_2 : decode cX7_stateOf 2 = .ok (.invokevirtual 34, 3) := by decide +kernel
theorem dX7_stateOf_5 : decode cX7_stateOf 5 = .ok (.ifCond .ge 7, 3) := by decide +kernel
theorem dX7_stateOf_8 : decode cX7_stateOf 8 = .ok (.iconst 0, 1) := by decide +kernel
theorem dX7_stateOf_9 : decode cX7_stateOf 9 = .ok (.goto 13, 3) := by decide +kernel
theorem dX7_stateOf_12 : decode cX7_stateOf 12 = .ok (.aload_n 0, 1) := by decide +kernel
theorem dX7_stateOf_13 : decode cX7_stateOf 13 = .ok (.getfield 9, 3) := by decide +kernel
theorem dX7_stateOf_16 : decode cX7_stateOf 16 = .ok (.sipush 231, 3) := by decide +kernel
theorem dX7_stateOf_19 : decode cX7_stateOf 19 = .ok (.iload_n 1, 1) := by decide +kernel
theorem dX7_stateOf_20 : decode cX7_stateOf 20 = .ok (.iadd, 1) := by decide +kernel
theorem dX7_stateOf_21 : decode cX7_stateOf 21 = .ok (.iaload, 1) := by decide +kernel
theorem dX7_stateOf_22 : decode cX7_stateOf 22 = .ok (.ireturn, 1) := by decide +kernel
theorem dX7_due_0 : decode cX7_due 0 = .ok (.aload_n 0, 1) := by decide +kernel
theorem dX7_due_1 : decode cX7_due 1 = .ok (.iload_n 1, 1) := by decide +kernel
theorem dX7_due_2 : decode cX7_due 2 = .ok (.invokevirtual 95, 3) := by decide +kernel
theorem dX7_due_5 : decode cX7_due 5 = .ok (.istore_n 2, 1) := by decide +kernel
theorem dX7_due_6 : decode cX7_due 6 = .ok (.iload_n 2, 1) := by decide +kernel
theorem dX7_due_7 : decode cX7_due 7 = .ok (.ifCond .ne 5, 3) := by decide +kernel
theorem dX7_due_10 : decode cX7_due 10 = .ok (.iconst (-1), 1) := by decide +kernel
theorem dX7_due_11 : decode cX7_due 11 = .ok (.ireturn, 1) := by decide +kernel
theorem dX7_due_12 : decode cX7_due 12 = .ok (.iload_n 2, 1) := by decide +kernel
theorem dX7_due_13 : decode cX7_due 13 = .ok (.iconst 2, 1) := by decide +kernel
theorem dX7_due_14 : decode cX7_due 14 = .ok (.if_icmp .eq 14, 3) := by decide +kernel
theorem dX7_due_17 : decode cX7_due 17 = .ok (.aload_n 0, 1) := by decide +kernel
theorem dX7_due_18 : decode cX7_due 18 = .ok (.getfield 9, 3) := by decide +kernel
theorem dX7_due_21 : decode cX7_due 21 = .ok (.sipush 431, 3) := by decide +kernel
theorem dX7_due_24 : decode cX7_due 24 = .ok (.iload_n 1, 1) := by decide +kernel
theorem dX7_due_25 : decode cX7_due 25 = .ok (.iadd, 1) := by decide +kernel
theorem dX7_due_26 : decode cX7_due 26 = .ok (.iaload, 1) := by decide +kernel
theorem dX7_due_27 : decode cX7_due 27 = .ok (.ireturn, 1) := by decide +kernel
theorem dX7_due_28 : decode cX7_due 28 = .ok (.aload_n 0, 1) := by decide +kernel
theorem dX7_due_29 : decode cX7_due 29 = .ok (.getfield 9, 3) := by decide +kernel
theorem dX7_due_32 : decode cX7_due 32 = .ok (.sipush 331, 3) := by decide +kernel
theorem dX7_due_35 : decode cX7_due 35 = .ok (.iload_n 1, 1) := by decide +kernel
theorem dX7_due_36 : decode cX7_due 36 = .ok (.iadd, 1) := by decide +kernel
theorem dX7_due_37 : decode cX7_due 37 = .ok (.iaload, 1) := by decide +kernel
theorem dX7_due_38 : decode cX7_due 38 = .ok (.istore_n 3, 1) := by decide +kernel
theorem dX7_due_39 : decode cX7_due 39 = .ok (.aload_n 0, 1) := by decide +kernel
theorem dX7_due_40 : decode cX7_due 40 = .ok (.getfield 9, 3) := by decide +kernel
theorem dX7_due_43 : decode cX7_due 43 = .ok (.sipush 631, 3) := by decide +kernel
theorem dX7_due_46 : decode cX7_due 46 = .ok (.iload_n 3, 1) := by decide +kernel
theorem dX7_due_47 : decode cX7_due 47 = .ok (.iadd, 1) := by decide +kernel
theorem dX7_due_48 : decode cX7_due 48 = .ok (.iaload, 1) := by decide +kernel
theorem dX7_due_49 : decode cX7_due 49 = .ok (.iconst 2, 1) := by decide +kernel
theorem dX7_due_50 : decode cX7_due 50 = .ok (.if_icmp .ne 16, 3) := by decide +kernel
theorem dX7_due_53 : decode cX7_due 53 = .ok (.aload_n 0, 1) := by decide +kernel
theorem dX7_due_54 : decode cX7_due 54 = .ok (.getfield 9, 3) := by decide +kernel
theorem dX7_due_57 : decode cX7_due 57 = .ok (.sipush 671, 3) := by decide +kernel
theorem dX7_due_60 : decode cX7_due 60 = .ok (.iload_n 3, 1) := by decide +kernel
theorem dX7_due_61 : decode cX7_due 61 = .ok (.iadd, 1) := by decide +kernel
theorem dX7_due_62 : decode cX7_due 62 = .ok (.iaload, 1) := by decide +kernel
theorem dX7_due_63 : decode cX7_due 63 = .ok (.goto 40, 3) := by decide +kernel
theorem dX7_due_66 : decode cX7_due 66 = .ok (.aload_n 0, 1) := by decide +kernel
theorem dX7_due_67 : decode cX7_due 67 = .ok (.getfield 9, 3) := by decide +kernel
theorem dX7_due_70 : decode cX7_due 70 = .ok (.sipush 631, 3) := by decide +kernel
theorem dX7_due_73 : decode cX7_due 73 = .ok (.iload_n 3, 1) := by decide +kernel
theorem dX7_due_74 : decode cX7_due 74 = .ok (.iadd, 1) := by decide +kernel
theorem dX7_due_75 : decode cX7_due 75 = .ok (.iaload, 1) := by decide +kernel
theorem dX7_due_76 : decode cX7_due 76 = .ok (.iconst 3, 1) := by decide +kernel
theorem dX7_due_77 : decode cX7_due 77 = .ok (.if_icmp .ne 16, 3) := by decide +kernel
theorem dX7_due_80 : decode cX7_due 80 = .ok (.aload_n 0, 1) := by decide +kernel
theorem dX7_due_81 : decode cX7_due 81 = .ok (.getfield 9, 3) := by decide +kernel
theorem dX7_due_84 : decode cX7_due 84 = .ok (.sipush 691, 3) := by decide +kernel
theorem dX7_due_87 : decode cX7_due 87 = .ok (.iload_n 3, 1) := by decide +kernel
theorem dX7_due_88 : decode cX7_due 88 = .ok (.iadd, 1) := by decide +kernel
theorem dX7_due_89 : decode cX7_due 89 = .ok (.iaload, 1) := by decide +kernel
theorem dX7_due_90 : decode cX7_due 90 = .ok (.goto 13, 3) := by decide +kernel
theorem dX7_due_93 : decode cX7_due 93 = .ok (.aload_n 0, 1) := by decide +kernel
theorem dX7_due_94 : decode cX7_due 94 = .ok (.getfield 9, 3) := by decide +kernel
theorem dX7_due_97 : decode cX7_due 97 = .ok (.sipush 431, 3) := by decide +kernel
theorem dX7_due_100 : decode cX7_due 100 = .ok (.iload_n 1, 1) := by decide +kernel
theorem dX7_due_101 : decode cX7_due 101 = .ok (.iadd, 1) := by decide +kernel
theorem dX7_due_102 : decode cX7_due 102 = .ok (.iaload, 1) := by decide +kernel
theorem dX7_due_103 : decode cX7_due 103 = .ok (.ireturn, 1) := by decide +kernel
theorem dX7_kind_0 : decode cX7_kind 0 = .ok (.aload_n 0, 1) := by decide +kernel
theorem dX7_kind_1 : decode cX7_kind 1 = .ok (.iload_n 1, 1) := by decide +kernel
theorem dX7_kind_2 : decode cX7_kind 2 = .ok (.invokevirtual 95, 3) := by decide +kernel
theorem dX7_kind_5 : decode cX7_kind 5 = .ok (.istore_n 2, 1) := by decide +kernel
theorem dX7_kind_6 : decode cX7_kind 6 = .ok (.iload_n 2, 1) := by decide +kernel
theorem dX7_kind_7 : decode cX7_kind 7 = .ok (.iconst 1, 1) := by decide +kernel
theorem dX7_kind_8 : decode cX7_kind 8 = .ok (.if_icmp .ne 7, 3) := by decide +kernel
theorem dX7_kind_11 : decode cX7_kind 11 = .ok (.iconst 0, 1) := by decide +kernel
theorem dX7_kind_12 : decode cX7_kind 12 = .ok (.goto 31, 3) := by decide +kernel
theorem dX7_kind_15 : decode cX7_kind 15 = .ok (.iload_n 2, 1) := by decide +kernel
theorem dX7_kind_16 : decode cX7_kind 16 = .ok (.iconst 3, 1) := by decide +kernel
theorem dX7_kind_17 : decode cX7_kind 17 = .ok (.if_icmp .ne 7, 3) := by decide +kernel
theorem dX7_kind_20 : decode cX7_kind 20 = .ok (.iconst 1, 1) := by decide +kernel
theorem dX7_kind_21 : decode cX7_kind 21 = .ok (.goto 22, 3) := by decide +kernel
theorem dX7_kind_24 : decode cX7_kind 24 = .ok (.aload_n 0, 1) := by decide +kernel
theorem dX7_kind_25 : decode cX7_kind 25 = .ok (.getfield 9, 3) := by decide +kernel
theorem dX7_kind_28 : decode cX7_kind 28 = .ok (.sipush 631, 3) := by decide +kernel
theorem dX7_kind_31 : decode cX7_kind 31 = .ok (.aload_n 0, 1) := by decide +kernel
theorem dX7_kind_32 : decode cX7_kind 32 = .ok (.getfield 9, 3) := by decide +kernel
theorem dX7_kind_35 : decode cX7_kind 35 = .ok (.sipush 331, 3) := by decide +kernel
theorem dX7_kind_38 : decode cX7_kind 38 = .ok (.iload_n 1, 1) := by decide +kernel
theorem dX7_kind_39 : decode cX7_kind 39 = .ok (.iadd, 1) := by decide +kernel
theorem dX7_kind_40 : decode cX7_kind 40 = .ok (.iaload, 1) := by decide +kernel
theorem dX7_kind_41 : decode cX7_kind 41 = .ok (.iadd, 1) := by decide +kernel
theorem dX7_kind_42 : decode cX7_kind 42 = .ok (.iaload, 1) := by decide +kernel
theorem dX7_kind_43 : decode cX7_kind 43 = .ok (.ireturn, 1) := by decide +kernel
theorem dX7_earliest_0 : decode cX7_earliest 0 = .ok (.iconst (-1), 1) := by decide +kernel
theorem dX7_earliest_1 : decode cX7_earliest 1 = .ok (.istore_n 1, 1) := by decide +kernel
theorem dX7_earliest_2 : decode cX7_earliest 2 = .ok (.iconst 0, 1) := by decide +kernel
theorem dX7_earliest_3 : decode cX7_earliest 3 = .ok (.istore_n 2, 1) := by decide +kernel
theorem dX7_earliest_4 : decode cX7_earliest 4 = .ok (.iload_n 2, 1) := by decide +kernel
theorem dX7_earliest_5 : decode cX7_earliest 5 = .ok (.bipush 100, 2) := by decide +kernel
theorem dX7_earliest_7 : decode cX7_earliest 7 = .ok (.if_icmp .ge 36, 3) := by decide +kernel
theorem dX7_earliest_10 : decode cX7_earliest 10 = .ok (.aload_n 0, 1) := by decide +kernel
theorem dX7_earliest_11 : decode cX7_earliest 11 = .ok (.iload_n 2, 1) := by decide +kernel
theorem dX7_earliest_12 : decode cX7_earliest 12 = .ok (.invokevirtual 98, 3) := by decide +kernel
theorem dX7_earliest_15 : decode cX7_earliest 15 = .ok (.ifCond .lt 22, 3) := by decide +kernel
theorem dX7_earliest_18 : decode cX7_earliest 18 = .ok (.iload_n 1, 1) := by decide +kernel
theorem dX7_earliest_19 : decode cX7_earliest 19 = .ok (.ifCond .lt 12, 3) := by decide +kernel
theorem dX7_earliest_22 : decode cX7_earliest 22 = .ok (.aload_n 0, 1) := by decide +kernel
theorem dX7_earliest_23 : decode cX7_earliest 23 = .ok (.iload_n 2, 1) := by decide +kernel
theorem dX7_earliest_24 : decode cX7_earliest 24 = .ok (.invokevirtual 98, 3) := by decide +kernel
theorem dX7_earliest_27 : decode cX7_earliest 27 = .ok (.iload_n 1, 1) := by decide +kernel
theorem dX7_earliest_28 : decode cX7_earliest 28 = .ok (.if_icmp .ge 9, 3) := by decide +kernel
theorem dX7_earliest_31 : decode cX7_earliest 31 = .ok (.aload_n 0, 1) := by decide +kernel
theorem dX7_earliest_32 : decode cX7_earliest 32 = .ok (.iload_n 2, 1) := by decide +kernel
theorem dX7_earliest_33 : decode cX7_earliest 33 = .ok (.invokevirtual 98, 3) := by decide +kernel
theorem dX7_earliest_36 : decode cX7_earliest 36 = .ok (.istore_n 1, 1) := by decide +kernel
theorem dX7_earliest_37 : decode cX7_earliest 37 = .ok (.iinc 2 1, 3) := by decide +kernel
theorem dX7_earliest_40 : decode cX7_earliest 40 = .ok (.goto (-36), 3) := by decide +kernel
theorem dX7_earliest_43 : decode cX7_earliest 43 = .ok (.iload_n 1, 1) := by decide +kernel
theorem dX7_earliest_44 : decode cX7_earliest 44 = .ok (.ireturn, 1) := by decide +kernel
theorem dX7_happens_0 : decode cX7_happens 0 = .ok (.aload_n 0, 1) := by decide +kernel
theorem dX7_happens_1 : decode cX7_happens 1 = .ok (.getfield 9, 3) := by decide +kernel
theorem dX7_happens_4 : decode cX7_happens 4 = .ok (.sipush 331, 3) := by decide +kernel
theorem dX7_happens_7 : decode cX7_happens 7 = .ok (.iload_n 1, 1) := by decide +kernel
theorem dX7_happens_8 : decode cX7_happens 8 = .ok (.iadd, 1) := by decide +kernel
theorem dX7_happens_9 : decode cX7_happens 9 = .ok (.iaload, 1) := by decide +kernel
theorem dX7_happens_10 : decode cX7_happens 10 = .ok (.istore_n 3, 1) := by decide +kernel
theorem dX7_happens_11 : decode cX7_happens 11 = .ok (.aload_n 0, 1) := by decide +kernel
theorem dX7_happens_12 : decode cX7_happens 12 = .ok (.iload_n 1, 1) := by decide +kernel
theorem dX7_happens_13 : decode cX7_happens 13 = .ok (.invokevirtual 101, 3) := by decide +kernel
theorem dX7_happens_16 : decode cX7_happens 16 = .ok (.tableswitch 150 0 3 #[32, 59, 68, 109], 32) := by decide +kernel
theorem dX7_happens_48 : decode cX7_happens 48 = .ok (.aload_n 0, 1) := by decide +kernel
theorem dX7_happens_49 : decode cX7_happens 49 = .ok (.iload_n 1, 1) := by decide +kernel
theorem dX7_happens_50 : decode cX7_happens 50 = .ok (.iload_n 2, 1) := by decide +kernel
theorem dX7_happens_51 : decode cX7_happens 51 = .ok (.invokevirtual 71, 3) := by decide +kernel
theorem dX7_happens_54 : decode cX7_happens 54 = .ok (.aload_n 0, 1) := by decide +kernel
theorem dX7_happens_55 : decode cX7_happens 55 = .ok (.getfield 9, 3) := by decide +kernel
theorem dX7_happens_58 : decode cX7_happens 58 = .ok (.sipush 631, 3) := by decide +kernel
theorem dX7_happens_61 : decode cX7_happens 61 = .ok (.iload_n 3, 1) := by decide +kernel
theorem dX7_happens_62 : decode cX7_happens 62 = .ok (.iadd, 1) := by decide +kernel
theorem dX7_happens_63 : decode cX7_happens 63 = .ok (.iconst 0, 1) := by decide +kernel
theorem dX7_happens_64 : decode cX7_happens 64 = .ok (.iastore, 1) := by decide +kernel
theorem dX7_happens_65 : decode cX7_happens 65 = .ok (.aload_n 0, 1) := by decide +kernel
theorem dX7_happens_66 : decode cX7_happens 66 = .ok (.bipush 9, 2) := by decide +kernel
theorem dX7_happens_68 : decode cX7_happens 68 = .ok (.iload_n 1, 1) := by decide +kernel
theorem dX7_happens_69 : decode cX7_happens 69 = .ok (.invokevirtual 83, 3) := by decide +kernel
theorem dX7_happens_72 : decode cX7_happens 72 = .ok (.goto 117, 3) := by decide +kernel
theorem dX7_happens_75 : decode cX7_happens 75 = .ok (.aload_n 0, 1) := by decide +kernel
theorem dX7_happens_76 : decode cX7_happens 76 = .ok (.iload_n 1, 1) := by decide +kernel
theorem dX7_happens_77 : decode cX7_happens 77 = .ok (.iload_n 2, 1) := by decide +kernel
theorem dX7_happens_78 : decode cX7_happens 78 = .ok (.invokevirtual 71, 3) := by decide +kernel
theorem dX7_happens_81 : decode cX7_happens 81 = .ok (.goto 108, 3) := by decide +kernel
theorem dX7_happens_84 : decode cX7_happens 84 = .ok (.aload_n 0, 1) := by decide +kernel
theorem dX7_happens_85 : decode cX7_happens 85 = .ok (.getfield 9, 3) := by decide +kernel
theorem dX7_happens_88 : decode cX7_happens 88 = .ok (.bipush 25, 2) := by decide +kernel
theorem dX7_happens_90 : decode cX7_happens 90 = .ok (.aload_n 0, 1) := by decide +kernel
theorem dX7_happens_91 : decode cX7_happens 91 = .ok (.iload_n 1, 1) := by decide +kernel
theorem dX7_happens_92 : decode cX7_happens 92 = .ok (.invokevirtual 50, 3) := by decide +kernel
theorem dX7_happens_95 : decode cX7_happens 95 = .ok (.iadd, 1) := by decide +kernel
theorem dX7_happens_96 : decode cX7_happens 96 = .ok (.iaload, 1) := by decide +kernel
theorem dX7_happens_97 : decode cX7_happens 97 = .ok (.iconst 1, 1) := by decide +kernel
theorem dX7_happens_98 : decode cX7_happens 98 = .ok (.if_icmp .ne 13, 3) := by decide +kernel
theorem dX7_happens_101 : decode cX7_happens 101 = .ok (.aload_n 0, 1) := by decide +kernel
theorem dX7_happens_102 : decode cX7_happens 102 = .ok (.iload_n 3, 1) := by decide +kernel
theorem dX7_happens_103 : decode cX7_happens 103 = .ok (.iload_n 2, 1) := by decide +kernel
theorem dX7_happens_104 : decode cX7_happens 104 = .ok (.invokevirtual 92, 3) := by decide +kernel
theorem dX7_happens_107 : decode cX7_happens 107 = .ok (.pop, 1) := by decide +kernel
theorem dX7_happens_108 : decode cX7_happens 108 = .ok (.goto 81, 3) := by decide +kernel
theorem dX7_happens_111 : decode cX7_happens 111 = .ok (.aload_n 0, 1) := by decide +kernel
theorem dX7_happens_112 : decode cX7_happens 112 = .ok (.getfield 9, 3) := by decide +kernel
theorem dX7_happens_115 : decode cX7_happens 115 = .ok (.sipush 631, 3) := by decide +kernel
theorem dX7_happens_118 : decode cX7_happens 118 = .ok (.iload_n 3, 1) := by decide +kernel
theorem dX7_happens_119 : decode cX7_happens 119 = .ok (.iadd, 1) := by decide +kernel
theorem dX7_happens_120 : decode cX7_happens 120 = .ok (.iconst 3, 1) := by decide +kernel
theorem dX7_happens_121 : decode cX7_happens 121 = .ok (.iastore, 1) := by decide +kernel
theorem dX7_happens_122 : decode cX7_happens 122 = .ok (.goto 67, 3) := by decide +kernel
theorem dX7_happens_125 : decode cX7_happens 125 = .ok (.aload_n 0, 1) := by decide +kernel
theorem dX7_happens_126 : decode cX7_happens 126 = .ok (.getfield 9, 3) := by decide +kernel
theorem dX7_happens_129 : decode cX7_happens 129 = .ok (.bipush 28, 2) := by decide +kernel
theorem dX7_happens_131 : decode cX7_happens 131 = .ok (.aload_n 0, 1) := by decide +kernel
theorem dX7_happens_132 : decode cX7_happens 132 = .ok (.iload_n 1, 1) := by decide +kernel
theorem dX7_happens_133 : decode cX7_happens 133 = .ok (.invokevirtual 50, 3) := by decide +kernel
theorem dX7_happens_136 : decode cX7_happens 136 = .ok (.iadd, 1) := by decide +kernel
theorem dX7_happens_137 : decode cX7_happens 137 = .ok (.iaload, 1) := by decide +kernel
theorem dX7_happens_138 : decode cX7_happens 138 = .ok (.iconst 1, 1) := by decide +kernel
theorem dX7_happens_139 : decode cX7_happens 139 = .ok (.if_icmp .ne 13, 3) := by decide +kernel
theorem dX7_happens_142 : decode cX7_happens 142 = .ok (.aload_n 0, 1) := by decide +kernel
theorem dX7_happens_143 : decode cX7_happens 143 = .ok (.iload_n 3, 1) := by decide +kernel
theorem dX7_happens_144 : decode cX7_happens 144 = .ok (.iload_n 2, 1) := by decide +kernel
theorem dX7_happens_145 : decode cX7_happens 145 = .ok (.invokevirtual 92, 3) := by decide +kernel
theorem dX7_happens_148 : decode cX7_happens 148 = .ok (.pop, 1) := by decide +kernel
theorem dX7_happens_149 : decode cX7_happens 149 = .ok (.goto 40, 3) := by decide +kernel
theorem dX7_happens_152 : decode cX7_happens 152 = .ok (.aload_n 0, 1) := by decide +kernel
theorem dX7_happens_153 : decode cX7_happens 153 = .ok (.getfield 9, 3) := by decide +kernel
theorem dX7_happens_156 : decode cX7_happens 156 = .ok (.sipush 631, 3) := by decide +kernel
theorem dX7_happens_159 : decode cX7_happens 159 = .ok (.iload_n 3, 1) := by decide +kernel
theorem dX7_happens_160 : decode cX7_happens 160 = .ok (.iadd, 1) := by decide +kernel
theorem dX7_happens_161 : decode cX7_happens 161 = .ok (.iconst 4, 1) := by decide +kernel
theorem dX7_happens_162 : decode cX7_happens 162 = .ok (.iastore, 1) := by decide +kernel
theorem dX7_happens_163 : decode cX7_happens 163 = .ok (.goto 26, 3) := by decide +kernel
theorem dX7_happens_166 : decode cX7_happens 166 = .ok (.aload_n 0, 1) := by decide +kernel
theorem dX7_happens_167 : decode cX7_happens 167 = .ok (.iload_n 1, 1) := by decide +kernel
theorem dX7_happens_168 : decode cX7_happens 168 = .ok (.iload_n 2, 1) := by decide +kernel
theorem dX7_happens_169 : decode cX7_happens 169 = .ok (.invokevirtual 71, 3) := by decide +kernel
theorem dX7_happens_172 : decode cX7_happens 172 = .ok (.aload_n 0, 1) := by decide +kernel
theorem dX7_happens_173 : decode cX7_happens 173 = .ok (.getfield 9, 3) := by decide +kernel
theorem dX7_happens_176 : decode cX7_happens 176 = .ok (.sipush 631, 3) := by decide +kernel
theorem dX7_happens_179 : decode cX7_happens 179 = .ok (.iload_n 3, 1) := by decide +kernel
theorem dX7_happens_180 : decode cX7_happens 180 = .ok (.iadd, 1) := by decide +kernel
theorem dX7_happens_181 : decode cX7_happens 181 = .ok (.iconst 0, 1) := by decide +kernel
theorem dX7_happens_182 : decode cX7_happens 182 = .ok (.iastore, 1) := by decide +kernel
theorem dX7_happens_183 : decode cX7_happens 183 = .ok (.aload_n 0, 1) := by decide +kernel
theorem dX7_happens_184 : decode cX7_happens 184 = .ok (.iconst 5, 1) := by decide +kernel
theorem dX7_happens_185 : decode cX7_happens 185 = .ok (.iload_n 1, 1) := by decide +kernel
theorem dX7_happens_186 : decode cX7_happens 186 = .ok (.invokevirtual 83, 3) := by decide +kernel
theorem dX7_happens_189 : decode cX7_happens 189 = .ok (.return_, 1) := by decide +kernel
theorem dX7_happen_0 : decode cX7_happen 0 = .ok (.iconst 0, 1) := by decide +kernel
theorem dX7_happen_1 : decode cX7_happen 1 = .ok (.istore_n 2, 1) := by decide +kernel
theorem dX7_happen_2 : decode cX7_happen 2 = .ok (.aload_n 0, 1) := by decide +kernel
theorem dX7_happen_3 : decode cX7_happen 3 = .ok (.getfield 9, 3) := by decide +kernel
theorem dX7_happen_6 : decode cX7_happen 6 = .ok (.iconst 0, 1) := by decide +kernel
theorem dX7_happen_7 : decode cX7_happen 7 = .ok (.iload_n 1, 1) := by decide +kernel
theorem dX7_happen_8 : decode cX7_happen 8 = .ok (.iastore, 1) := by decide +kernel
theorem dX7_happen_9 : decode cX7_happen 9 = .ok (.iconst 0, 1) := by decide +kernel
theorem dX7_happen_10 : decode cX7_happen 10 = .ok (.istore_n 3, 1) := by decide +kernel
theorem dX7_happen_11 : decode cX7_happen 11 = .ok (.iload_n 3, 1) := by decide +kernel
theorem dX7_happen_12 : decode cX7_happen 12 = .ok (.iconst 5, 1) := by decide +kernel
theorem dX7_happen_13 : decode cX7_happen 13 = .ok (.if_icmp .ge 58, 3) := by decide +kernel
theorem dX7_happen_16 : decode cX7_happen 16 = .ok (.iconst 0, 1) := by decide +kernel
theorem dX7_happen_17 : decode cX7_happen 17 = .ok (.istore 4, 2) := by decide +kernel
theorem dX7_happen_19 : decode cX7_happen 19 = .ok (.iload 4, 2) := by decide +kernel
theorem dX7_happen_21 : decode cX7_happen 21 = .ok (.bipush 100, 2) := by decide +kernel
theorem dX7_happen_23 : decode cX7_happen 23 = .ok (.if_icmp .ge 42, 3) := by decide +kernel
theorem dX7_happen_26 : decode cX7_happen 26 = .ok (.aload_n 0, 1) := by decide +kernel
theorem dX7_happen_27 : decode cX7_happen 27 = .ok (.iload 4, 2) := by decide +kernel
theorem dX7_happen_29 : decode cX7_happen 29 = .ok (.invokevirtual 98, 3) := by decide +kernel
theorem dX7_happen_32 : decode cX7_happen 32 = .ok (.iload_n 1, 1) := by decide +kernel
theorem dX7_happen_33 : decode cX7_happen 33 = .ok (.if_icmp .ne 26, 3) := by decide +kernel
theorem dX7_happen_36 : decode cX7_happen 36 = .ok (.aload_n 0, 1) := by decide +kernel
theorem dX7_happen_37 : decode cX7_happen 37 = .ok (.iload 4, 2) := by decide +kernel
theorem dX7_happen_39 : decode cX7_happen 39 = .ok (.invokevirtual 101, 3) := by decide +kernel
theorem dX7_happen_42 : decode cX7_happen 42 = .ok (.iload_n 3, 1) := by decide +kernel
theorem dX7_happen_43 : decode cX7_happen 43 = .ok (.if_icmp .eq 6, 3) := by decide +kernel
theorem dX7_happen_46 : decode cX7_happen 46 = .ok (.goto 13, 3) := by decide +kernel
theorem dX7_happen_49 : decode cX7_happen 49 = .ok (.aload_n 0, 1) := by decide +kernel
theorem dX7_happen_50 : decode cX7_happen 50 = .ok (.iload 4, 2) := by decide +kernel
theorem dX7_happen_52 : decode cX7_happen 52 = .ok (.iload_n 1, 1) := by decide +kernel
theorem dX7_happen_53 : decode cX7_happen 53 = .ok (.invokevirtual 104, 3) := by decide +kernel
theorem dX7_happen_56 : decode cX7_happen 56 = .ok (.iinc 2 1, 3) := by decide +kernel
theorem dX7_happen_59 : decode cX7_happen 59 = .ok (.iinc 4 1, 3) := by decide +kernel
theorem dX7_happen_62 : decode cX7_happen 62 = .ok (.goto (-43), 3) := by decide +kernel
theorem dX7_happen_65 : decode cX7_happen 65 = .ok (.iinc 3 1, 3) := by decide +kernel
theorem dX7_happen_68 : decode cX7_happen 68 = .ok (.goto (-57), 3) := by decide +kernel
theorem dX7_happen_71 : decode cX7_happen 71 = .ok (.iload_n 2, 1) := by decide +kernel
theorem dX7_happen_72 : decode cX7_happen 72 = .ok (.ireturn, 1) := by decide +kernel
theorem dX7_advance_0 : decode cX7_advance 0 = .ok (.aload_n 0, 1) := by decide +kernel
theorem dX7_advance_1 : decode cX7_advance 1 = .ok (.iconst 0, 1) := by decide +kernel
theorem dX7_advance_2 : decode cX7_advance 2 = .ok (.putfield 19, 3) := by decide +kernel
theorem dX7_advance_5 : decode cX7_advance 5 = .ok (.iload_n 1, 1) := by decide +kernel
theorem dX7_advance_6 : decode cX7_advance 6 = .ok (.iconst 1, 1) := by decide +kernel
theorem dX7_advance_7 : decode cX7_advance 7 = .ok (.sipush 2000, 3) := by decide +kernel
theorem dX7_advance_10 : decode cX7_advance 10 = .ok (.invokestatic 23, 3) := by decide +kernel
theorem dX7_advance_13 : decode cX7_advance 13 = .ok (.ifCond .ne 9, 3) := by decide +kernel
theorem dX7_advance_16 : decode cX7_advance 16 = .ok (.aload_n 0, 1) := by decide +kernel
theorem dX7_advance_17 : decode cX7_advance 17 = .ok (.iconst 1, 1) := by decide +kernel
theorem dX7_advance_18 : decode cX7_advance 18 = .ok (.invokevirtual 41, 3) := by decide +kernel
theorem dX7_advance_21 : decode cX7_advance 21 = .ok (.ireturn, 1) := by decide +kernel
theorem dX7_advance_22 : decode cX7_advance 22 = .ok (.aload_n 0, 1) := by decide +kernel
theorem dX7_advance_23 : decode cX7_advance 23 = .ok (.getfield 9, 3) := by decide +kernel
theorem dX7_advance_26 : decode cX7_advance 26 = .ok (.iconst 0, 1) := by decide +kernel
theorem dX7_advance_27 : decode cX7_advance 27 = .ok (.iaload, 1) := by decide +kernel
theorem dX7_advance_28 : decode cX7_advance 28 = .ok (.iload_n 1, 1) := by decide +kernel
theorem dX7_advance_29 : decode cX7_advance 29 = .ok (.iadd, 1) := by decide +kernel
theorem dX7_advance_30 : decode cX7_advance 30 = .ok (.ldc 107, 2) := by decide +kernel
theorem dX7_advance_32 : decode cX7_advance 32 = .ok (.if_icmp .le 9, 3) := by decide +kernel
theorem dX7_advance_35 : decode cX7_advance 35 = .ok (.aload_n 0, 1) := by decide +kernel
theorem dX7_advance_36 : decode cX7_advance 36 = .ok (.iconst 2, 1) := by decide +kernel
theorem dX7_advance_37 : decode cX7_advance 37 = .ok (.invokevirtual 41, 3) := by decide +kernel
theorem dX7_advance_40 : decode cX7_advance 40 = .ok (.ireturn, 1) := by decide +kernel
theorem dX7_advance_41 : decode cX7_advance 41 = .ok (.aload_n 0, 1) := by decide +kernel
theorem dX7_advance_42 : decode cX7_advance 42 = .ok (.getfield 9, 3) := by decide +kernel
theorem dX7_advance_45 : decode cX7_advance 45 = .ok (.iconst 0, 1) := by decide +kernel
theorem dX7_advance_46 : decode cX7_advance 46 = .ok (.iaload, 1) := by decide +kernel
theorem dX7_advance_47 : decode cX7_advance 47 = .ok (.iload_n 1, 1) := by decide +kernel
theorem dX7_advance_48 : decode cX7_advance 48 = .ok (.iadd, 1) := by decide +kernel
theorem dX7_advance_49 : decode cX7_advance 49 = .ok (.istore_n 2, 1) := by decide +kernel
theorem dX7_advance_50 : decode cX7_advance 50 = .ok (.iconst 0, 1) := by decide +kernel
theorem dX7_advance_51 : decode cX7_advance 51 = .ok (.istore_n 3, 1) := by decide +kernel
theorem dX7_advance_52 : decode cX7_advance 52 = .ok (.aload_n 0, 1) := by decide +kernel
theorem dX7_advance_53 : decode cX7_advance 53 = .ok (.invokevirtual 108, 3) := by decide +kernel
theorem dX7_advance_56 : decode cX7_advance 56 = .ok (.ifCond .lt 25, 3) := by decide +kernel
theorem dX7_advance_59 : decode cX7_advance 59 = .ok (.aload_n 0, 1) := by decide +kernel
theorem dX7_advance_60 : decode cX7_advance 60 = .ok (.invokevirtual 108, 3) := by decide +kernel
theorem dX7_advance_63 : decode cX7_advance 63 = .ok (.iload_n 2, 1) := by decide +kernel
theorem dX7_advance_64 : decode cX7_advance 64 = .ok (.if_icmp .gt 17, 3) := by decide +kernel
theorem dX7_advance_67 : decode cX7_advance 67 = .ok (.iload_n 3, 1) := by decide +kernel
theorem dX7_advance_68 : decode cX7_advance 68 = .ok (.aload_n 0, 1) := by decide +kernel
theorem dX7_advance_69 : decode cX7_advance 69 = .ok (.aload_n 0, 1) := by decide +kernel
theorem dX7_advance_70 : decode cX7_advance 70 = .ok (.invokevirtual 108, 3) := by decide +kernel
theorem dX7_advance_73 : decode cX7_advance 73 = .ok (.invokevirtual 112, 3) := by decide +kernel
theorem dX7_advance_76 : decode cX7_advance 76 = .ok (.iadd, 1) := by decide +kernel
theorem dX7_advance_77 : decode cX7_advance 77 = .ok (.istore_n 3, 1) := by decide +kernel
theorem dX7_advance_78 : decode cX7_advance 78 = .ok (.goto (-26), 3) := by decide +kernel
theorem dX7_advance_81 : decode cX7_advance 81 = .ok (.aload_n 0, 1) := by decide +kernel
theorem dX7_advance_82 : decode cX7_advance 82 = .ok (.getfield 9, 3) := by decide +kernel
theorem dX7_advance_85 : decode cX7_advance 85 = .ok (.iconst 0, 1) := by decide +kernel
theorem dX7_advance_86 : decode cX7_advance 86 = .ok (.iload_n 2, 1) := by decide +kernel
theorem dX7_advance_87 : decode cX7_advance 87 = .ok (.iastore, 1) := by decide +kernel
theorem dX7_advance_88 : decode cX7_advance 88 = .ok (.iload_n 3, 1) := by decide +kernel
theorem dX7_advance_89 : decode cX7_advance 89 = .ok (.ireturn, 1) := by decide +kernel
theorem dX7_advanceToEvent_0 : decode cX7_advanceToEvent 0 = .ok (.aload_n 0, 1) := by decide +kernel
theorem dX7_advanceToEvent_1 : decode cX7_advanceToEvent 1 = .ok (.iconst 0, 1) := by decide +kernel
theorem dX7_advanceToEvent_2 : decode cX7_advanceToEvent 2 = .ok (.putfield 19, 3) := by decide +kernel
theorem dX7_advanceToEvent_5 : decode cX7_advanceToEvent 5 = .ok (.aload_n 0, 1) := by decide +kernel
theorem dX7_advanceToEvent_6 : decode cX7_advanceToEvent 6 = .ok (.invokevirtual 108, 3) := by decide +kernel
theorem dX7_advanceToEvent_9 : decode cX7_advanceToEvent 9 = .ok (.istore_n 1, 1) := by decide +kernel
theorem dX7_advanceToEvent_10 : decode cX7_advanceToEvent 10 = .ok (.iload_n 1, 1) := by decide +kernel
theorem dX7_advanceToEvent_11 : decode cX7_advanceToEvent 11 = .ok (.ifCond .ge 9, 3) := by decide +kernel
theorem dX7_advanceToEvent_14 : decode cX7_advanceToEvent 14 = .ok (.aload_n 0, 1) := by decide +kernel
theorem dX7_advanceToEvent_15 : decode cX7_advanceToEvent 15 = .ok (.iconst 1, 1) := by decide +kernel
theorem dX7_advanceToEvent_16 : decode cX7_advanceToEvent 16 = .ok (.invokevirtual 41, 3) := by decide +kernel
theorem dX7_advanceToEvent_19 : decode cX7_advanceToEvent 19 = .ok (.ireturn, 1) := by decide +kernel
theorem dX7_advanceToEvent_20 : decode cX7_advanceToEvent 20 = .ok (.iload_n 1, 1) := by decide +kernel
theorem dX7_advanceToEvent_21 : decode cX7_advanceToEvent 21 = .ok (.ldc 107, 2) := by decide +kernel
theorem dX7_advanceToEvent_23 : decode cX7_advanceToEvent 23 = .ok (.if_icmp .le 9, 3) := by decide +kernel
theorem dX7_advanceToEvent_26 : decode cX7_advanceToEvent 26 = .ok (.aload_n 0, 1) := by decide +kernel
theorem dX7_advanceToEvent_27 : decode cX7_advanceToEvent 27 = .ok (.iconst 2, 1) := by decide +kernel
theorem dX7_advanceToEvent_28 : decode cX7_advanceToEvent 28 = .ok (.invokevirtual 41, 3) := by decide +kernel
theorem dX7_advanceToEvent_31 : decode cX7_advanceToEvent 31 = .ok (.ireturn, 1) := by decide +kernel
theorem dX7_advanceToEvent_32 : decode cX7_advanceToEvent 32 = .ok (.aload_n 0, 1) := by decide +kernel
theorem dX7_advanceToEvent_33 : decode cX7_advanceToEvent 33 = .ok (.iload_n 1, 1) := by decide +kernel
theorem dX7_advanceToEvent_34 : decode cX7_advanceToEvent 34 = .ok (.invokevirtual 112, 3) := by decide +kernel
theorem dX7_advanceToEvent_37 : decode cX7_advanceToEvent 37 = .ok (.pop, 1) := by decide +kernel
theorem dX7_advanceToEvent_38 : decode cX7_advanceToEvent 38 = .ok (.iload_n 1, 1) := by decide +kernel
theorem dX7_advanceToEvent_39 : decode cX7_advanceToEvent 39 = .ok (.ireturn, 1) := by decide +kernel
theorem dX7_time_0 : decode cX7_time 0 = .ok (.aload_n 0, 1) := by decide +kernel
theorem dX7_time_1 : decode cX7_time 1 = .ok (.iconst 0, 1) := by decide +kernel
theorem dX7_time_2 : decode cX7_time 2 = .ok (.putfield 19, 3) := by decide +kernel
theorem dX7_time_5 : decode cX7_time 5 = .ok (.aload_n 0, 1) := by decide +kernel
theorem dX7_time_6 : decode cX7_time 6 = .ok (.getfield 9, 3) := by decide +kernel
theorem dX7_time_9 : decode cX7_time 9 = .ok (.iconst 0, 1) := by decide +kernel
theorem dX7_time_10 : decode cX7_time 10 = .ok (.iaload, 1) := by decide +kernel
theorem dX7_time_11 : decode cX7_time 11 = .ok (.ireturn, 1) := by decide +kernel
theorem dX7_clientState_0 : decode cX7_clientState 0 = .ok (.aload_n 0, 1) := by decide +kernel
theorem dX7_clientState_1 : decode cX7_clientState 1 = .ok (.iconst 0, 1) := by decide +kernel
theorem dX7_clientState_2 : decode cX7_clientState 2 = .ok (.putfield 19, 3) := by decide +kernel
theorem dX7_clientState_5 : decode cX7_clientState 5 = .ok (.iload_n 1, 1) := by decide +kernel
theorem dX7_clientState_6 : decode cX7_clientState 6 = .ok (.invokestatic 65, 3) := by decide +kernel
theorem dX7_clientState_9 : decode cX7_clientState 9 = .ok (.ifCond .eq 16, 3) := by decide +kernel
theorem dX7_clientState_12 : decode cX7_clientState 12 = .ok (.aload_n 0, 1) := by decide +kernel
theorem dX7_clientState_13 : decode cX7_clientState 13 = .ok (.getfield 9, 3) := by decide +kernel
theorem dX7_clientState_16 : decode cX7_clientState 16 = .ok (.sipush 631, 3) := by decide +kernel
theorem dX7_clientState_19 : decode cX7_clientState 19 = .ok (.iload_n 1, 1) := by decide +kernel
theorem dX7_clientState_20 : decode cX7_clientState 20 = .ok (.iadd, 1) := by decide +kernel
theorem dX7_clientState_21 : decode cX7_clientState 21 = .ok (.iaload, 1) := by decide +kernel
theorem dX7_clientState_22 : decode cX7_clientState 22 = .ok (.goto 8, 3) := by decide +kernel
theorem dX7_clientState_25 : decode cX7_clientState 25 = .ok (.aload_n 0, 1) := by decide +kernel
theorem dX7_clientState_26 : decode cX7_clientState 26 = .ok (.iconst 1, 1) := by decide +kernel
theorem dX7_clientState_27 : decode cX7_clientState 27 = .ok (.invokevirtual 41, 3) := by decide +kernel
theorem dX7_clientState_30 : decode cX7_clientState 30 = .ok (.ireturn, 1) := by decide +kernel
theorem dX7_addressOf_0 : decode cX7_addressOf 0 = .ok (.aload_n 0, 1) := by decide +kernel
theorem dX7_addressOf_1 : decode cX7_addressOf 1 = .ok (.iconst 0, 1) := by decide +kernel
theorem dX7_addressOf_2 : decode cX7_addressOf 2 = .ok (.putfield 19, 3) := by decide +kernel
theorem dX7_addressOf_5 : decode cX7_addressOf 5 = .ok (.iload_n 1, 1) := by decide +kernel
theorem dX7_addressOf_6 : decode cX7_addressOf 6 = .ok (.invokestatic 65, 3) := by decide +kernel
theorem dX7_addressOf_9 : decode cX7_addressOf 9 = .ok (.ifCond .ne 9, 3) := by decide +kernel
theorem dX7_addressOf_12 : decode cX7_addressOf 12 = .ok (.aload_n 0, 1) := by decide +kernel
theorem dX7_addressOf_13 : decode cX7_addressOf 13 = .ok (.iconst 1, 1) := by decide +kernel
theorem dX7_addressOf_14 : decode cX7_addressOf 14 = .ok (.invokevirtual 41, 3) := by decide +kernel
theorem dX7_addressOf_17 : decode cX7_addressOf 17 = .ok (.ireturn, 1) := by decide +kernel
theorem dX7_addressOf_18 : decode cX7_addressOf 18 = .ok (.aload_n 0, 1) := by decide +kernel
theorem dX7_addressOf_19 : decode cX7_addressOf 19 = .ok (.getfield 9, 3) := by decide +kernel
theorem dX7_addressOf_22 : decode cX7_addressOf 22 = .ok (.sipush 631, 3) := by decide +kernel
theorem dX7_addressOf_25 : decode cX7_addressOf 25 = .ok (.iload_n 1, 1) := by decide +kernel
theorem dX7_addressOf_26 : decode cX7_addressOf 26 = .ok (.iadd, 1) := by decide +kernel
theorem dX7_addressOf_27 : decode cX7_addressOf 27 = .ok (.iaload, 1) := by decide +kernel
theorem dX7_addressOf_28 : decode cX7_addressOf 28 = .ok (.ifCond .ne 11, 3) := by decide +kernel
theorem dX7_addressOf_31 : decode cX7_addressOf 31 = .ok (.aload_n 0, 1) := by decide +kernel
theorem dX7_addressOf_32 : decode cX7_addressOf 32 = .ok (.iconst 2, 1) := by decide +kernel
theorem dX7_addressOf_33 : decode cX7_addressOf 33 = .ok (.invokevirtual 41, 3) := by decide +kernel
theorem dX7_addressOf_36 : decode cX7_addressOf 36 = .ok (.goto 13, 3) := by decide +kernel
theorem dX7_addressOf_39 : decode cX7_addressOf 39 = .ok (.aload_n 0, 1) := by decide +kernel
theorem dX7_addressOf_40 : decode cX7_addressOf 40 = .ok (.getfield 9, 3) := by decide +kernel
theorem dX7_addressOf_43 : decode cX7_addressOf 43 = .ok (.sipush 651, 3) := by decide +kernel
theorem dX7_addressOf_46 : decode cX7_addressOf 46 = .ok (.iload_n 1, 1) := by decide +kernel
theorem dX7_addressOf_47 : decode cX7_addressOf 47 = .ok (.iadd, 1) := by decide +kernel
theorem dX7_addressOf_48 : decode cX7_addressOf 48 = .ok (.iaload, 1) := by decide +kernel
theorem dX7_addressOf_49 : decode cX7_addressOf 49 = .ok (.ireturn, 1) := by decide +kernel
theorem dX7_remembered_0 : decode cX7_remembered 0 = .ok (.aload_n 0, 1) := by decide +kernel
theorem dX7_remembered_1 : decode cX7_remembered 1 = .ok (.iconst 0, 1) := by decide +kernel
theorem dX7_remembered_2 : decode cX7_remembered 2 = .ok (.putfield 19, 3) := by decide +kernel
theorem dX7_remembered_5 : decode cX7_remembered 5 = .ok (.iload_n 1, 1) := by decide +kernel
theorem dX7_remembered_6 : decode cX7_remembered 6 = .ok (.invokestatic 65, 3) := by decide +kernel
theorem dX7_remembered_9 : decode cX7_remembered 9 = .ok (.ifCond .ne 9, 3) := by decide +kernel
theorem dX7_remembered_12 : decode cX7_remembered 12 = .ok (.aload_n 0, 1) := by decide +kernel
theorem dX7_remembered_13 : decode cX7_remembered 13 = .ok (.iconst 1, 1) := by decide +kernel
theorem dX7_remembered_14 : decode cX7_remembered 14 = .ok (.invokevirtual 41, 3) := by decide +kernel
theorem dX7_remembered_17 : decode cX7_remembered 17 = .ok (.ireturn, 1) := by decide +kernel
theorem dX7_remembered_18 : decode cX7_remembered 18 = .ok (.aload_n 0, 1) := by decide +kernel
theorem dX7_remembered_19 : decode cX7_remembered 19 = .ok (.getfield 9, 3) := by decide +kernel
theorem dX7_remembered_22 : decode cX7_remembered 22 = .ok (.sipush 711, 3) := by decide +kernel
theorem dX7_remembered_25 : decode cX7_remembered 25 = .ok (.iload_n 1, 1) := by decide +kernel
theorem dX7_remembered_26 : decode cX7_remembered 26 = .ok (.iadd, 1) := by decide +kernel
theorem dX7_remembered_27 : decode cX7_remembered 27 = .ok (.iaload, 1) := by decide +kernel
theorem dX7_remembered_28 : decode cX7_remembered 28 = .ok (.ifCond .ne 11, 3) := by decide +kernel
theorem dX7_remembered_31 : decode cX7_remembered 31 = .ok (.aload_n 0, 1) := by decide +kernel
theorem dX7_remembered_32 : decode cX7_remembered 32 = .ok (.iconst 2, 1) := by decide +kernel
theorem dX7_remembered_33 : decode cX7_remembered 33 = .ok (.invokevirtual 41, 3) := by decide +kernel
theorem dX7_remembered_36 : decode cX7_remembered 36 = .ok (.goto 15, 3) := by decide +kernel
theorem dX7_remembered_39 : decode cX7_remembered 39 = .ok (.aload_n 0, 1) := by decide +kernel
theorem dX7_remembered_40 : decode cX7_remembered 40 = .ok (.getfield 9, 3) := by decide +kernel
theorem dX7_remembered_43 : decode cX7_remembered 43 = .ok (.sipush 711, 3) := by decide +kernel
theorem dX7_remembered_46 : decode cX7_remembered 46 = .ok (.iload_n 1, 1) := by decide +kernel
theorem dX7_remembered_47 : decode cX7_remembered 47 = .ok (.iadd, 1) := by decide +kernel
theorem dX7_remembered_48 : decode cX7_remembered 48 = .ok (.iaload, 1) := by decide +kernel
theorem dX7_remembered_49 : decode cX7_remembered 49 = .ok (.iconst 1, 1) := by decide +kernel
theorem dX7_remembered_50 : decode cX7_remembered 50 = .ok (.isub, 1) := by decide +kernel
theorem dX7_remembered_51 : decode cX7_remembered 51 = .ok (.ireturn, 1) := by decide +kernel
theorem dX7_timer_0 : decode cX7_timer 0 = .ok (.aload_n 0, 1) := by decide +kernel
theorem dX7_timer_1 : decode cX7_timer 1 = .ok (.aload_n 0, 1) := by decide +kernel
theorem dX7_timer_2 : decode cX7_timer 2 = .ok (.iload_n 1, 1) := by decide +kernel
theorem dX7_timer_3 : decode cX7_timer 3 = .ok (.invokevirtual 89, 3) := by decide +kernel
theorem dX7_timer_6 : decode cX7_timer 6 = .ok (.putfield 19, 3) := by decide +kernel
theorem dX7_timer_9 : decode cX7_timer 9 = .ok (.aload_n 0, 1) := by decide +kernel
theorem dX7_timer_10 : decode cX7_timer 10 = .ok (.getfield 19, 3) := by decide +kernel
theorem dX7_timer_13 : decode cX7_timer 13 = .ok (.ifCond .le 5, 3) := by decide +kernel
theorem dX7_timer_16 : decode cX7_timer 16 = .ok (.iconst 0, 1) := by decide +kernel
theorem dX7_timer_17 : decode cX7_timer 17 = .ok (.ireturn, 1) := by decide +kernel
theorem dX7_timer_18 : decode cX7_timer 18 = .ok (.iload_n 2, 1) := by decide +kernel
theorem dX7_timer_19 : decode cX7_timer 19 = .ok (.iconst 0, 1) := by decide +kernel
theorem dX7_timer_20 : decode cX7_timer 20 = .ok (.iconst 2, 1) := by decide +kernel
theorem dX7_timer_21 : decode cX7_timer 21 = .ok (.invokestatic 23, 3) := by decide +kernel
theorem dX7_timer_24 : decode cX7_timer 24 = .ok (.ifCond .ne 9, 3) := by decide +kernel
theorem dX7_timer_27 : decode cX7_timer 27 = .ok (.aload_n 0, 1) := by decide +kernel
theorem dX7_timer_28 : decode cX7_timer 28 = .ok (.iconst 3, 1) := by decide +kernel
theorem dX7_timer_29 : decode cX7_timer 29 = .ok (.invokevirtual 41, 3) := by decide +kernel
theorem dX7_timer_32 : decode cX7_timer 32 = .ok (.ireturn, 1) := by decide +kernel
theorem dX7_timer_33 : decode cX7_timer 33 = .ok (.iload_n 2, 1) := by decide +kernel
theorem dX7_timer_34 : decode cX7_timer 34 = .ok (.ifCond .ne 16, 3) := by decide +kernel
theorem dX7_timer_37 : decode cX7_timer 37 = .ok (.aload_n 0, 1) := by decide +kernel
theorem dX7_timer_38 : decode cX7_timer 38 = .ok (.getfield 9, 3) := by decide +kernel
theorem dX7_timer_41 : decode cX7_timer 41 = .ok (.sipush 671, 3) := by decide +kernel
theorem dX7_timer_44 : decode cX7_timer 44 = .ok (.iload_n 1, 1) := by decide +kernel
theorem dX7_timer_45 : decode cX7_timer 45 = .ok (.iadd, 1) := by decide +kernel
theorem dX7_timer_46 : decode cX7_timer 46 = .ok (.iaload, 1) := by decide +kernel
theorem dX7_timer_47 : decode cX7_timer 47 = .ok (.goto 40, 3) := by decide +kernel
theorem dX7_timer_50 : decode cX7_timer 50 = .ok (.iload_n 2, 1) := by decide +kernel
theorem dX7_timer_51 : decode cX7_timer 51 = .ok (.iconst 1, 1) := by decide +kernel
theorem dX7_timer_52 : decode cX7_timer 52 = .ok (.if_icmp .ne 16, 3) := by decide +kernel
theorem dX7_timer_55 : decode cX7_timer 55 = .ok (.aload_n 0, 1) := by decide +kernel
theorem dX7_timer_56 : decode cX7_timer 56 = .ok (.getfield 9, 3) := by decide +kernel
theorem dX7_timer_59 : decode cX7_timer 59 = .ok (.sipush 691, 3) := by decide +kernel
theorem dX7_timer_62 : decode cX7_timer 62 = .ok (.iload_n 1, 1) := by decide +kernel
theorem dX7_timer_63 : decode cX7_timer 63 = .ok (.iadd, 1) := by decide +kernel
theorem dX7_timer_64 : decode cX7_timer 64 = .ok (.iaload, 1) := by decide +kernel
theorem dX7_timer_65 : decode cX7_timer 65 = .ok (.goto 22, 3) := by decide +kernel
theorem dX7_timer_68 : decode cX7_timer 68 = .ok (.aload_n 0, 1) := by decide +kernel
theorem dX7_timer_69 : decode cX7_timer 69 = .ok (.getfield 9, 3) := by decide +kernel
theorem dX7_timer_72 : decode cX7_timer 72 = .ok (.sipush 431, 3) := by decide +kernel
theorem dX7_timer_75 : decode cX7_timer 75 = .ok (.aload_n 0, 1) := by decide +kernel
theorem dX7_timer_76 : decode cX7_timer 76 = .ok (.getfield 9, 3) := by decide +kernel
theorem dX7_timer_79 : decode cX7_timer 79 = .ok (.sipush 651, 3) := by decide +kernel
theorem dX7_timer_82 : decode cX7_timer 82 = .ok (.iload_n 1, 1) := by decide +kernel
theorem dX7_timer_83 : decode cX7_timer 83 = .ok (.iadd, 1) := by decide +kernel
theorem dX7_timer_84 : decode cX7_timer 84 = .ok (.iaload, 1) := by decide +kernel
theorem dX7_timer_85 : decode cX7_timer 85 = .ok (.iadd, 1) := by decide +kernel
theorem dX7_timer_86 : decode cX7_timer 86 = .ok (.iaload, 1) := by decide +kernel
theorem dX7_timer_87 : decode cX7_timer 87 = .ok (.ireturn, 1) := by decide +kernel
theorem dX7_lacks_0 : decode cX7_lacks 0 = .ok (.iload_n 1, 1) := by decide +kernel
theorem dX7_lacks_1 : decode cX7_lacks 1 = .ok (.invokestatic 44, 3) := by decide +kernel
theorem dX7_lacks_4 : decode cX7_lacks 4 = .ok (.ifCond .ne 7, 3) := by decide +kernel
theorem dX7_lacks_7 : decode cX7_lacks 7 = .ok (.iconst 1, 1) := by decide +kernel
theorem dX7_lacks_8 : decode cX7_lacks 8 = .ok (.goto 16, 3) := by decide +kernel
theorem dX7_lacks_11 : decode cX7_lacks 11 = .ok (.aload_n 0, 1) := by decide +kernel
theorem dX7_lacks_12 : decode cX7_lacks 12 = .ok (.iload_n 1, 1) := by decide +kernel
theorem dX7_lacks_13 : decode cX7_lacks 13 = .ok (.invokevirtual 34, 3) := by decide +kernel
theorem dX7_lacks_16 : decode cX7_lacks 16 = .ok (.ifCond .ge 7, 3) := by decide +kernel
theorem dX7_lacks_19 : decode cX7_lacks 19 = .ok (.iconst 2, 1) := by decide +kernel
theorem dX7_lacks_20 : decode cX7_lacks 20 = .ok (.goto 4, 3) := by decide +kernel
theorem dX7_lacks_23 : decode cX7_lacks 23 = .ok (.iconst 0, 1) := by decide +kernel
theorem dX7_lacks_24 : decode cX7_lacks 24 = .ok (.ireturn, 1) := by decide +kernel
theorem dX7_addressState_0 : decode cX7_addressState 0 = .ok (.aload_n 0, 1) := by decide +kernel
theorem dX7_addressState_1 : decode cX7_addressState 1 = .ok (.aload_n 0, 1) := by decide +kernel
theorem dX7_addressState_2 : decode cX7_addressState 2 = .ok (.iload_n 1, 1) := by decide +kernel
theorem dX7_addressState_3 : decode cX7_addressState 3 = .ok (.invokevirtual 115, 3) := by decide +kernel
theorem dX7_addressState_6 : decode cX7_addressState 6 = .ok (.putfield 19, 3) := by decide +kernel
theorem dX7_addressState_9 : decode cX7_addressState 9 = .ok (.aload_n 0, 1) := by decide +kernel
theorem dX7_addressState_10 : decode cX7_addressState 10 = .ok (.getfield 19, 3) := by decide +kernel
theorem dX7_addressState_13 : decode cX7_addressState 13 = .ok (.ifCond .le 7, 3) := by decide +kernel
theorem dX7_addressState_16 : decode cX7_addressState 16 = .ok (.iconst 0, 1) := by decide +kernel
theorem dX7_addressState_17 : decode cX7_addressState 17 = .ok (.goto 13, 3) := by decide +kernel
theorem dX7_addressState_20 : decode cX7_addressState 20 = .ok (.aload_n 0, 1) := by decide +kernel
theorem dX7_addressState_21 : decode cX7_addressState 21 = .ok (.getfield 9, 3) := by decide +kernel
theorem dX7_addressState_24 : decode cX7_addressState 24 = .ok (.sipush 231, 3) := by decide +kernel
theorem dX7_addressState_27 : decode cX7_addressState 27 = .ok (.iload_n 1, 1) := by decide +kernel
theorem dX7_addressState_28 : decode cX7_addressState 28 = .ok (.iadd, 1) := by decide +kernel
theorem dX7_addressState_29 : decode cX7_addressState 29 = .ok (.iaload, 1) := by decide +kernel
theorem dX7_addressState_30 : decode cX7_addressState 30 = .ok (.ireturn, 1) := by decide +kernel
theorem dX7_holder_0 : decode cX7_holder 0 = .ok (.aload_n 0, 1) := by decide +kernel
theorem dX7_holder_1 : decode cX7_holder 1 = .ok (.aload_n 0, 1) := by decide +kernel
theorem dX7_holder_2 : decode cX7_holder 2 = .ok (.iload_n 1, 1) := by decide +kernel
theorem dX7_holder_3 : decode cX7_holder 3 = .ok (.invokevirtual 115, 3) := by decide +kernel
theorem dX7_holder_6 : decode cX7_holder 6 = .ok (.putfield 19, 3) := by decide +kernel
theorem dX7_holder_9 : decode cX7_holder 9 = .ok (.aload_n 0, 1) := by decide +kernel
theorem dX7_holder_10 : decode cX7_holder 10 = .ok (.getfield 19, 3) := by decide +kernel
theorem dX7_holder_13 : decode cX7_holder 13 = .ok (.ifCond .le 5, 3) := by decide +kernel
theorem dX7_holder_16 : decode cX7_holder 16 = .ok (.iconst 0, 1) := by decide +kernel
theorem dX7_holder_17 : decode cX7_holder 17 = .ok (.ireturn, 1) := by decide +kernel
theorem dX7_holder_18 : decode cX7_holder 18 = .ok (.aload_n 0, 1) := by decide +kernel
theorem dX7_holder_19 : decode cX7_holder 19 = .ok (.getfield 9, 3) := by decide +kernel
theorem dX7_holder_22 : decode cX7_holder 22 = .ok (.sipush 231, 3) := by decide +kernel
theorem dX7_holder_25 : decode cX7_holder 25 = .ok (.iload_n 1, 1) := by decide +kernel
theorem dX7_holder_26 : decode cX7_holder 26 = .ok (.iadd, 1) := by decide +kernel
theorem dX7_holder_27 : decode cX7_holder 27 = .ok (.iaload, 1) := by decide +kernel
theorem dX7_holder_28 : decode cX7_holder 28 = .ok (.iconst 1, 1) := by decide +kernel
theorem dX7_holder_29 : decode cX7_holder 29 = .ok (.iconst 2, 1) := by decide +kernel
theorem dX7_holder_30 : decode cX7_holder 30 = .ok (.invokestatic 23, 3) := by decide +kernel
theorem dX7_holder_33 : decode cX7_holder 33 = .ok (.ifCond .eq 16, 3) := by decide +kernel
theorem dX7_holder_36 : decode cX7_holder 36 = .ok (.aload_n 0, 1) := by decide +kernel
theorem dX7_holder_37 : decode cX7_holder 37 = .ok (.getfield 9, 3) := by decide +kernel
theorem dX7_holder_40 : decode cX7_holder 40 = .ok (.sipush 331, 3) := by decide +kernel
theorem dX7_holder_43 : decode cX7_holder 43 = .ok (.iload_n 1, 1) := by decide +kernel
theorem dX7_holder_44 : decode cX7_holder 44 = .ok (.iadd, 1) := by decide +kernel
theorem dX7_holder_45 : decode cX7_holder 45 = .ok (.iaload, 1) := by decide +kernel
theorem dX7_holder_46 : decode cX7_holder 46 = .ok (.goto 8, 3) := by decide +kernel
theorem dX7_holder_49 : decode cX7_holder 49 = .ok (.aload_n 0, 1) := by decide +kernel
theorem dX7_holder_50 : decode cX7_holder 50 = .ok (.iconst 2, 1) := by decide +kernel
theorem dX7_holder_51 : decode cX7_holder 51 = .ok (.invokevirtual 41, 3) := by decide +kernel
theorem dX7_holder_54 : decode cX7_holder 54 = .ok (.ireturn, 1) := by decide +kernel
theorem dX7_until_0 : decode cX7_until 0 = .ok (.aload_n 0, 1) := by decide +kernel
theorem dX7_until_1 : decode cX7_until 1 = .ok (.aload_n 0, 1) := by decide +kernel
theorem dX7_until_2 : decode cX7_until 2 = .ok (.iload_n 1, 1) := by decide +kernel
theorem dX7_until_3 : decode cX7_until 3 = .ok (.invokevirtual 115, 3) := by decide +kernel
theorem dX7_until_6 : decode cX7_until 6 = .ok (.putfield 19, 3) := by decide +kernel
theorem dX7_until_9 : decode cX7_until 9 = .ok (.aload_n 0, 1) := by decide +kernel
theorem dX7_until_10 : decode cX7_until 10 = .ok (.getfield 19, 3) := by decide +kernel
theorem dX7_until_13 : decode cX7_until 13 = .ok (.ifCond .le 5, 3) := by decide +kernel
theorem dX7_until_16 : decode cX7_until 16 = .ok (.iconst 0, 1) := by decide +kernel
theorem dX7_until_17 : decode cX7_until 17 = .ok (.ireturn, 1) := by decide +kernel
theorem dX7_until_18 : decode cX7_until 18 = .ok (.aload_n 0, 1) := by decide +kernel
theorem dX7_until_19 : decode cX7_until 19 = .ok (.getfield 9, 3) := by decide +kernel
theorem dX7_until_22 : decode cX7_until 22 = .ok (.sipush 231, 3) := by decide +kernel
theorem dX7_until_25 : decode cX7_until 25 = .ok (.iload_n 1, 1) := by decide +kernel
theorem dX7_until_26 : decode cX7_until 26 = .ok (.iadd, 1) := by decide +kernel
theorem dX7_until_27 : decode cX7_until 27 = .ok (.iaload, 1) := by decide +kernel
theorem dX7_until_28 : decode cX7_until 28 = .ok (.ifCond .ne 11, 3) := by decide +kernel
theorem dX7_until_31 : decode cX7_until 31 = .ok (.aload_n 0, 1) := by decide +kernel
theorem dX7_until_32 : decode cX7_until 32 = .ok (.iconst 2, 1) := by decide +kernel
theorem dX7_until_33 : decode cX7_until 33 = .ok (.invokevirtual 41, 3) := by decide +kernel
theorem dX7_until_36 : decode cX7_until 36 = .ok (.goto 13, 3) := by decide +kernel
theorem dX7_until_39 : decode cX7_until 39 = .ok (.aload_n 0, 1) := by decide +kernel
theorem dX7_until_40 : decode cX7_until 40 = .ok (.getfield 9, 3) := by decide +kernel
theorem dX7_until_43 : decode cX7_until 43 = .ok (.sipush 431, 3) := by decide +kernel
theorem dX7_until_46 : decode cX7_until 46 = .ok (.iload_n 1, 1) := by decide +kernel
theorem dX7_until_47 : decode cX7_until 47 = .ok (.iadd, 1) := by decide +kernel
theorem dX7_until_48 : decode cX7_until 48 = .ok (.iaload, 1) := by decide +kernel
theorem dX7_until_49 : decode cX7_until 49 = .ok (.ireturn, 1) := by decide +kernel
theorem dX7_freeSince_0 : decode cX7_freeSince 0 = .ok (.aload_n 0, 1) := by decide +kernel
theorem dX7_freeSince_1 : decode cX7_freeSince 1 = .ok (.aload_n 0, 1) := by decide +kernel
theorem dX7_freeSince_2 : decode cX7_freeSince 2 = .ok (.iload_n 1, 1) := by decide +kernel
theorem dX7_freeSince_3 : decode cX7_freeSince 3 = .ok (.invokevirtual 115, 3) := by decide +kernel
theorem dX7_freeSince_6 : decode cX7_freeSince 6 = .ok (.putfield 19, 3) := by decide +kernel
theorem dX7_freeSince_9 : decode cX7_freeSince 9 = .ok (.aload_n 0, 1) := by decide +kernel
theorem dX7_freeSince_10 : decode cX7_freeSince 10 = .ok (.getfield 19, 3) := by decide +kernel
theorem dX7_freeSince_13 : decode cX7_freeSince 13 = .ok (.ifCond .le 5, 3) := by decide +kernel
theorem dX7_freeSince_16 : decode cX7_freeSince 16 = .ok (.iconst 0, 1) := by decide +kernel
theorem dX7_freeSince_17 : decode cX7_freeSince 17 = .ok (.ireturn, 1) := by decide +kernel
theorem dX7_freeSince_18 : decode cX7_freeSince 18 = .ok (.aload_n 0, 1) := by decide +kernel
theorem dX7_freeSince_19 : decode cX7_freeSince 19 = .ok (.getfield 9, 3) := by decide +kernel
theorem dX7_freeSince_22 : decode cX7_freeSince 22 = .ok (.sipush 231, 3) := by decide +kernel
theorem dX7_freeSince_25 : decode cX7_freeSince 25 = .ok (.iload_n 1, 1) := by decide +kernel
theorem dX7_freeSince_26 : decode cX7_freeSince 26 = .ok (.iadd, 1) := by decide +kernel
theorem dX7_freeSince_27 : decode cX7_freeSince 27 = .ok (.iaload, 1) := by decide +kernel
theorem dX7_freeSince_28 : decode cX7_freeSince 28 = .ok (.ifCond .ne 16, 3) := by decide +kernel
theorem dX7_freeSince_31 : decode cX7_freeSince 31 = .ok (.aload_n 0, 1) := by decide +kernel
theorem dX7_freeSince_32 : decode cX7_freeSince 32 = .ok (.getfield 9, 3) := by decide +kernel
theorem dX7_freeSince_35 : decode cX7_freeSince 35 = .ok (.sipush 531, 3) := by decide +kernel
theorem dX7_freeSince_38 : decode cX7_freeSince 38 = .ok (.iload_n 1, 1) := by decide +kernel
theorem dX7_freeSince_39 : decode cX7_freeSince 39 = .ok (.iadd, 1) := by decide +kernel
theorem dX7_freeSince_40 : decode cX7_freeSince 40 = .ok (.iaload, 1) := by decide +kernel
theorem dX7_freeSince_41 : decode cX7_freeSince 41 = .ok (.goto 8, 3) := by decide +kernel
theorem dX7_freeSince_44 : decode cX7_freeSince 44 = .ok (.aload_n 0, 1) := by decide +kernel
theorem dX7_freeSince_45 : decode cX7_freeSince 45 = .ok (.iconst 2, 1) := by decide +kernel
theorem dX7_freeSince_46 : decode cX7_freeSince 46 = .ok (.invokevirtual 41, 3) := by decide +kernel
theorem dX7_freeSince_49 : decode cX7_freeSince 49 = .ok (.ireturn, 1) := by decide +kernel
theorem dX7_nextCandidate_0 : decode cX7_nextCandidate 0 = .ok (.aload_n 0, 1) := by decide +kernel
theorem dX7_nextCandidate_1 : decode cX7_nextCandidate 1 = .ok (.iconst 0, 1) := by decide +kernel
theorem dX7_nextCandidate_2 : decode cX7_nextCandidate 2 = .ok (.putfield 19, 3) := by decide +kernel
theorem dX7_nextCandidate_5 : decode cX7_nextCandidate 5 = .ok (.iload_n 1, 1) := by decide +kernel
theorem dX7_nextCandidate_6 : decode cX7_nextCandidate 6 = .ok (.invokestatic 65, 3) := by decide +kernel
theorem dX7_nextCandidate_9 : decode cX7_nextCandidate 9 = .ok (.ifCond .eq 10, 3) := by decide +kernel
theorem dX7_nextCandidate_12 : decode cX7_nextCandidate 12 = .ok (.iload_n 2, 1) := by decide +kernel
theorem dX7_nextCandidate_13 : decode cX7_nextCandidate 13 = .ok (.invokestatic 37, 3) := by decide +kernel
theorem dX7_nextCandidate_16 : decode cX7_nextCandidate 16 = .ok (.ifCond .ne 9, 3) := by decide +kernel
theorem dX7_nextCandidate_19 : decode cX7_nextCandidate 19 = .ok (.aload_n 0, 1) := by decide +kernel
theorem dX7_nextCandidate_20 : decode cX7_nextCandidate 20 = .ok (.iconst 1, 1) := by decide +kernel
theorem dX7_nextCandidate_21 : decode cX7_nextCandidate 21 = .ok (.invokevirtual 41, 3) := by decide +kernel
theorem dX7_nextCandidate_24 : decode cX7_nextCandidate 24 = .ok (.ireturn, 1) := by decide +kernel
theorem dX7_nextCandidate_25 : decode cX7_nextCandidate 25 = .ok (.aload_n 0, 1) := by decide +kernel
theorem dX7_nextCandidate_26 : decode cX7_nextCandidate 26 = .ok (.iload_n 1, 1) := by decide +kernel
theorem dX7_nextCandidate_27 : decode cX7_nextCandidate 27 = .ok (.iload_n 2, 1) := by decide +kernel
theorem dX7_nextCandidate_28 : decode cX7_nextCandidate 28 = .ok (.iconst (-1), 1) := by decide +kernel
theorem dX7_nextCandidate_29 : decode cX7_nextCandidate 29 = .ok (.invokevirtual 75, 3) := by decide +kernel
theorem dX7_nextCandidate_32 : decode cX7_nextCandidate 32 = .ok (.istore_n 3, 1) := by decide +kernel
theorem dX7_nextCandidate_33 : decode cX7_nextCandidate 33 = .ok (.iload_n 3, 1) := by decide +kernel
theorem dX7_nextCandidate_34 : decode cX7_nextCandidate 34 = .ok (.ifCond .ge 11, 3) := by decide +kernel
theorem dX7_nextCandidate_37 : decode cX7_nextCandidate 37 = .ok (.aload_n 0, 1) := by decide +kernel
theorem dX7_nextCandidate_38 : decode cX7_nextCandidate 38 = .ok (.iconst 2, 1) := by decide +kernel
theorem dX7_nextCandidate_39 : decode cX7_nextCandidate 39 = .ok (.invokevirtual 41, 3) := by decide +kernel
theorem dX7_nextCandidate_42 : decode cX7_nextCandidate 42 = .ok (.goto 4, 3) := by decide +kernel
theorem dX7_nextCandidate_45 : decode cX7_nextCandidate 45 = .ok (.iload_n 3, 1) := by decide +kernel
theorem dX7_nextCandidate_46 : decode cX7_nextCandidate 46 = .ok (.ireturn, 1) := by decide +kernel
theorem dX7_count_0 : decode cX7_count 0 = .ok (.iconst 0, 1) := by decide +kernel
theorem dX7_count_1 : decode cX7_count 1 = .ok (.istore_n 3, 1) := by decide +kernel
theorem dX7_count_2 : decode cX7_count 2 = .ok (.iconst 0, 1) := by decide +kernel
theorem dX7_count_3 : decode cX7_count 3 = .ok (.istore 4, 2) := by decide +kernel
theorem dX7_count_5 : decode cX7_count 5 = .ok (.iload 4, 2) := by decide +kernel
theorem dX7_count_7 : decode cX7_count 7 = .ok (.bipush 100, 2) := by decide +kernel
theorem dX7_count_9 : decode cX7_count 9 = .ok (.if_icmp .ge 41, 3) := by decide +kernel
theorem dX7_count_12 : decode cX7_count 12 = .ok (.aload_n 0, 1) := by decide +kernel
theorem dX7_count_13 : decode cX7_count 13 = .ok (.iload 4, 2) := by decide +kernel
theorem dX7_count_15 : decode cX7_count 15 = .ok (.invokevirtual 50, 3) := by decide +kernel
theorem dX7_count_18 : decode cX7_count 18 = .ok (.iload_n 1, 1) := by decide +kernel
theorem dX7_count_19 : decode cX7_count 19 = .ok (.if_icmp .ne 25, 3) := by decide +kernel
theorem dX7_count_22 : decode cX7_count 22 = .ok (.iload_n 2, 1) := by decide +kernel
theorem dX7_count_23 : decode cX7_count 23 = .ok (.ifCond .lt 18, 3) := by decide +kernel
theorem dX7_count_26 : decode cX7_count 26 = .ok (.aload_n 0, 1) := by decide +kernel
theorem dX7_count_27 : decode cX7_count 27 = .ok (.getfield 9, 3) := by decide +kernel
theorem dX7_count_30 : decode cX7_count 30 = .ok (.sipush 231, 3) := by decide +kernel
theorem dX7_count_33 : decode cX7_count 33 = .ok (.iload 4, 2) := by decide +kernel
theorem dX7_count_35 : decode cX7_count 35 = .ok (.iadd, 1) := by decide +kernel
theorem dX7_count_36 : decode cX7_count 36 = .ok (.iaload, 1) := by decide +kernel
theorem dX7_count_37 : decode cX7_count 37 = .ok (.iload_n 2, 1) := by decide +kernel
theorem dX7_count_38 : decode cX7_count 38 = .ok (.if_icmp .ne 6, 3) := by decide +kernel
theorem dX7_count_41 : decode cX7_count 41 = .ok (.iinc 3 1, 3) := by decide +kernel
theorem dX7_count_44 : decode cX7_count 44 = .ok (.iinc 4 1, 3) := by decide +kernel
theorem dX7_count_47 : decode cX7_count 47 = .ok (.goto (-42), 3) := by decide +kernel
theorem dX7_count_50 : decode cX7_count 50 = .ok (.iload_n 3, 1) := by decide +kernel
theorem dX7_count_51 : decode cX7_count 51 = .ok (.ireturn, 1) := by decide +kernel
theorem dX7_countState_0 : decode cX7_countState 0 = .ok (.aload_n 0, 1) := by decide +kernel
theorem dX7_countState_1 : decode cX7_countState 1 = .ok (.iconst 0, 1) := by decide +kernel
theorem dX7_countState_2 : decode cX7_countState 2 = .ok (.putfield 19, 3) := by decide +kernel
theorem dX7_countState_5 : decode cX7_countState 5 = .ok (.iload_n 1, 1) := by decide +kernel
theorem dX7_countState_6 : decode cX7_countState 6 = .ok (.invokestatic 37, 3) := by decide +kernel
theorem dX7_countState_9 : decode cX7_countState 9 = .ok (.ifCond .ne 9, 3) := by decide +kernel
theorem dX7_countState_12 : decode cX7_countState 12 = .ok (.aload_n 0, 1) := by decide +kernel
theorem dX7_countState_13 : decode cX7_countState 13 = .ok (.iconst 1, 1) := by decide +kernel
theorem dX7_countState_14 : decode cX7_countState 14 = .ok (.invokevirtual 41, 3) := by decide +kernel
theorem dX7_countState_17 : decode cX7_countState 17 = .ok (.ireturn, 1) := by decide +kernel
theorem dX7_countState_18 : decode cX7_countState 18 = .ok (.iload_n 2, 1) := by decide +kernel
theorem dX7_countState_19 : decode cX7_countState 19 = .ok (.iconst 0, 1) := by decide +kernel
theorem dX7_countState_20 : decode cX7_countState 20 = .ok (.iconst 3, 1) := by decide +kernel
theorem dX7_countState_21 : decode cX7_countState 21 = .ok (.invokestatic 23, 3) := by decide +kernel
theorem dX7_countState_24 : decode cX7_countState 24 = .ok (.ifCond .eq 12, 3) := by decide +kernel
theorem dX7_countState_27 : decode cX7_countState 27 = .ok (.aload_n 0, 1) := by decide +kernel
theorem dX7_countState_28 : decode cX7_countState 28 = .ok (.iload_n 1, 1) := by decide +kernel
theorem dX7_countState_29 : decode cX7_countState 29 = .ok (.iload_n 2, 1) := by decide +kernel
theorem dX7_countState_30 : decode cX7_countState 30 = .ok (.invokevirtual 118, 3) := by decide +kernel
theorem dX7_countState_33 : decode cX7_countState 33 = .ok (.goto 8, 3) := by decide +kernel
theorem dX7_countState_36 : decode cX7_countState 36 = .ok (.aload_n 0, 1) := by decide +kernel
theorem dX7_countState_37 : decode cX7_countState 37 = .ok (.iconst 2, 1) := by decide +kernel
theorem dX7_countState_38 : decode cX7_countState 38 = .ok (.invokevirtual 41, 3) := by decide +kernel
theorem dX7_countState_41 : decode cX7_countState 41 = .ok (.ireturn, 1) := by decide +kernel
theorem dX7_boundOnes_0 : decode cX7_boundOnes 0 = .ok (.iconst 0, 1) := by decide +kernel
theorem dX7_boundOnes_1 : decode cX7_boundOnes 1 = .ok (.istore_n 1, 1) := by decide +kernel
theorem dX7_boundOnes_2 : decode cX7_boundOnes 2 = .ok (.iconst 0, 1) := by decide +kernel
theorem dX7_boundOnes_3 : decode cX7_boundOnes 3 = .ok (.istore_n 2, 1) := by decide +kernel
theorem dX7_boundOnes_4 : decode cX7_boundOnes 4 = .ok (.iload_n 2, 1) := by decide +kernel
theorem dX7_boundOnes_5 : decode cX7_boundOnes 5 = .ok (.bipush 20, 2) := by decide +kernel
theorem dX7_boundOnes_7 : decode cX7_boundOnes 7 = .ok (.if_icmp .ge 20, 3) := by decide +kernel
theorem dX7_boundOnes_10 : decode cX7_boundOnes 10 = .ok (.aload_n 0, 1) := by decide +kernel
theorem dX7_boundOnes_11 : decode cX7_boundOnes 11 = .ok (.iload_n 2, 1) := by decide +kernel
theorem dX7_boundOnes_12 : decode cX7_boundOnes 12 = .ok (.invokevirtual 68, 3) := by decide +kernel
theorem dX7_boundOnes_15 : decode cX7_boundOnes 15 = .ok (.ifCond .eq 6, 3) := by decide +kernel
theorem dX7_boundOnes_18 : decode cX7_boundOnes 18 = .ok (.iinc 1 1, 3) := by decide +kernel
theorem dX7_boundOnes_21 : decode cX7_boundOnes 21 = .ok (.iinc 2 1, 3) := by decide +kernel
theorem dX7_boundOnes_24 : decode cX7_boundOnes 24 = .ok (.goto (-20), 3) := by decide +kernel
theorem dX7_boundOnes_27 : decode cX7_boundOnes 27 = .ok (.iload_n 1, 1) := by decide +kernel
theorem dX7_boundOnes_28 : decode cX7_boundOnes 28 = .ok (.ireturn, 1) := by decide +kernel
theorem dX7_bound_0 : decode cX7_bound 0 = .ok (.aload_n 0, 1) := by decide +kernel
theorem dX7_bound_1 : decode cX7_bound 1 = .ok (.iconst 0, 1) := by decide +kernel
theorem dX7_bound_2 : decode cX7_bound 2 = .ok (.putfield 19, 3) := by decide +kernel
theorem dX7_bound_5 : decode cX7_bound 5 = .ok (.aload_n 0, 1) := by decide +kernel
theorem dX7_bound_6 : decode cX7_bound 6 = .ok (.invokevirtual 121, 3) := by decide +kernel
theorem dX7_bound_9 : decode cX7_bound 9 = .ok (.ireturn, 1) := by decide +kernel
theorem dX7_conflicts_0 : decode cX7_conflicts 0 = .ok (.aload_n 0, 1) := by decide +kernel
theorem dX7_conflicts_1 : decode cX7_conflicts 1 = .ok (.iconst 0, 1) := by decide +kernel
theorem dX7_conflicts_2 : decode cX7_conflicts 2 = .ok (.putfield 19, 3) := by decide +kernel
theorem dX7_conflicts_5 : decode cX7_conflicts 5 = .ok (.aload_n 0, 1) := by decide +kernel
theorem dX7_conflicts_6 : decode cX7_conflicts 6 = .ok (.getfield 9, 3) := by decide +kernel
theorem dX7_conflicts_9 : decode cX7_conflicts 9 = .ok (.iconst 3, 1) := by decide +kernel
theorem dX7_conflicts_10 : decode cX7_conflicts 10 = .ok (.iaload, 1) := by decide +kernel
theorem dX7_conflicts_11 : decode cX7_conflicts 11 = .ok (.ireturn, 1) := by decide +kernel
theorem dX7_logSize_0 : decode cX7_logSize 0 = .ok (.aload_n 0, 1) := by decide +kernel
theorem dX7_logSize_1 : decode cX7_logSize 1 = .ok (.iconst 0, 1) := by decide +kernel
theorem dX7_logSize_2 : decode cX7_logSize 2 = .ok (.putfield 19, 3) := by decide +kernel
theorem dX7_logSize_5 : decode cX7_logSize 5 = .ok (.aload_n 0, 1) := by decide +kernel
theorem dX7_logSize_6 : decode cX7_logSize 6 = .ok (.getfield 27, 3) := by decide +kernel
theorem dX7_logSize_9 : decode cX7_logSize 9 = .ok (.ireturn, 1) := by decide +kernel
theorem dX7_log_0 : decode cX7_log 0 = .ok (.aload_n 0, 1) := by decide +kernel
theorem dX7_log_1 : decode cX7_log 1 = .ok (.iconst 0, 1) := by decide +kernel
theorem dX7_log_2 : decode cX7_log 2 = .ok (.putfield 19, 3) := by decide +kernel
theorem dX7_log_5 : decode cX7_log 5 = .ok (.iload_n 1, 1) := by decide +kernel
theorem dX7_log_6 : decode cX7_log 6 = .ok (.iconst 0, 1) := by decide +kernel
theorem dX7_log_7 : decode cX7_log 7 = .ok (.aload_n 0, 1) := by decide +kernel
theorem dX7_log_8 : decode cX7_log 8 = .ok (.getfield 27, 3) := by decide +kernel
theorem dX7_log_11 : decode cX7_log 11 = .ok (.iconst 1, 1) := by decide +kernel
theorem dX7_log_12 : decode cX7_log 12 = .ok (.isub, 1) := by decide +kernel
theorem dX7_log_13 : decode cX7_log 13 = .ok (.invokestatic 23, 3) := by decide +kernel
theorem dX7_log_16 : decode cX7_log 16 = .ok (.ifCond .eq 12, 3) := by decide +kernel
theorem dX7_log_19 : decode cX7_log 19 = .ok (.aload_n 0, 1) := by decide +kernel
theorem dX7_log_20 : decode cX7_log 20 = .ok (.getfield 16, 3) := by decide +kernel
theorem dX7_log_23 : decode cX7_log 23 = .ok (.iload_n 1, 1) := by decide +kernel
theorem dX7_log_24 : decode cX7_log 24 = .ok (.iaload, 1) := by decide +kernel
theorem dX7_log_25 : decode cX7_log 25 = .ok (.goto 8, 3) := by decide +kernel
theorem dX7_log_28 : decode cX7_log 28 = .ok (.aload_n 0, 1) := by decide +kernel
theorem dX7_log_29 : decode cX7_log 29 = .ok (.iconst 1, 1) := by decide +kernel
theorem dX7_log_30 : decode cX7_log 30 = .ok (.invokevirtual 41, 3) := by decide +kernel
theorem dX7_log_33 : decode cX7_log 33 = .ok (.ireturn, 1) := by decide +kernel
theorem dX7_utilization_0 : decode cX7_utilization 0 = .ok (.aload_n 0, 1) := by decide +kernel
theorem dX7_utilization_1 : decode cX7_utilization 1 = .ok (.iconst 0, 1) := by decide +kernel
theorem dX7_utilization_2 : decode cX7_utilization 2 = .ok (.putfield 19, 3) := by decide +kernel
theorem dX7_utilization_5 : decode cX7_utilization 5 = .ok (.iload_n 1, 1) := by decide +kernel
theorem dX7_utilization_6 : decode cX7_utilization 6 = .ok (.invokestatic 37, 3) := by decide +kernel
theorem dX7_utilization_9 : decode cX7_utilization 9 = .ok (.ifCond .ne 10, 3) := by decide +kernel
theorem dX7_utilization_12 : decode cX7_utilization 12 = .ok (.aload_n 0, 1) := by decide +kernel
theorem dX7_utilization_13 : decode cX7_utilization 13 = .ok (.iconst 1, 1) := by decide +kernel
theorem dX7_utilization_14 : decode cX7_utilization 14 = .ok (.invokevirtual 41, 3) := by decide +kernel
theorem dX7_utilization_17 : decode cX7_utilization 17 = .ok (.i2d, 1) := by decide +kernel
theorem dX7_utilization_18 : decode cX7_utilization 18 = .ok (.dreturn, 1) := by decide +kernel
theorem dX7_utilization_19 : decode cX7_utilization 19 = .ok (.aload_n 0, 1) := by decide +kernel
theorem dX7_utilization_20 : decode cX7_utilization 20 = .ok (.iload_n 1, 1) := by decide +kernel
theorem dX7_utilization_21 : decode cX7_utilization 21 = .ok (.iconst (-1), 1) := by decide +kernel
theorem dX7_utilization_22 : decode cX7_utilization 22 = .ok (.invokevirtual 118, 3) := by decide +kernel
theorem dX7_utilization_25 : decode cX7_utilization 25 = .ok (.istore_n 2, 1) := by decide +kernel
theorem dX7_utilization_26 : decode cX7_utilization 26 = .ok (.iload_n 2, 1) := by decide +kernel
theorem dX7_utilization_27 : decode cX7_utilization 27 = .ok (.ifCond .ne 12, 3) := by decide +kernel
theorem dX7_utilization_30 : decode cX7_utilization 30 = .ok (.aload_n 0, 1) := by decide +kernel
theorem dX7_utilization_31 : decode cX7_utilization 31 = .ok (.iconst 2, 1) := by decide +kernel
theorem dX7_utilization_32 : decode cX7_utilization 32 = .ok (.invokevirtual 41, 3) := by decide +kernel
theorem dX7_utilization_35 : decode cX7_utilization 35 = .ok (.i2d, 1) := by decide +kernel
theorem dX7_utilization_36 : decode cX7_utilization 36 = .ok (.goto 13, 3) := by decide +kernel
theorem dX7_utilization_39 : decode cX7_utilization 39 = .ok (.aload_n 0, 1) := by decide +kernel
theorem dX7_utilization_40 : decode cX7_utilization 40 = .ok (.iload_n 1, 1) := by decide +kernel
theorem dX7_utilization_41 : decode cX7_utilization 41 = .ok (.iconst 2, 1) := by decide +kernel
theorem dX7_utilization_42 : decode cX7_utilization 42 = .ok (.invokevirtual 118, 3) := by decide +kernel
theorem dX7_utilization_45 : decode cX7_utilization 45 = .ok (.i2d, 1) := by decide +kernel
theorem dX7_utilization_46 : decode cX7_utilization 46 = .ok (.iload_n 2, 1) := by decide +kernel
theorem dX7_utilization_47 : decode cX7_utilization 47 = .ok (.i2d, 1) := by decide +kernel
theorem dX7_utilization_48 : decode cX7_utilization 48 = .ok (.ddiv, 1) := by decide +kernel
theorem dX7_utilization_49 : decode cX7_utilization 49 = .ok (.dreturn, 1) := by decide +kernel
theorem dX7_averageRest_0 : decode cX7_averageRest 0 = .ok (.aload_n 0, 1) := by decide +kernel
theorem dX7_averageRest_1 : decode cX7_averageRest 1 = .ok (.iconst 0, 1) := by decide +kernel
theorem dX7_averageRest_2 : decode cX7_averageRest 2 = .ok (.putfield 19, 3) := by decide +kernel
theorem dX7_averageRest_5 : decode cX7_averageRest 5 = .ok (.iconst 0, 1) := by decide +kernel
theorem dX7_averageRest_6 : decode cX7_averageRest 6 = .ok (.istore_n 1, 1) := by decide +kernel
theorem dX7_averageRest_7 : decode cX7_averageRest 7 = .ok (.iconst 0, 1) := by decide +kernel
theorem dX7_averageRest_8 : decode cX7_averageRest 8 = .ok (.istore_n 2, 1) := by decide +kernel
theorem dX7_averageRest_9 : decode cX7_averageRest 9 = .ok (.iload_n 2, 1) := by decide +kernel
theorem dX7_averageRest_10 : decode cX7_averageRest 10 = .ok (.bipush 20, 2) := by decide +kernel
theorem dX7_averageRest_12 : decode cX7_averageRest 12 = .ok (.if_icmp .ge 46, 3) := by decide +kernel
theorem dX7_averageRest_15 : decode cX7_averageRest 15 = .ok (.aload_n 0, 1) := by decide +kernel
theorem dX7_averageRest_16 : decode cX7_averageRest 16 = .ok (.iload_n 2, 1) := by decide +kernel
theorem dX7_averageRest_17 : decode cX7_averageRest 17 = .ok (.invokevirtual 68, 3) := by decide +kernel
theorem dX7_averageRest_20 : decode cX7_averageRest 20 = .ok (.ifCond .eq 32, 3) := by decide +kernel
theorem dX7_averageRest_23 : decode cX7_averageRest 23 = .ok (.iload_n 1, 1) := by decide +kernel
theorem dX7_averageRest_24 : decode cX7_averageRest 24 = .ok (.aload_n 0, 1) := by decide +kernel
theorem dX7_averageRest_25 : decode cX7_averageRest 25 = .ok (.getfield 9, 3) := by decide +kernel
theorem dX7_averageRest_28 : decode cX7_averageRest 28 = .ok (.sipush 431, 3) := by decide +kernel
theorem dX7_averageRest_31 : decode cX7_averageRest 31 = .ok (.aload_n 0, 1) := by decide +kernel
theorem dX7_averageRest_32 : decode cX7_averageRest 32 = .ok (.getfield 9, 3) := by decide +kernel
theorem dX7_averageRest_35 : decode cX7_averageRest 35 = .ok (.sipush 651, 3) := by decide +kernel
theorem dX7_averageRest_38 : decode cX7_averageRest 38 = .ok (.iload_n 2, 1) := by decide +kernel
theorem dX7_averageRest_39 : decode cX7_averageRest 39 = .ok (.iadd, 1) := by decide +kernel
theorem dX7_averageRest_40 : decode cX7_averageRest 40 = .ok (.iaload, 1) := by decide +kernel
theorem dX7_averageRest_41 : decode cX7_averageRest 41 = .ok (.iadd, 1) := by decide +kernel
theorem dX7_averageRest_42 : decode cX7_averageRest 42 = .ok (.iaload, 1) := by decide +kernel
theorem dX7_averageRest_43 : decode cX7_averageRest 43 = .ok (.aload_n 0, 1) := by decide +kernel
theorem dX7_averageRest_44 : decode cX7_averageRest 44 = .ok (.getfield 9, 3) := by decide +kernel
theorem dX7_averageRest_47 : decode cX7_averageRest 47 = .ok (.iconst 0, 1) := by decide +kernel
theorem dX7_averageRest_48 : decode cX7_averageRest 48 = .ok (.iaload, 1) := by decide +kernel
theorem dX7_averageRest_49 : decode cX7_averageRest 49 = .ok (.isub, 1) := by decide +kernel
theorem dX7_averageRest_50 : decode cX7_averageRest 50 = .ok (.iadd, 1) := by decide +kernel
theorem dX7_averageRest_51 : decode cX7_averageRest 51 = .ok (.istore_n 1, 1) := by decide +kernel
theorem dX7_averageRest_52 : decode cX7_averageRest 52 = .ok (.iinc 2 1, 3) := by decide +kernel
theorem dX7_averageRest_55 : decode cX7_averageRest 55 = .ok (.goto (-46), 3) := by decide +kernel
theorem dX7_averageRest_58 : decode cX7_averageRest 58 = .ok (.aload_n 0, 1) := by decide +kernel
theorem dX7_averageRest_59 : decode cX7_averageRest 59 = .ok (.invokevirtual 121, 3) := by decide +kernel
theorem dX7_averageRest_62 : decode cX7_averageRest 62 = .ok (.ifCond .ne 12, 3) := by decide +kernel
theorem dX7_averageRest_65 : decode cX7_averageRest 65 = .ok (.aload_n 0, 1) := by decide +kernel
theorem dX7_averageRest_66 : decode cX7_averageRest 66 = .ok (.iconst 1, 1) := by decide +kernel
theorem dX7_averageRest_67 : decode cX7_averageRest 67 = .ok (.invokevirtual 41, 3) := by decide +kernel
theorem dX7_averageRest_70 : decode cX7_averageRest 70 = .ok (.i2f, 1) := by decide +kernel
theorem dX7_averageRest_71 : decode cX7_averageRest 71 = .ok (.goto 11, 3) := by decide +kernel
theorem dX7_averageRest_74 : decode cX7_averageRest 74 = .ok (.iload_n 1, 1) := by decide +kernel
theorem dX7_averageRest_75 : decode cX7_averageRest 75 = .ok (.i2f, 1) := by decide +kernel
theorem dX7_averageRest_76 : decode cX7_averageRest 76 = .ok (.aload_n 0, 1) := by decide +kernel
theorem dX7_averageRest_77 : decode cX7_averageRest 77 = .ok (.invokevirtual 121, 3) := by decide +kernel
theorem dX7_averageRest_80 : decode cX7_averageRest 80 = .ok (.i2f, 1) := by decide +kernel
theorem dX7_averageRest_81 : decode cX7_averageRest 81 = .ok (.fdiv, 1) := by decide +kernel
theorem dX7_averageRest_82 : decode cX7_averageRest 82 = .ok (.freturn, 1) := by decide +kernel
theorem dX7_save_0 : decode cX7_save 0 = .ok (.aload_n 0, 1) := by decide +kernel
theorem dX7_save_1 : decode cX7_save 1 = .ok (.iconst 0, 1) := by decide +kernel
theorem dX7_save_2 : decode cX7_save 2 = .ok (.putfield 19, 3) := by decide +kernel
theorem dX7_save_5 : decode cX7_save 5 = .ok (.aload_n 0, 1) := by decide +kernel
theorem dX7_save_6 : decode cX7_save 6 = .ok (.iconst 1, 1) := by decide +kernel
theorem dX7_save_7 : decode cX7_save 7 = .ok (.putfield 124, 3) := by decide +kernel
theorem dX7_save_10 : decode cX7_save 10 = .ok (.iconst 0, 1) := by decide +kernel
theorem dX7_save_11 : decode cX7_save 11 = .ok (.istore_n 1, 1) := by decide +kernel
theorem dX7_save_12 : decode cX7_save 12 = .ok (.iload_n 1, 1) := by decide +kernel
theorem dX7_save_13 : decode cX7_save 13 = .ok (.sipush 731, 3) := by decide +kernel
theorem dX7_save_16 : decode cX7_save 16 = .ok (.if_icmp .ge 21, 3) := by decide +kernel
theorem dX7_save_19 : decode cX7_save 19 = .ok (.aload_n 0, 1) := by decide +kernel
theorem dX7_save_20 : decode cX7_save 20 = .ok (.getfield 13, 3) := by decide +kernel
theorem dX7_save_23 : decode cX7_save 23 = .ok (.iload_n 1, 1) := by decide +kernel
theorem dX7_save_24 : decode cX7_save 24 = .ok (.aload_n 0, 1) := by decide +kernel
theorem dX7_save_25 : decode cX7_save 25 = .ok (.getfield 9, 3) := by decide +kernel
theorem dX7_save_28 : decode cX7_save 28 = .ok (.iload_n 1, 1) := by decide +kernel
theorem dX7_save_29 : decode cX7_save 29 = .ok (.iaload, 1) := by decide +kernel
theorem dX7_save_30 : decode cX7_save 30 = .ok (.iastore, 1) := by decide +kernel
theorem dX7_save_31 : decode cX7_save 31 = .ok (.iinc 1 1, 3) := by decide +kernel
theorem dX7_save_34 : decode cX7_save 34 = .ok (.goto (-22), 3) := by decide +kernel
theorem dX7_save_37 : decode cX7_save 37 = .ok (.aload_n 0, 1) := by decide +kernel
theorem dX7_save_38 : decode cX7_save 38 = .ok (.invokevirtual 121, 3) := by decide +kernel
theorem dX7_save_41 : decode cX7_save 41 = .ok (.ireturn, 1) := by decide +kernel
theorem dX7_restore_0 : decode cX7_restore 0 = .ok (.aload_n 0, 1) := by decide +kernel
theorem dX7_restore_1 : decode cX7_restore 1 = .ok (.iconst 0, 1) := by decide +kernel
theorem dX7_restore_2 : decode cX7_restore 2 = .ok (.putfield 19, 3) := by decide +kernel
theorem dX7_restore_5 : decode cX7_restore 5 = .ok (.aload_n 0, 1) := by decide +kernel
theorem dX7_restore_6 : decode cX7_restore 6 = .ok (.getfield 124, 3) := by decide +kernel
theorem dX7_restore_9 : decode cX7_restore 9 = .ok (.ifCond .ne 9, 3) := by decide +kernel
theorem dX7_restore_12 : decode cX7_restore 12 = .ok (.aload_n 0, 1) := by decide +kernel
theorem dX7_restore_13 : decode cX7_restore 13 = .ok (.iconst 1, 1) := by decide +kernel
theorem dX7_restore_14 : decode cX7_restore 14 = .ok (.invokevirtual 41, 3) := by decide +kernel
theorem dX7_restore_17 : decode cX7_restore 17 = .ok (.ireturn, 1) := by decide +kernel
theorem dX7_restore_18 : decode cX7_restore 18 = .ok (.iconst 0, 1) := by decide +kernel
theorem dX7_restore_19 : decode cX7_restore 19 = .ok (.istore_n 1, 1) := by decide +kernel
theorem dX7_restore_20 : decode cX7_restore 20 = .ok (.iload_n 1, 1) := by decide +kernel
theorem dX7_restore_21 : decode cX7_restore 21 = .ok (.sipush 731, 3) := by decide +kernel
theorem dX7_restore_24 : decode cX7_restore 24 = .ok (.if_icmp .ge 21, 3) := by decide +kernel
theorem dX7_restore_27 : decode cX7_restore 27 = .ok (.aload_n 0, 1) := by decide +kernel
theorem dX7_restore_28 : decode cX7_restore 28 = .ok (.getfield 9, 3) := by decide +kernel
theorem dX7_restore_31 : decode cX7_restore 31 = .ok (.iload_n 1, 1) := by decide +kernel
theorem dX7_restore_32 : decode cX7_restore 32 = .ok (.aload_n 0, 1) := by decide +kernel
theorem dX7_restore_33 : decode cX7_restore 33 = .ok (.getfield 13, 3) := by decide +kernel
theorem dX7_restore_36 : decode cX7_restore 36 = .ok (.iload_n 1, 1) := by decide +kernel
theorem dX7_restore_37 : decode cX7_restore 37 = .ok (.iaload, 1) := by decide +kernel
theorem dX7_restore_38 : decode cX7_restore 38 = .ok (.iastore, 1) := by decide +kernel
theorem dX7_restore_39 : decode cX7_restore 39 = .ok (.iinc 1 1, 3) := by decide +kernel
theorem dX7_restore_42 : decode cX7_restore 42 = .ok (.goto (-22), 3) := by decide +kernel
theorem dX7_restore_45 : decode cX7_restore 45 = .ok (.aload_n 0, 1) := by decide +kernel
theorem dX7_restore_46 : decode cX7_restore 46 = .ok (.invokevirtual 121, 3) := by decide +kernel
theorem dX7_restore_49 : decode cX7_restore 49 = .ok (.ireturn, 1) := by decide +kernel
end
section
theorem dL_addPool_0 : decode cL_addPool 0 = .ok (.aload 5, 2) := by decide +kernel
theorem dL_addPool_2 : decode cL_addPool 2 = .ok (.iconst 0, 1) := by decide +kernel
theorem dL_addPool_3 : decode cL_addPool 3 = .ok (.aload_n 0, 1) := by decide +kernel
theorem dL_addPool_4 : decode cL_addPool 4 = .ok (.iload_n 1, 1) := by decide +kernel
theorem dL_addPool_5 : decode cL_addPool 5 = .ok (.iload_n 2, 1) := by decide +kernel
theorem dL_addPool_6 : decode cL_addPool 6 = .ok (.iload_n 3, 1) := by decide +kernel
theorem dL_addPool_7 : decode cL_addPool 7 = .ok (.iload 4, 2) := by decide +kernel
theorem dL_addPool_9 : decode cL_addPool 9 = .ok (.invokevirtual 7, 3) := by decide +kernel
theorem dL_addPool_12 : decode cL_addPool 12 = .ok (.i2l, 1) := by decide +kernel
theorem dL_addPool_13 : decode cL_addPool 13 = .ok (.lastore, 1) := by decide +kernel
theorem dL_addPool_14 : decode cL_addPool 14 = .ok (.goto 15, 3) := by decide +kernel
theorem dL_addPool_17 : decode cL_addPool 17 = .ok (.astore 6, 2) := by decide +kernel
theorem dL_addPool_19 : decode cL_addPool 19 = .ok (.iconst 1, 1) := by decide +kernel
theorem dL_addPool_20 : decode cL_addPool 20 = .ok (.ireturn, 1) := by decide +kernel
theorem dL_addPool_21 : decode cL_addPool 21 = .ok (.astore 6, 2) := by decide +kernel
theorem dL_addPool_23 : decode cL_addPool 23 = .ok (.iconst 2, 1) := by decide +kernel
theorem dL_addPool_24 : decode cL_addPool 24 = .ok (.ireturn, 1) := by decide +kernel
theorem dL_addPool_25 : decode cL_addPool 25 = .ok (.astore 6, 2) := by decide +kernel
theorem dL_addPool_27 : decode cL_addPool 27 = .ok (.iconst 3, 1) := by decide +kernel
theorem dL_addPool_28 : decode cL_addPool 28 = .ok (.ireturn, 1) := by decide +kernel
theorem dL_addPool_29 : decode cL_addPool 29 = .ok (.iconst 0, 1) := by decide +kernel
theorem dL_addPool_30 : decode cL_addPool 30 = .ok (.ireturn, 1) := by decide +kernel
theorem dL_removePool_0 : decode cL_removePool 0 = .ok (.aload_n 2, 1) := by decide +kernel
theorem dL_removePool_1 : decode cL_removePool 1 = .ok (.iconst 0, 1) := by decide +kernel
theorem dL_removePool_2 : decode cL_removePool 2 = .ok (.aload_n 0, 1) := by decide +kernel
theorem dL_removePool_3 : decode cL_removePool 3 = .ok (.iload_n 1, 1) := by decide +kernel
theorem dL_removePool_4 : decode cL_removePool 4 = .ok (.invokevirtual 19, 3) := by decide +kernel
theorem dL_removePool_7 : decode cL_removePool 7 = .ok (.i2l, 1) := by decide +kernel
theorem dL_removePool_8 : decode cL_removePool 8 = .ok (.lastore, 1) := by decide +kernel
theorem dL_removePool_9 : decode cL_removePool 9 = .ok (.goto 9, 3) := by decide +kernel
theorem dL_removePool_12 : decode cL_removePool 12 = .ok (.astore_n 3, 1) := by decide +kernel
theorem dL_removePool_13 : decode cL_removePool 13 = .ok (.iconst 1, 1) := by decide +kernel
theorem dL_removePool_14 : decode cL_removePool 14 = .ok (.ireturn, 1) := by decide +kernel
theorem dL_removePool_15 : decode cL_removePool 15 = .ok (.astore_n 3, 1) := by decide +kernel
theorem dL_removePool_16 : decode cL_removePool 16 = .ok (.iconst 2, 1) := by decide +kernel
theorem dL_removePool_17 : decode cL_removePool 17 = .ok (.ireturn, 1) := by decide +kernel
theorem dL_removePool_18 : decode cL_removePool 18 = .ok (.iconst 0, 1) := by decide +kernel
theorem dL_removePool_19 : decode cL_removePool 19 = .ok (.ireturn, 1) := by decide +kernel
theorem dL_pool_0 : decode cL_pool 0 = .ok (.aload_n 3, 1) := by decide +kernel
theorem dL_pool_1 : decode cL_pool 1 = .ok (.iconst 0, 1) := by decide +kernel
theorem dL_pool_2 : decode cL_pool 2 = .ok (.aload_n 0, 1) := by decide +kernel
theorem dL_pool_3 : decode cL_pool 3 = .ok (.iload_n 1, 1) := by decide +kernel
theorem dL_pool_4 : decode cL_pool 4 = .ok (.iload_n 2, 1) := by decide +kernel
theorem dL_pool_5 : decode cL_pool 5 = .ok (.invokevirtual 23, 3) := by decide +kernel
theorem dL_pool_8 : decode cL_pool 8 = .ok (.i2l, 1) := by decide +kernel
theorem dL_pool_9 : decode cL_pool 9 = .ok (.lastore, 1) := by decide +kernel
theorem dL_pool_10 : decode cL_pool 10 = .ok (.goto 11, 3) := by decide +kernel
theorem dL_pool_13 : decode cL_pool 13 = .ok (.astore 4, 2) := by decide +kernel
theorem dL_pool_15 : decode cL_pool 15 = .ok (.iconst 1, 1) := by decide +kernel
theorem dL_pool_16 : decode cL_pool 16 = .ok (.ireturn, 1) := by decide +kernel
theorem dL_pool_17 : decode cL_pool 17 = .ok (.astore 4, 2) := by decide +kernel
theorem dL_pool_19 : decode cL_pool 19 = .ok (.iconst 2, 1) := by decide +kernel
theorem dL_pool_20 : decode cL_pool 20 = .ok (.ireturn, 1) := by decide +kernel
theorem dL_pool_21 : decode cL_pool 21 = .ok (.iconst 0, 1) := by decide +kernel
theorem dL_pool_22 : decode cL_pool 22 = .ok (.ireturn, 1) := by decide +kernel
theorem dL_poolOf_0 : decode cL_poolOf 0 = .ok (.aload_n 2, 1) := by decide +kernel
theorem dL_poolOf_1 : decode cL_poolOf 1 = .ok (.iconst 0, 1) := by decide +kernel
theorem dL_poolOf_2 : decode cL_poolOf 2 = .ok (.aload_n 0, 1) := by decide +kernel
theorem dL_poolOf_3 : decode cL_poolOf 3 = .ok (.iload_n 1, 1) := by decide +kernel
theorem dL_poolOf_4 : decode cL_poolOf 4 = .ok (.invokevirtual 27, 3) := by decide +kernel
theorem dL_poolOf_7 : decode cL_poolOf 7 = .ok (.i2l, 1) := by decide +kernel
theorem dL_poolOf_8 : decode cL_poolOf 8 = .ok (.lastore, 1) := by decide +kernel
theorem dL_poolOf_9 : decode cL_poolOf 9 = .ok (.goto 9, 3) := by decide +kernel
theorem dL_poolOf_12 : decode cL_poolOf 12 = .ok (.astore_n 3, 1) := by decide +kernel
theorem dL_poolOf_13 : decode cL_poolOf 13 = .ok (.iconst 1, 1) := by decide +kernel
theorem dL_poolOf_14 : decode cL_poolOf 14 = .ok (.ireturn, 1) := by decide +kernel
theorem dL_poolOf_15 : decode cL_poolOf 15 = .ok (.astore_n 3, 1) := by decide +kernel
theorem dL_poolOf_16 : decode cL_poolOf 16 = .ok (.iconst 2, 1) := by decide +kernel
theorem dL_poolOf_17 : decode cL_poolOf 17 = .ok (.ireturn, 1) := by decide +kernel
theorem dL_poolOf_18 : decode cL_poolOf 18 = .ok (.iconst 0, 1) := by decide +kernel
theorem dL_poolOf_19 : decode cL_poolOf 19 = .ok (.ireturn, 1) := by decide +kernel
theorem dL_exclude_0 : decode cL_exclude 0 = .ok (.aload_n 3, 1) := by decide +kernel
theorem dL_exclude_1 : decode cL_exclude 1 = .ok (.iconst 0, 1) := by decide +kernel
theorem dL_exclude_2 : decode cL_exclude 2 = .ok (.aload_n 0, 1) := by decide +kernel
theorem dL_exclude_3 : decode cL_exclude 3 = .ok (.iload_n 1, 1) := by decide +kernel
theorem dL_exclude_4 : decode cL_exclude 4 = .ok (.iload_n 2, 1) := by decide +kernel
theorem dL_exclude_5 : decode cL_exclude 5 = .ok (.invokevirtual 32, 3) := by decide +kernel
theorem dL_exclude_8 : decode cL_exclude 8 = .ok (.ifCond .eq 7, 3) := by decide +kernel
theorem dL_exclude_11 : decode cL_exclude 11 = .ok (.lconst 1, 1) := by decide +kernel
theorem dL_exclude_12 : decode cL_exclude 12 = .ok (.goto 4, 3) := by decide +kernel
theorem dL_exclude_15 : decode cL_exclude 15 = .ok (.lconst 0, 1) := by decide +kernel
theorem dL_exclude_16 : decode cL_exclude 16 = .ok (.lastore, 1) := by decide +kernel
theorem dL_exclude_17 : decode cL_exclude 17 = .ok (.goto 7, 3) := by decide +kernel
theorem dL_exclude_20 : decode cL_exclude 20 = .ok (.astore 4, 2) := by decide +kernel
theorem dL_exclude_22 : decode cL_exclude 22 = .ok (.iconst 1, 1) := by decide +kernel
theorem dL_exclude_23 : decode cL_exclude 23 = .ok (.ireturn, 1) := by decide +kernel
theorem dL_exclude_24 : decode cL_exclude 24 = .ok (.iconst 0, 1) := by decide +kernel
theorem dL_exclude_25 : decode cL_exclude 25 = .ok (.ireturn, 1) := by decide +kernel
theorem dL_setStranger_0 : decode cL_setStranger 0 = .ok (.aload_n 3, 1) := by decide +kernel
theorem dL_setStranger_1 : decode cL_setStranger 1 = .ok (.iconst 0, 1) := by decide +kernel
theorem dL_setStranger_2 : decode cL_setStranger 2 = .ok (.aload_n 0, 1) := by decide +kernel
theorem dL_setStranger_3 : decode cL_setStranger 3 = .ok (.iload_n 1, 1) := by decide +kernel
theorem dL_setStranger_4 : decode cL_setStranger 4 = .ok (.iload_n 2, 1) := by decide +kernel
theorem dL_setStranger_5 : decode cL_setStranger 5 = .ok (.invokevirtual 36, 3) := by decide +kernel
theorem dL_setStranger_8 : decode cL_setStranger 8 = .ok (.ifCond .eq 7, 3) := by decide +kernel
theorem dL_setStranger_11 : decode cL_setStranger 11 = .ok (.lconst 1, 1) := by decide +kernel
theorem dL_setStranger_12 : decode cL_setStranger 12 = .ok (.goto 4, 3) := by decide +kernel
theorem dL_setStranger_15 : decode cL_setStranger 15 = .ok (.lconst 0, 1) := by decide +kernel
theorem dL_setStranger_16 : decode cL_setStranger 16 = .ok (.lastore, 1) := by decide +kernel
theorem dL_setStranger_17 : decode cL_setStranger 17 = .ok (.goto 7, 3) := by decide +kernel
theorem dL_setStranger_20 : decode cL_setStranger 20 = .ok (.astore 4, 2) := by decide +kernel
theorem dL_setStranger_22 : decode cL_setStranger 22 = .ok (.iconst 1, 1) := by decide +kernel
theorem dL_setStranger_23 : decode cL_setStranger 23 = .ok (.ireturn, 1) := by decide +kernel
theorem dL_setStranger_24 : decode cL_setStranger 24 = .ok (.iconst 0, 1) := by decide +kernel
theorem dL_setStranger_25 : decode cL_setStranger 25 = .ok (.ireturn, 1) := by decide +kernel
theorem dL_setHold_0 : decode cL_setHold 0 = .ok (.aload_n 2, 1) := by decide +kernel
theorem dL_setHold_1 : decode cL_setHold 1 = .ok (.iconst 0, 1) := by decide +kernel
theorem dL_setHold_2 : decode cL_setHold 2 = .ok (.aload_n 0, 1) := by decide +kernel
theorem dL_setHold_3 : decode cL_setHold 3 = .ok (.iload_n 1, 1) := by decide +kernel
theorem dL_setHold_4 : decode cL_setHold 4 = .ok (.invokevirtual 39, 3) := by decide +kernel
theorem dL_setHold_7 : decode cL_setHold 7 = .ok (.i2l, 1) := by decide +kernel
theorem dL_setHold_8 : decode cL_setHold 8 = .ok (.lastore, 1) := by decide +kernel
theorem dL_setHold_9 : decode cL_setHold 9 = .ok (.goto 6, 3) := by decide +kernel
theorem dL_setHold_12 : decode cL_setHold 12 = .ok (.astore_n 3, 1) := by decide +kernel
theorem dL_setHold_13 : decode cL_setHold 13 = .ok (.iconst 1, 1) := by decide +kernel
theorem dL_setHold_14 : decode cL_setHold 14 = .ok (.ireturn, 1) := by decide +kernel
theorem dL_setHold_15 : decode cL_setHold 15 = .ok (.iconst 0, 1) := by decide +kernel
theorem dL_setHold_16 : decode cL_setHold 16 = .ok (.ireturn, 1) := by decide +kernel
theorem dL_setQuarantine_0 : decode cL_setQuarantine 0 = .ok (.aload_n 2, 1) := by decide +kernel
theorem dL_setQuarantine_1 : decode cL_setQuarantine 1 = .ok (.iconst 0, 1) := by decide +kernel
theorem dL_setQuarantine_2 : decode cL_setQuarantine 2 = .ok (.aload_n 0, 1) := by decide +kernel
theorem dL_setQuarantine_3 : decode cL_setQuarantine 3 = .ok (.iload_n 1, 1) := by decide +kernel
theorem dL_setQuarantine_4 : decode cL_setQuarantine 4 = .ok (.invokevirtual 42, 3) := by decide +kernel
theorem dL_setQuarantine_7 : decode cL_setQuarantine 7 = .ok (.i2l, 1) := by decide +kernel
theorem dL_setQuarantine_8 : decode cL_setQuarantine 8 = .ok (.lastore, 1) := by decide +kernel
theorem dL_setQuarantine_9 : decode cL_setQuarantine 9 = .ok (.goto 6, 3) := by decide +kernel
theorem dL_setQuarantine_12 : decode cL_setQuarantine 12 = .ok (.astore_n 3, 1) := by decide +kernel
theorem dL_setQuarantine_13 : decode cL_setQuarantine 13 = .ok (.iconst 1, 1) := by decide +kernel
theorem dL_setQuarantine_14 : decode cL_setQuarantine 14 = .ok (.ireturn, 1) := by decide +kernel
theorem dL_setQuarantine_15 : decode cL_setQuarantine 15 = .ok (.iconst 0, 1) := by decide +kernel
theorem dL_setQuarantine_16 : decode cL_setQuarantine 16 = .ok (.ireturn, 1) := by decide +kernel
theorem dL_setDirect_0 : decode cL_setDirect 0 = .ok (.aload_n 3, 1) := by decide +kernel
theorem dL_setDirect_1 : decode cL_setDirect 1 = .ok (.iconst 0, 1) := by decide +kernel
theorem dL_setDirect_2 : decode cL_setDirect 2 = .ok (.aload_n 0, 1) := by decide +kernel
theorem dL_setDirect_3 : decode cL_setDirect 3 = .ok (.iload_n 1, 1) := by decide +kernel
theorem dL_setDirect_4 : decode cL_setDirect 4 = .ok (.iload_n 2, 1) := by decide +kernel
theorem dL_setDirect_5 : decode cL_setDirect 5 = .ok (.invokevirtual 45, 3) := by decide +kernel
theorem dL_setDirect_8 : decode cL_setDirect 8 = .ok (.ifCond .eq 7, 3) := by decide +kernel
theorem dL_setDirect_11 : decode cL_setDirect 11 = .ok (.lconst 1, 1) := by decide +kernel
theorem dL_setDirect_12 : decode cL_setDirect 12 = .ok (.goto 4, 3) := by decide +kernel
theorem dL_setDirect_15 : decode cL_setDirect 15 = .ok (.lconst 0, 1) := by decide +kernel
theorem dL_setDirect_16 : decode cL_setDirect 16 = .ok (.lastore, 1) := by decide +kernel
theorem dL_setDirect_17 : decode cL_setDirect 17 = .ok (.goto 7, 3) := by decide +kernel
theorem dL_setDirect_20 : decode cL_setDirect 20 = .ok (.astore 4, 2) := by decide +kernel
theorem dL_setDirect_22 : decode cL_setDirect 22 = .ok (.iconst 1, 1) := by decide +kernel
theorem dL_setDirect_23 : decode cL_setDirect 23 = .ok (.ireturn, 1) := by decide +kernel
theorem dL_setDirect_24 : decode cL_setDirect 24 = .ok (.iconst 0, 1) := by decide +kernel
theorem dL_setDirect_25 : decode cL_setDirect 25 = .ok (.ireturn, 1) := by decide +kernel
theorem dL_setRelay_0 : decode cL_setRelay 0 = .ok (.aload_n 3, 1) := by decide +kernel
theorem dL_setRelay_1 : decode cL_setRelay 1 = .ok (.iconst 0, 1) := by decide +kernel
theorem dL_setRelay_2 : decode cL_setRelay 2 = .ok (.aload_n 0, 1) := by decide +kernel
theorem dL_setRelay_3 : decode cL_setRelay 3 = .ok (.iload_n 1, 1) := by decide +kernel
theorem dL_setRelay_4 : decode cL_setRelay 4 = .ok (.iload_n 2, 1) := by decide +kernel
theorem dL_setRelay_5 : decode cL_setRelay 5 = .ok (.invokevirtual 48, 3) := by decide +kernel
theorem dL_setRelay_8 : decode cL_setRelay 8 = .ok (.ifCond .eq 7, 3) := by decide +kernel
theorem dL_setRelay_11 : decode cL_setRelay 11 = .ok (.lconst 1, 1) := by decide +kernel
theorem dL_setRelay_12 : decode cL_setRelay 12 = .ok (.goto 4, 3) := by decide +kernel
theorem dL_setRelay_15 : decode cL_setRelay 15 = .ok (.lconst 0, 1) := by decide +kernel
theorem dL_setRelay_16 : decode cL_setRelay 16 = .ok (.lastore, 1) := by decide +kernel
theorem dL_setRelay_17 : decode cL_setRelay 17 = .ok (.goto 7, 3) := by decide +kernel
theorem dL_setRelay_20 : decode cL_setRelay 20 = .ok (.astore 4, 2) := by decide +kernel
theorem dL_setRelay_22 : decode cL_setRelay 22 = .ok (.iconst 1, 1) := by decide +kernel
theorem dL_setRelay_23 : decode cL_setRelay 23 = .ok (.ireturn, 1) := by decide +kernel
theorem dL_setRelay_24 : decode cL_setRelay 24 = .ok (.iconst 0, 1) := by decide +kernel
theorem dL_setRelay_25 : decode cL_setRelay 25 = .ok (.ireturn, 1) := by decide +kernel
theorem dL_discover_0 : decode cL_discover 0 = .ok (.aload 4, 2) := by decide +kernel
theorem dL_discover_2 : decode cL_discover 2 = .ok (.iconst 0, 1) := by decide +kernel
theorem dL_discover_3 : decode cL_discover 3 = .ok (.aload_n 0, 1) := by decide +kernel
theorem dL_discover_4 : decode cL_discover 4 = .ok (.iload_n 1, 1) := by decide +kernel
theorem dL_discover_5 : decode cL_discover 5 = .ok (.iload_n 2, 1) := by decide +kernel
theorem dL_discover_6 : decode cL_discover 6 = .ok (.iload_n 3, 1) := by decide +kernel
theorem dL_discover_7 : decode cL_discover 7 = .ok (.invokevirtual 51, 3) := by decide +kernel
theorem dL_discover_10 : decode cL_discover 10 = .ok (.i2l, 1) := by decide +kernel
theorem dL_discover_11 : decode cL_discover 11 = .ok (.lastore, 1) := by decide +kernel
theorem dL_discover_12 : decode cL_discover 12 = .ok (.goto 15, 3) := by decide +kernel
theorem dL_discover_15 : decode cL_discover 15 = .ok (.astore 5, 2) := by decide +kernel
theorem dL_discover_17 : decode cL_discover 17 = .ok (.iconst 1, 1) := by decide +kernel
theorem dL_discover_18 : decode cL_discover 18 = .ok (.ireturn, 1) := by decide +kernel
theorem dL_discover_19 : decode cL_discover 19 = .ok (.astore 5, 2) := by decide +kernel
theorem dL_discover_21 : decode cL_discover 21 = .ok (.iconst 2, 1) := by decide +kernel
theorem dL_discover_22 : decode cL_discover 22 = .ok (.ireturn, 1) := by decide +kernel
theorem dL_discover_23 : decode cL_discover 23 = .ok (.astore 5, 2) := by decide +kernel
theorem dL_discover_25 : decode cL_discover 25 = .ok (.iconst 3, 1) := by decide +kernel
theorem dL_discover_26 : decode cL_discover 26 = .ok (.ireturn, 1) := by decide +kernel
theorem dL_discover_27 : decode cL_discover 27 = .ok (.iconst 0, 1) := by decide +kernel
theorem dL_discover_28 : decode cL_discover 28 = .ok (.ireturn, 1) := by decide +kernel
theorem dL_accept_0 : decode cL_accept 0 = .ok (.aload_n 2, 1) := by decide +kernel
theorem dL_accept_1 : decode cL_accept 1 = .ok (.iconst 0, 1) := by decide +kernel
theorem dL_accept_2 : decode cL_accept 2 = .ok (.aload_n 0, 1) := by decide +kernel
theorem dL_accept_3 : decode cL_accept 3 = .ok (.iload_n 1, 1) := by decide +kernel
theorem dL_accept_4 : decode cL_accept 4 = .ok (.invokevirtual 55, 3) := by decide +kernel
theorem dL_accept_7 : decode cL_accept 7 = .ok (.i2l, 1) := by decide +kernel
theorem dL_accept_8 : decode cL_accept 8 = .ok (.lastore, 1) := by decide +kernel
theorem dL_accept_9 : decode cL_accept 9 = .ok (.goto 12, 3) := by decide +kernel
theorem dL_accept_12 : decode cL_accept 12 = .ok (.astore_n 3, 1) := by decide +kernel
theorem dL_accept_13 : decode cL_accept 13 = .ok (.iconst 1, 1) := by decide +kernel
theorem dL_accept_14 : decode cL_accept 14 = .ok (.ireturn, 1) := by decide +kernel
theorem dL_accept_15 : decode cL_accept 15 = .ok (.astore_n 3, 1) := by decide +kernel
theorem dL_accept_16 : decode cL_accept 16 = .ok (.iconst 2, 1) := by decide +kernel
theorem dL_accept_17 : decode cL_accept 17 = .ok (.ireturn, 1) := by decide +kernel
theorem dL_accept_18 : decode cL_accept 18 = .ok (.astore_n 3, 1) := by decide +kernel
theorem dL_accept_19 : decode cL_accept 19 = .ok (.iconst 3, 1) := by decide +kernel
theorem dL_accept_20 : decode cL_accept 20 = .ok (.ireturn, 1) := by decide +kernel
theorem dL_accept_21 : decode cL_accept 21 = .ok (.iconst 0, 1) := by decide +kernel
theorem dL_accept_22 : decode cL_accept 22 = .ok (.ireturn, 1) := by decide +kernel
theorem dL_release_0 : decode cL_release 0 = .ok (.aload_n 2, 1) := by decide +kernel
theorem dL_release_1 : decode cL_release 1 = .ok (.iconst 0, 1) := by decide +kernel
theorem dL_release_2 : decode cL_release 2 = .ok (.aload_n 0, 1) := by decide +kernel
theorem dL_release_3 : decode cL_release 3 = .ok (.iload_n 1, 1) := by decide +kernel
theorem dL_release_4 : decode cL_release 4 = .ok (.invokevirtual 58, 3) := by decide +kernel
theorem dL_release_7 : decode cL_release 7 = .ok (.i2l, 1) := by decide +kernel
theorem dL_release_8 : decode cL_release 8 = .ok (.lastore, 1) := by decide +kernel
theorem dL_release_9 : decode cL_release 9 = .ok (.goto 9, 3) := by decide +kernel
theorem dL_release_12 : decode cL_release 12 = .ok (.astore_n 3, 1) := by decide +kernel
theorem dL_release_13 : decode cL_release 13 = .ok (.iconst 1, 1) := by decide +kernel
theorem dL_release_14 : decode cL_release 14 = .ok (.ireturn, 1) := by decide +kernel
theorem dL_release_15 : decode cL_release 15 = .ok (.astore_n 3, 1) := by decide +kernel
theorem dL_release_16 : decode cL_release 16 = .ok (.iconst 2, 1) := by decide +kernel
theorem dL_release_17 : decode cL_release 17 = .ok (.ireturn, 1) := by decide +kernel
theorem dL_release_18 : decode cL_release 18 = .ok (.iconst 0, 1) := by decide +kernel
theorem dL_release_19 : decode cL_release 19 = .ok (.ireturn, 1) := by decide +kernel
theorem dL_decline_0 : decode cL_decline 0 = .ok (.aload_n 2, 1) := by decide +kernel
theorem dL_decline_1 : decode cL_decline 1 = .ok (.iconst 0, 1) := by decide +kernel
theorem dL_decline_2 : decode cL_decline 2 = .ok (.aload_n 0, 1) := by decide +kernel
theorem dL_decline_3 : decode cL_decline 3 = .ok (.iload_n 1, 1) := by decide +kernel
theorem dL_decline_4 : decode cL_decline 4 = .ok (.invokevirtual 61, 3) := by decide +kernel
theorem dL_decline_7 : decode cL_decline 7 = .ok (.i2l, 1) := by decide +kernel
theorem dL_decline_8 : decode cL_decline 8 = .ok (.lastore, 1) := by decide +kernel
theorem dL_decline_9 : decode cL_decline 9 = .ok (.goto 9, 3) := by decide +kernel
theorem dL_decline_12 : decode cL_decline 12 = .ok (.astore_n 3, 1) := by decide +kernel
theorem dL_decline_13 : decode cL_decline 13 = .ok (.iconst 1, 1) := by decide +kernel
theorem dL_decline_14 : decode cL_decline 14 = .ok (.ireturn, 1) := by decide +kernel
theorem dL_decline_15 : decode cL_decline 15 = .ok (.astore_n 3, 1) := by decide +kernel
theorem dL_decline_16 : decode cL_decline 16 = .ok (.iconst 2, 1) := by decide +kernel
theorem dL_decline_17 : decode cL_decline 17 = .ok (.ireturn, 1) := by decide +kernel
theorem dL_decline_18 : decode cL_decline 18 = .ok (.iconst 0, 1) := by decide +kernel
theorem dL_decline_19 : decode cL_decline 19 = .ok (.ireturn, 1) := by decide +kernel
theorem dL_renew_0 : decode cL_renew 0 = .ok (.aload_n 2, 1) := by decide +kernel
theorem dL_renew_1 : decode cL_renew 1 = .ok (.iconst 0, 1) := by decide +kernel
theorem dL_renew_2 : decode cL_renew 2 = .ok (.aload_n 0, 1) := by decide +kernel
theorem dL_renew_3 : decode cL_renew 3 = .ok (.iload_n 1, 1) := by decide +kernel
theorem dL_renew_4 : decode cL_renew 4 = .ok (.invokevirtual 64, 3) := by decide +kernel
theorem dL_renew_7 : decode cL_renew 7 = .ok (.ifCond .eq 7, 3) := by decide +kernel
theorem dL_renew_10 : decode cL_renew 10 = .ok (.lconst 1, 1) := by decide +kernel
theorem dL_renew_11 : decode cL_renew 11 = .ok (.goto 4, 3) := by decide +kernel
theorem dL_renew_14 : decode cL_renew 14 = .ok (.lconst 0, 1) := by decide +kernel
theorem dL_renew_15 : decode cL_renew 15 = .ok (.lastore, 1) := by decide +kernel
theorem dL_renew_16 : decode cL_renew 16 = .ok (.goto 12, 3) := by decide +kernel
theorem dL_renew_19 : decode cL_renew 19 = .ok (.astore_n 3, 1) := by decide +kernel
theorem dL_renew_20 : decode cL_renew 20 = .ok (.iconst 1, 1) := by decide +kernel
theorem dL_renew_21 : decode cL_renew 21 = .ok (.ireturn, 1) := by decide +kernel
theorem dL_renew_22 : decode cL_renew 22 = .ok (.astore_n 3, 1) := by decide +kernel
theorem dL_renew_23 : decode cL_renew 23 = .ok (.iconst 2, 1) := by decide +kernel
theorem dL_renew_24 : decode cL_renew 24 = .ok (.ireturn, 1) := by decide +kernel
theorem dL_renew_25 : decode cL_renew 25 = .ok (.astore_n 3, 1) := by decide +kernel
theorem dL_renew_26 : decode cL_renew 26 = .ok (.iconst 3, 1) := by decide +kernel
theorem dL_renew_27 : decode cL_renew 27 = .ok (.ireturn, 1) := by decide +kernel
theorem dL_renew_28 : decode cL_renew 28 = .ok (.iconst 0, 1) := by decide +kernel
theorem dL_renew_29 : decode cL_renew 29 = .ok (.ireturn, 1) := by decide +kernel
theorem dL_advance_0 : decode cL_advance 0 = .ok (.aload_n 2, 1) := by decide +kernel
theorem dL_advance_1 : decode cL_advance 1 = .ok (.iconst 0, 1) := by decide +kernel
theorem dL_advance_2 : decode cL_advance 2 = .ok (.aload_n 0, 1) := by decide +kernel
theorem dL_advance_3 : decode cL_advance 3 = .ok (.iload_n 1, 1) := by decide +kernel
theorem dL_advance_4 : decode cL_advance 4 = .ok (.invokevirtual 68, 3) := by decide +kernel
theorem dL_advance_7 : decode cL_advance 7 = .ok (.i2l, 1) := by decide +kernel
theorem dL_advance_8 : decode cL_advance 8 = .ok (.lastore, 1) := by decide +kernel
theorem dL_advance_9 : decode cL_advance 9 = .ok (.goto 9, 3) := by decide +kernel
theorem dL_advance_12 : decode cL_advance 12 = .ok (.astore_n 3, 1) := by decide +kernel
theorem dL_advance_13 : decode cL_advance 13 = .ok (.iconst 1, 1) := by decide +kernel
theorem dL_advance_14 : decode cL_advance 14 = .ok (.ireturn, 1) := by decide +kernel
theorem dL_advance_15 : decode cL_advance 15 = .ok (.astore_n 3, 1) := by decide +kernel
theorem dL_advance_16 : decode cL_advance 16 = .ok (.iconst 2, 1) := by decide +kernel
theorem dL_advance_17 : decode cL_advance 17 = .ok (.ireturn, 1) := by decide +kernel
theorem dL_advance_18 : decode cL_advance 18 = .ok (.iconst 0, 1) := by decide +kernel
theorem dL_advance_19 : decode cL_advance 19 = .ok (.ireturn, 1) := by decide +kernel
theorem dL_advanceToEvent_0 : decode cL_advanceToEvent 0 = .ok (.aload_n 1, 1) := by decide +kernel
theorem dL_advanceToEvent_1 : decode cL_advanceToEvent 1 = .ok (.iconst 0, 1) := by decide +kernel
theorem dL_advanceToEvent_2 : decode cL_advanceToEvent 2 = .ok (.aload_n 0, 1) := by decide +kernel
theorem dL_advanceToEvent_3 : decode cL_advanceToEvent 3 = .ok (.invokevirtual 71, 3) := by decide +kernel
theorem dL_advanceToEvent_6 : decode cL_advanceToEvent 6 = .ok (.i2l, 1) := by decide +kernel
theorem dL_advanceToEvent_7 : decode cL_advanceToEvent 7 = .ok (.lastore, 1) := by decide +kernel
theorem dL_advanceToEvent_8 : decode cL_advanceToEvent 8 = .ok (.goto 9, 3) := by decide +kernel
theorem dL_advanceToEvent_11 : decode cL_advanceToEvent 11 = .ok (.astore_n 2, 1) := by decide +kernel
theorem dL_advanceToEvent_12 : decode cL_advanceToEvent 12 = .ok (.iconst 1, 1) := by decide +kernel
theorem dL_advanceToEvent_13 : decode cL_advanceToEvent 13 = .ok (.ireturn, 1) := by decide +kernel
theorem dL_advanceToEvent_14 : decode cL_advanceToEvent 14 = .ok (.astore_n 2, 1) := by decide +kernel
theorem dL_advanceToEvent_15 : decode cL_advanceToEvent 15 = .ok (.iconst 2, 1) := by decide +kernel
theorem dL_advanceToEvent_16 : decode cL_advanceToEvent 16 = .ok (.ireturn, 1) := by decide +kernel
theorem dL_advanceToEvent_17 : decode cL_advanceToEvent 17 = .ok (.iconst 0, 1) := by decide +kernel
theorem dL_advanceToEvent_18 : decode cL_advanceToEvent 18 = .ok (.ireturn, 1) := by decide +kernel
theorem dL_clientState_0 : decode cL_clientState 0 = .ok (.aload_n 2, 1) := by decide +kernel
theorem dL_clientState_1 : decode cL_clientState 1 = .ok (.iconst 0, 1) := by decide +kernel
theorem dL_clientState_2 : decode cL_clientState 2 = .ok (.aload_n 0, 1) := by decide +kernel
theorem dL_clientState_3 : decode cL_clientState 3 = .ok (.iload_n 1, 1) := by decide +kernel
theorem dL_clientState_4 : decode cL_clientState 4 = .ok (.invokevirtual 75, 3) := by decide +kernel
theorem dL_clientState_7 : decode cL_clientState 7 = .ok (.i2l, 1) := by decide +kernel
theorem dL_clientState_8 : decode cL_clientState 8 = .ok (.lastore, 1) := by decide +kernel
theorem dL_clientState_9 : decode cL_clientState 9 = .ok (.goto 6, 3) := by decide +kernel
theorem dL_clientState_12 : decode cL_clientState 12 = .ok (.astore_n 3, 1) := by decide +kernel
theorem dL_clientState_13 : decode cL_clientState 13 = .ok (.iconst 1, 1) := by decide +kernel
theorem dL_clientState_14 : decode cL_clientState 14 = .ok (.ireturn, 1) := by decide +kernel
theorem dL_clientState_15 : decode cL_clientState 15 = .ok (.iconst 0, 1) := by decide +kernel
theorem dL_clientState_16 : decode cL_clientState 16 = .ok (.ireturn, 1) := by decide +kernel
theorem dL_addressOf_0 : decode cL_addressOf 0 = .ok (.aload_n 2, 1) := by decide +kernel
theorem dL_addressOf_1 : decode cL_addressOf 1 = .ok (.iconst 0, 1) := by decide +kernel
theorem dL_addressOf_2 : decode cL_addressOf 2 = .ok (.aload_n 0, 1) := by decide +kernel
theorem dL_addressOf_3 : decode cL_addressOf 3 = .ok (.iload_n 1, 1) := by decide +kernel
theorem dL_addressOf_4 : decode cL_addressOf 4 = .ok (.invokevirtual 78, 3) := by decide +kernel
theorem dL_addressOf_7 : decode cL_addressOf 7 = .ok (.i2l, 1) := by decide +kernel
theorem dL_addressOf_8 : decode cL_addressOf 8 = .ok (.lastore, 1) := by decide +kernel
theorem dL_addressOf_9 : decode cL_addressOf 9 = .ok (.goto 9, 3) := by decide +kernel
theorem dL_addressOf_12 : decode cL_addressOf 12 = .ok (.astore_n 3, 1) := by decide +kernel
theorem dL_addressOf_13 : decode cL_addressOf 13 = .ok (.iconst 1, 1) := by decide +kernel
theorem dL_addressOf_14 : decode cL_addressOf 14 = .ok (.ireturn, 1) := by decide +kernel
theorem dL_addressOf_15 : decode cL_addressOf 15 = .ok (.astore_n 3, 1) := by decide +kernel
theorem dL_addressOf_16 : decode cL_addressOf 16 = .ok (.iconst 2, 1) := by decide +kernel
theorem dL_addressOf_17 : decode cL_addressOf 17 = .ok (.ireturn, 1) := by decide +kernel
theorem dL_addressOf_18 : decode cL_addressOf 18 = .ok (.iconst 0, 1) := by decide +kernel
theorem dL_addressOf_19 : decode cL_addressOf 19 = .ok (.ireturn, 1) := by decide +kernel
theorem dL_remembered_0 : decode cL_remembered 0 = .ok (.aload_n 2, 1) := by decide +kernel
theorem dL_remembered_1 : decode cL_remembered 1 = .ok (.iconst 0, 1) := by decide +kernel
theorem dL_remembered_2 : decode cL_remembered 2 = .ok (.aload_n 0, 1) := by decide +kernel
theorem dL_remembered_3 : decode cL_remembered 3 = .ok (.iload_n 1, 1) := by decide +kernel
theorem dL_remembered_4 : decode cL_remembered 4 = .ok (.invokevirtual 81, 3) := by decide +kernel
theorem dL_remembered_7 : decode cL_remembered 7 = .ok (.i2l, 1) := by decide +kernel
theorem dL_remembered_8 : decode cL_remembered 8 = .ok (.lastore, 1) := by decide +kernel
theorem dL_remembered_9 : decode cL_remembered 9 = .ok (.goto 9, 3) := by decide +kernel
theorem dL_remembered_12 : decode cL_remembered 12 = .ok (.astore_n 3, 1) := by decide +kernel
theorem dL_remembered_13 : decode cL_remembered 13 = .ok (.iconst 1, 1) := by decide +kernel
theorem dL_remembered_14 : decode cL_remembered 14 = .ok (.ireturn, 1) := by decide +kernel
theorem dL_remembered_15 : decode cL_remembered 15 = .ok (.astore_n 3, 1) := by decide +kernel
theorem dL_remembered_16 : decode cL_remembered 16 = .ok (.iconst 2, 1) := by decide +kernel
theorem dL_remembered_17 : decode cL_remembered 17 = .ok (.ireturn, 1) := by decide +kernel
theorem dL_remembered_18 : decode cL_remembered 18 = .ok (.iconst 0, 1) := by decide +kernel
theorem dL_remembered_19 : decode cL_remembered 19 = .ok (.ireturn, 1) := by decide +kernel
theorem dL_timer_0 : decode cL_timer 0 = .ok (.aload_n 3, 1) := by decide +kernel
theorem dL_timer_1 : decode cL_timer 1 = .ok (.iconst 0, 1) := by decide +kernel
theorem dL_timer_2 : decode cL_timer 2 = .ok (.aload_n 0, 1) := by decide +kernel
theorem dL_timer_3 : decode cL_timer 3 = .ok (.iload_n 1, 1) := by decide +kernel
theorem dL_timer_4 : decode cL_timer 4 = .ok (.iload_n 2, 1) := by decide +kernel
theorem dL_timer_5 : decode cL_timer 5 = .ok (.invokevirtual 84, 3) := by decide +kernel
theorem dL_timer_8 : decode cL_timer 8 = .ok (.i2l, 1) := by decide +kernel
theorem dL_timer_9 : decode cL_timer 9 = .ok (.lastore, 1) := by decide +kernel
theorem dL_timer_10 : decode cL_timer 10 = .ok (.goto 15, 3) := by decide +kernel
theorem dL_timer_13 : decode cL_timer 13 = .ok (.astore 4, 2) := by decide +kernel
theorem dL_timer_15 : decode cL_timer 15 = .ok (.iconst 1, 1) := by decide +kernel
theorem dL_timer_16 : decode cL_timer 16 = .ok (.ireturn, 1) := by decide +kernel
theorem dL_timer_17 : decode cL_timer 17 = .ok (.astore 4, 2) := by decide +kernel
theorem dL_timer_19 : decode cL_timer 19 = .ok (.iconst 2, 1) := by decide +kernel
theorem dL_timer_20 : decode cL_timer 20 = .ok (.ireturn, 1) := by decide +kernel
theorem dL_timer_21 : decode cL_timer 21 = .ok (.astore 4, 2) := by decide +kernel
theorem dL_timer_23 : decode cL_timer 23 = .ok (.iconst 3, 1) := by decide +kernel
theorem dL_timer_24 : decode cL_timer 24 = .ok (.ireturn, 1) := by decide +kernel
theorem dL_timer_25 : decode cL_timer 25 = .ok (.iconst 0, 1) := by decide +kernel
theorem dL_timer_26 : decode cL_timer 26 = .ok (.ireturn, 1) := by decide +kernel
theorem dL_addressState_0 : decode cL_addressState 0 = .ok (.aload_n 2, 1) := by decide +kernel
theorem dL_addressState_1 : decode cL_addressState 1 = .ok (.iconst 0, 1) := by decide +kernel
theorem dL_addressState_2 : decode cL_addressState 2 = .ok (.aload_n 0, 1) := by decide +kernel
theorem dL_addressState_3 : decode cL_addressState 3 = .ok (.iload_n 1, 1) := by decide +kernel
theorem dL_addressState_4 : decode cL_addressState 4 = .ok (.invokevirtual 87, 3) := by decide +kernel
theorem dL_addressState_7 : decode cL_addressState 7 = .ok (.i2l, 1) := by decide +kernel
theorem dL_addressState_8 : decode cL_addressState 8 = .ok (.lastore, 1) := by decide +kernel
theorem dL_addressState_9 : decode cL_addressState 9 = .ok (.goto 9, 3) := by decide +kernel
theorem dL_addressState_12 : decode cL_addressState 12 = .ok (.astore_n 3, 1) := by decide +kernel
theorem dL_addressState_13 : decode cL_addressState 13 = .ok (.iconst 1, 1) := by decide +kernel
theorem dL_addressState_14 : decode cL_addressState 14 = .ok (.ireturn, 1) := by decide +kernel
theorem dL_addressState_15 : decode cL_addressState 15 = .ok (.astore_n 3, 1) := by decide +kernel
theorem dL_addressState_16 : decode cL_addressState 16 = .ok (.iconst 2, 1) := by decide +kernel
theorem dL_addressState_17 : decode cL_addressState 17 = .ok (.ireturn, 1) := by decide +kernel
theorem dL_addressState_18 : decode cL_addressState 18 = .ok (.iconst 0, 1) := by decide +kernel
theorem dL_addressState_19 : decode cL_addressState 19 = .ok (.ireturn, 1) := by decide +kernel
theorem dL_holder_0 : decode cL_holder 0 = .ok (.aload_n 2, 1) := by decide +kernel
theorem dL_holder_1 : decode cL_holder 1 = .ok (.iconst 0, 1) := by decide +kernel
theorem dL_holder_2 : decode cL_holder 2 = .ok (.aload_n 0, 1) := by decide +kernel
theorem dL_holder_3 : decode cL_holder 3 = .ok (.iload_n 1, 1) := by decide +kernel
theorem dL_holder_4 : decode cL_holder 4 = .ok (.invokevirtual 90, 3) := by decide +kernel
theorem dL_holder_7 : decode cL_holder 7 = .ok (.i2l, 1) := by decide +kernel
theorem dL_holder_8 : decode cL_holder 8 = .ok (.lastore, 1) := by decide +kernel
theorem dL_holder_9 : decode cL_holder 9 = .ok (.goto 9, 3) := by decide +kernel
theorem dL_holder_12 : decode cL_holder 12 = .ok (.astore_n 3, 1) := by decide +kernel
theorem dL_holder_13 : decode cL_holder 13 = .ok (.iconst 1, 1) := by decide +kernel
theorem dL_holder_14 : decode cL_holder 14 = .ok (.ireturn, 1) := by decide +kernel
theorem dL_holder_15 : decode cL_holder 15 = .ok (.astore_n 3, 1) := by decide +kernel
theorem dL_holder_16 : decode cL_holder 16 = .ok (.iconst 2, 1) := by decide +kernel
theorem dL_holder_17 : decode cL_holder 17 = .ok (.ireturn, 1) := by decide +kernel
theorem dL_holder_18 : decode cL_holder 18 = .ok (.iconst 0, 1) := by decide +kernel
theorem dL_holder_19 : decode cL_holder 19 = .ok (.ireturn, 1) := by decide +kernel
theorem dL_until_0 : decode cL_until 0 = .ok (.aload_n 2, 1) := by decide +kernel
theorem dL_until_1 : decode cL_until 1 = .ok (.iconst 0, 1) := by decide +kernel
theorem dL_until_2 : decode cL_until 2 = .ok (.aload_n 0, 1) := by decide +kernel
theorem dL_until_3 : decode cL_until 3 = .ok (.iload_n 1, 1) := by decide +kernel
theorem dL_until_4 : decode cL_until 4 = .ok (.invokevirtual 93, 3) := by decide +kernel
theorem dL_until_7 : decode cL_until 7 = .ok (.i2l, 1) := by decide +kernel
theorem dL_until_8 : decode cL_until 8 = .ok (.lastore, 1) := by decide +kernel
theorem dL_until_9 : decode cL_until 9 = .ok (.goto 9, 3) := by decide +kernel
theorem dL_until_12 : decode cL_until 12 = .ok (.astore_n 3, 1) := by decide +kernel
theorem dL_until_13 : decode cL_until 13 = .ok (.iconst 1, 1) := by decide +kernel
theorem dL_until_14 : decode cL_until 14 = .ok (.ireturn, 1) := by decide +kernel
theorem dL_until_15 : decode cL_until 15 = .ok (.astore_n 3, 1) := by decide +kernel
theorem dL_until_16 : decode cL_until 16 = .ok (.iconst 2, 1) := by decide +kernel
theorem dL_until_17 : decode cL_until 17 = .ok (.ireturn, 1) := by decide +kernel
theorem dL_until_18 : decode cL_until 18 = .ok (.iconst 0, 1) := by decide +kernel
theorem dL_until_19 : decode cL_until 19 = .ok (.ireturn, 1) := by decide +kernel
theorem dL_freeSince_0 : decode cL_freeSince 0 = .ok (.aload_n 2, 1) := by decide +kernel
theorem dL_freeSince_1 : decode cL_freeSince 1 = .ok (.iconst 0, 1) := by decide +kernel
theorem dL_freeSince_2 : decode cL_freeSince 2 = .ok (.aload_n 0, 1) := by decide +kernel
theorem dL_freeSince_3 : decode cL_freeSince 3 = .ok (.iload_n 1, 1) := by decide +kernel
theorem dL_freeSince_4 : decode cL_freeSince 4 = .ok (.invokevirtual 96, 3) := by decide +kernel
theorem dL_freeSince_7 : decode cL_freeSince 7 = .ok (.i2l, 1) := by decide +kernel
theorem dL_freeSince_8 : decode cL_freeSince 8 = .ok (.lastore, 1) := by decide +kernel
theorem dL_freeSince_9 : decode cL_freeSince 9 = .ok (.goto 9, 3) := by decide +kernel
theorem dL_freeSince_12 : decode cL_freeSince 12 = .ok (.astore_n 3, 1) := by decide +kernel
theorem dL_freeSince_13 : decode cL_freeSince 13 = .ok (.iconst 1, 1) := by decide +kernel
theorem dL_freeSince_14 : decode cL_freeSince 14 = .ok (.ireturn, 1) := by decide +kernel
theorem dL_freeSince_15 : decode cL_freeSince 15 = .ok (.astore_n 3, 1) := by decide +kernel
theorem dL_freeSince_16 : decode cL_freeSince 16 = .ok (.iconst 2, 1) := by decide +kernel
theorem dL_freeSince_17 : decode cL_freeSince 17 = .ok (.ireturn, 1) := by decide +kernel
theorem dL_freeSince_18 : decode cL_freeSince 18 = .ok (.iconst 0, 1) := by decide +kernel
theorem dL_freeSince_19 : decode cL_freeSince 19 = .ok (.ireturn, 1) := by decide +kernel
theorem dL_nextCandidate_0 : decode cL_nextCandidate 0 = .ok (.aload_n 3, 1) := by decide +kernel
theorem dL_nextCandidate_1 : decode cL_nextCandidate 1 = .ok (.iconst 0, 1) := by decide +kernel
theorem dL_nextCandidate_2 : decode cL_nextCandidate 2 = .ok (.aload_n 0, 1) := by decide +kernel
theorem dL_nextCandidate_3 : decode cL_nextCandidate 3 = .ok (.iload_n 1, 1) := by decide +kernel
theorem dL_nextCandidate_4 : decode cL_nextCandidate 4 = .ok (.iload_n 2, 1) := by decide +kernel
theorem dL_nextCandidate_5 : decode cL_nextCandidate 5 = .ok (.invokevirtual 99, 3) := by decide +kernel
theorem dL_nextCandidate_8 : decode cL_nextCandidate 8 = .ok (.i2l, 1) := by decide +kernel
theorem dL_nextCandidate_9 : decode cL_nextCandidate 9 = .ok (.lastore, 1) := by decide +kernel
theorem dL_nextCandidate_10 : decode cL_nextCandidate 10 = .ok (.goto 11, 3) := by decide +kernel
theorem dL_nextCandidate_13 : decode cL_nextCandidate 13 = .ok (.astore 4, 2) := by decide +kernel
theorem dL_nextCandidate_15 : decode cL_nextCandidate 15 = .ok (.iconst 1, 1) := by decide +kernel
theorem dL_nextCandidate_16 : decode cL_nextCandidate 16 = .ok (.ireturn, 1) := by decide +kernel
theorem dL_nextCandidate_17 : decode cL_nextCandidate 17 = .ok (.astore 4, 2) := by decide +kernel
theorem dL_nextCandidate_19 : decode cL_nextCandidate 19 = .ok (.iconst 2, 1) := by decide +kernel
theorem dL_nextCandidate_20 : decode cL_nextCandidate 20 = .ok (.ireturn, 1) := by decide +kernel
theorem dL_nextCandidate_21 : decode cL_nextCandidate 21 = .ok (.iconst 0, 1) := by decide +kernel
theorem dL_nextCandidate_22 : decode cL_nextCandidate 22 = .ok (.ireturn, 1) := by decide +kernel
theorem dL_countState_0 : decode cL_countState 0 = .ok (.aload_n 3, 1) := by decide +kernel
theorem dL_countState_1 : decode cL_countState 1 = .ok (.iconst 0, 1) := by decide +kernel
theorem dL_countState_2 : decode cL_countState 2 = .ok (.aload_n 0, 1) := by decide +kernel
theorem dL_countState_3 : decode cL_countState 3 = .ok (.iload_n 1, 1) := by decide +kernel
theorem dL_countState_4 : decode cL_countState 4 = .ok (.iload_n 2, 1) := by decide +kernel
theorem dL_countState_5 : decode cL_countState 5 = .ok (.invokevirtual 102, 3) := by decide +kernel
theorem dL_countState_8 : decode cL_countState 8 = .ok (.i2l, 1) := by decide +kernel
theorem dL_countState_9 : decode cL_countState 9 = .ok (.lastore, 1) := by decide +kernel
theorem dL_countState_10 : decode cL_countState 10 = .ok (.goto 11, 3) := by decide +kernel
theorem dL_countState_13 : decode cL_countState 13 = .ok (.astore 4, 2) := by decide +kernel
theorem dL_countState_15 : decode cL_countState 15 = .ok (.iconst 1, 1) := by decide +kernel
theorem dL_countState_16 : decode cL_countState 16 = .ok (.ireturn, 1) := by decide +kernel
theorem dL_countState_17 : decode cL_countState 17 = .ok (.astore 4, 2) := by decide +kernel
theorem dL_countState_19 : decode cL_countState 19 = .ok (.iconst 2, 1) := by decide +kernel
theorem dL_countState_20 : decode cL_countState 20 = .ok (.ireturn, 1) := by decide +kernel
theorem dL_countState_21 : decode cL_countState 21 = .ok (.iconst 0, 1) := by decide +kernel
theorem dL_countState_22 : decode cL_countState 22 = .ok (.ireturn, 1) := by decide +kernel
theorem dL_log_0 : decode cL_log 0 = .ok (.aload_n 2, 1) := by decide +kernel
theorem dL_log_1 : decode cL_log 1 = .ok (.iconst 0, 1) := by decide +kernel
theorem dL_log_2 : decode cL_log 2 = .ok (.aload_n 0, 1) := by decide +kernel
theorem dL_log_3 : decode cL_log 3 = .ok (.iload_n 1, 1) := by decide +kernel
theorem dL_log_4 : decode cL_log 4 = .ok (.invokevirtual 105, 3) := by decide +kernel
theorem dL_log_7 : decode cL_log 7 = .ok (.i2l, 1) := by decide +kernel
theorem dL_log_8 : decode cL_log 8 = .ok (.lastore, 1) := by decide +kernel
theorem dL_log_9 : decode cL_log 9 = .ok (.goto 6, 3) := by decide +kernel
theorem dL_log_12 : decode cL_log 12 = .ok (.astore_n 3, 1) := by decide +kernel
theorem dL_log_13 : decode cL_log 13 = .ok (.iconst 1, 1) := by decide +kernel
theorem dL_log_14 : decode cL_log 14 = .ok (.ireturn, 1) := by decide +kernel
theorem dL_log_15 : decode cL_log 15 = .ok (.iconst 0, 1) := by decide +kernel
theorem dL_log_16 : decode cL_log 16 = .ok (.ireturn, 1) := by decide +kernel
theorem dL_utilization_0 : decode cL_utilization 0 = .ok (.aload_n 2, 1) := by decide +kernel
theorem dL_utilization_1 : decode cL_utilization 1 = .ok (.iconst 0, 1) := by decide +kernel
theorem dL_utilization_2 : decode cL_utilization 2 = .ok (.aload_n 0, 1) := by decide +kernel
theorem dL_utilization_3 : decode cL_utilization 3 = .ok (.iload_n 1, 1) := by decide +kernel
theorem dL_utilization_4 : decode cL_utilization 4 = .ok (.invokevirtual 108, 3) := by decide +kernel
theorem dL_utilization_7 : decode cL_utilization 7 = .ok (.dastore, 1) := by decide +kernel
theorem dL_utilization_8 : decode cL_utilization 8 = .ok (.goto 9, 3) := by decide +kernel
theorem dL_utilization_11 : decode cL_utilization 11 = .ok (.astore_n 3, 1) := by decide +kernel
theorem dL_utilization_12 : decode cL_utilization 12 = .ok (.iconst 1, 1) := by decide +kernel
theorem dL_utilization_13 : decode cL_utilization 13 = .ok (.ireturn, 1) := by decide +kernel
theorem dL_utilization_14 : decode cL_utilization 14 = .ok (.astore_n 3, 1) := by decide +kernel
theorem dL_utilization_15 : decode cL_utilization 15 = .ok (.iconst 2, 1) := by decide +kernel
theorem dL_utilization_16 : decode cL_utilization 16 = .ok (.ireturn, 1) := by decide +kernel
theorem dL_utilization_17 : decode cL_utilization 17 = .ok (.iconst 0, 1) := by decide +kernel
theorem dL_utilization_18 : decode cL_utilization 18 = .ok (.ireturn, 1) := by decide +kernel
theorem dL_averageRest_0 : decode cL_averageRest 0 = .ok (.aload_n 1, 1) := by decide +kernel
theorem dL_averageRest_1 : decode cL_averageRest 1 = .ok (.iconst 0, 1) := by decide +kernel
theorem dL_averageRest_2 : decode cL_averageRest 2 = .ok (.aload_n 0, 1) := by decide +kernel
theorem dL_averageRest_3 : decode cL_averageRest 3 = .ok (.invokevirtual 114, 3) := by decide +kernel
theorem dL_averageRest_6 : decode cL_averageRest 6 = .ok (.f2d, 1) := by decide +kernel
theorem dL_averageRest_7 : decode cL_averageRest 7 = .ok (.dastore, 1) := by decide +kernel
theorem dL_averageRest_8 : decode cL_averageRest 8 = .ok (.goto 6, 3) := by decide +kernel
theorem dL_averageRest_11 : decode cL_averageRest 11 = .ok (.astore_n 2, 1) := by decide +kernel
theorem dL_averageRest_12 : decode cL_averageRest 12 = .ok (.iconst 1, 1) := by decide +kernel
theorem dL_averageRest_13 : decode cL_averageRest 13 = .ok (.ireturn, 1) := by decide +kernel
theorem dL_averageRest_14 : decode cL_averageRest 14 = .ok (.iconst 0, 1) := by decide +kernel
theorem dL_averageRest_15 : decode cL_averageRest 15 = .ok (.ireturn, 1) := by decide +kernel
theorem dL_restore_0 : decode cL_restore 0 = .ok (.aload_n 1, 1) := by decide +kernel
theorem dL_restore_1 : decode cL_restore 1 = .ok (.iconst 0, 1) := by decide +kernel
theorem dL_restore_2 : decode cL_restore 2 = .ok (.aload_n 0, 1) := by decide +kernel
theorem dL_restore_3 : decode cL_restore 3 = .ok (.invokevirtual 118, 3) := by decide +kernel
theorem dL_restore_6 : decode cL_restore 6 = .ok (.i2l, 1) := by decide +kernel
theorem dL_restore_7 : decode cL_restore 7 = .ok (.lastore, 1) := by decide +kernel
theorem dL_restore_8 : decode cL_restore 8 = .ok (.goto 6, 3) := by decide +kernel
theorem dL_restore_11 : decode cL_restore 11 = .ok (.astore_n 2, 1) := by decide +kernel
theorem dL_restore_12 : decode cL_restore 12 = .ok (.iconst 1, 1) := by decide +kernel
theorem dL_restore_13 : decode cL_restore 13 = .ok (.ireturn, 1) := by decide +kernel
theorem dL_restore_14 : decode cL_restore 14 = .ok (.iconst 0, 1) := by decide +kernel
theorem dL_restore_15 : decode cL_restore 15 = .ok (.ireturn, 1) := by decide +kernel
theorem dL_law_0 : decode cL_law 0 = .ok (.new 8, 3) := by decide +kernel
theorem dL_law_3 : decode cL_law 3 = .ok (.dup, 1) := by decide +kernel
theorem dL_law_4 : decode cL_law 4 = .ok (.invokespecial 121, 3) := by decide +kernel
theorem dL_law_7 : decode cL_law 7 = .ok (.astore_n 1, 1) := by decide +kernel
theorem dL_law_8 : decode cL_law 8 = .ok (.new 122, 3) := by decide +kernel
theorem dL_law_11 : decode cL_law 11 = .ok (.dup, 1) := by decide +kernel
theorem dL_law_12 : decode cL_law 12 = .ok (.invokespecial 124, 3) := by decide +kernel
theorem dL_law_15 : decode cL_law 15 = .ok (.astore_n 2, 1) := by decide +kernel
theorem dL_law_16 : decode cL_law 16 = .ok (.iconst 1, 1) := by decide +kernel
theorem dL_law_17 : decode cL_law 17 = .ok (.newarray .long, 2) := by decide +kernel
theorem dL_law_19 : decode cL_law 19 = .ok (.astore_n 3, 1) := by decide +kernel
theorem dL_law_20 : decode cL_law 20 = .ok (.iconst 1, 1) := by decide +kernel
theorem dL_law_21 : decode cL_law 21 = .ok (.newarray .double, 2) := by decide +kernel
theorem dL_law_23 : decode cL_law 23 = .ok (.astore 4, 2) := by decide +kernel
theorem dL_law_25 : decode cL_law 25 = .ok (.iconst 0, 1) := by decide +kernel
theorem dL_law_26 : decode cL_law 26 = .ok (.istore 5, 2) := by decide +kernel
theorem dL_law_28 : decode cL_law 28 = .ok (.iload 5, 2) := by decide +kernel
theorem dL_law_30 : decode cL_law 30 = .ok (.aload_n 0, 1) := by decide +kernel
theorem dL_law_31 : decode cL_law 31 = .ok (.arraylength, 1) := by decide +kernel
theorem dL_law_32 : decode cL_law 32 = .ok (.iconst 5, 1) := by decide +kernel
theorem dL_law_33 : decode cL_law 33 = .ok (.isub, 1) := by decide +kernel
theorem dL_law_34 : decode cL_law 34 = .ok (.if_icmp .gt 2256, 3) := by decide +kernel
theorem dL_law_37 : decode cL_law 37 = .ok (.aload_n 0, 1) := by decide +kernel
theorem dL_law_38 : decode cL_law 38 = .ok (.iload 5, 2) := by decide +kernel
theorem dL_law_40 : decode cL_law 40 = .ok (.iaload, 1) := by decide +kernel
theorem dL_law_41 : decode cL_law 41 = .ok (.bipush 63, 2) := by decide +kernel
theorem dL_law_43 : decode cL_law 43 = .ok (.iand, 1) := by decide +kernel
theorem dL_law_44 : decode cL_law 44 = .ok (.tableswitch 2240 0 36 #[164, 256, 312, 325, 393, 449, 540, 631, 687, 743, 834, 925, 1005, 1061, 1117, 1173, 1236, 1292, 1336, 1349, 1405, 1461, 1517, 1585, 1641, 1697, 1753, 1809, 1877, 1945, 1958, 1971, 1984, 2040, 2117, 2183, 2196], 164) := by decide +kernel
theorem dL_law_208 : decode cL_law 208 = .ok (.aload_n 1, 1) := by decide +kernel
theorem dL_law_209 : decode cL_law 209 = .ok (.aload_n 0, 1) := by decide +kernel
theorem dL_law_210 : decode cL_law 210 = .ok (.iload 5, 2) := by decide +kernel
theorem dL_law_212 : decode cL_law 212 = .ok (.iconst 1, 1) := by decide +kernel
theorem dL_law_213 : decode cL_law 213 = .ok (.iadd, 1) := by decide +kernel
theorem dL_law_214 : decode cL_law 214 = .ok (.iaload, 1) := by decide +kernel
theorem dL_law_215 : decode cL_law 215 = .ok (.aload_n 0, 1) := by decide +kernel
theorem dL_law_216 : decode cL_law 216 = .ok (.iload 5, 2) := by decide +kernel
theorem dL_law_218 : decode cL_law 218 = .ok (.iconst 2, 1) := by decide +kernel
theorem dL_law_219 : decode cL_law 219 = .ok (.iadd, 1) := by decide +kernel
theorem dL_law_220 : decode cL_law 220 = .ok (.iaload, 1) := by decide +kernel
theorem dL_law_221 : decode cL_law 221 = .ok (.aload_n 0, 1) := by decide +kernel
theorem dL_law_222 : decode cL_law 222 = .ok (.iload 5, 2) := by decide +kernel
theorem dL_law_224 : decode cL_law 224 = .ok (.iconst 3, 1) := by decide +kernel
theorem dL_law_225 : decode cL_law 225 = .ok (.iadd, 1) := by decide +kernel
theorem dL_law_226 : decode cL_law 226 = .ok (.iaload, 1) := by decide +kernel
theorem dL_law_227 : decode cL_law 227 = .ok (.aload_n 0, 1) := by decide +kernel
theorem dL_law_228 : decode cL_law 228 = .ok (.iload 5, 2) := by decide +kernel
theorem dL_law_230 : decode cL_law 230 = .ok (.iconst 4, 1) := by decide +kernel
theorem dL_law_231 : decode cL_law 231 = .ok (.iadd, 1) := by decide +kernel
theorem dL_law_232 : decode cL_law 232 = .ok (.iaload, 1) := by decide +kernel
theorem dL_law_233 : decode cL_law 233 = .ok (.aload_n 3, 1) := by decide +kernel
theorem dL_law_234 : decode cL_law 234 = .ok (.invokestatic 125, 3) := by decide +kernel
theorem dL_law_237 : decode cL_law 237 = .ok (.istore 6, 2) := by decide +kernel
theorem dL_law_239 : decode cL_law 239 = .ok (.aload_n 2, 1) := by decide +kernel
theorem dL_law_240 : decode cL_law 240 = .ok (.aload_n 0, 1) := by decide +kernel
theorem dL_law_241 : decode cL_law 241 = .ok (.iload 5, 2) := by decide +kernel
theorem dL_law_243 : decode cL_law 243 = .ok (.iconst 1, 1) := by decide +kernel
theorem dL_law_244 : decode cL_law 244 = .ok (.iadd, 1) := by decide +kernel
theorem dL_law_245 : decode cL_law 245 = .ok (.iaload, 1) := by decide +kernel
theorem dL_law_246 : decode cL_law 246 = .ok (.aload_n 0, 1) := by decide +kernel
theorem dL_law_247 : decode cL_law 247 = .ok (.iload 5, 2) := by decide +kernel
theorem dL_law_249 : decode cL_law 249 = .ok (.iconst 2, 1) := by decide +kernel
theorem dL_law_250 : decode cL_law 250 = .ok (.iadd, 1) := by decide +kernel
theorem dL_law_251 : decode cL_law 251 = .ok (.iaload, 1) := by decide +kernel
theorem dL_law_252 : decode cL_law 252 = .ok (.aload_n 0, 1) := by decide +kernel
theorem dL_law_253 : decode cL_law 253 = .ok (.iload 5, 2) := by decide +kernel
theorem dL_law_255 : decode cL_law 255 = .ok (.iconst 3, 1) := by decide +kernel
theorem dL_law_256 : decode cL_law 256 = .ok (.iadd, 1) := by decide +kernel
theorem dL_law_257 : decode cL_law 257 = .ok (.iaload, 1) := by decide +kernel
theorem dL_law_258 : decode cL_law 258 = .ok (.aload_n 0, 1) := by decide +kernel
theorem dL_law_259 : decode cL_law 259 = .ok (.iload 5, 2) := by decide +kernel
theorem dL_law_261 : decode cL_law 261 = .ok (.iconst 4, 1) := by decide +kernel
theorem dL_law_262 : decode cL_law 262 = .ok (.iadd, 1) := by decide +kernel
theorem dL_law_263 : decode cL_law 263 = .ok (.iaload, 1) := by decide +kernel
theorem dL_law_264 : decode cL_law 264 = .ok (.invokevirtual 130, 3) := by decide +kernel
theorem dL_law_267 : decode cL_law 267 = .ok (.istore 7, 2) := by decide +kernel
theorem dL_law_269 : decode cL_law 269 = .ok (.aload_n 2, 1) := by decide +kernel
theorem dL_law_270 : decode cL_law 270 = .ok (.invokevirtual 131, 3) := by decide +kernel
theorem dL_law_273 : decode cL_law 273 = .ok (.iload 6, 2) := by decide +kernel
theorem dL_law_275 : decode cL_law 275 = .ok (.if_icmp .eq 5, 3) := by decide +kernel
theorem dL_law_278 : decode cL_law 278 = .ok (.iconst 0, 1) := by decide +kernel
theorem dL_law_279 : decode cL_law 279 = .ok (.ireturn, 1) := by decide +kernel
theorem dL_law_280 : decode cL_law 280 = .ok (.iload 6, 2) := by decide +kernel
theorem dL_law_282 : decode cL_law 282 = .ok (.ifCond .ne 15, 3) := by decide +kernel
theorem dL_law_285 : decode cL_law 285 = .ok (.aload_n 3, 1) := by decide +kernel
theorem dL_law_286 : decode cL_law 286 = .ok (.iconst 0, 1) := by decide +kernel
theorem dL_law_287 : decode cL_law 287 = .ok (.laload, 1) := by decide +kernel
theorem dL_law_288 : decode cL_law 288 = .ok (.iload 7, 2) := by decide +kernel
theorem dL_law_290 : decode cL_law 290 = .ok (.i2l, 1) := by decide +kernel
theorem dL_law_291 : decode cL_law 291 = .ok (.lcmp, 1) := by decide +kernel
theorem dL_law_292 : decode cL_law 292 = .ok (.ifCond .eq 5, 3) := by decide +kernel
theorem dL_law_295 : decode cL_law 295 = .ok (.iconst 0, 1) := by decide +kernel
theorem dL_law_296 : decode cL_law 296 = .ok (.ireturn, 1) := by decide +kernel
theorem dL_law_297 : decode cL_law 297 = .ok (.goto 1987, 3) := by decide +kernel
theorem dL_law_300 : decode cL_law 300 = .ok (.aload_n 1, 1) := by decide +kernel
theorem dL_law_301 : decode cL_law 301 = .ok (.aload_n 0, 1) := by decide +kernel
theorem dL_law_302 : decode cL_law 302 = .ok (.iload 5, 2) := by decide +kernel
theorem dL_law_304 : decode cL_law 304 = .ok (.iconst 1, 1) := by decide +kernel
theorem dL_law_305 : decode cL_law 305 = .ok (.iadd, 1) := by decide +kernel
theorem dL_law_306 : decode cL_law 306 = .ok (.iaload, 1) := by decide +kernel
theorem dL_law_307 : decode cL_law 307 = .ok (.aload_n 3, 1) := by decide +kernel
theorem dL_law_308 : decode cL_law 308 = .ok (.invokestatic 134, 3) := by decide +kernel
theorem dL_law_311 : decode cL_law 311 = .ok (.istore 6, 2) := by decide +kernel
theorem dL_law_313 : decode cL_law 313 = .ok (.aload_n 2, 1) := by decide +kernel
theorem dL_law_314 : decode cL_law 314 = .ok (.aload_n 0, 1) := by decide +kernel
theorem dL_law_315 : decode cL_law 315 = .ok (.iload 5, 2) := by decide +kernel
theorem dL_law_317 : decode cL_law 317 = .ok (.iconst 1, 1) := by decide +kernel
theorem dL_law_318 : decode cL_law 318 = .ok (.iadd, 1) := by decide +kernel
theorem dL_law_319 : decode cL_law 319 = .ok (.iaload, 1) := by decide +kernel
theorem dL_law_320 : decode cL_law 320 = .ok (.invokevirtual 137, 3) := by decide +kernel
theorem dL_law_323 : decode cL_law 323 = .ok (.istore 7, 2) := by decide +kernel
theorem dL_law_325 : decode cL_law 325 = .ok (.aload_n 2, 1) := by decide +kernel
theorem dL_law_326 : decode cL_law 326 = .ok (.invokevirtual 131, 3) := by decide +kernel
theorem dL_law_329 : decode cL_law 329 = .ok (.iload 6, 2) := by decide +kernel
theorem dL_law_331 : decode cL_law 331 = .ok (.if_icmp .eq 5, 3) := by decide +kernel
theorem dL_law_334 : decode cL_law 334 = .ok (.iconst 0, 1) := by decide +kernel
theorem dL_law_335 : decode cL_law 335 = .ok (.ireturn, 1) := by decide +kernel
theorem dL_law_336 : decode cL_law 336 = .ok (.iload 6, 2) := by decide +kernel
theorem dL_law_338 : decode cL_law 338 = .ok (.ifCond .ne 15, 3) := by decide +kernel
theorem dL_law_341 : decode cL_law 341 = .ok (.aload_n 3, 1) := by decide +kernel
theorem dL_law_342 : decode cL_law 342 = .ok (.iconst 0, 1) := by decide +kernel
theorem dL_law_343 : decode cL_law 343 = .ok (.laload, 1) := by decide +kernel
theorem dL_law_344 : decode cL_law 344 = .ok (.iload 7, 2) := by decide +kernel
theorem dL_law_346 : decode cL_law 346 = .ok (.i2l, 1) := by decide +kernel
theorem dL_law_347 : decode cL_law 347 = .ok (.lcmp, 1) := by decide +kernel
theorem dL_law_348 : decode cL_law 348 = .ok (.ifCond .eq 5, 3) := by decide +kernel
theorem dL_law_351 : decode cL_law 351 = .ok (.iconst 0, 1) := by decide +kernel
theorem dL_law_352 : decode cL_law 352 = .ok (.ireturn, 1) := by decide +kernel
theorem dL_law_353 : decode cL_law 353 = .ok (.goto 1931, 3) := by decide +kernel
theorem dL_law_356 : decode cL_law 356 = .ok (.aload_n 1, 1) := by decide +kernel
theorem dL_law_357 : decode cL_law 357 = .ok (.invokevirtual 138, 3) := by decide +kernel
theorem dL_law_360 : decode cL_law 360 = .ok (.aload_n 2, 1) := by decide +kernel
theorem dL_law_361 : decode cL_law 361 = .ok (.invokevirtual 141, 3) := by decide +kernel
theorem dL_law_364 : decode cL_law 364 = .ok (.if_icmp .eq 1920, 3) := by decide +kernel
theorem dL_law_367 : decode cL_law 367 = .ok (.iconst 0, 1) := by decide +kernel
theorem dL_law_368 : decode cL_law 368 = .ok (.ireturn, 1) := by decide +kernel
theorem dL_law_369 : decode cL_law 369 = .ok (.aload_n 1, 1) := by decide +kernel
theorem dL_law_370 : decode cL_law 370 = .ok (.aload_n 0, 1) := by decide +kernel
theorem dL_law_371 : decode cL_law 371 = .ok (.iload 5, 2) := by decide +kernel
theorem dL_law_373 : decode cL_law 373 = .ok (.iconst 1, 1) := by decide +kernel
theorem dL_law_374 : decode cL_law 374 = .ok (.iadd, 1) := by decide +kernel
theorem dL_law_375 : decode cL_law 375 = .ok (.iaload, 1) := by decide +kernel
theorem dL_law_376 : decode cL_law 376 = .ok (.aload_n 0, 1) := by decide +kernel
theorem dL_law_377 : decode cL_law 377 = .ok (.iload 5, 2) := by decide +kernel
theorem dL_law_379 : decode cL_law 379 = .ok (.iconst 2, 1) := by decide +kernel
theorem dL_law_380 : decode cL_law 380 = .ok (.iadd, 1) := by decide +kernel
theorem dL_law_381 : decode cL_law 381 = .ok (.iaload, 1) := by decide +kernel
theorem dL_law_382 : decode cL_law 382 = .ok (.aload_n 3, 1) := by decide +kernel
theorem dL_law_383 : decode cL_law 383 = .ok (.invokestatic 142, 3) := by decide +kernel
theorem dL_law_386 : decode cL_law 386 = .ok (.istore 6, 2) := by decide +kernel
theorem dL_law_388 : decode cL_law 388 = .ok (.aload_n 2, 1) := by decide +kernel
theorem dL_law_389 : decode cL_law 389 = .ok (.aload_n 0, 1) := by decide +kernel
theorem dL_law_390 : decode cL_law 390 = .ok (.iload 5, 2) := by decide +kernel
theorem dL_law_392 : decode cL_law 392 = .ok (.iconst 1, 1) := by decide +kernel
theorem dL_law_393 : decode cL_law 393 = .ok (.iadd, 1) := by decide +kernel
theorem dL_law_394 : decode cL_law 394 = .ok (.iaload, 1) := by decide +kernel
theorem dL_law_395 : decode cL_law 395 = .ok (.aload_n 0, 1) := by decide +kernel
theorem dL_law_396 : decode cL_law 396 = .ok (.iload 5, 2) := by decide +kernel
theorem dL_law_398 : decode cL_law 398 = .ok (.iconst 2, 1) := by decide +kernel
theorem dL_law_399 : decode cL_law 399 = .ok (.iadd, 1) := by decide +kernel
theorem dL_law_400 : decode cL_law 400 = .ok (.iaload, 1) := by decide +kernel
theorem dL_law_401 : decode cL_law 401 = .ok (.invokevirtual 145, 3) := by decide +kernel
theorem dL_law_404 : decode cL_law 404 = .ok (.istore 7, 2) := by decide +kernel
theorem dL_law_406 : decode cL_law 406 = .ok (.aload_n 2, 1) := by decide +kernel
theorem dL_law_407 : decode cL_law 407 = .ok (.invokevirtual 131, 3) := by decide +kernel
theorem dL_law_410 : decode cL_law 410 = .ok (.iload 6, 2) := by decide +kernel
theorem dL_law_412 : decode cL_law 412 = .ok (.if_icmp .eq 5, 3) := by decide +kernel
theorem dL_law_415 : decode cL_law 415 = .ok (.iconst 0, 1) := by decide +kernel
theorem dL_law_416 : decode cL_law 416 = .ok (.ireturn, 1) := by decide +kernel
theorem dL_law_417 : decode cL_law 417 = .ok (.iload 6, 2) := by decide +kernel
theorem dL_law_419 : decode cL_law 419 = .ok (.ifCond .ne 15, 3) := by decide +kernel
theorem dL_law_422 : decode cL_law 422 = .ok (.aload_n 3, 1) := by decide +kernel
theorem dL_law_423 : decode cL_law 423 = .ok (.iconst 0, 1) := by decide +kernel
theorem dL_law_424 : decode cL_law 424 = .ok (.laload, 1) := by decide +kernel
theorem dL_law_425 : decode cL_law 425 = .ok (.iload 7, 2) := by decide +kernel
theorem dL_law_427 : decode cL_law 427 = .ok (.i2l, 1) := by decide +kernel
theorem dL_law_428 : decode cL_law 428 = .ok (.lcmp, 1) := by decide +kernel
theorem dL_law_429 : decode cL_law 429 = .ok (.ifCond .eq 5, 3) := by decide +kernel
theorem dL_law_432 : decode cL_law 432 = .ok (.iconst 0, 1) := by decide +kernel
theorem dL_law_433 : decode cL_law 433 = .ok (.ireturn, 1) := by decide +kernel
theorem dL_law_434 : decode cL_law 434 = .ok (.goto 1850, 3) := by decide +kernel
theorem dL_law_437 : decode cL_law 437 = .ok (.aload_n 1, 1) := by decide +kernel
theorem dL_law_438 : decode cL_law 438 = .ok (.aload_n 0, 1) := by decide +kernel
theorem dL_law_439 : decode cL_law 439 = .ok (.iload 5, 2) := by decide +kernel
theorem dL_law_441 : decode cL_law 441 = .ok (.iconst 1, 1) := by decide +kernel
theorem dL_law_442 : decode cL_law 442 = .ok (.iadd, 1) := by decide +kernel
theorem dL_law_443 : decode cL_law 443 = .ok (.iaload, 1) := by decide +kernel
theorem dL_law_444 : decode cL_law 444 = .ok (.aload_n 3, 1) := by decide +kernel
theorem dL_law_445 : decode cL_law 445 = .ok (.invokestatic 146, 3) := by decide +kernel
theorem dL_law_448 : decode cL_law 448 = .ok (.istore 6, 2) := by decide +kernel
theorem dL_law_450 : decode cL_law 450 = .ok (.aload_n 2, 1) := by decide +kernel
theorem dL_law_451 : decode cL_law 451 = .ok (.aload_n 0, 1) := by decide +kernel
theorem dL_law_452 : decode cL_law 452 = .ok (.iload 5, 2) := by decide +kernel
theorem dL_law_454 : decode cL_law 454 = .ok (.iconst 1, 1) := by decide +kernel
theorem dL_law_455 : decode cL_law 455 = .ok (.iadd, 1) := by decide +kernel
theorem dL_law_456 : decode cL_law 456 = .ok (.iaload, 1) := by decide +kernel
theorem dL_law_457 : decode cL_law 457 = .ok (.invokevirtual 148, 3) := by decide +kernel
theorem dL_law_460 : decode cL_law 460 = .ok (.istore 7, 2) := by decide +kernel
theorem dL_law_462 : decode cL_law 462 = .ok (.aload_n 2, 1) := by decide +kernel
theorem dL_law_463 : decode cL_law 463 = .ok (.invokevirtual 131, 3) := by decide +kernel
theorem dL_law_466 : decode cL_law 466 = .ok (.iload 6, 2) := by decide +kernel
theorem dL_law_468 : decode cL_law 468 = .ok (.if_icmp .eq 5, 3) := by decide +kernel
theorem dL_law_471 : decode cL_law 471 = .ok (.iconst 0, 1) := by decide +kernel
theorem dL_law_472 : decode cL_law 472 = .ok (.ireturn, 1) := by decide +kernel
theorem dL_law_473 : decode cL_law 473 = .ok (.iload 6, 2) := by decide +kernel
theorem dL_law_475 : decode cL_law 475 = .ok (.ifCond .ne 15, 3) := by decide +kernel
theorem dL_law_478 : decode cL_law 478 = .ok (.aload_n 3, 1) := by decide +kernel
theorem dL_law_479 : decode cL_law 479 = .ok (.iconst 0, 1) := by decide +kernel
theorem dL_law_480 : decode cL_law 480 = .ok (.laload, 1) := by decide +kernel
theorem dL_law_481 : decode cL_law 481 = .ok (.iload 7, 2) := by decide +kernel
theorem dL_law_483 : decode cL_law 483 = .ok (.i2l, 1) := by decide +kernel
theorem dL_law_484 : decode cL_law 484 = .ok (.lcmp, 1) := by decide +kernel
theorem dL_law_485 : decode cL_law 485 = .ok (.ifCond .eq 5, 3) := by decide +kernel
theorem dL_law_488 : decode cL_law 488 = .ok (.iconst 0, 1) := by decide +kernel
theorem dL_law_489 : decode cL_law 489 = .ok (.ireturn, 1) := by decide +kernel
theorem dL_law_490 : decode cL_law 490 = .ok (.goto 1794, 3) := by decide +kernel
theorem dL_law_493 : decode cL_law 493 = .ok (.aload_n 1, 1) := by decide +kernel
theorem dL_law_494 : decode cL_law 494 = .ok (.aload_n 0, 1) := by decide +kernel
theorem dL_law_495 : decode cL_law 495 = .ok (.iload 5, 2) := by decide +kernel
theorem dL_law_497 : decode cL_law 497 = .ok (.iconst 1, 1) := by decide +kernel
theorem dL_law_498 : decode cL_law 498 = .ok (.iadd, 1) := by decide +kernel
theorem dL_law_499 : decode cL_law 499 = .ok (.iaload, 1) := by decide +kernel
theorem dL_law_500 : decode cL_law 500 = .ok (.aload_n 0, 1) := by decide +kernel
theorem dL_law_501 : decode cL_law 501 = .ok (.iload 5, 2) := by decide +kernel
theorem dL_law_503 : decode cL_law 503 = .ok (.iconst 2, 1) := by decide +kernel
theorem dL_law_504 : decode cL_law 504 = .ok (.iadd, 1) := by decide +kernel
theorem dL_law_505 : decode cL_law 505 = .ok (.iaload, 1) := by decide +kernel
theorem dL_law_506 : decode cL_law 506 = .ok (.ifCond .eq 7, 3) := by decide +kernel
theorem dL_law_509 : decode cL_law 509 = .ok (.iconst 1, 1) := by decide +kernel
theorem dL_law_510 : decode cL_law 510 = .ok (.goto 4, 3) := by decide +kernel
theorem dL_law_513 : decode cL_law 513 = .ok (.iconst 0, 1) := by decide +kernel
theorem dL_law_514 : decode cL_law 514 = .ok (.aload_n 3, 1) := by decide +kernel
theorem dL_law_515 : decode cL_law 515 = .ok (.invokestatic 149, 3) := by decide +kernel
theorem dL_law_518 : decode cL_law 518 = .ok (.istore 6, 2) := by decide +kernel
theorem dL_law_520 : decode cL_law 520 = .ok (.aload_n 2, 1) := by decide +kernel
theorem dL_law_521 : decode cL_law 521 = .ok (.aload_n 0, 1) := by decide +kernel
theorem dL_law_522 : decode cL_law 522 = .ok (.iload 5, 2) := by decide +kernel
theorem dL_law_524 : decode cL_law 524 = .ok (.iconst 1, 1) := by decide +kernel
theorem dL_law_525 : decode cL_law 525 = .ok (.iadd, 1) := by decide +kernel
theorem dL_law_526 : decode cL_law 526 = .ok (.iaload, 1) := by decide +kernel
theorem dL_law_527 : decode cL_law 527 = .ok (.aload_n 0, 1) := by decide +kernel
theorem dL_law_528 : decode cL_law 528 = .ok (.iload 5, 2) := by decide +kernel
theorem dL_law_530 : decode cL_law 530 = .ok (.iconst 2, 1) := by decide +kernel
theorem dL_law_531 : decode cL_law 531 = .ok (.iadd, 1) := by decide +kernel
theorem dL_law_532 : decode cL_law 532 = .ok (.iaload, 1) := by decide +kernel
theorem dL_law_533 : decode cL_law 533 = .ok (.ifCond .eq 7, 3) := by decide +kernel
theorem dL_law_536 : decode cL_law 536 = .ok (.iconst 1, 1) := by decide +kernel
theorem dL_law_537 : decode cL_law 537 = .ok (.goto 4, 3) := by decide +kernel
theorem dL_law_540 : decode cL_law 540 = .ok (.iconst 0, 1) := by decide +kernel
theorem dL_law_541 : decode cL_law 541 = .ok (.invokevirtual 152, 3) := by decide +kernel
theorem dL_law_544 : decode cL_law 544 = .ok (.istore 7, 2) := by decide +kernel
theorem dL_law_546 : decode cL_law 546 = .ok (.aload_n 2, 1) := by decide +kernel
theorem dL_law_547 : decode cL_law 547 = .ok (.invokevirtual 131, 3) := by decide +kernel
theorem dL_law_550 : decode cL_law 550 = .ok (.iload 6, 2) := by decide +kernel
theorem dL_law_552 : decode cL_law 552 = .ok (.if_icmp .eq 5, 3) := by decide +kernel
theorem dL_law_555 : decode cL_law 555 = .ok (.iconst 0, 1) := by decide +kernel
theorem dL_law_556 : decode cL_law 556 = .ok (.ireturn, 1) := by decide +kernel
theorem dL_law_557 : decode cL_law 557 = .ok (.iload 6, 2) := by decide +kernel
theorem dL_law_559 : decode cL_law 559 = .ok (.ifCond .ne 22, 3) := by decide +kernel
theorem dL_law_562 : decode cL_law 562 = .ok (.aload_n 3, 1) := by decide +kernel
theorem dL_law_563 : decode cL_law 563 = .ok (.iconst 0, 1) := by decide +kernel
theorem dL_law_564 : decode cL_law 564 = .ok (.laload, 1) := by decide +kernel
theorem dL_law_565 : decode cL_law 565 = .ok (.iload 7, 2) := by decide +kernel
theorem dL_law_567 : decode cL_law 567 = .ok (.ifCond .eq 7, 3) := by decide +kernel
theorem dL_law_570 : decode cL_law 570 = .ok (.lconst 1, 1) := by decide +kernel
theorem dL_law_571 : decode cL_law 571 = .ok (.goto 4, 3) := by decide +kernel
theorem dL_law_574 : decode cL_law 574 = .ok (.lconst 0, 1) := by decide +kernel
theorem dL_law_575 : decode cL_law 575 = .ok (.lcmp, 1) := by decide +kernel
theorem dL_law_576 : decode cL_law 576 = .ok (.ifCond .eq 5, 3) := by decide +kernel
theorem dL_law_579 : decode cL_law 579 = .ok (.iconst 0, 1) := by decide +kernel
theorem dL_law_580 : decode cL_law 580 = .ok (.ireturn, 1) := by decide +kernel
theorem dL_law_581 : decode cL_law 581 = .ok (.goto 1703, 3) := by decide +kernel
theorem dL_law_584 : decode cL_law 584 = .ok (.aload_n 1, 1) := by decide +kernel
theorem dL_law_585 : decode cL_law 585 = .ok (.aload_n 0, 1) := by decide +kernel
theorem dL_law_586 : decode cL_law 586 = .ok (.iload 5, 2) := by decide +kernel
theorem dL_law_588 : decode cL_law 588 = .ok (.iconst 1, 1) := by decide +kernel
theorem dL_law_589 : decode cL_law 589 = .ok (.iadd, 1) := by decide +kernel
theorem dL_law_590 : decode cL_law 590 = .ok (.iaload, 1) := by decide +kernel
theorem dL_law_591 : decode cL_law 591 = .ok (.aload_n 0, 1) := by decide +kernel
theorem dL_law_592 : decode cL_law 592 = .ok (.iload 5, 2) := by decide +kernel
theorem dL_law_594 : decode cL_law 594 = .ok (.iconst 2, 1) := by decide +kernel
theorem dL_law_595 : decode cL_law 595 = .ok (.iadd, 1) := by decide +kernel
theorem dL_law_596 : decode cL_law 596 = .ok (.iaload, 1) := by decide +kernel
theorem dL_law_597 : decode cL_law 597 = .ok (.ifCond .eq 7, 3) := by decide +kernel
theorem dL_law_600 : decode cL_law 600 = .ok (.iconst 1, 1) := by decide +kernel
theorem dL_law_601 : decode cL_law 601 = .ok (.goto 4, 3) := by decide +kernel
theorem dL_law_604 : decode cL_law 604 = .ok (.iconst 0, 1) := by decide +kernel
theorem dL_law_605 : decode cL_law 605 = .ok (.aload_n 3, 1) := by decide +kernel
theorem dL_law_606 : decode cL_law 606 = .ok (.invokestatic 153, 3) := by decide +kernel
theorem dL_law_609 : decode cL_law 609 = .ok (.istore 6, 2) := by decide +kernel
theorem dL_law_611 : decode cL_law 611 = .ok (.aload_n 2, 1) := by decide +kernel
theorem dL_law_612 : decode cL_law 612 = .ok (.aload_n 0, 1) := by decide +kernel
theorem dL_law_613 : decode cL_law 613 = .ok (.iload 5, 2) := by decide +kernel
theorem dL_law_615 : decode cL_law 615 = .ok (.iconst 1, 1) := by decide +kernel
theorem dL_law_616 : decode cL_law 616 = .ok (.iadd, 1) := by decide +kernel
theorem dL_law_617 : decode cL_law 617 = .ok (.iaload, 1) := by decide +kernel
theorem dL_law_618 : decode cL_law 618 = .ok (.aload_n 0, 1) := by decide +kernel
theorem dL_law_619 : decode cL_law 619 = .ok (.iload 5, 2) := by decide +kernel
theorem dL_law_621 : decode cL_law 621 = .ok (.iconst 2, 1) := by decide +kernel
theorem dL_law_622 : decode cL_law 622 = .ok (.iadd, 1) := by decide +kernel
theorem dL_law_623 : decode cL_law 623 = .ok (.iaload, 1) := by decide +kernel
theorem dL_law_624 : decode cL_law 624 = .ok (.ifCond .eq 7, 3) := by decide +kernel
theorem dL_law_627 : decode cL_law 627 = .ok (.iconst 1, 1) := by decide +kernel
theorem dL_law_628 : decode cL_law 628 = .ok (.goto 4, 3) := by decide +kernel
theorem dL_law_631 : decode cL_law 631 = .ok (.iconst 0, 1) := by decide +kernel
theorem dL_law_632 : decode cL_law 632 = .ok (.invokevirtual 155, 3) := by decide +kernel
theorem dL_law_635 : decode cL_law 635 = .ok (.istore 7, 2) := by decide +kernel
theorem dL_law_637 : decode cL_law 637 = .ok (.aload_n 2, 1) := by decide +kernel
theorem dL_law_638 : decode cL_law 638 = .ok (.invokevirtual 131, 3) := by decide +kernel
theorem dL_law_641 : decode cL_law 641 = .ok (.iload 6, 2) := by decide +kernel
theorem dL_law_643 : decode cL_law 643 = .ok (.if_icmp .eq 5, 3) := by decide +kernel
theorem dL_law_646 : decode cL_law 646 = .ok (.iconst 0, 1) := by decide +kernel
theorem dL_law_647 : decode cL_law 647 = .ok (.ireturn, 1) := by decide +kernel
theorem dL_law_648 : decode cL_law 648 = .ok (.iload 6, 2) := by decide +kernel
theorem dL_law_650 : decode cL_law 650 = .ok (.ifCond .ne 22, 3) := by decide +kernel
theorem dL_law_653 : decode cL_law 653 = .ok (.aload_n 3, 1) := by decide +kernel
theorem dL_law_654 : decode cL_law 654 = .ok (.iconst 0, 1) := by decide +kernel
theorem dL_law_655 : decode cL_law 655 = .ok (.laload, 1) := by decide +kernel
theorem dL_law_656 : decode cL_law 656 = .ok (.iload 7, 2) := by decide +kernel
theorem dL_law_658 : decode cL_law 658 = .ok (.ifCond .eq 7, 3) := by decide +kernel
theorem dL_law_661 : decode cL_law 661 = .ok (.lconst 1, 1) := by decide +kernel
theorem dL_law_662 : decode cL_law 662 = .ok (.goto 4, 3) := by decide +kernel
theorem dL_law_665 : decode cL_law 665 = .ok (.lconst 0, 1) := by decide +kernel
theorem dL_law_666 : decode cL_law 666 = .ok (.lcmp, 1) := by decide +kernel
theorem dL_law_667 : decode cL_law 667 = .ok (.ifCond .eq 5, 3) := by decide +kernel
theorem dL_law_670 : decode cL_law 670 = .ok (.iconst 0, 1) := by decide +kernel
theorem dL_law_671 : decode cL_law 671 = .ok (.ireturn, 1) := by decide +kernel
theorem dL_law_672 : decode cL_law 672 = .ok (.goto 1612, 3) := by decide +kernel
theorem dL_law_675 : decode cL_law 675 = .ok (.aload_n 1, 1) := by decide +kernel
theorem dL_law_676 : decode cL_law 676 = .ok (.aload_n 0, 1) := by decide +kernel
theorem dL_law_677 : decode cL_law 677 = .ok (.iload 5, 2) := by decide +kernel
theorem dL_law_679 : decode cL_law 679 = .ok (.iconst 1, 1) := by decide +kernel
theorem dL_law_680 : decode cL_law 680 = .ok (.iadd, 1) := by decide +kernel
theorem dL_law_681 : decode cL_law 681 = .ok (.iaload, 1) := by decide +kernel
theorem dL_law_682 : decode cL_law 682 = .ok (.aload_n 3, 1) := by decide +kernel
theorem dL_law_683 : decode cL_law 683 = .ok (.invokestatic 156, 3) := by decide +kernel
theorem dL_law_686 : decode cL_law 686 = .ok (.istore 6, 2) := by decide +kernel
theorem dL_law_688 : decode cL_law 688 = .ok (.aload_n 2, 1) := by decide +kernel
theorem dL_law_689 : decode cL_law 689 = .ok (.aload_n 0, 1) := by decide +kernel
theorem dL_law_690 : decode cL_law 690 = .ok (.iload 5, 2) := by decide +kernel
theorem dL_law_692 : decode cL_law 692 = .ok (.iconst 1, 1) := by decide +kernel
theorem dL_law_693 : decode cL_law 693 = .ok (.iadd, 1) := by decide +kernel
theorem dL_law_694 : decode cL_law 694 = .ok (.iaload, 1) := by decide +kernel
theorem dL_law_695 : decode cL_law 695 = .ok (.invokevirtual 158, 3) := by decide +kernel
theorem dL_law_698 : decode cL_law 698 = .ok (.istore 7, 2) := by decide +kernel
theorem dL_law_700 : decode cL_law 700 = .ok (.aload_n 2, 1) := by decide +kernel
theorem dL_law_701 : decode cL_law 701 = .ok (.invokevirtual 131, 3) := by decide +kernel
theorem dL_law_704 : decode cL_law 704 = .ok (.iload 6, 2) := by decide +kernel
theorem dL_law_706 : decode cL_law 706 = .ok (.if_icmp .eq 5, 3) := by decide +kernel
theorem dL_law_709 : decode cL_law 709 = .ok (.iconst 0, 1) := by decide +kernel
theorem dL_law_710 : decode cL_law 710 = .ok (.ireturn, 1) := by decide +kernel
theorem dL_law_711 : decode cL_law 711 = .ok (.iload 6, 2) := by decide +kernel
theorem dL_law_713 : decode cL_law 713 = .ok (.ifCond .ne 15, 3) := by decide +kernel
theorem dL_law_716 : decode cL_law 716 = .ok (.aload_n 3, 1) := by decide +kernel
theorem dL_law_717 : decode cL_law 717 = .ok (.iconst 0, 1) := by decide +kernel
theorem dL_law_718 : decode cL_law 718 = .ok (.laload, 1) := by decide +kernel
theorem dL_law_719 : decode cL_law 719 = .ok (.iload 7, 2) := by decide +kernel
theorem dL_law_721 : decode cL_law 721 = .ok (.i2l, 1) := by decide +kernel
theorem dL_law_722 : decode cL_law 722 = .ok (.lcmp, 1) := by decide +kernel
theorem dL_law_723 : decode cL_law 723 = .ok (.ifCond .eq 5, 3) := by decide +kernel
theorem dL_law_726 : decode cL_law 726 = .ok (.iconst 0, 1) := by decide +kernel
theorem dL_law_727 : decode cL_law 727 = .ok (.ireturn, 1) := by decide +kernel
theorem dL_law_728 : decode cL_law 728 = .ok (.goto 1556, 3) := by decide +kernel
theorem dL_law_731 : decode cL_law 731 = .ok (.aload_n 1, 1) := by decide +kernel
theorem dL_law_732 : decode cL_law 732 = .ok (.aload_n 0, 1) := by decide +kernel
theorem dL_law_733 : decode cL_law 733 = .ok (.iload 5, 2) := by decide +kernel
theorem dL_law_735 : decode cL_law 735 = .ok (.iconst 1, 1) := by decide +kernel
theorem dL_law_736 : decode cL_law 736 = .ok (.iadd, 1) := by decide +kernel
theorem dL_law_737 : decode cL_law 737 = .ok (.iaload, 1) := by decide +kernel
theorem dL_law_738 : decode cL_law 738 = .ok (.aload_n 3, 1) := by decide +kernel
theorem dL_law_739 : decode cL_law 739 = .ok (.invokestatic 159, 3) := by decide +kernel
theorem dL_law_742 : decode cL_law 742 = .ok (.istore 6, 2) := by decide +kernel
theorem dL_law_744 : decode cL_law 744 = .ok (.aload_n 2, 1) := by decide +kernel
theorem dL_law_745 : decode cL_law 745 = .ok (.aload_n 0, 1) := by decide +kernel
theorem dL_law_746 : decode cL_law 746 = .ok (.iload 5, 2) := by decide +kernel
theorem dL_law_748 : decode cL_law 748 = .ok (.iconst 1, 1) := by decide +kernel
theorem dL_law_749 : decode cL_law 749 = .ok (.iadd, 1) := by decide +kernel
theorem dL_law_750 : decode cL_law 750 = .ok (.iaload, 1) := by decide +kernel
theorem dL_law_751 : decode cL_law 751 = .ok (.invokevirtual 161, 3) := by decide +kernel
theorem dL_law_754 : decode cL_law 754 = .ok (.istore 7, 2) := by decide +kernel
theorem dL_law_756 : decode cL_law 756 = .ok (.aload_n 2, 1) := by decide +kernel
theorem dL_law_757 : decode cL_law 757 = .ok (.invokevirtual 131, 3) := by decide +kernel
theorem dL_law_760 : decode cL_law 760 = .ok (.iload 6, 2) := by decide +kernel
theorem dL_law_762 : decode cL_law 762 = .ok (.if_icmp .eq 5, 3) := by decide +kernel
theorem dL_law_765 : decode cL_law 765 = .ok (.iconst 0, 1) := by decide +kernel
theorem dL_law_766 : decode cL_law 766 = .ok (.ireturn, 1) := by decide +kernel
theorem dL_law_767 : decode cL_law 767 = .ok (.iload 6, 2) := by decide +kernel
theorem dL_law_769 : decode cL_law 769 = .ok (.ifCond .ne 15, 3) := by decide +kernel
theorem dL_law_772 : decode cL_law 772 = .ok (.aload_n 3, 1) := by decide +kernel
theorem dL_law_773 : decode cL_law 773 = .ok (.iconst 0, 1) := by decide +kernel
theorem dL_law_774 : decode cL_law 774 = .ok (.laload, 1) := by decide +kernel
theorem dL_law_775 : decode cL_law 775 = .ok (.iload 7, 2) := by decide +kernel
theorem dL_law_777 : decode cL_law 777 = .ok (.i2l, 1) := by decide +kernel
theorem dL_law_778 : decode cL_law 778 = .ok (.lcmp, 1) := by decide +kernel
theorem dL_law_779 : decode cL_law 779 = .ok (.ifCond .eq 5, 3) := by decide +kernel
theorem dL_law_782 : decode cL_law 782 = .ok (.iconst 0, 1) := by decide +kernel
theorem dL_law_783 : decode cL_law 783 = .ok (.ireturn, 1) := by decide +kernel
theorem dL_law_784 : decode cL_law 784 = .ok (.goto 1500, 3) := by decide +kernel
theorem dL_law_787 : decode cL_law 787 = .ok (.aload_n 1, 1) := by decide +kernel
theorem dL_law_788 : decode cL_law 788 = .ok (.aload_n 0, 1) := by decide +kernel
theorem dL_law_789 : decode cL_law 789 = .ok (.iload 5, 2) := by decide +kernel
theorem dL_law_791 : decode cL_law 791 = .ok (.iconst 1, 1) := by decide +kernel
theorem dL_law_792 : decode cL_law 792 = .ok (.iadd, 1) := by decide +kernel
theorem dL_law_793 : decode cL_law 793 = .ok (.iaload, 1) := by decide +kernel
theorem dL_law_794 : decode cL_law 794 = .ok (.aload_n 0, 1) := by decide +kernel
theorem dL_law_795 : decode cL_law 795 = .ok (.iload 5, 2) := by decide +kernel
theorem dL_law_797 : decode cL_law 797 = .ok (.iconst 2, 1) := by decide +kernel
theorem dL_law_798 : decode cL_law 798 = .ok (.iadd, 1) := by decide +kernel
theorem dL_law_799 : decode cL_law 799 = .ok (.iaload, 1) := by decide +kernel
theorem dL_law_800 : decode cL_law 800 = .ok (.ifCond .eq 7, 3) := by decide +kernel
theorem dL_law_803 : decode cL_law 803 = .ok (.iconst 1, 1) := by decide +kernel
theorem dL_law_804 : decode cL_law 804 = .ok (.goto 4, 3) := by decide +kernel
theorem dL_law_807 : decode cL_law 807 = .ok (.iconst 0, 1) := by decide +kernel
theorem dL_law_808 : decode cL_law 808 = .ok (.aload_n 3, 1) := by decide +kernel
theorem dL_law_809 : decode cL_law 809 = .ok (.invokestatic 162, 3) := by decide +kernel
theorem dL_law_812 : decode cL_law 812 = .ok (.istore 6, 2) := by decide +kernel
theorem dL_law_814 : decode cL_law 814 = .ok (.aload_n 2, 1) := by decide +kernel
theorem dL_law_815 : decode cL_law 815 = .ok (.aload_n 0, 1) := by decide +kernel
theorem dL_law_816 : decode cL_law 816 = .ok (.iload 5, 2) := by decide +kernel
theorem dL_law_818 : decode cL_law 818 = .ok (.iconst 1, 1) := by decide +kernel
theorem dL_law_819 : decode cL_law 819 = .ok (.iadd, 1) := by decide +kernel
theorem dL_law_820 : decode cL_law 820 = .ok (.iaload, 1) := by decide +kernel
theorem dL_law_821 : decode cL_law 821 = .ok (.aload_n 0, 1) := by decide +kernel
theorem dL_law_822 : decode cL_law 822 = .ok (.iload 5, 2) := by decide +kernel
theorem dL_law_824 : decode cL_law 824 = .ok (.iconst 2, 1) := by decide +kernel
theorem dL_law_825 : decode cL_law 825 = .ok (.iadd, 1) := by decide +kernel
theorem dL_law_826 : decode cL_law 826 = .ok (.iaload, 1) := by decide +kernel
theorem dL_law_827 : decode cL_law 827 = .ok (.ifCond .eq 7, 3) := by decide +kernel
theorem dL_law_830 : decode cL_law 830 = .ok (.iconst 1, 1) := by decide +kernel
theorem dL_law_831 : decode cL_law 831 = .ok (.goto 4, 3) := by decide +kernel
theorem dL_law_834 : decode cL_law 834 = .ok (.iconst 0, 1) := by decide +kernel
theorem dL_law_835 : decode cL_law 835 = .ok (.invokevirtual 164, 3) := by decide +kernel
theorem dL_law_838 : decode cL_law 838 = .ok (.istore 7, 2) := by decide +kernel
theorem dL_law_840 : decode cL_law 840 = .ok (.aload_n 2, 1) := by decide +kernel
theorem dL_law_841 : decode cL_law 841 = .ok (.invokevirtual 131, 3) := by decide +kernel
theorem dL_law_844 : decode cL_law 844 = .ok (.iload 6, 2) := by decide +kernel
theorem dL_law_846 : decode cL_law 846 = .ok (.if_icmp .eq 5, 3) := by decide +kernel
theorem dL_law_849 : decode cL_law 849 = .ok (.iconst 0, 1) := by decide +kernel
theorem dL_law_850 : decode cL_law 850 = .ok (.ireturn, 1) := by decide +kernel
theorem dL_law_851 : decode cL_law 851 = .ok (.iload 6, 2) := by decide +kernel
theorem dL_law_853 : decode cL_law 853 = .ok (.ifCond .ne 22, 3) := by decide +kernel
theorem dL_law_856 : decode cL_law 856 = .ok (.aload_n 3, 1) := by decide +kernel
theorem dL_law_857 : decode cL_law 857 = .ok (.iconst 0, 1) := by decide +kernel
theorem dL_law_858 : decode cL_law 858 = .ok (.laload, 1) := by decide +kernel
theorem dL_law_859 : decode cL_law 859 = .ok (.iload 7, 2) := by decide +kernel
theorem dL_law_861 : decode cL_law 861 = .ok (.ifCond .eq 7, 3) := by decide +kernel
theorem dL_law_864 : decode cL_law 864 = .ok (.lconst 1, 1) := by decide +kernel
theorem dL_law_865 : decode cL_law 865 = .ok (.goto 4, 3) := by decide +kernel
theorem dL_law_868 : decode cL_law 868 = .ok (.lconst 0, 1) := by decide +kernel
theorem dL_law_869 : decode cL_law 869 = .ok (.lcmp, 1) := by decide +kernel
theorem dL_law_870 : decode cL_law 870 = .ok (.ifCond .eq 5, 3) := by decide +kernel
theorem dL_law_873 : decode cL_law 873 = .ok (.iconst 0, 1) := by decide +kernel
theorem dL_law_874 : decode cL_law 874 = .ok (.ireturn, 1) := by decide +kernel
theorem dL_law_875 : decode cL_law 875 = .ok (.goto 1409, 3) := by decide +kernel
theorem dL_law_878 : decode cL_law 878 = .ok (.aload_n 1, 1) := by decide +kernel
theorem dL_law_879 : decode cL_law 879 = .ok (.aload_n 0, 1) := by decide +kernel
theorem dL_law_880 : decode cL_law 880 = .ok (.iload 5, 2) := by decide +kernel
theorem dL_law_882 : decode cL_law 882 = .ok (.iconst 1, 1) := by decide +kernel
theorem dL_law_883 : decode cL_law 883 = .ok (.iadd, 1) := by decide +kernel
theorem dL_law_884 : decode cL_law 884 = .ok (.iaload, 1) := by decide +kernel
theorem dL_law_885 : decode cL_law 885 = .ok (.aload_n 0, 1) := by decide +kernel
theorem dL_law_886 : decode cL_law 886 = .ok (.iload 5, 2) := by decide +kernel
theorem dL_law_888 : decode cL_law 888 = .ok (.iconst 2, 1) := by decide +kernel
theorem dL_law_889 : decode cL_law 889 = .ok (.iadd, 1) := by decide +kernel
theorem dL_law_890 : decode cL_law 890 = .ok (.iaload, 1) := by decide +kernel
theorem dL_law_891 : decode cL_law 891 = .ok (.ifCond .eq 7, 3) := by decide +kernel
theorem dL_law_894 : decode cL_law 894 = .ok (.iconst 1, 1) := by decide +kernel
theorem dL_law_895 : decode cL_law 895 = .ok (.goto 4, 3) := by decide +kernel
theorem dL_law_898 : decode cL_law 898 = .ok (.iconst 0, 1) := by decide +kernel
theorem dL_law_899 : decode cL_law 899 = .ok (.aload_n 3, 1) := by decide +kernel
theorem dL_law_900 : decode cL_law 900 = .ok (.invokestatic 165, 3) := by decide +kernel
theorem dL_law_903 : decode cL_law 903 = .ok (.istore 6, 2) := by decide +kernel
theorem dL_law_905 : decode cL_law 905 = .ok (.aload_n 2, 1) := by decide +kernel
theorem dL_law_906 : decode cL_law 906 = .ok (.aload_n 0, 1) := by decide +kernel
theorem dL_law_907 : decode cL_law 907 = .ok (.iload 5, 2) := by decide +kernel
theorem dL_law_909 : decode cL_law 909 = .ok (.iconst 1, 1) := by decide +kernel
theorem dL_law_910 : decode cL_law 910 = .ok (.iadd, 1) := by decide +kernel
theorem dL_law_911 : decode cL_law 911 = .ok (.iaload, 1) := by decide +kernel
theorem dL_law_912 : decode cL_law 912 = .ok (.aload_n 0, 1) := by decide +kernel
theorem dL_law_913 : decode cL_law 913 = .ok (.iload 5, 2) := by decide +kernel
theorem dL_law_915 : decode cL_law 915 = .ok (.iconst 2, 1) := by decide +kernel
theorem dL_law_916 : decode cL_law 916 = .ok (.iadd, 1) := by decide +kernel
theorem dL_law_917 : decode cL_law 917 = .ok (.iaload, 1) := by decide +kernel
theorem dL_law_918 : decode cL_law 918 = .ok (.ifCond .eq 7, 3) := by decide +kernel
theorem dL_law_921 : decode cL_law 921 = .ok (.iconst 1, 1) := by decide +kernel
theorem dL_law_922 : decode cL_law 922 = .ok (.goto 4, 3) := by decide +kernel
theorem dL_law_925 : decode cL_law 925 = .ok (.iconst 0, 1) := by decide +kernel
theorem dL_law_926 : decode cL_law 926 = .ok (.invokevirtual 167, 3) := by decide +kernel
theorem dL_law_929 : decode cL_law 929 = .ok (.istore 7, 2) := by decide +kernel
theorem dL_law_931 : decode cL_law 931 = .ok (.aload_n 2, 1) := by decide +kernel
theorem dL_law_932 : decode cL_law 932 = .ok (.invokevirtual 131, 3) := by decide +kernel
theorem dL_law_935 : decode cL_law 935 = .ok (.iload 6, 2) := by decide +kernel
theorem dL_law_937 : decode cL_law 937 = .ok (.if_icmp .eq 5, 3) := by decide +kernel
theorem dL_law_940 : decode cL_law 940 = .ok (.iconst 0, 1) := by decide +kernel
theorem dL_law_941 : decode cL_law 941 = .ok (.ireturn, 1) := by decide +kernel
theorem dL_law_942 : decode cL_law 942 = .ok (.iload 6, 2) := by decide +kernel
theorem dL_law_944 : decode cL_law 944 = .ok (.ifCond .ne 22, 3) := by decide +kernel
theorem dL_law_947 : decode cL_law 947 = .ok (.aload_n 3, 1) := by decide +kernel
theorem dL_law_948 : decode cL_law 948 = .ok (.iconst 0, 1) := by decide +kernel
theorem dL_law_949 : decode cL_law 949 = .ok (.laload, 1) := by decide +kernel
theorem dL_law_950 : decode cL_law 950 = .ok (.iload 7, 2) := by decide +kernel
theorem dL_law_952 : decode cL_law 952 = .ok (.ifCond .eq 7, 3) := by decide +kernel
theorem dL_law_955 : decode cL_law 955 = .ok (.lconst 1, 1) := by decide +kernel
theorem dL_law_956 : decode cL_law 956 = .ok (.goto 4, 3) := by decide +kernel
theorem dL_law_959 : decode cL_law 959 = .ok (.lconst 0, 1) := by decide +kernel
theorem dL_law_960 : decode cL_law 960 = .ok (.lcmp, 1) := by decide +kernel
theorem dL_law_961 : decode cL_law 961 = .ok (.ifCond .eq 5, 3) := by decide +kernel
theorem dL_law_964 : decode cL_law 964 = .ok (.iconst 0, 1) := by decide +kernel
theorem dL_law_965 : decode cL_law 965 = .ok (.ireturn, 1) := by decide +kernel
theorem dL_law_966 : decode cL_law 966 = .ok (.goto 1318, 3) := by decide +kernel
theorem dL_law_969 : decode cL_law 969 = .ok (.aload_n 1, 1) := by decide +kernel
theorem dL_law_970 : decode cL_law 970 = .ok (.aload_n 0, 1) := by decide +kernel
theorem dL_law_971 : decode cL_law 971 = .ok (.iload 5, 2) := by decide +kernel
theorem dL_law_973 : decode cL_law 973 = .ok (.iconst 1, 1) := by decide +kernel
theorem dL_law_974 : decode cL_law 974 = .ok (.iadd, 1) := by decide +kernel
theorem dL_law_975 : decode cL_law 975 = .ok (.iaload, 1) := by decide +kernel
theorem dL_law_976 : decode cL_law 976 = .ok (.aload_n 0, 1) := by decide +kernel
theorem dL_law_977 : decode cL_law 977 = .ok (.iload 5, 2) := by decide +kernel
theorem dL_law_979 : decode cL_law 979 = .ok (.iconst 2, 1) := by decide +kernel
theorem dL_law_980 : decode cL_law 980 = .ok (.iadd, 1) := by decide +kernel
theorem dL_law_981 : decode cL_law 981 = .ok (.iaload, 1) := by decide +kernel
theorem dL_law_982 : decode cL_law 982 = .ok (.aload_n 0, 1) := by decide +kernel
theorem dL_law_983 : decode cL_law 983 = .ok (.iload 5, 2) := by decide +kernel
theorem dL_law_985 : decode cL_law 985 = .ok (.iconst 3, 1) := by decide +kernel
theorem dL_law_986 : decode cL_law 986 = .ok (.iadd, 1) := by decide +kernel
theorem dL_law_987 : decode cL_law 987 = .ok (.iaload, 1) := by decide +kernel
theorem dL_law_988 : decode cL_law 988 = .ok (.aload_n 3, 1) := by decide +kernel
theorem dL_law_989 : decode cL_law 989 = .ok (.invokestatic 168, 3) := by decide +kernel
theorem dL_law_992 : decode cL_law 992 = .ok (.istore 6, 2) := by decide +kernel
theorem dL_law_994 : decode cL_law 994 = .ok (.aload_n 2, 1) := by decide +kernel
theorem dL_law_995 : decode cL_law 995 = .ok (.aload_n 0, 1) := by decide +kernel
theorem dL_law_996 : decode cL_law 996 = .ok (.iload 5, 2) := by decide +kernel
theorem dL_law_998 : decode cL_law 998 = .ok (.iconst 1, 1) := by decide +kernel
theorem dL_law_999 : decode cL_law 999 = .ok (.iadd, 1) := by decide +kernel
theorem dL_law_1000 : decode cL_law 1000 = .ok (.iaload, 1) := by decide +kernel
theorem dL_law_1001 : decode cL_law 1001 = .ok (.aload_n 0, 1) := by decide +kernel
theorem dL_law_1002 : decode cL_law 1002 = .ok (.iload 5, 2) := by decide +kernel
theorem dL_law_1004 : decode cL_law 1004 = .ok (.iconst 2, 1) := by decide +kernel
theorem dL_law_1005 : decode cL_law 1005 = .ok (.iadd, 1) := by decide +kernel
theorem dL_law_1006 : decode cL_law 1006 = .ok (.iaload, 1) := by decide +kernel
theorem dL_law_1007 : decode cL_law 1007 = .ok (.aload_n 0, 1) := by decide +kernel
theorem dL_law_1008 : decode cL_law 1008 = .ok (.iload 5, 2) := by decide +kernel
theorem dL_law_1010 : decode cL_law 1010 = .ok (.iconst 3, 1) := by decide +kernel
theorem dL_law_1011 : decode cL_law 1011 = .ok (.iadd, 1) := by decide +kernel
theorem dL_law_1012 : decode cL_law 1012 = .ok (.iaload, 1) := by decide +kernel
theorem dL_law_1013 : decode cL_law 1013 = .ok (.invokevirtual 171, 3) := by decide +kernel
theorem dL_law_1016 : decode cL_law 1016 = .ok (.istore 7, 2) := by decide +kernel
theorem dL_law_1018 : decode cL_law 1018 = .ok (.aload_n 2, 1) := by decide +kernel
theorem dL_law_1019 : decode cL_law 1019 = .ok (.invokevirtual 131, 3) := by decide +kernel
theorem dL_law_1022 : decode cL_law 1022 = .ok (.iload 6, 2) := by decide +kernel
theorem dL_law_1024 : decode cL_law 1024 = .ok (.if_icmp .eq 5, 3) := by decide +kernel
theorem dL_law_1027 : decode cL_law 1027 = .ok (.iconst 0, 1) := by decide +kernel
theorem dL_law_1028 : decode cL_law 1028 = .ok (.ireturn, 1) := by decide +kernel
theorem dL_law_1029 : decode cL_law 1029 = .ok (.iload 6, 2) := by decide +kernel
theorem dL_law_1031 : decode cL_law 1031 = .ok (.ifCond .ne 15, 3) := by decide +kernel
theorem dL_law_1034 : decode cL_law 1034 = .ok (.aload_n 3, 1) := by decide +kernel
theorem dL_law_1035 : decode cL_law 1035 = .ok (.iconst 0, 1) := by decide +kernel
theorem dL_law_1036 : decode cL_law 1036 = .ok (.laload, 1) := by decide +kernel
theorem dL_law_1037 : decode cL_law 1037 = .ok (.iload 7, 2) := by decide +kernel
theorem dL_law_1039 : decode cL_law 1039 = .ok (.i2l, 1) := by decide +kernel
theorem dL_law_1040 : decode cL_law 1040 = .ok (.lcmp, 1) := by decide +kernel
theorem dL_law_1041 : decode cL_law 1041 = .ok (.ifCond .eq 5, 3) := by decide +kernel
theorem dL_law_1044 : decode cL_law 1044 = .ok (.iconst 0, 1) := by decide +kernel
theorem dL_law_1045 : decode cL_law 1045 = .ok (.ireturn, 1) := by decide +kernel
theorem dL_law_1046 : decode cL_law 1046 = .ok (.goto 1238, 3) := by decide +kernel
theorem dL_law_1049 : decode cL_law 1049 = .ok (.aload_n 1, 1) := by decide +kernel
theorem dL_law_1050 : decode cL_law 1050 = .ok (.aload_n 0, 1) := by decide +kernel
theorem dL_law_1051 : decode cL_law 1051 = .ok (.iload 5, 2) := by decide +kernel
theorem dL_law_1053 : decode cL_law 1053 = .ok (.iconst 1, 1) := by decide +kernel
theorem dL_law_1054 : decode cL_law 1054 = .ok (.iadd, 1) := by decide +kernel
theorem dL_law_1055 : decode cL_law 1055 = .ok (.iaload, 1) := by decide +kernel
theorem dL_law_1056 : decode cL_law 1056 = .ok (.aload_n 3, 1) := by decide +kernel
theorem dL_law_1057 : decode cL_law 1057 = .ok (.invokestatic 172, 3) := by decide +kernel
theorem dL_law_1060 : decode cL_law 1060 = .ok (.istore 6, 2) := by decide +kernel
theorem dL_law_1062 : decode cL_law 1062 = .ok (.aload_n 2, 1) := by decide +kernel
theorem dL_law_1063 : decode cL_law 1063 = .ok (.aload_n 0, 1) := by decide +kernel
theorem dL_law_1064 : decode cL_law 1064 = .ok (.iload 5, 2) := by decide +kernel
theorem dL_law_1066 : decode cL_law 1066 = .ok (.iconst 1, 1) := by decide +kernel
theorem dL_law_1067 : decode cL_law 1067 = .ok (.iadd, 1) := by decide +kernel
theorem dL_law_1068 : decode cL_law 1068 = .ok (.iaload, 1) := by decide +kernel
theorem dL_law_1069 : decode cL_law 1069 = .ok (.invokevirtual 174, 3) := by decide +kernel
theorem dL_law_1072 : decode cL_law 1072 = .ok (.istore 7, 2) := by decide +kernel
theorem dL_law_1074 : decode cL_law 1074 = .ok (.aload_n 2, 1) := by decide +kernel
theorem dL_law_1075 : decode cL_law 1075 = .ok (.invokevirtual 131, 3) := by decide +kernel
theorem dL_law_1078 : decode cL_law 1078 = .ok (.iload 6, 2) := by decide +kernel
theorem dL_law_1080 : decode cL_law 1080 = .ok (.if_icmp .eq 5, 3) := by decide +kernel
theorem dL_law_1083 : decode cL_law 1083 = .ok (.iconst 0, 1) := by decide +kernel
theorem dL_law_1084 : decode cL_law 1084 = .ok (.ireturn, 1) := by decide +kernel
theorem dL_law_1085 : decode cL_law 1085 = .ok (.iload 6, 2) := by decide +kernel
theorem dL_law_1087 : decode cL_law 1087 = .ok (.ifCond .ne 15, 3) := by decide +kernel
theorem dL_law_1090 : decode cL_law 1090 = .ok (.aload_n 3, 1) := by decide +kernel
theorem dL_law_1091 : decode cL_law 1091 = .ok (.iconst 0, 1) := by decide +kernel
theorem dL_law_1092 : decode cL_law 1092 = .ok (.laload, 1) := by decide +kernel
theorem dL_law_1093 : decode cL_law 1093 = .ok (.iload 7, 2) := by decide +kernel
theorem dL_law_1095 : decode cL_law 1095 = .ok (.i2l, 1) := by decide +kernel
theorem dL_law_1096 : decode cL_law 1096 = .ok (.lcmp, 1) := by decide +kernel
theorem dL_law_1097 : decode cL_law 1097 = .ok (.ifCond .eq 5, 3) := by decide +kernel
theorem dL_law_1100 : decode cL_law 1100 = .ok (.iconst 0, 1) := by decide +kernel
theorem dL_law_1101 : decode cL_law 1101 = .ok (.ireturn, 1) := by decide +kernel
theorem dL_law_1102 : decode cL_law 1102 = .ok (.goto 1182, 3) := by decide +kernel
theorem dL_law_1105 : decode cL_law 1105 = .ok (.aload_n 1, 1) := by decide +kernel
theorem dL_law_1106 : decode cL_law 1106 = .ok (.aload_n 0, 1) := by decide +kernel
theorem dL_law_1107 : decode cL_law 1107 = .ok (.iload 5, 2) := by decide +kernel
theorem dL_law_1109 : decode cL_law 1109 = .ok (.iconst 1, 1) := by decide +kernel
theorem dL_law_1110 : decode cL_law 1110 = .ok (.iadd, 1) := by decide +kernel
theorem dL_law_1111 : decode cL_law 1111 = .ok (.iaload, 1) := by decide +kernel
theorem dL_law_1112 : decode cL_law 1112 = .ok (.aload_n 3, 1) := by decide +kernel
theorem dL_law_1113 : decode cL_law 1113 = .ok (.invokestatic 175, 3) := by decide +kernel
theorem dL_law_1116 : decode cL_law 1116 = .ok (.istore 6, 2) := by decide +kernel
theorem dL_law_1118 : decode cL_law 1118 = .ok (.aload_n 2, 1) := by decide +kernel
theorem dL_law_1119 : decode cL_law 1119 = .ok (.aload_n 0, 1) := by decide +kernel
theorem dL_law_1120 : decode cL_law 1120 = .ok (.iload 5, 2) := by decide +kernel
theorem dL_law_1122 : decode cL_law 1122 = .ok (.iconst 1, 1) := by decide +kernel
theorem dL_law_1123 : decode cL_law 1123 = .ok (.iadd, 1) := by decide +kernel
theorem dL_law_1124 : decode cL_law 1124 = .ok (.iaload, 1) := by decide +kernel
theorem dL_law_1125 : decode cL_law 1125 = .ok (.invokevirtual 177, 3) := by decide +kernel
theorem dL_law_1128 : decode cL_law 1128 = .ok (.istore 7, 2) := by decide +kernel
theorem dL_law_1130 : decode cL_law 1130 = .ok (.aload_n 2, 1) := by decide +kernel
theorem dL_law_1131 : decode cL_law 1131 = .ok (.invokevirtual 131, 3) := by decide +kernel
theorem dL_law_1134 : decode cL_law 1134 = .ok (.iload 6, 2) := by decide +kernel
theorem dL_law_1136 : decode cL_law 1136 = .ok (.if_icmp .eq 5, 3) := by decide +kernel
theorem dL_law_1139 : decode cL_law 1139 = .ok (.iconst 0, 1) := by decide +kernel
theorem dL_law_1140 : decode cL_law 1140 = .ok (.ireturn, 1) := by decide +kernel
theorem dL_law_1141 : decode cL_law 1141 = .ok (.iload 6, 2) := by decide +kernel
theorem dL_law_1143 : decode cL_law 1143 = .ok (.ifCond .ne 15, 3) := by decide +kernel
theorem dL_law_1146 : decode cL_law 1146 = .ok (.aload_n 3, 1) := by decide +kernel
theorem dL_law_1147 : decode cL_law 1147 = .ok (.iconst 0, 1) := by decide +kernel
theorem dL_law_1148 : decode cL_law 1148 = .ok (.laload, 1) := by decide +kernel
theorem dL_law_1149 : decode cL_law 1149 = .ok (.iload 7, 2) := by decide +kernel
theorem dL_law_1151 : decode cL_law 1151 = .ok (.i2l, 1) := by decide +kernel
theorem dL_law_1152 : decode cL_law 1152 = .ok (.lcmp, 1) := by decide +kernel
theorem dL_law_1153 : decode cL_law 1153 = .ok (.ifCond .eq 5, 3) := by decide +kernel
theorem dL_law_1156 : decode cL_law 1156 = .ok (.iconst 0, 1) := by decide +kernel
theorem dL_law_1157 : decode cL_law 1157 = .ok (.ireturn, 1) := by decide +kernel
theorem dL_law_1158 : decode cL_law 1158 = .ok (.goto 1126, 3) := by decide +kernel
theorem dL_law_1161 : decode cL_law 1161 = .ok (.aload_n 1, 1) := by decide +kernel
theorem dL_law_1162 : decode cL_law 1162 = .ok (.aload_n 0, 1) := by decide +kernel
theorem dL_law_1163 : decode cL_law 1163 = .ok (.iload 5, 2) := by decide +kernel
theorem dL_law_1165 : decode cL_law 1165 = .ok (.iconst 1, 1) := by decide +kernel
theorem dL_law_1166 : decode cL_law 1166 = .ok (.iadd, 1) := by decide +kernel
theorem dL_law_1167 : decode cL_law 1167 = .ok (.iaload, 1) := by decide +kernel
theorem dL_law_1168 : decode cL_law 1168 = .ok (.aload_n 3, 1) := by decide +kernel
theorem dL_law_1169 : decode cL_law 1169 = .ok (.invokestatic 178, 3) := by decide +kernel
theorem dL_law_1172 : decode cL_law 1172 = .ok (.istore 6, 2) := by decide +kernel
theorem dL_law_1174 : decode cL_law 1174 = .ok (.aload_n 2, 1) := by decide +kernel
theorem dL_law_1175 : decode cL_law 1175 = .ok (.aload_n 0, 1) := by decide +kernel
theorem dL_law_1176 : decode cL_law 1176 = .ok (.iload 5, 2) := by decide +kernel
theorem dL_law_1178 : decode cL_law 1178 = .ok (.iconst 1, 1) := by decide +kernel
theorem dL_law_1179 : decode cL_law 1179 = .ok (.iadd, 1) := by decide +kernel
theorem dL_law_1180 : decode cL_law 1180 = .ok (.iaload, 1) := by decide +kernel
theorem dL_law_1181 : decode cL_law 1181 = .ok (.invokevirtual 180, 3) := by decide +kernel
theorem dL_law_1184 : decode cL_law 1184 = .ok (.istore 7, 2) := by decide +kernel
theorem dL_law_1186 : decode cL_law 1186 = .ok (.aload_n 2, 1) := by decide +kernel
theorem dL_law_1187 : decode cL_law 1187 = .ok (.invokevirtual 131, 3) := by decide +kernel
theorem dL_law_1190 : decode cL_law 1190 = .ok (.iload 6, 2) := by decide +kernel
theorem dL_law_1192 : decode cL_law 1192 = .ok (.if_icmp .eq 5, 3) := by decide +kernel
theorem dL_law_1195 : decode cL_law 1195 = .ok (.iconst 0, 1) := by decide +kernel
theorem dL_law_1196 : decode cL_law 1196 = .ok (.ireturn, 1) := by decide +kernel
theorem dL_law_1197 : decode cL_law 1197 = .ok (.iload 6, 2) := by decide +kernel
theorem dL_law_1199 : decode cL_law 1199 = .ok (.ifCond .ne 15, 3) := by decide +kernel
theorem dL_law_1202 : decode cL_law 1202 = .ok (.aload_n 3, 1) := by decide +kernel
theorem dL_law_1203 : decode cL_law 1203 = .ok (.iconst 0, 1) := by decide +kernel
theorem dL_law_1204 : decode cL_law 1204 = .ok (.laload, 1) := by decide +kernel
theorem dL_law_1205 : decode cL_law 1205 = .ok (.iload 7, 2) := by decide +kernel
theorem dL_law_1207 : decode cL_law 1207 = .ok (.i2l, 1) := by decide +kernel
theorem dL_law_1208 : decode cL_law 1208 = .ok (.lcmp, 1) := by decide +kernel
theorem dL_law_1209 : decode cL_law 1209 = .ok (.ifCond .eq 5, 3) := by decide +kernel
theorem dL_law_1212 : decode cL_law 1212 = .ok (.iconst 0, 1) := by decide +kernel
theorem dL_law_1213 : decode cL_law 1213 = .ok (.ireturn, 1) := by decide +kernel
theorem dL_law_1214 : decode cL_law 1214 = .ok (.goto 1070, 3) := by decide +kernel
theorem dL_law_1217 : decode cL_law 1217 = .ok (.aload_n 1, 1) := by decide +kernel
theorem dL_law_1218 : decode cL_law 1218 = .ok (.aload_n 0, 1) := by decide +kernel
theorem dL_law_1219 : decode cL_law 1219 = .ok (.iload 5, 2) := by decide +kernel
theorem dL_law_1221 : decode cL_law 1221 = .ok (.iconst 1, 1) := by decide +kernel
theorem dL_law_1222 : decode cL_law 1222 = .ok (.iadd, 1) := by decide +kernel
theorem dL_law_1223 : decode cL_law 1223 = .ok (.iaload, 1) := by decide +kernel
theorem dL_law_1224 : decode cL_law 1224 = .ok (.aload_n 3, 1) := by decide +kernel
theorem dL_law_1225 : decode cL_law 1225 = .ok (.invokestatic 181, 3) := by decide +kernel
theorem dL_law_1228 : decode cL_law 1228 = .ok (.istore 6, 2) := by decide +kernel
theorem dL_law_1230 : decode cL_law 1230 = .ok (.aload_n 2, 1) := by decide +kernel
theorem dL_law_1231 : decode cL_law 1231 = .ok (.aload_n 0, 1) := by decide +kernel
theorem dL_law_1232 : decode cL_law 1232 = .ok (.iload 5, 2) := by decide +kernel
theorem dL_law_1234 : decode cL_law 1234 = .ok (.iconst 1, 1) := by decide +kernel
theorem dL_law_1235 : decode cL_law 1235 = .ok (.iadd, 1) := by decide +kernel
theorem dL_law_1236 : decode cL_law 1236 = .ok (.iaload, 1) := by decide +kernel
theorem dL_law_1237 : decode cL_law 1237 = .ok (.invokevirtual 183, 3) := by decide +kernel
theorem dL_law_1240 : decode cL_law 1240 = .ok (.istore 7, 2) := by decide +kernel
theorem dL_law_1242 : decode cL_law 1242 = .ok (.aload_n 2, 1) := by decide +kernel
theorem dL_law_1243 : decode cL_law 1243 = .ok (.invokevirtual 131, 3) := by decide +kernel
theorem dL_law_1246 : decode cL_law 1246 = .ok (.iload 6, 2) := by decide +kernel
theorem dL_law_1248 : decode cL_law 1248 = .ok (.if_icmp .eq 5, 3) := by decide +kernel
theorem dL_law_1251 : decode cL_law 1251 = .ok (.iconst 0, 1) := by decide +kernel
theorem dL_law_1252 : decode cL_law 1252 = .ok (.ireturn, 1) := by decide +kernel
theorem dL_law_1253 : decode cL_law 1253 = .ok (.iload 6, 2) := by decide +kernel
theorem dL_law_1255 : decode cL_law 1255 = .ok (.ifCond .ne 22, 3) := by decide +kernel
theorem dL_law_1258 : decode cL_law 1258 = .ok (.aload_n 3, 1) := by decide +kernel
theorem dL_law_1259 : decode cL_law 1259 = .ok (.iconst 0, 1) := by decide +kernel
theorem dL_law_1260 : decode cL_law 1260 = .ok (.laload, 1) := by decide +kernel
theorem dL_law_1261 : decode cL_law 1261 = .ok (.iload 7, 2) := by decide +kernel
theorem dL_law_1263 : decode cL_law 1263 = .ok (.ifCond .eq 7, 3) := by decide +kernel
theorem dL_law_1266 : decode cL_law 1266 = .ok (.lconst 1, 1) := by decide +kernel
theorem dL_law_1267 : decode cL_law 1267 = .ok (.goto 4, 3) := by decide +kernel
theorem dL_law_1270 : decode cL_law 1270 = .ok (.lconst 0, 1) := by decide +kernel
theorem dL_law_1271 : decode cL_law 1271 = .ok (.lcmp, 1) := by decide +kernel
theorem dL_law_1272 : decode cL_law 1272 = .ok (.ifCond .eq 5, 3) := by decide +kernel
theorem dL_law_1275 : decode cL_law 1275 = .ok (.iconst 0, 1) := by decide +kernel
theorem dL_law_1276 : decode cL_law 1276 = .ok (.ireturn, 1) := by decide +kernel
theorem dL_law_1277 : decode cL_law 1277 = .ok (.goto 1007, 3) := by decide +kernel
theorem dL_law_1280 : decode cL_law 1280 = .ok (.aload_n 1, 1) := by decide +kernel
theorem dL_law_1281 : decode cL_law 1281 = .ok (.aload_n 0, 1) := by decide +kernel
theorem dL_law_1282 : decode cL_law 1282 = .ok (.iload 5, 2) := by decide +kernel
theorem dL_law_1284 : decode cL_law 1284 = .ok (.iconst 1, 1) := by decide +kernel
theorem dL_law_1285 : decode cL_law 1285 = .ok (.iadd, 1) := by decide +kernel
theorem dL_law_1286 : decode cL_law 1286 = .ok (.iaload, 1) := by decide +kernel
theorem dL_law_1287 : decode cL_law 1287 = .ok (.aload_n 3, 1) := by decide +kernel
theorem dL_law_1288 : decode cL_law 1288 = .ok (.invokestatic 184, 3) := by decide +kernel
theorem dL_law_1291 : decode cL_law 1291 = .ok (.istore 6, 2) := by decide +kernel
theorem dL_law_1293 : decode cL_law 1293 = .ok (.aload_n 2, 1) := by decide +kernel
theorem dL_law_1294 : decode cL_law 1294 = .ok (.aload_n 0, 1) := by decide +kernel
theorem dL_law_1295 : decode cL_law 1295 = .ok (.iload 5, 2) := by decide +kernel
theorem dL_law_1297 : decode cL_law 1297 = .ok (.iconst 1, 1) := by decide +kernel
theorem dL_law_1298 : decode cL_law 1298 = .ok (.iadd, 1) := by decide +kernel
theorem dL_law_1299 : decode cL_law 1299 = .ok (.iaload, 1) := by decide +kernel
theorem dL_law_1300 : decode cL_law 1300 = .ok (.invokevirtual 186, 3) := by decide +kernel
theorem dL_law_1303 : decode cL_law 1303 = .ok (.istore 7, 2) := by decide +kernel
theorem dL_law_1305 : decode cL_law 1305 = .ok (.aload_n 2, 1) := by decide +kernel
theorem dL_law_1306 : decode cL_law 1306 = .ok (.invokevirtual 131, 3) := by decide +kernel
theorem dL_law_1309 : decode cL_law 1309 = .ok (.iload 6, 2) := by decide +kernel
theorem dL_law_1311 : decode cL_law 1311 = .ok (.if_icmp .eq 5, 3) := by decide +kernel
theorem dL_law_1314 : decode cL_law 1314 = .ok (.iconst 0, 1) := by decide +kernel
theorem dL_law_1315 : decode cL_law 1315 = .ok (.ireturn, 1) := by decide +kernel
theorem dL_law_1316 : decode cL_law 1316 = .ok (.iload 6, 2) := by decide +kernel
theorem dL_law_1318 : decode cL_law 1318 = .ok (.ifCond .ne 15, 3) := by decide +kernel
theorem dL_law_1321 : decode cL_law 1321 = .ok (.aload_n 3, 1) := by decide +kernel
theorem dL_law_1322 : decode cL_law 1322 = .ok (.iconst 0, 1) := by decide +kernel
theorem dL_law_1323 : decode cL_law 1323 = .ok (.laload, 1) := by decide +kernel
theorem dL_law_1324 : decode cL_law 1324 = .ok (.iload 7, 2) := by decide +kernel
theorem dL_law_1326 : decode cL_law 1326 = .ok (.i2l, 1) := by decide +kernel
theorem dL_law_1327 : decode cL_law 1327 = .ok (.lcmp, 1) := by decide +kernel
theorem dL_law_1328 : decode cL_law 1328 = .ok (.ifCond .eq 5, 3) := by decide +kernel
theorem dL_law_1331 : decode cL_law 1331 = .ok (.iconst 0, 1) := by decide +kernel
theorem dL_law_1332 : decode cL_law 1332 = .ok (.ireturn, 1) := by decide +kernel
theorem dL_law_1333 : decode cL_law 1333 = .ok (.goto 951, 3) := by decide +kernel
theorem dL_law_1336 : decode cL_law 1336 = .ok (.aload_n 1, 1) := by decide +kernel
theorem dL_law_1337 : decode cL_law 1337 = .ok (.aload_n 3, 1) := by decide +kernel
theorem dL_law_1338 : decode cL_law 1338 = .ok (.invokestatic 187, 3) := by decide +kernel
theorem dL_law_1341 : decode cL_law 1341 = .ok (.istore 6, 2) := by decide +kernel
theorem dL_law_1343 : decode cL_law 1343 = .ok (.aload_n 2, 1) := by decide +kernel
theorem dL_law_1344 : decode cL_law 1344 = .ok (.invokevirtual 190, 3) := by decide +kernel
theorem dL_law_1347 : decode cL_law 1347 = .ok (.istore 7, 2) := by decide +kernel
theorem dL_law_1349 : decode cL_law 1349 = .ok (.aload_n 2, 1) := by decide +kernel
theorem dL_law_1350 : decode cL_law 1350 = .ok (.invokevirtual 131, 3) := by decide +kernel
theorem dL_law_1353 : decode cL_law 1353 = .ok (.iload 6, 2) := by decide +kernel
theorem dL_law_1355 : decode cL_law 1355 = .ok (.if_icmp .eq 5, 3) := by decide +kernel
theorem dL_law_1358 : decode cL_law 1358 = .ok (.iconst 0, 1) := by decide +kernel
theorem dL_law_1359 : decode cL_law 1359 = .ok (.ireturn, 1) := by decide +kernel
theorem dL_law_1360 : decode cL_law 1360 = .ok (.iload 6, 2) := by decide +kernel
theorem dL_law_1362 : decode cL_law 1362 = .ok (.ifCond .ne 15, 3) := by decide +kernel
theorem dL_law_1365 : decode cL_law 1365 = .ok (.aload_n 3, 1) := by decide +kernel
theorem dL_law_1366 : decode cL_law 1366 = .ok (.iconst 0, 1) := by decide +kernel
theorem dL_law_1367 : decode cL_law 1367 = .ok (.laload, 1) := by decide +kernel
theorem dL_law_1368 : decode cL_law 1368 = .ok (.iload 7, 2) := by decide +kernel
theorem dL_law_1370 : decode cL_law 1370 = .ok (.i2l, 1) := by decide +kernel
theorem dL_law_1371 : decode cL_law 1371 = .ok (.lcmp, 1) := by decide +kernel
theorem dL_law_1372 : decode cL_law 1372 = .ok (.ifCond .eq 5, 3) := by decide +kernel
theorem dL_law_1375 : decode cL_law 1375 = .ok (.iconst 0, 1) := by decide +kernel
theorem dL_law_1376 : decode cL_law 1376 = .ok (.ireturn, 1) := by decide +kernel
theorem dL_law_1377 : decode cL_law 1377 = .ok (.goto 907, 3) := by decide +kernel
theorem dL_law_1380 : decode cL_law 1380 = .ok (.aload_n 1, 1) := by decide +kernel
theorem dL_law_1381 : decode cL_law 1381 = .ok (.invokevirtual 191, 3) := by decide +kernel
theorem dL_law_1384 : decode cL_law 1384 = .ok (.aload_n 2, 1) := by decide +kernel
theorem dL_law_1385 : decode cL_law 1385 = .ok (.invokevirtual 194, 3) := by decide +kernel
theorem dL_law_1388 : decode cL_law 1388 = .ok (.if_icmp .eq 896, 3) := by decide +kernel
theorem dL_law_1391 : decode cL_law 1391 = .ok (.iconst 0, 1) := by decide +kernel
theorem dL_law_1392 : decode cL_law 1392 = .ok (.ireturn, 1) := by decide +kernel
theorem dL_law_1393 : decode cL_law 1393 = .ok (.aload_n 1, 1) := by decide +kernel
theorem dL_law_1394 : decode cL_law 1394 = .ok (.aload_n 0, 1) := by decide +kernel
theorem dL_law_1395 : decode cL_law 1395 = .ok (.iload 5, 2) := by decide +kernel
theorem dL_law_1397 : decode cL_law 1397 = .ok (.iconst 1, 1) := by decide +kernel
theorem dL_law_1398 : decode cL_law 1398 = .ok (.iadd, 1) := by decide +kernel
theorem dL_law_1399 : decode cL_law 1399 = .ok (.iaload, 1) := by decide +kernel
theorem dL_law_1400 : decode cL_law 1400 = .ok (.aload_n 3, 1) := by decide +kernel
theorem dL_law_1401 : decode cL_law 1401 = .ok (.invokestatic 195, 3) := by decide +kernel
theorem dL_law_1404 : decode cL_law 1404 = .ok (.istore 6, 2) := by decide +kernel
theorem dL_law_1406 : decode cL_law 1406 = .ok (.aload_n 2, 1) := by decide +kernel
theorem dL_law_1407 : decode cL_law 1407 = .ok (.aload_n 0, 1) := by decide +kernel
theorem dL_law_1408 : decode cL_law 1408 = .ok (.iload 5, 2) := by decide +kernel
theorem dL_law_1410 : decode cL_law 1410 = .ok (.iconst 1, 1) := by decide +kernel
theorem dL_law_1411 : decode cL_law 1411 = .ok (.iadd, 1) := by decide +kernel
theorem dL_law_1412 : decode cL_law 1412 = .ok (.iaload, 1) := by decide +kernel
theorem dL_law_1413 : decode cL_law 1413 = .ok (.invokevirtual 197, 3) := by decide +kernel
theorem dL_law_1416 : decode cL_law 1416 = .ok (.istore 7, 2) := by decide +kernel
theorem dL_law_1418 : decode cL_law 1418 = .ok (.aload_n 2, 1) := by decide +kernel
theorem dL_law_1419 : decode cL_law 1419 = .ok (.invokevirtual 131, 3) := by decide +kernel
theorem dL_law_1422 : decode cL_law 1422 = .ok (.iload 6, 2) := by decide +kernel
theorem dL_law_1424 : decode cL_law 1424 = .ok (.if_icmp .eq 5, 3) := by decide +kernel
theorem dL_law_1427 : decode cL_law 1427 = .ok (.iconst 0, 1) := by decide +kernel
theorem dL_law_1428 : decode cL_law 1428 = .ok (.ireturn, 1) := by decide +kernel
theorem dL_law_1429 : decode cL_law 1429 = .ok (.iload 6, 2) := by decide +kernel
theorem dL_law_1431 : decode cL_law 1431 = .ok (.ifCond .ne 15, 3) := by decide +kernel
theorem dL_law_1434 : decode cL_law 1434 = .ok (.aload_n 3, 1) := by decide +kernel
theorem dL_law_1435 : decode cL_law 1435 = .ok (.iconst 0, 1) := by decide +kernel
theorem dL_law_1436 : decode cL_law 1436 = .ok (.laload, 1) := by decide +kernel
theorem dL_law_1437 : decode cL_law 1437 = .ok (.iload 7, 2) := by decide +kernel
theorem dL_law_1439 : decode cL_law 1439 = .ok (.i2l, 1) := by decide +kernel
theorem dL_law_1440 : decode cL_law 1440 = .ok (.lcmp, 1) := by decide +kernel
theorem dL_law_1441 : decode cL_law 1441 = .ok (.ifCond .eq 5, 3) := by decide +kernel
theorem dL_law_1444 : decode cL_law 1444 = .ok (.iconst 0, 1) := by decide +kernel
theorem dL_law_1445 : decode cL_law 1445 = .ok (.ireturn, 1) := by decide +kernel
theorem dL_law_1446 : decode cL_law 1446 = .ok (.goto 838, 3) := by decide +kernel
theorem dL_law_1449 : decode cL_law 1449 = .ok (.aload_n 1, 1) := by decide +kernel
theorem dL_law_1450 : decode cL_law 1450 = .ok (.aload_n 0, 1) := by decide +kernel
theorem dL_law_1451 : decode cL_law 1451 = .ok (.iload 5, 2) := by decide +kernel
theorem dL_law_1453 : decode cL_law 1453 = .ok (.iconst 1, 1) := by decide +kernel
theorem dL_law_1454 : decode cL_law 1454 = .ok (.iadd, 1) := by decide +kernel
theorem dL_law_1455 : decode cL_law 1455 = .ok (.iaload, 1) := by decide +kernel
theorem dL_law_1456 : decode cL_law 1456 = .ok (.aload_n 3, 1) := by decide +kernel
theorem dL_law_1457 : decode cL_law 1457 = .ok (.invokestatic 198, 3) := by decide +kernel
theorem dL_law_1460 : decode cL_law 1460 = .ok (.istore 6, 2) := by decide +kernel
theorem dL_law_1462 : decode cL_law 1462 = .ok (.aload_n 2, 1) := by decide +kernel
theorem dL_law_1463 : decode cL_law 1463 = .ok (.aload_n 0, 1) := by decide +kernel
theorem dL_law_1464 : decode cL_law 1464 = .ok (.iload 5, 2) := by decide +kernel
theorem dL_law_1466 : decode cL_law 1466 = .ok (.iconst 1, 1) := by decide +kernel
theorem dL_law_1467 : decode cL_law 1467 = .ok (.iadd, 1) := by decide +kernel
theorem dL_law_1468 : decode cL_law 1468 = .ok (.iaload, 1) := by decide +kernel
theorem dL_law_1469 : decode cL_law 1469 = .ok (.invokevirtual 200, 3) := by decide +kernel
theorem dL_law_1472 : decode cL_law 1472 = .ok (.istore 7, 2) := by decide +kernel
theorem dL_law_1474 : decode cL_law 1474 = .ok (.aload_n 2, 1) := by decide +kernel
theorem dL_law_1475 : decode cL_law 1475 = .ok (.invokevirtual 131, 3) := by decide +kernel
theorem dL_law_1478 : decode cL_law 1478 = .ok (.iload 6, 2) := by decide +kernel
theorem dL_law_1480 : decode cL_law 1480 = .ok (.if_icmp .eq 5, 3) := by decide +kernel
theorem dL_law_1483 : decode cL_law 1483 = .ok (.iconst 0, 1) := by decide +kernel
theorem dL_law_1484 : decode cL_law 1484 = .ok (.ireturn, 1) := by decide +kernel
theorem dL_law_1485 : decode cL_law 1485 = .ok (.iload 6, 2) := by decide +kernel
theorem dL_law_1487 : decode cL_law 1487 = .ok (.ifCond .ne 15, 3) := by decide +kernel
theorem dL_law_1490 : decode cL_law 1490 = .ok (.aload_n 3, 1) := by decide +kernel
theorem dL_law_1491 : decode cL_law 1491 = .ok (.iconst 0, 1) := by decide +kernel
theorem dL_law_1492 : decode cL_law 1492 = .ok (.laload, 1) := by decide +kernel
theorem dL_law_1493 : decode cL_law 1493 = .ok (.iload 7, 2) := by decide +kernel
theorem dL_law_1495 : decode cL_law 1495 = .ok (.i2l, 1) := by decide +kernel
theorem dL_law_1496 : decode cL_law 1496 = .ok (.lcmp, 1) := by decide +kernel
theorem dL_law_1497 : decode cL_law 1497 = .ok (.ifCond .eq 5, 3) := by decide +kernel
theorem dL_law_1500 : decode cL_law 1500 = .ok (.iconst 0, 1) := by decide +kernel
theorem dL_law_1501 : decode cL_law 1501 = .ok (.ireturn, 1) := by decide +kernel
theorem dL_law_1502 : decode cL_law 1502 = .ok (.goto 782, 3) := by decide +kernel
theorem dL_law_1505 : decode cL_law 1505 = .ok (.aload_n 1, 1) := by decide +kernel
theorem dL_law_1506 : decode cL_law 1506 = .ok (.aload_n 0, 1) := by decide +kernel
theorem dL_law_1507 : decode cL_law 1507 = .ok (.iload 5, 2) := by decide +kernel
theorem dL_law_1509 : decode cL_law 1509 = .ok (.iconst 1, 1) := by decide +kernel
theorem dL_law_1510 : decode cL_law 1510 = .ok (.iadd, 1) := by decide +kernel
theorem dL_law_1511 : decode cL_law 1511 = .ok (.iaload, 1) := by decide +kernel
theorem dL_law_1512 : decode cL_law 1512 = .ok (.aload_n 3, 1) := by decide +kernel
theorem dL_law_1513 : decode cL_law 1513 = .ok (.invokestatic 201, 3) := by decide +kernel
theorem dL_law_1516 : decode cL_law 1516 = .ok (.istore 6, 2) := by decide +kernel
theorem dL_law_1518 : decode cL_law 1518 = .ok (.aload_n 2, 1) := by decide +kernel
theorem dL_law_1519 : decode cL_law 1519 = .ok (.aload_n 0, 1) := by decide +kernel
theorem dL_law_1520 : decode cL_law 1520 = .ok (.iload 5, 2) := by decide +kernel
theorem dL_law_1522 : decode cL_law 1522 = .ok (.iconst 1, 1) := by decide +kernel
theorem dL_law_1523 : decode cL_law 1523 = .ok (.iadd, 1) := by decide +kernel
theorem dL_law_1524 : decode cL_law 1524 = .ok (.iaload, 1) := by decide +kernel
theorem dL_law_1525 : decode cL_law 1525 = .ok (.invokevirtual 203, 3) := by decide +kernel
theorem dL_law_1528 : decode cL_law 1528 = .ok (.istore 7, 2) := by decide +kernel
theorem dL_law_1530 : decode cL_law 1530 = .ok (.aload_n 2, 1) := by decide +kernel
theorem dL_law_1531 : decode cL_law 1531 = .ok (.invokevirtual 131, 3) := by decide +kernel
theorem dL_law_1534 : decode cL_law 1534 = .ok (.iload 6, 2) := by decide +kernel
theorem dL_law_1536 : decode cL_law 1536 = .ok (.if_icmp .eq 5, 3) := by decide +kernel
theorem dL_law_1539 : decode cL_law 1539 = .ok (.iconst 0, 1) := by decide +kernel
theorem dL_law_1540 : decode cL_law 1540 = .ok (.ireturn, 1) := by decide +kernel
theorem dL_law_1541 : decode cL_law 1541 = .ok (.iload 6, 2) := by decide +kernel
theorem dL_law_1543 : decode cL_law 1543 = .ok (.ifCond .ne 15, 3) := by decide +kernel
theorem dL_law_1546 : decode cL_law 1546 = .ok (.aload_n 3, 1) := by decide +kernel
theorem dL_law_1547 : decode cL_law 1547 = .ok (.iconst 0, 1) := by decide +kernel
theorem dL_law_1548 : decode cL_law 1548 = .ok (.laload, 1) := by decide +kernel
theorem dL_law_1549 : decode cL_law 1549 = .ok (.iload 7, 2) := by decide +kernel
theorem dL_law_1551 : decode cL_law 1551 = .ok (.i2l, 1) := by decide +kernel
theorem dL_law_1552 : decode cL_law 1552 = .ok (.lcmp, 1) := by decide +kernel
theorem dL_law_1553 : decode cL_law 1553 = .ok (.ifCond .eq 5, 3) := by decide +kernel
theorem dL_law_1556 : decode cL_law 1556 = .ok (.iconst 0, 1) := by decide +kernel
theorem dL_law_1557 : decode cL_law 1557 = .ok (.ireturn, 1) := by decide +kernel
theorem dL_law_1558 : decode cL_law 1558 = .ok (.goto 726, 3) := by decide +kernel
theorem dL_law_1561 : decode cL_law 1561 = .ok (.aload_n 1, 1) := by decide +kernel
theorem dL_law_1562 : decode cL_law 1562 = .ok (.aload_n 0, 1) := by decide +kernel
theorem dL_law_1563 : decode cL_law 1563 = .ok (.iload 5, 2) := by decide +kernel
theorem dL_law_1565 : decode cL_law 1565 = .ok (.iconst 1, 1) := by decide +kernel
theorem dL_law_1566 : decode cL_law 1566 = .ok (.iadd, 1) := by decide +kernel
theorem dL_law_1567 : decode cL_law 1567 = .ok (.iaload, 1) := by decide +kernel
theorem dL_law_1568 : decode cL_law 1568 = .ok (.aload_n 0, 1) := by decide +kernel
theorem dL_law_1569 : decode cL_law 1569 = .ok (.iload 5, 2) := by decide +kernel
theorem dL_law_1571 : decode cL_law 1571 = .ok (.iconst 2, 1) := by decide +kernel
theorem dL_law_1572 : decode cL_law 1572 = .ok (.iadd, 1) := by decide +kernel
theorem dL_law_1573 : decode cL_law 1573 = .ok (.iaload, 1) := by decide +kernel
theorem dL_law_1574 : decode cL_law 1574 = .ok (.aload_n 3, 1) := by decide +kernel
theorem dL_law_1575 : decode cL_law 1575 = .ok (.invokestatic 204, 3) := by decide +kernel
theorem dL_law_1578 : decode cL_law 1578 = .ok (.istore 6, 2) := by decide +kernel
theorem dL_law_1580 : decode cL_law 1580 = .ok (.aload_n 2, 1) := by decide +kernel
theorem dL_law_1581 : decode cL_law 1581 = .ok (.aload_n 0, 1) := by decide +kernel
theorem dL_law_1582 : decode cL_law 1582 = .ok (.iload 5, 2) := by decide +kernel
theorem dL_law_1584 : decode cL_law 1584 = .ok (.iconst 1, 1) := by decide +kernel
theorem dL_law_1585 : decode cL_law 1585 = .ok (.iadd, 1) := by decide +kernel
theorem dL_law_1586 : decode cL_law 1586 = .ok (.iaload, 1) := by decide +kernel
theorem dL_law_1587 : decode cL_law 1587 = .ok (.aload_n 0, 1) := by decide +kernel
theorem dL_law_1588 : decode cL_law 1588 = .ok (.iload 5, 2) := by decide +kernel
theorem dL_law_1590 : decode cL_law 1590 = .ok (.iconst 2, 1) := by decide +kernel
theorem dL_law_1591 : decode cL_law 1591 = .ok (.iadd, 1) := by decide +kernel
theorem dL_law_1592 : decode cL_law 1592 = .ok (.iaload, 1) := by decide +kernel
theorem dL_law_1593 : decode cL_law 1593 = .ok (.invokevirtual 206, 3) := by decide +kernel
theorem dL_law_1596 : decode cL_law 1596 = .ok (.istore 7, 2) := by decide +kernel
theorem dL_law_1598 : decode cL_law 1598 = .ok (.aload_n 2, 1) := by decide +kernel
theorem dL_law_1599 : decode cL_law 1599 = .ok (.invokevirtual 131, 3) := by decide +kernel
theorem dL_law_1602 : decode cL_law 1602 = .ok (.iload 6, 2) := by decide +kernel
theorem dL_law_1604 : decode cL_law 1604 = .ok (.if_icmp .eq 5, 3) := by decide +kernel
theorem dL_law_1607 : decode cL_law 1607 = .ok (.iconst 0, 1) := by decide +kernel
theorem dL_law_1608 : decode cL_law 1608 = .ok (.ireturn, 1) := by decide +kernel
theorem dL_law_1609 : decode cL_law 1609 = .ok (.iload 6, 2) := by decide +kernel
theorem dL_law_1611 : decode cL_law 1611 = .ok (.ifCond .ne 15, 3) := by decide +kernel
theorem dL_law_1614 : decode cL_law 1614 = .ok (.aload_n 3, 1) := by decide +kernel
theorem dL_law_1615 : decode cL_law 1615 = .ok (.iconst 0, 1) := by decide +kernel
theorem dL_law_1616 : decode cL_law 1616 = .ok (.laload, 1) := by decide +kernel
theorem dL_law_1617 : decode cL_law 1617 = .ok (.iload 7, 2) := by decide +kernel
theorem dL_law_1619 : decode cL_law 1619 = .ok (.i2l, 1) := by decide +kernel
theorem dL_law_1620 : decode cL_law 1620 = .ok (.lcmp, 1) := by decide +kernel
theorem dL_law_1621 : decode cL_law 1621 = .ok (.ifCond .eq 5, 3) := by decide +kernel
theorem dL_law_1624 : decode cL_law 1624 = .ok (.iconst 0, 1) := by decide +kernel
theorem dL_law_1625 : decode cL_law 1625 = .ok (.ireturn, 1) := by decide +kernel
theorem dL_law_1626 : decode cL_law 1626 = .ok (.goto 658, 3) := by decide +kernel
theorem dL_law_1629 : decode cL_law 1629 = .ok (.aload_n 1, 1) := by decide +kernel
theorem dL_law_1630 : decode cL_law 1630 = .ok (.aload_n 0, 1) := by decide +kernel
theorem dL_law_1631 : decode cL_law 1631 = .ok (.iload 5, 2) := by decide +kernel
theorem dL_law_1633 : decode cL_law 1633 = .ok (.iconst 1, 1) := by decide +kernel
theorem dL_law_1634 : decode cL_law 1634 = .ok (.iadd, 1) := by decide +kernel
theorem dL_law_1635 : decode cL_law 1635 = .ok (.iaload, 1) := by decide +kernel
theorem dL_law_1636 : decode cL_law 1636 = .ok (.aload_n 3, 1) := by decide +kernel
theorem dL_law_1637 : decode cL_law 1637 = .ok (.invokestatic 207, 3) := by decide +kernel
theorem dL_law_1640 : decode cL_law 1640 = .ok (.istore 6, 2) := by decide +kernel
theorem dL_law_1642 : decode cL_law 1642 = .ok (.aload_n 2, 1) := by decide +kernel
theorem dL_law_1643 : decode cL_law 1643 = .ok (.aload_n 0, 1) := by decide +kernel
theorem dL_law_1644 : decode cL_law 1644 = .ok (.iload 5, 2) := by decide +kernel
theorem dL_law_1646 : decode cL_law 1646 = .ok (.iconst 1, 1) := by decide +kernel
theorem dL_law_1647 : decode cL_law 1647 = .ok (.iadd, 1) := by decide +kernel
theorem dL_law_1648 : decode cL_law 1648 = .ok (.iaload, 1) := by decide +kernel
theorem dL_law_1649 : decode cL_law 1649 = .ok (.invokevirtual 209, 3) := by decide +kernel
theorem dL_law_1652 : decode cL_law 1652 = .ok (.istore 7, 2) := by decide +kernel
theorem dL_law_1654 : decode cL_law 1654 = .ok (.aload_n 2, 1) := by decide +kernel
theorem dL_law_1655 : decode cL_law 1655 = .ok (.invokevirtual 131, 3) := by decide +kernel
theorem dL_law_1658 : decode cL_law 1658 = .ok (.iload 6, 2) := by decide +kernel
theorem dL_law_1660 : decode cL_law 1660 = .ok (.if_icmp .eq 5, 3) := by decide +kernel
theorem dL_law_1663 : decode cL_law 1663 = .ok (.iconst 0, 1) := by decide +kernel
theorem dL_law_1664 : decode cL_law 1664 = .ok (.ireturn, 1) := by decide +kernel
theorem dL_law_1665 : decode cL_law 1665 = .ok (.iload 6, 2) := by decide +kernel
theorem dL_law_1667 : decode cL_law 1667 = .ok (.ifCond .ne 15, 3) := by decide +kernel
theorem dL_law_1670 : decode cL_law 1670 = .ok (.aload_n 3, 1) := by decide +kernel
theorem dL_law_1671 : decode cL_law 1671 = .ok (.iconst 0, 1) := by decide +kernel
theorem dL_law_1672 : decode cL_law 1672 = .ok (.laload, 1) := by decide +kernel
theorem dL_law_1673 : decode cL_law 1673 = .ok (.iload 7, 2) := by decide +kernel
theorem dL_law_1675 : decode cL_law 1675 = .ok (.i2l, 1) := by decide +kernel
theorem dL_law_1676 : decode cL_law 1676 = .ok (.lcmp, 1) := by decide +kernel
theorem dL_law_1677 : decode cL_law 1677 = .ok (.ifCond .eq 5, 3) := by decide +kernel
theorem dL_law_1680 : decode cL_law 1680 = .ok (.iconst 0, 1) := by decide +kernel
theorem dL_law_1681 : decode cL_law 1681 = .ok (.ireturn, 1) := by decide +kernel
theorem dL_law_1682 : decode cL_law 1682 = .ok (.goto 602, 3) := by decide +kernel
theorem dL_law_1685 : decode cL_law 1685 = .ok (.aload_n 1, 1) := by decide +kernel
theorem dL_law_1686 : decode cL_law 1686 = .ok (.aload_n 0, 1) := by decide +kernel
theorem dL_law_1687 : decode cL_law 1687 = .ok (.iload 5, 2) := by decide +kernel
theorem dL_law_1689 : decode cL_law 1689 = .ok (.iconst 1, 1) := by decide +kernel
theorem dL_law_1690 : decode cL_law 1690 = .ok (.iadd, 1) := by decide +kernel
theorem dL_law_1691 : decode cL_law 1691 = .ok (.iaload, 1) := by decide +kernel
theorem dL_law_1692 : decode cL_law 1692 = .ok (.aload_n 3, 1) := by decide +kernel
theorem dL_law_1693 : decode cL_law 1693 = .ok (.invokestatic 210, 3) := by decide +kernel
theorem dL_law_1696 : decode cL_law 1696 = .ok (.istore 6, 2) := by decide +kernel
theorem dL_law_1698 : decode cL_law 1698 = .ok (.aload_n 2, 1) := by decide +kernel
theorem dL_law_1699 : decode cL_law 1699 = .ok (.aload_n 0, 1) := by decide +kernel
theorem dL_law_1700 : decode cL_law 1700 = .ok (.iload 5, 2) := by decide +kernel
theorem dL_law_1702 : decode cL_law 1702 = .ok (.iconst 1, 1) := by decide +kernel
theorem dL_law_1703 : decode cL_law 1703 = .ok (.iadd, 1) := by decide +kernel
theorem dL_law_1704 : decode cL_law 1704 = .ok (.iaload, 1) := by decide +kernel
theorem dL_law_1705 : decode cL_law 1705 = .ok (.invokevirtual 212, 3) := by decide +kernel
theorem dL_law_1708 : decode cL_law 1708 = .ok (.istore 7, 2) := by decide +kernel
theorem dL_law_1710 : decode cL_law 1710 = .ok (.aload_n 2, 1) := by decide +kernel
theorem dL_law_1711 : decode cL_law 1711 = .ok (.invokevirtual 131, 3) := by decide +kernel
theorem dL_law_1714 : decode cL_law 1714 = .ok (.iload 6, 2) := by decide +kernel
theorem dL_law_1716 : decode cL_law 1716 = .ok (.if_icmp .eq 5, 3) := by decide +kernel
theorem dL_law_1719 : decode cL_law 1719 = .ok (.iconst 0, 1) := by decide +kernel
theorem dL_law_1720 : decode cL_law 1720 = .ok (.ireturn, 1) := by decide +kernel
theorem dL_law_1721 : decode cL_law 1721 = .ok (.iload 6, 2) := by decide +kernel
theorem dL_law_1723 : decode cL_law 1723 = .ok (.ifCond .ne 15, 3) := by decide +kernel
theorem dL_law_1726 : decode cL_law 1726 = .ok (.aload_n 3, 1) := by decide +kernel
theorem dL_law_1727 : decode cL_law 1727 = .ok (.iconst 0, 1) := by decide +kernel
theorem dL_law_1728 : decode cL_law 1728 = .ok (.laload, 1) := by decide +kernel
theorem dL_law_1729 : decode cL_law 1729 = .ok (.iload 7, 2) := by decide +kernel
theorem dL_law_1731 : decode cL_law 1731 = .ok (.i2l, 1) := by decide +kernel
theorem dL_law_1732 : decode cL_law 1732 = .ok (.lcmp, 1) := by decide +kernel
theorem dL_law_1733 : decode cL_law 1733 = .ok (.ifCond .eq 5, 3) := by decide +kernel
theorem dL_law_1736 : decode cL_law 1736 = .ok (.iconst 0, 1) := by decide +kernel
theorem dL_law_1737 : decode cL_law 1737 = .ok (.ireturn, 1) := by decide +kernel
theorem dL_law_1738 : decode cL_law 1738 = .ok (.goto 546, 3) := by decide +kernel
theorem dL_law_1741 : decode cL_law 1741 = .ok (.aload_n 1, 1) := by decide +kernel
theorem dL_law_1742 : decode cL_law 1742 = .ok (.aload_n 0, 1) := by decide +kernel
theorem dL_law_1743 : decode cL_law 1743 = .ok (.iload 5, 2) := by decide +kernel
theorem dL_law_1745 : decode cL_law 1745 = .ok (.iconst 1, 1) := by decide +kernel
theorem dL_law_1746 : decode cL_law 1746 = .ok (.iadd, 1) := by decide +kernel
theorem dL_law_1747 : decode cL_law 1747 = .ok (.iaload, 1) := by decide +kernel
theorem dL_law_1748 : decode cL_law 1748 = .ok (.aload_n 3, 1) := by decide +kernel
theorem dL_law_1749 : decode cL_law 1749 = .ok (.invokestatic 213, 3) := by decide +kernel
theorem dL_law_1752 : decode cL_law 1752 = .ok (.istore 6, 2) := by decide +kernel
theorem dL_law_1754 : decode cL_law 1754 = .ok (.aload_n 2, 1) := by decide +kernel
theorem dL_law_1755 : decode cL_law 1755 = .ok (.aload_n 0, 1) := by decide +kernel
theorem dL_law_1756 : decode cL_law 1756 = .ok (.iload 5, 2) := by decide +kernel
theorem dL_law_1758 : decode cL_law 1758 = .ok (.iconst 1, 1) := by decide +kernel
theorem dL_law_1759 : decode cL_law 1759 = .ok (.iadd, 1) := by decide +kernel
theorem dL_law_1760 : decode cL_law 1760 = .ok (.iaload, 1) := by decide +kernel
theorem dL_law_1761 : decode cL_law 1761 = .ok (.invokevirtual 215, 3) := by decide +kernel
theorem dL_law_1764 : decode cL_law 1764 = .ok (.istore 7, 2) := by decide +kernel
theorem dL_law_1766 : decode cL_law 1766 = .ok (.aload_n 2, 1) := by decide +kernel
theorem dL_law_1767 : decode cL_law 1767 = .ok (.invokevirtual 131, 3) := by decide +kernel
theorem dL_law_1770 : decode cL_law 1770 = .ok (.iload 6, 2) := by decide +kernel
theorem dL_law_1772 : decode cL_law 1772 = .ok (.if_icmp .eq 5, 3) := by decide +kernel
theorem dL_law_1775 : decode cL_law 1775 = .ok (.iconst 0, 1) := by decide +kernel
theorem dL_law_1776 : decode cL_law 1776 = .ok (.ireturn, 1) := by decide +kernel
theorem dL_law_1777 : decode cL_law 1777 = .ok (.iload 6, 2) := by decide +kernel
theorem dL_law_1779 : decode cL_law 1779 = .ok (.ifCond .ne 15, 3) := by decide +kernel
theorem dL_law_1782 : decode cL_law 1782 = .ok (.aload_n 3, 1) := by decide +kernel
theorem dL_law_1783 : decode cL_law 1783 = .ok (.iconst 0, 1) := by decide +kernel
theorem dL_law_1784 : decode cL_law 1784 = .ok (.laload, 1) := by decide +kernel
theorem dL_law_1785 : decode cL_law 1785 = .ok (.iload 7, 2) := by decide +kernel
theorem dL_law_1787 : decode cL_law 1787 = .ok (.i2l, 1) := by decide +kernel
theorem dL_law_1788 : decode cL_law 1788 = .ok (.lcmp, 1) := by decide +kernel
theorem dL_law_1789 : decode cL_law 1789 = .ok (.ifCond .eq 5, 3) := by decide +kernel
theorem dL_law_1792 : decode cL_law 1792 = .ok (.iconst 0, 1) := by decide +kernel
theorem dL_law_1793 : decode cL_law 1793 = .ok (.ireturn, 1) := by decide +kernel
theorem dL_law_1794 : decode cL_law 1794 = .ok (.goto 490, 3) := by decide +kernel
theorem dL_law_1797 : decode cL_law 1797 = .ok (.aload_n 1, 1) := by decide +kernel
theorem dL_law_1798 : decode cL_law 1798 = .ok (.aload_n 0, 1) := by decide +kernel
theorem dL_law_1799 : decode cL_law 1799 = .ok (.iload 5, 2) := by decide +kernel
theorem dL_law_1801 : decode cL_law 1801 = .ok (.iconst 1, 1) := by decide +kernel
theorem dL_law_1802 : decode cL_law 1802 = .ok (.iadd, 1) := by decide +kernel
theorem dL_law_1803 : decode cL_law 1803 = .ok (.iaload, 1) := by decide +kernel
theorem dL_law_1804 : decode cL_law 1804 = .ok (.aload_n 3, 1) := by decide +kernel
theorem dL_law_1805 : decode cL_law 1805 = .ok (.invokestatic 216, 3) := by decide +kernel
theorem dL_law_1808 : decode cL_law 1808 = .ok (.istore 6, 2) := by decide +kernel
theorem dL_law_1810 : decode cL_law 1810 = .ok (.aload_n 2, 1) := by decide +kernel
theorem dL_law_1811 : decode cL_law 1811 = .ok (.aload_n 0, 1) := by decide +kernel
theorem dL_law_1812 : decode cL_law 1812 = .ok (.iload 5, 2) := by decide +kernel
theorem dL_law_1814 : decode cL_law 1814 = .ok (.iconst 1, 1) := by decide +kernel
theorem dL_law_1815 : decode cL_law 1815 = .ok (.iadd, 1) := by decide +kernel
theorem dL_law_1816 : decode cL_law 1816 = .ok (.iaload, 1) := by decide +kernel
theorem dL_law_1817 : decode cL_law 1817 = .ok (.invokevirtual 218, 3) := by decide +kernel
theorem dL_law_1820 : decode cL_law 1820 = .ok (.istore 7, 2) := by decide +kernel
theorem dL_law_1822 : decode cL_law 1822 = .ok (.aload_n 2, 1) := by decide +kernel
theorem dL_law_1823 : decode cL_law 1823 = .ok (.invokevirtual 131, 3) := by decide +kernel
theorem dL_law_1826 : decode cL_law 1826 = .ok (.iload 6, 2) := by decide +kernel
theorem dL_law_1828 : decode cL_law 1828 = .ok (.if_icmp .eq 5, 3) := by decide +kernel
theorem dL_law_1831 : decode cL_law 1831 = .ok (.iconst 0, 1) := by decide +kernel
theorem dL_law_1832 : decode cL_law 1832 = .ok (.ireturn, 1) := by decide +kernel
theorem dL_law_1833 : decode cL_law 1833 = .ok (.iload 6, 2) := by decide +kernel
theorem dL_law_1835 : decode cL_law 1835 = .ok (.ifCond .ne 15, 3) := by decide +kernel
theorem dL_law_1838 : decode cL_law 1838 = .ok (.aload_n 3, 1) := by decide +kernel
theorem dL_law_1839 : decode cL_law 1839 = .ok (.iconst 0, 1) := by decide +kernel
theorem dL_law_1840 : decode cL_law 1840 = .ok (.laload, 1) := by decide +kernel
theorem dL_law_1841 : decode cL_law 1841 = .ok (.iload 7, 2) := by decide +kernel
theorem dL_law_1843 : decode cL_law 1843 = .ok (.i2l, 1) := by decide +kernel
theorem dL_law_1844 : decode cL_law 1844 = .ok (.lcmp, 1) := by decide +kernel
theorem dL_law_1845 : decode cL_law 1845 = .ok (.ifCond .eq 5, 3) := by decide +kernel
theorem dL_law_1848 : decode cL_law 1848 = .ok (.iconst 0, 1) := by decide +kernel
theorem dL_law_1849 : decode cL_law 1849 = .ok (.ireturn, 1) := by decide +kernel
theorem dL_law_1850 : decode cL_law 1850 = .ok (.goto 434, 3) := by decide +kernel
theorem dL_law_1853 : decode cL_law 1853 = .ok (.aload_n 1, 1) := by decide +kernel
theorem dL_law_1854 : decode cL_law 1854 = .ok (.aload_n 0, 1) := by decide +kernel
theorem dL_law_1855 : decode cL_law 1855 = .ok (.iload 5, 2) := by decide +kernel
theorem dL_law_1857 : decode cL_law 1857 = .ok (.iconst 1, 1) := by decide +kernel
theorem dL_law_1858 : decode cL_law 1858 = .ok (.iadd, 1) := by decide +kernel
theorem dL_law_1859 : decode cL_law 1859 = .ok (.iaload, 1) := by decide +kernel
theorem dL_law_1860 : decode cL_law 1860 = .ok (.aload_n 0, 1) := by decide +kernel
theorem dL_law_1861 : decode cL_law 1861 = .ok (.iload 5, 2) := by decide +kernel
theorem dL_law_1863 : decode cL_law 1863 = .ok (.iconst 2, 1) := by decide +kernel
theorem dL_law_1864 : decode cL_law 1864 = .ok (.iadd, 1) := by decide +kernel
theorem dL_law_1865 : decode cL_law 1865 = .ok (.iaload, 1) := by decide +kernel
theorem dL_law_1866 : decode cL_law 1866 = .ok (.aload_n 3, 1) := by decide +kernel
theorem dL_law_1867 : decode cL_law 1867 = .ok (.invokestatic 219, 3) := by decide +kernel
theorem dL_law_1870 : decode cL_law 1870 = .ok (.istore 6, 2) := by decide +kernel
theorem dL_law_1872 : decode cL_law 1872 = .ok (.aload_n 2, 1) := by decide +kernel
theorem dL_law_1873 : decode cL_law 1873 = .ok (.aload_n 0, 1) := by decide +kernel
theorem dL_law_1874 : decode cL_law 1874 = .ok (.iload 5, 2) := by decide +kernel
theorem dL_law_1876 : decode cL_law 1876 = .ok (.iconst 1, 1) := by decide +kernel
theorem dL_law_1877 : decode cL_law 1877 = .ok (.iadd, 1) := by decide +kernel
theorem dL_law_1878 : decode cL_law 1878 = .ok (.iaload, 1) := by decide +kernel
theorem dL_law_1879 : decode cL_law 1879 = .ok (.aload_n 0, 1) := by decide +kernel
theorem dL_law_1880 : decode cL_law 1880 = .ok (.iload 5, 2) := by decide +kernel
theorem dL_law_1882 : decode cL_law 1882 = .ok (.iconst 2, 1) := by decide +kernel
theorem dL_law_1883 : decode cL_law 1883 = .ok (.iadd, 1) := by decide +kernel
theorem dL_law_1884 : decode cL_law 1884 = .ok (.iaload, 1) := by decide +kernel
theorem dL_law_1885 : decode cL_law 1885 = .ok (.invokevirtual 221, 3) := by decide +kernel
theorem dL_law_1888 : decode cL_law 1888 = .ok (.istore 7, 2) := by decide +kernel
theorem dL_law_1890 : decode cL_law 1890 = .ok (.aload_n 2, 1) := by decide +kernel
theorem dL_law_1891 : decode cL_law 1891 = .ok (.invokevirtual 131, 3) := by decide +kernel
theorem dL_law_1894 : decode cL_law 1894 = .ok (.iload 6, 2) := by decide +kernel
theorem dL_law_1896 : decode cL_law 1896 = .ok (.if_icmp .eq 5, 3) := by decide +kernel
theorem dL_law_1899 : decode cL_law 1899 = .ok (.iconst 0, 1) := by decide +kernel
theorem dL_law_1900 : decode cL_law 1900 = .ok (.ireturn, 1) := by decide +kernel
theorem dL_law_1901 : decode cL_law 1901 = .ok (.iload 6, 2) := by decide +kernel
theorem dL_law_1903 : decode cL_law 1903 = .ok (.ifCond .ne 15, 3) := by decide +kernel
theorem dL_law_1906 : decode cL_law 1906 = .ok (.aload_n 3, 1) := by decide +kernel
theorem dL_law_1907 : decode cL_law 1907 = .ok (.iconst 0, 1) := by decide +kernel
theorem dL_law_1908 : decode cL_law 1908 = .ok (.laload, 1) := by decide +kernel
theorem dL_law_1909 : decode cL_law 1909 = .ok (.iload 7, 2) := by decide +kernel
theorem dL_law_1911 : decode cL_law 1911 = .ok (.i2l, 1) := by decide +kernel
theorem dL_law_1912 : decode cL_law 1912 = .ok (.lcmp, 1) := by decide +kernel
theorem dL_law_1913 : decode cL_law 1913 = .ok (.ifCond .eq 5, 3) := by decide +kernel
theorem dL_law_1916 : decode cL_law 1916 = .ok (.iconst 0, 1) := by decide +kernel
theorem dL_law_1917 : decode cL_law 1917 = .ok (.ireturn, 1) := by decide +kernel
theorem dL_law_1918 : decode cL_law 1918 = .ok (.goto 366, 3) := by decide +kernel
theorem dL_law_1921 : decode cL_law 1921 = .ok (.aload_n 1, 1) := by decide +kernel
theorem dL_law_1922 : decode cL_law 1922 = .ok (.aload_n 0, 1) := by decide +kernel
theorem dL_law_1923 : decode cL_law 1923 = .ok (.iload 5, 2) := by decide +kernel
theorem dL_law_1925 : decode cL_law 1925 = .ok (.iconst 1, 1) := by decide +kernel
theorem dL_law_1926 : decode cL_law 1926 = .ok (.iadd, 1) := by decide +kernel
theorem dL_law_1927 : decode cL_law 1927 = .ok (.iaload, 1) := by decide +kernel
theorem dL_law_1928 : decode cL_law 1928 = .ok (.aload_n 0, 1) := by decide +kernel
theorem dL_law_1929 : decode cL_law 1929 = .ok (.iload 5, 2) := by decide +kernel
theorem dL_law_1931 : decode cL_law 1931 = .ok (.iconst 2, 1) := by decide +kernel
theorem dL_law_1932 : decode cL_law 1932 = .ok (.iadd, 1) := by decide +kernel
theorem dL_law_1933 : decode cL_law 1933 = .ok (.iaload, 1) := by decide +kernel
theorem dL_law_1934 : decode cL_law 1934 = .ok (.aload_n 3, 1) := by decide +kernel
theorem dL_law_1935 : decode cL_law 1935 = .ok (.invokestatic 222, 3) := by decide +kernel
theorem dL_law_1938 : decode cL_law 1938 = .ok (.istore 6, 2) := by decide +kernel
theorem dL_law_1940 : decode cL_law 1940 = .ok (.aload_n 2, 1) := by decide +kernel
theorem dL_law_1941 : decode cL_law 1941 = .ok (.aload_n 0, 1) := by decide +kernel
theorem dL_law_1942 : decode cL_law 1942 = .ok (.iload 5, 2) := by decide +kernel
theorem dL_law_1944 : decode cL_law 1944 = .ok (.iconst 1, 1) := by decide +kernel
theorem dL_law_1945 : decode cL_law 1945 = .ok (.iadd, 1) := by decide +kernel
theorem dL_law_1946 : decode cL_law 1946 = .ok (.iaload, 1) := by decide +kernel
theorem dL_law_1947 : decode cL_law 1947 = .ok (.aload_n 0, 1) := by decide +kernel
theorem dL_law_1948 : decode cL_law 1948 = .ok (.iload 5, 2) := by decide +kernel
theorem dL_law_1950 : decode cL_law 1950 = .ok (.iconst 2, 1) := by decide +kernel
theorem dL_law_1951 : decode cL_law 1951 = .ok (.iadd, 1) := by decide +kernel
theorem dL_law_1952 : decode cL_law 1952 = .ok (.iaload, 1) := by decide +kernel
theorem dL_law_1953 : decode cL_law 1953 = .ok (.invokevirtual 224, 3) := by decide +kernel
theorem dL_law_1956 : decode cL_law 1956 = .ok (.istore 7, 2) := by decide +kernel
theorem dL_law_1958 : decode cL_law 1958 = .ok (.aload_n 2, 1) := by decide +kernel
theorem dL_law_1959 : decode cL_law 1959 = .ok (.invokevirtual 131, 3) := by decide +kernel
theorem dL_law_1962 : decode cL_law 1962 = .ok (.iload 6, 2) := by decide +kernel
theorem dL_law_1964 : decode cL_law 1964 = .ok (.if_icmp .eq 5, 3) := by decide +kernel
theorem dL_law_1967 : decode cL_law 1967 = .ok (.iconst 0, 1) := by decide +kernel
theorem dL_law_1968 : decode cL_law 1968 = .ok (.ireturn, 1) := by decide +kernel
theorem dL_law_1969 : decode cL_law 1969 = .ok (.iload 6, 2) := by decide +kernel
theorem dL_law_1971 : decode cL_law 1971 = .ok (.ifCond .ne 15, 3) := by decide +kernel
theorem dL_law_1974 : decode cL_law 1974 = .ok (.aload_n 3, 1) := by decide +kernel
theorem dL_law_1975 : decode cL_law 1975 = .ok (.iconst 0, 1) := by decide +kernel
theorem dL_law_1976 : decode cL_law 1976 = .ok (.laload, 1) := by decide +kernel
theorem dL_law_1977 : decode cL_law 1977 = .ok (.iload 7, 2) := by decide +kernel
theorem dL_law_1979 : decode cL_law 1979 = .ok (.i2l, 1) := by decide +kernel
theorem dL_law_1980 : decode cL_law 1980 = .ok (.lcmp, 1) := by decide +kernel
theorem dL_law_1981 : decode cL_law 1981 = .ok (.ifCond .eq 5, 3) := by decide +kernel
theorem dL_law_1984 : decode cL_law 1984 = .ok (.iconst 0, 1) := by decide +kernel
theorem dL_law_1985 : decode cL_law 1985 = .ok (.ireturn, 1) := by decide +kernel
theorem dL_law_1986 : decode cL_law 1986 = .ok (.goto 298, 3) := by decide +kernel
theorem dL_law_1989 : decode cL_law 1989 = .ok (.aload_n 1, 1) := by decide +kernel
theorem dL_law_1990 : decode cL_law 1990 = .ok (.invokevirtual 225, 3) := by decide +kernel
theorem dL_law_1993 : decode cL_law 1993 = .ok (.aload_n 2, 1) := by decide +kernel
theorem dL_law_1994 : decode cL_law 1994 = .ok (.invokevirtual 228, 3) := by decide +kernel
theorem dL_law_1997 : decode cL_law 1997 = .ok (.if_icmp .eq 287, 3) := by decide +kernel
theorem dL_law_2000 : decode cL_law 2000 = .ok (.iconst 0, 1) := by decide +kernel
theorem dL_law_2001 : decode cL_law 2001 = .ok (.ireturn, 1) := by decide +kernel
theorem dL_law_2002 : decode cL_law 2002 = .ok (.aload_n 1, 1) := by decide +kernel
theorem dL_law_2003 : decode cL_law 2003 = .ok (.invokevirtual 229, 3) := by decide +kernel
theorem dL_law_2006 : decode cL_law 2006 = .ok (.aload_n 2, 1) := by decide +kernel
theorem dL_law_2007 : decode cL_law 2007 = .ok (.invokevirtual 232, 3) := by decide +kernel
theorem dL_law_2010 : decode cL_law 2010 = .ok (.if_icmp .eq 274, 3) := by decide +kernel
theorem dL_law_2013 : decode cL_law 2013 = .ok (.iconst 0, 1) := by decide +kernel
theorem dL_law_2014 : decode cL_law 2014 = .ok (.ireturn, 1) := by decide +kernel
theorem dL_law_2015 : decode cL_law 2015 = .ok (.aload_n 1, 1) := by decide +kernel
theorem dL_law_2016 : decode cL_law 2016 = .ok (.invokevirtual 233, 3) := by decide +kernel
theorem dL_law_2019 : decode cL_law 2019 = .ok (.aload_n 2, 1) := by decide +kernel
theorem dL_law_2020 : decode cL_law 2020 = .ok (.invokevirtual 236, 3) := by decide +kernel
theorem dL_law_2023 : decode cL_law 2023 = .ok (.if_icmp .eq 261, 3) := by decide +kernel
theorem dL_law_2026 : decode cL_law 2026 = .ok (.iconst 0, 1) := by decide +kernel
theorem dL_law_2027 : decode cL_law 2027 = .ok (.ireturn, 1) := by decide +kernel
theorem dL_law_2028 : decode cL_law 2028 = .ok (.aload_n 1, 1) := by decide +kernel
theorem dL_law_2029 : decode cL_law 2029 = .ok (.aload_n 0, 1) := by decide +kernel
theorem dL_law_2030 : decode cL_law 2030 = .ok (.iload 5, 2) := by decide +kernel
theorem dL_law_2032 : decode cL_law 2032 = .ok (.iconst 1, 1) := by decide +kernel
theorem dL_law_2033 : decode cL_law 2033 = .ok (.iadd, 1) := by decide +kernel
theorem dL_law_2034 : decode cL_law 2034 = .ok (.iaload, 1) := by decide +kernel
theorem dL_law_2035 : decode cL_law 2035 = .ok (.aload_n 3, 1) := by decide +kernel
theorem dL_law_2036 : decode cL_law 2036 = .ok (.invokestatic 237, 3) := by decide +kernel
theorem dL_law_2039 : decode cL_law 2039 = .ok (.istore 6, 2) := by decide +kernel
theorem dL_law_2041 : decode cL_law 2041 = .ok (.aload_n 2, 1) := by decide +kernel
theorem dL_law_2042 : decode cL_law 2042 = .ok (.aload_n 0, 1) := by decide +kernel
theorem dL_law_2043 : decode cL_law 2043 = .ok (.iload 5, 2) := by decide +kernel
theorem dL_law_2045 : decode cL_law 2045 = .ok (.iconst 1, 1) := by decide +kernel
theorem dL_law_2046 : decode cL_law 2046 = .ok (.iadd, 1) := by decide +kernel
theorem dL_law_2047 : decode cL_law 2047 = .ok (.iaload, 1) := by decide +kernel
theorem dL_law_2048 : decode cL_law 2048 = .ok (.invokevirtual 239, 3) := by decide +kernel
theorem dL_law_2051 : decode cL_law 2051 = .ok (.istore 7, 2) := by decide +kernel
theorem dL_law_2053 : decode cL_law 2053 = .ok (.aload_n 2, 1) := by decide +kernel
theorem dL_law_2054 : decode cL_law 2054 = .ok (.invokevirtual 131, 3) := by decide +kernel
theorem dL_law_2057 : decode cL_law 2057 = .ok (.iload 6, 2) := by decide +kernel
theorem dL_law_2059 : decode cL_law 2059 = .ok (.if_icmp .eq 5, 3) := by decide +kernel
theorem dL_law_2062 : decode cL_law 2062 = .ok (.iconst 0, 1) := by decide +kernel
theorem dL_law_2063 : decode cL_law 2063 = .ok (.ireturn, 1) := by decide +kernel
theorem dL_law_2064 : decode cL_law 2064 = .ok (.iload 6, 2) := by decide +kernel
theorem dL_law_2066 : decode cL_law 2066 = .ok (.ifCond .ne 15, 3) := by decide +kernel
theorem dL_law_2069 : decode cL_law 2069 = .ok (.aload_n 3, 1) := by decide +kernel
theorem dL_law_2070 : decode cL_law 2070 = .ok (.iconst 0, 1) := by decide +kernel
theorem dL_law_2071 : decode cL_law 2071 = .ok (.laload, 1) := by decide +kernel
theorem dL_law_2072 : decode cL_law 2072 = .ok (.iload 7, 2) := by decide +kernel
theorem dL_law_2074 : decode cL_law 2074 = .ok (.i2l, 1) := by decide +kernel
theorem dL_law_2075 : decode cL_law 2075 = .ok (.lcmp, 1) := by decide +kernel
theorem dL_law_2076 : decode cL_law 2076 = .ok (.ifCond .eq 5, 3) := by decide +kernel
theorem dL_law_2079 : decode cL_law 2079 = .ok (.iconst 0, 1) := by decide +kernel
theorem dL_law_2080 : decode cL_law 2080 = .ok (.ireturn, 1) := by decide +kernel
theorem dL_law_2081 : decode cL_law 2081 = .ok (.goto 203, 3) := by decide +kernel
theorem dL_law_2084 : decode cL_law 2084 = .ok (.aload_n 1, 1) := by decide +kernel
theorem dL_law_2085 : decode cL_law 2085 = .ok (.aload_n 0, 1) := by decide +kernel
theorem dL_law_2086 : decode cL_law 2086 = .ok (.iload 5, 2) := by decide +kernel
theorem dL_law_2088 : decode cL_law 2088 = .ok (.iconst 1, 1) := by decide +kernel
theorem dL_law_2089 : decode cL_law 2089 = .ok (.iadd, 1) := by decide +kernel
theorem dL_law_2090 : decode cL_law 2090 = .ok (.iaload, 1) := by decide +kernel
theorem dL_law_2091 : decode cL_law 2091 = .ok (.aload 4, 2) := by decide +kernel
theorem dL_law_2093 : decode cL_law 2093 = .ok (.invokestatic 240, 3) := by decide +kernel
theorem dL_law_2096 : decode cL_law 2096 = .ok (.istore 6, 2) := by decide +kernel
theorem dL_law_2098 : decode cL_law 2098 = .ok (.aload_n 2, 1) := by decide +kernel
theorem dL_law_2099 : decode cL_law 2099 = .ok (.aload_n 0, 1) := by decide +kernel
theorem dL_law_2100 : decode cL_law 2100 = .ok (.iload 5, 2) := by decide +kernel
theorem dL_law_2102 : decode cL_law 2102 = .ok (.iconst 1, 1) := by decide +kernel
theorem dL_law_2103 : decode cL_law 2103 = .ok (.iadd, 1) := by decide +kernel
theorem dL_law_2104 : decode cL_law 2104 = .ok (.iaload, 1) := by decide +kernel
theorem dL_law_2105 : decode cL_law 2105 = .ok (.invokevirtual 243, 3) := by decide +kernel
theorem dL_law_2108 : decode cL_law 2108 = .ok (.dstore 7, 2) := by decide +kernel
theorem dL_law_2110 : decode cL_law 2110 = .ok (.aload_n 2, 1) := by decide +kernel
theorem dL_law_2111 : decode cL_law 2111 = .ok (.invokevirtual 131, 3) := by decide +kernel
theorem dL_law_2114 : decode cL_law 2114 = .ok (.iload 6, 2) := by decide +kernel
theorem dL_law_2116 : decode cL_law 2116 = .ok (.if_icmp .eq 5, 3) := by decide +kernel
theorem dL_law_2119 : decode cL_law 2119 = .ok (.iconst 0, 1) := by decide +kernel
theorem dL_law_2120 : decode cL_law 2120 = .ok (.ireturn, 1) := by decide +kernel
theorem dL_law_2121 : decode cL_law 2121 = .ok (.iload 6, 2) := by decide +kernel
theorem dL_law_2123 : decode cL_law 2123 = .ok (.ifCond .ne 35, 3) := by decide +kernel
theorem dL_law_2126 : decode cL_law 2126 = .ok (.aload 4, 2) := by decide +kernel
theorem dL_law_2128 : decode cL_law 2128 = .ok (.iconst 0, 1) := by decide +kernel
theorem dL_law_2129 : decode cL_law 2129 = .ok (.daload, 1) := by decide +kernel
theorem dL_law_2130 : decode cL_law 2130 = .ok (.dload 7, 2) := by decide +kernel
theorem dL_law_2132 : decode cL_law 2132 = .ok (.dcmp .l, 1) := by decide +kernel
theorem dL_law_2133 : decode cL_law 2133 = .ok (.ifCond .eq 25, 3) := by decide +kernel
theorem dL_law_2136 : decode cL_law 2136 = .ok (.aload 4, 2) := by decide +kernel
theorem dL_law_2138 : decode cL_law 2138 = .ok (.iconst 0, 1) := by decide +kernel
theorem dL_law_2139 : decode cL_law 2139 = .ok (.daload, 1) := by decide +kernel
theorem dL_law_2140 : decode cL_law 2140 = .ok (.aload 4, 2) := by decide +kernel
theorem dL_law_2142 : decode cL_law 2142 = .ok (.iconst 0, 1) := by decide +kernel
theorem dL_law_2143 : decode cL_law 2143 = .ok (.daload, 1) := by decide +kernel
theorem dL_law_2144 : decode cL_law 2144 = .ok (.dcmp .l, 1) := by decide +kernel
theorem dL_law_2145 : decode cL_law 2145 = .ok (.ifCond .eq 11, 3) := by decide +kernel
theorem dL_law_2148 : decode cL_law 2148 = .ok (.dload 7, 2) := by decide +kernel
theorem dL_law_2150 : decode cL_law 2150 = .ok (.dload 7, 2) := by decide +kernel
theorem dL_law_2152 : decode cL_law 2152 = .ok (.dcmp .l, 1) := by decide +kernel
theorem dL_law_2153 : decode cL_law 2153 = .ok (.ifCond .ne 5, 3) := by decide +kernel
theorem dL_law_2156 : decode cL_law 2156 = .ok (.iconst 0, 1) := by decide +kernel
theorem dL_law_2157 : decode cL_law 2157 = .ok (.ireturn, 1) := by decide +kernel
theorem dL_law_2158 : decode cL_law 2158 = .ok (.goto 126, 3) := by decide +kernel
theorem dL_law_2161 : decode cL_law 2161 = .ok (.aload_n 1, 1) := by decide +kernel
theorem dL_law_2162 : decode cL_law 2162 = .ok (.aload 4, 2) := by decide +kernel
theorem dL_law_2164 : decode cL_law 2164 = .ok (.invokestatic 244, 3) := by decide +kernel
theorem dL_law_2167 : decode cL_law 2167 = .ok (.istore 6, 2) := by decide +kernel
theorem dL_law_2169 : decode cL_law 2169 = .ok (.aload_n 2, 1) := by decide +kernel
theorem dL_law_2170 : decode cL_law 2170 = .ok (.invokevirtual 247, 3) := by decide +kernel
theorem dL_law_2173 : decode cL_law 2173 = .ok (.fstore 7, 2) := by decide +kernel
theorem dL_law_2175 : decode cL_law 2175 = .ok (.aload_n 2, 1) := by decide +kernel
theorem dL_law_2176 : decode cL_law 2176 = .ok (.invokevirtual 131, 3) := by decide +kernel
theorem dL_law_2179 : decode cL_law 2179 = .ok (.iload 6, 2) := by decide +kernel
theorem dL_law_2181 : decode cL_law 2181 = .ok (.if_icmp .eq 5, 3) := by decide +kernel
theorem dL_law_2184 : decode cL_law 2184 = .ok (.iconst 0, 1) := by decide +kernel
theorem dL_law_2185 : decode cL_law 2185 = .ok (.ireturn, 1) := by decide +kernel
theorem dL_law_2186 : decode cL_law 2186 = .ok (.iload 6, 2) := by decide +kernel
theorem dL_law_2188 : decode cL_law 2188 = .ok (.ifCond .ne 36, 3) := by decide +kernel
theorem dL_law_2191 : decode cL_law 2191 = .ok (.aload 4, 2) := by decide +kernel
theorem dL_law_2193 : decode cL_law 2193 = .ok (.iconst 0, 1) := by decide +kernel
theorem dL_law_2194 : decode cL_law 2194 = .ok (.daload, 1) := by decide +kernel
theorem dL_law_2195 : decode cL_law 2195 = .ok (.fload 7, 2) := by decide +kernel
theorem dL_law_2197 : decode cL_law 2197 = .ok (.f2d, 1) := by decide +kernel
theorem dL_law_2198 : decode cL_law 2198 = .ok (.dcmp .l, 1) := by decide +kernel
theorem dL_law_2199 : decode cL_law 2199 = .ok (.ifCond .eq 25, 3) := by decide +kernel
theorem dL_law_2202 : decode cL_law 2202 = .ok (.aload 4, 2) := by decide +kernel
theorem dL_law_2204 : decode cL_law 2204 = .ok (.iconst 0, 1) := by decide +kernel
theorem dL_law_2205 : decode cL_law 2205 = .ok (.daload, 1) := by decide +kernel
theorem dL_law_2206 : decode cL_law 2206 = .ok (.aload 4, 2) := by decide +kernel
theorem dL_law_2208 : decode cL_law 2208 = .ok (.iconst 0, 1) := by decide +kernel
theorem dL_law_2209 : decode cL_law 2209 = .ok (.daload, 1) := by decide +kernel
theorem dL_law_2210 : decode cL_law 2210 = .ok (.dcmp .l, 1) := by decide +kernel
theorem dL_law_2211 : decode cL_law 2211 = .ok (.ifCond .eq 11, 3) := by decide +kernel
theorem dL_law_2214 : decode cL_law 2214 = .ok (.fload 7, 2) := by decide +kernel
theorem dL_law_2216 : decode cL_law 2216 = .ok (.fload 7, 2) := by decide +kernel
theorem dL_law_2218 : decode cL_law 2218 = .ok (.fcmp .l, 1) := by decide +kernel
theorem dL_law_2219 : decode cL_law 2219 = .ok (.ifCond .ne 5, 3) := by decide +kernel
theorem dL_law_2222 : decode cL_law 2222 = .ok (.iconst 0, 1) := by decide +kernel
theorem dL_law_2223 : decode cL_law 2223 = .ok (.ireturn, 1) := by decide +kernel
theorem dL_law_2224 : decode cL_law 2224 = .ok (.goto 60, 3) := by decide +kernel
theorem dL_law_2227 : decode cL_law 2227 = .ok (.aload_n 1, 1) := by decide +kernel
theorem dL_law_2228 : decode cL_law 2228 = .ok (.invokevirtual 248, 3) := by decide +kernel
theorem dL_law_2231 : decode cL_law 2231 = .ok (.aload_n 2, 1) := by decide +kernel
theorem dL_law_2232 : decode cL_law 2232 = .ok (.invokevirtual 251, 3) := by decide +kernel
theorem dL_law_2235 : decode cL_law 2235 = .ok (.if_icmp .eq 49, 3) := by decide +kernel
theorem dL_law_2238 : decode cL_law 2238 = .ok (.iconst 0, 1) := by decide +kernel
theorem dL_law_2239 : decode cL_law 2239 = .ok (.ireturn, 1) := by decide +kernel
theorem dL_law_2240 : decode cL_law 2240 = .ok (.aload_n 1, 1) := by decide +kernel
theorem dL_law_2241 : decode cL_law 2241 = .ok (.aload_n 3, 1) := by decide +kernel
theorem dL_law_2242 : decode cL_law 2242 = .ok (.invokestatic 252, 3) := by decide +kernel
theorem dL_law_2245 : decode cL_law 2245 = .ok (.istore 6, 2) := by decide +kernel
theorem dL_law_2247 : decode cL_law 2247 = .ok (.aload_n 2, 1) := by decide +kernel
theorem dL_law_2248 : decode cL_law 2248 = .ok (.invokevirtual 254, 3) := by decide +kernel
theorem dL_law_2251 : decode cL_law 2251 = .ok (.istore 7, 2) := by decide +kernel
theorem dL_law_2253 : decode cL_law 2253 = .ok (.aload_n 2, 1) := by decide +kernel
theorem dL_law_2254 : decode cL_law 2254 = .ok (.invokevirtual 131, 3) := by decide +kernel
theorem dL_law_2257 : decode cL_law 2257 = .ok (.iload 6, 2) := by decide +kernel
theorem dL_law_2259 : decode cL_law 2259 = .ok (.if_icmp .eq 5, 3) := by decide +kernel
theorem dL_law_2262 : decode cL_law 2262 = .ok (.iconst 0, 1) := by decide +kernel
theorem dL_law_2263 : decode cL_law 2263 = .ok (.ireturn, 1) := by decide +kernel
theorem dL_law_2264 : decode cL_law 2264 = .ok (.iload 6, 2) := by decide +kernel
theorem dL_law_2266 : decode cL_law 2266 = .ok (.ifCond .ne 15, 3) := by decide +kernel
theorem dL_law_2269 : decode cL_law 2269 = .ok (.aload_n 3, 1) := by decide +kernel
theorem dL_law_2270 : decode cL_law 2270 = .ok (.iconst 0, 1) := by decide +kernel
theorem dL_law_2271 : decode cL_law 2271 = .ok (.laload, 1) := by decide +kernel
theorem dL_law_2272 : decode cL_law 2272 = .ok (.iload 7, 2) := by decide +kernel
theorem dL_law_2274 : decode cL_law 2274 = .ok (.i2l, 1) := by decide +kernel
theorem dL_law_2275 : decode cL_law 2275 = .ok (.lcmp, 1) := by decide +kernel
theorem dL_law_2276 : decode cL_law 2276 = .ok (.ifCond .eq 5, 3) := by decide +kernel
theorem dL_law_2279 : decode cL_law 2279 = .ok (.iconst 0, 1) := by decide +kernel
theorem dL_law_2280 : decode cL_law 2280 = .ok (.ireturn, 1) := by decide +kernel
theorem dL_law_2281 : decode cL_law 2281 = .ok (.goto 3, 3) := by decide +kernel
theorem dL_law_2284 : decode cL_law 2284 = .ok (.iinc 5 5, 3) := by decide +kernel
theorem dL_law_2287 : decode cL_law 2287 = .ok (.goto (-2259), 3) := by decide +kernel
theorem dL_law_2290 : decode cL_law 2290 = .ok (.iconst 1, 1) := by decide +kernel
theorem dL_law_2291 : decode cL_law 2291 = .ok (.ireturn, 1) := by decide +kernel
end
