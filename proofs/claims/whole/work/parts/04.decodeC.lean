theorem dX0_init_0 : decode cX0_init 0 = .ok (.aload_n 0, 1) := by decide +kernel
theorem dX0_init_1 : decode cX0_init 1 = .ok (.invokespecial 3, 3) := by decide +kernel
theorem dX0_init_4 : decode cX0_init 4 = .ok (.aload_n 0, 1) := by decide +kernel
theorem dX0_init_5 : decode cX0_init 5 = .ok (.bipush 100, 2) := by decide +kernel
theorem dX0_init_7 : decode cX0_init 7 = .ok (.newarray .boolean, 2) := by decide +kernel
theorem dX0_init_9 : decode cX0_init 9 = .ok (.putfield 9, 3) := by decide +kernel
theorem dX0_init_12 : decode cX0_init 12 = .ok (.aload_n 0, 1) := by decide +kernel
theorem dX0_init_13 : decode cX0_init 13 = .ok (.bipush 100, 2) := by decide +kernel
theorem dX0_init_15 : decode cX0_init 15 = .ok (.newarray .boolean, 2) := by decide +kernel
theorem dX0_init_17 : decode cX0_init 17 = .ok (.putfield 15, 3) := by decide +kernel
theorem dX0_init_20 : decode cX0_init 20 = .ok (.aload_n 0, 1) := by decide +kernel
theorem dX0_init_21 : decode cX0_init 21 = .ok (.bipush 100, 2) := by decide +kernel
theorem dX0_init_23 : decode cX0_init 23 = .ok (.newarray .int, 2) := by decide +kernel
theorem dX0_init_25 : decode cX0_init 25 = .ok (.putfield 18, 3) := by decide +kernel
theorem dX0_init_28 : decode cX0_init 28 = .ok (.aload_n 0, 1) := by decide +kernel
theorem dX0_init_29 : decode cX0_init 29 = .ok (.bipush 100, 2) := by decide +kernel
theorem dX0_init_31 : decode cX0_init 31 = .ok (.newarray .int, 2) := by decide +kernel
theorem dX0_init_33 : decode cX0_init 33 = .ok (.putfield 22, 3) := by decide +kernel
theorem dX0_init_36 : decode cX0_init 36 = .ok (.aload_n 0, 1) := by decide +kernel
theorem dX0_init_37 : decode cX0_init 37 = .ok (.bipush 100, 2) := by decide +kernel
theorem dX0_init_39 : decode cX0_init 39 = .ok (.newarray .int, 2) := by decide +kernel
theorem dX0_init_41 : decode cX0_init 41 = .ok (.putfield 25, 3) := by decide +kernel
theorem dX0_init_44 : decode cX0_init 44 = .ok (.aload_n 0, 1) := by decide +kernel
theorem dX0_init_45 : decode cX0_init 45 = .ok (.bipush 100, 2) := by decide +kernel
theorem dX0_init_47 : decode cX0_init 47 = .ok (.newarray .int, 2) := by decide +kernel
theorem dX0_init_49 : decode cX0_init 49 = .ok (.putfield 28, 3) := by decide +kernel
theorem dX0_init_52 : decode cX0_init 52 = .ok (.aload_n 0, 1) := by decide +kernel
theorem dX0_init_53 : decode cX0_init 53 = .ok (.getfield 22, 3) := by decide +kernel
theorem dX0_init_56 : decode cX0_init 56 = .ok (.iconst (-1), 1) := by decide +kernel
theorem dX0_init_57 : decode cX0_init 57 = .ok (.invokestatic 31, 3) := by decide +kernel
theorem dX0_init_60 : decode cX0_init 60 = .ok (.aload_n 0, 1) := by decide +kernel
theorem dX0_init_61 : decode cX0_init 61 = .ok (.getfield 28, 3) := by decide +kernel
theorem dX0_init_64 : decode cX0_init 64 = .ok (.iconst (-1), 1) := by decide +kernel
theorem dX0_init_65 : decode cX0_init 65 = .ok (.invokestatic 31, 3) := by decide +kernel
theorem dX0_init_68 : decode cX0_init 68 = .ok (.return_, 1) := by decide +kernel
theorem dX0_makeFresh_0 : decode cX0_makeFresh 0 = .ok (.iload_n 1, 1) := by decide +kernel
theorem dX0_makeFresh_1 : decode cX0_makeFresh 1 = .ok (.iconst 0, 1) := by decide +kernel
theorem dX0_makeFresh_2 : decode cX0_makeFresh 2 = .ok (.invokestatic 37, 3) := by decide +kernel
theorem dX0_makeFresh_5 : decode cX0_makeFresh 5 = .ok (.istore_n 3, 1) := by decide +kernel
theorem dX0_makeFresh_6 : decode cX0_makeFresh 6 = .ok (.iload_n 3, 1) := by decide +kernel
theorem dX0_makeFresh_7 : decode cX0_makeFresh 7 = .ok (.bipush 100, 2) := by decide +kernel
theorem dX0_makeFresh_9 : decode cX0_makeFresh 9 = .ok (.if_icmp .ge 20, 3) := by decide +kernel
theorem dX0_makeFresh_12 : decode cX0_makeFresh 12 = .ok (.iload_n 3, 1) := by decide +kernel
theorem dX0_makeFresh_13 : decode cX0_makeFresh 13 = .ok (.iload_n 2, 1) := by decide +kernel
theorem dX0_makeFresh_14 : decode cX0_makeFresh 14 = .ok (.if_icmp .gt 15, 3) := by decide +kernel
theorem dX0_makeFresh_17 : decode cX0_makeFresh 17 = .ok (.aload_n 0, 1) := by decide +kernel
theorem dX0_makeFresh_18 : decode cX0_makeFresh 18 = .ok (.iload_n 3, 1) := by decide +kernel
theorem dX0_makeFresh_19 : decode cX0_makeFresh 19 = .ok (.iconst (-1), 1) := by decide +kernel
theorem dX0_makeFresh_20 : decode cX0_makeFresh 20 = .ok (.invokevirtual 43, 3) := by decide +kernel
theorem dX0_makeFresh_23 : decode cX0_makeFresh 23 = .ok (.iinc 3 1, 3) := by decide +kernel
theorem dX0_makeFresh_26 : decode cX0_makeFresh 26 = .ok (.goto (-20), 3) := by decide +kernel
theorem dX0_makeFresh_29 : decode cX0_makeFresh 29 = .ok (.return_, 1) := by decide +kernel
theorem dX0_becomeFree_0 : decode cX0_becomeFree 0 = .ok (.iload_n 1, 1) := by decide +kernel
theorem dX0_becomeFree_1 : decode cX0_becomeFree 1 = .ok (.invokestatic 47, 3) := by decide +kernel
theorem dX0_becomeFree_4 : decode cX0_becomeFree 4 = .ok (.ifCond .eq 24, 3) := by decide +kernel
theorem dX0_becomeFree_7 : decode cX0_becomeFree 7 = .ok (.aload_n 0, 1) := by decide +kernel
theorem dX0_becomeFree_8 : decode cX0_becomeFree 8 = .ok (.getfield 18, 3) := by decide +kernel
theorem dX0_becomeFree_11 : decode cX0_becomeFree 11 = .ok (.iload_n 1, 1) := by decide +kernel
theorem dX0_becomeFree_12 : decode cX0_becomeFree 12 = .ok (.iconst 0, 1) := by decide +kernel
theorem dX0_becomeFree_13 : decode cX0_becomeFree 13 = .ok (.iastore, 1) := by decide +kernel
theorem dX0_becomeFree_14 : decode cX0_becomeFree 14 = .ok (.aload_n 0, 1) := by decide +kernel
theorem dX0_becomeFree_15 : decode cX0_becomeFree 15 = .ok (.getfield 22, 3) := by decide +kernel
theorem dX0_becomeFree_18 : decode cX0_becomeFree 18 = .ok (.iload_n 1, 1) := by decide +kernel
theorem dX0_becomeFree_19 : decode cX0_becomeFree 19 = .ok (.iconst (-1), 1) := by decide +kernel
theorem dX0_becomeFree_20 : decode cX0_becomeFree 20 = .ok (.iastore, 1) := by decide +kernel
theorem dX0_becomeFree_21 : decode cX0_becomeFree 21 = .ok (.aload_n 0, 1) := by decide +kernel
theorem dX0_becomeFree_22 : decode cX0_becomeFree 22 = .ok (.getfield 28, 3) := by decide +kernel
theorem dX0_becomeFree_25 : decode cX0_becomeFree 25 = .ok (.iload_n 1, 1) := by decide +kernel
theorem dX0_becomeFree_26 : decode cX0_becomeFree 26 = .ok (.iload_n 2, 1) := by decide +kernel
theorem dX0_becomeFree_27 : decode cX0_becomeFree 27 = .ok (.iastore, 1) := by decide +kernel
theorem dX0_becomeFree_28 : decode cX0_becomeFree 28 = .ok (.return_, 1) := by decide +kernel
theorem dX0_becomeHeld_0 : decode cX0_becomeHeld 0 = .ok (.iload_n 1, 1) := by decide +kernel
theorem dX0_becomeHeld_1 : decode cX0_becomeHeld 1 = .ok (.invokestatic 47, 3) := by decide +kernel
theorem dX0_becomeHeld_4 : decode cX0_becomeHeld 4 = .ok (.ifCond .eq 25, 3) := by decide +kernel
theorem dX0_becomeHeld_7 : decode cX0_becomeHeld 7 = .ok (.aload_n 0, 1) := by decide +kernel
theorem dX0_becomeHeld_8 : decode cX0_becomeHeld 8 = .ok (.getfield 18, 3) := by decide +kernel
theorem dX0_becomeHeld_11 : decode cX0_becomeHeld 11 = .ok (.iload_n 1, 1) := by decide +kernel
theorem dX0_becomeHeld_12 : decode cX0_becomeHeld 12 = .ok (.iload_n 2, 1) := by decide +kernel
theorem dX0_becomeHeld_13 : decode cX0_becomeHeld 13 = .ok (.iastore, 1) := by decide +kernel
theorem dX0_becomeHeld_14 : decode cX0_becomeHeld 14 = .ok (.aload_n 0, 1) := by decide +kernel
theorem dX0_becomeHeld_15 : decode cX0_becomeHeld 15 = .ok (.getfield 22, 3) := by decide +kernel
theorem dX0_becomeHeld_18 : decode cX0_becomeHeld 18 = .ok (.iload_n 1, 1) := by decide +kernel
theorem dX0_becomeHeld_19 : decode cX0_becomeHeld 19 = .ok (.iload_n 3, 1) := by decide +kernel
theorem dX0_becomeHeld_20 : decode cX0_becomeHeld 20 = .ok (.iastore, 1) := by decide +kernel
theorem dX0_becomeHeld_21 : decode cX0_becomeHeld 21 = .ok (.aload_n 0, 1) := by decide +kernel
theorem dX0_becomeHeld_22 : decode cX0_becomeHeld 22 = .ok (.getfield 25, 3) := by decide +kernel
theorem dX0_becomeHeld_25 : decode cX0_becomeHeld 25 = .ok (.iload_n 1, 1) := by decide +kernel
theorem dX0_becomeHeld_26 : decode cX0_becomeHeld 26 = .ok (.iload 4, 2) := by decide +kernel
theorem dX0_becomeHeld_28 : decode cX0_becomeHeld 28 = .ok (.iastore, 1) := by decide +kernel
theorem dX0_becomeHeld_29 : decode cX0_becomeHeld 29 = .ok (.return_, 1) := by decide +kernel
theorem dX0_becomeDeclined_0 : decode cX0_becomeDeclined 0 = .ok (.aload_n 0, 1) := by decide +kernel
theorem dX0_becomeDeclined_1 : decode cX0_becomeDeclined 1 = .ok (.iload_n 1, 1) := by decide +kernel
theorem dX0_becomeDeclined_2 : decode cX0_becomeDeclined 2 = .ok (.iconst 3, 1) := by decide +kernel
theorem dX0_becomeDeclined_3 : decode cX0_becomeDeclined 3 = .ok (.iconst (-1), 1) := by decide +kernel
theorem dX0_becomeDeclined_4 : decode cX0_becomeDeclined 4 = .ok (.iload_n 2, 1) := by decide +kernel
theorem dX0_becomeDeclined_5 : decode cX0_becomeDeclined 5 = .ok (.invokevirtual 51, 3) := by decide +kernel
theorem dX0_becomeDeclined_8 : decode cX0_becomeDeclined 8 = .ok (.return_, 1) := by decide +kernel
theorem dX0_isOfferable_0 : decode cX0_isOfferable 0 = .ok (.iload_n 1, 1) := by decide +kernel
theorem dX0_isOfferable_1 : decode cX0_isOfferable 1 = .ok (.invokestatic 47, 3) := by decide +kernel
theorem dX0_isOfferable_4 : decode cX0_isOfferable 4 = .ok (.ifCond .eq 25, 3) := by decide +kernel
theorem dX0_isOfferable_7 : decode cX0_isOfferable 7 = .ok (.aload_n 0, 1) := by decide +kernel
theorem dX0_isOfferable_8 : decode cX0_isOfferable 8 = .ok (.getfield 18, 3) := by decide +kernel
theorem dX0_isOfferable_11 : decode cX0_isOfferable 11 = .ok (.iload_n 1, 1) := by decide +kernel
theorem dX0_isOfferable_12 : decode cX0_isOfferable 12 = .ok (.iaload, 1) := by decide +kernel
theorem dX0_isOfferable_13 : decode cX0_isOfferable 13 = .ok (.ifCond .ne 16, 3) := by decide +kernel
theorem dX0_isOfferable_16 : decode cX0_isOfferable 16 = .ok (.aload_n 0, 1) := by decide +kernel
theorem dX0_isOfferable_17 : decode cX0_isOfferable 17 = .ok (.getfield 9, 3) := by decide +kernel
theorem dX0_isOfferable_20 : decode cX0_isOfferable 20 = .ok (.iload_n 1, 1) := by decide +kernel
theorem dX0_isOfferable_21 : decode cX0_isOfferable 21 = .ok (.baload, 1) := by decide +kernel
theorem dX0_isOfferable_22 : decode cX0_isOfferable 22 = .ok (.ifCond .ne 7, 3) := by decide +kernel
theorem dX0_isOfferable_25 : decode cX0_isOfferable 25 = .ok (.iconst 1, 1) := by decide +kernel
theorem dX0_isOfferable_26 : decode cX0_isOfferable 26 = .ok (.goto 4, 3) := by decide +kernel
theorem dX0_isOfferable_29 : decode cX0_isOfferable 29 = .ok (.iconst 0, 1) := by decide +kernel
theorem dX0_isOfferable_30 : decode cX0_isOfferable 30 = .ok (.ireturn, 1) := by decide +kernel
theorem dX0_isFreeLonger_0 : decode cX0_isFreeLonger 0 = .ok (.iload_n 1, 1) := by decide +kernel
theorem dX0_isFreeLonger_1 : decode cX0_isFreeLonger 1 = .ok (.invokestatic 47, 3) := by decide +kernel
theorem dX0_isFreeLonger_4 : decode cX0_isFreeLonger 4 = .ok (.ifCond .eq 10, 3) := by decide +kernel
theorem dX0_isFreeLonger_7 : decode cX0_isFreeLonger 7 = .ok (.iload_n 2, 1) := by decide +kernel
theorem dX0_isFreeLonger_8 : decode cX0_isFreeLonger 8 = .ok (.invokestatic 47, 3) := by decide +kernel
theorem dX0_isFreeLonger_11 : decode cX0_isFreeLonger 11 = .ok (.ifCond .ne 5, 3) := by decide +kernel
theorem dX0_isFreeLonger_14 : decode cX0_isFreeLonger 14 = .ok (.iconst 0, 1) := by decide +kernel
theorem dX0_isFreeLonger_15 : decode cX0_isFreeLonger 15 = .ok (.ireturn, 1) := by decide +kernel
theorem dX0_isFreeLonger_16 : decode cX0_isFreeLonger 16 = .ok (.aload_n 0, 1) := by decide +kernel
theorem dX0_isFreeLonger_17 : decode cX0_isFreeLonger 17 = .ok (.getfield 28, 3) := by decide +kernel
theorem dX0_isFreeLonger_20 : decode cX0_isFreeLonger 20 = .ok (.iload_n 1, 1) := by decide +kernel
theorem dX0_isFreeLonger_21 : decode cX0_isFreeLonger 21 = .ok (.iaload, 1) := by decide +kernel
theorem dX0_isFreeLonger_22 : decode cX0_isFreeLonger 22 = .ok (.aload_n 0, 1) := by decide +kernel
theorem dX0_isFreeLonger_23 : decode cX0_isFreeLonger 23 = .ok (.getfield 28, 3) := by decide +kernel
theorem dX0_isFreeLonger_26 : decode cX0_isFreeLonger 26 = .ok (.iload_n 2, 1) := by decide +kernel
theorem dX0_isFreeLonger_27 : decode cX0_isFreeLonger 27 = .ok (.iaload, 1) := by decide +kernel
theorem dX0_isFreeLonger_28 : decode cX0_isFreeLonger 28 = .ok (.if_icmp .lt 23, 3) := by decide +kernel
theorem dX0_isFreeLonger_31 : decode cX0_isFreeLonger 31 = .ok (.aload_n 0, 1) := by decide +kernel
theorem dX0_isFreeLonger_32 : decode cX0_isFreeLonger 32 = .ok (.getfield 28, 3) := by decide +kernel
theorem dX0_isFreeLonger_35 : decode cX0_isFreeLonger 35 = .ok (.iload_n 1, 1) := by decide +kernel
theorem dX0_isFreeLonger_36 : decode cX0_isFreeLonger 36 = .ok (.iaload, 1) := by decide +kernel
theorem dX0_isFreeLonger_37 : decode cX0_isFreeLonger 37 = .ok (.aload_n 0, 1) := by decide +kernel
theorem dX0_isFreeLonger_38 : decode cX0_isFreeLonger 38 = .ok (.getfield 28, 3) := by decide +kernel
theorem dX0_isFreeLonger_41 : decode cX0_isFreeLonger 41 = .ok (.iload_n 2, 1) := by decide +kernel
theorem dX0_isFreeLonger_42 : decode cX0_isFreeLonger 42 = .ok (.iaload, 1) := by decide +kernel
theorem dX0_isFreeLonger_43 : decode cX0_isFreeLonger 43 = .ok (.if_icmp .ne 12, 3) := by decide +kernel
theorem dX0_isFreeLonger_46 : decode cX0_isFreeLonger 46 = .ok (.iload_n 1, 1) := by decide +kernel
theorem dX0_isFreeLonger_47 : decode cX0_isFreeLonger 47 = .ok (.iload_n 2, 1) := by decide +kernel
theorem dX0_isFreeLonger_48 : decode cX0_isFreeLonger 48 = .ok (.if_icmp .ge 7, 3) := by decide +kernel
theorem dX0_isFreeLonger_51 : decode cX0_isFreeLonger 51 = .ok (.iconst 1, 1) := by decide +kernel
theorem dX0_isFreeLonger_52 : decode cX0_isFreeLonger 52 = .ok (.goto 4, 3) := by decide +kernel
theorem dX0_isFreeLonger_55 : decode cX0_isFreeLonger 55 = .ok (.iconst 0, 1) := by decide +kernel
theorem dX0_isFreeLonger_56 : decode cX0_isFreeLonger 56 = .ok (.ireturn, 1) := by decide +kernel
theorem dX0_countIn_0 : decode cX0_countIn 0 = .ok (.iconst 0, 1) := by decide +kernel
theorem dX0_countIn_1 : decode cX0_countIn 1 = .ok (.istore 4, 2) := by decide +kernel
theorem dX0_countIn_3 : decode cX0_countIn 3 = .ok (.iload_n 1, 1) := by decide +kernel
theorem dX0_countIn_4 : decode cX0_countIn 4 = .ok (.iconst 0, 1) := by decide +kernel
theorem dX0_countIn_5 : decode cX0_countIn 5 = .ok (.invokestatic 37, 3) := by decide +kernel
theorem dX0_countIn_8 : decode cX0_countIn 8 = .ok (.istore 5, 2) := by decide +kernel
theorem dX0_countIn_10 : decode cX0_countIn 10 = .ok (.iload 5, 2) := by decide +kernel
theorem dX0_countIn_12 : decode cX0_countIn 12 = .ok (.bipush 100, 2) := by decide +kernel
theorem dX0_countIn_14 : decode cX0_countIn 14 = .ok (.if_icmp .ge 29, 3) := by decide +kernel
theorem dX0_countIn_17 : decode cX0_countIn 17 = .ok (.iload 5, 2) := by decide +kernel
theorem dX0_countIn_19 : decode cX0_countIn 19 = .ok (.iload_n 2, 1) := by decide +kernel
theorem dX0_countIn_20 : decode cX0_countIn 20 = .ok (.if_icmp .gt 23, 3) := by decide +kernel
theorem dX0_countIn_23 : decode cX0_countIn 23 = .ok (.aload_n 0, 1) := by decide +kernel
theorem dX0_countIn_24 : decode cX0_countIn 24 = .ok (.getfield 18, 3) := by decide +kernel
theorem dX0_countIn_27 : decode cX0_countIn 27 = .ok (.iload 5, 2) := by decide +kernel
theorem dX0_countIn_29 : decode cX0_countIn 29 = .ok (.iaload, 1) := by decide +kernel
theorem dX0_countIn_30 : decode cX0_countIn 30 = .ok (.iload_n 3, 1) := by decide +kernel
theorem dX0_countIn_31 : decode cX0_countIn 31 = .ok (.if_icmp .ne 6, 3) := by decide +kernel
theorem dX0_countIn_34 : decode cX0_countIn 34 = .ok (.iinc 4 1, 3) := by decide +kernel
theorem dX0_countIn_37 : decode cX0_countIn 37 = .ok (.iinc 5 1, 3) := by decide +kernel
theorem dX0_countIn_40 : decode cX0_countIn 40 = .ok (.goto (-30), 3) := by decide +kernel
theorem dX0_countIn_43 : decode cX0_countIn 43 = .ok (.iload 4, 2) := by decide +kernel
theorem dX0_countIn_45 : decode cX0_countIn 45 = .ok (.ireturn, 1) := by decide +kernel
theorem dX0_countOfferable_0 : decode cX0_countOfferable 0 = .ok (.iconst 0, 1) := by decide +kernel
theorem dX0_countOfferable_1 : decode cX0_countOfferable 1 = .ok (.istore_n 3, 1) := by decide +kernel
theorem dX0_countOfferable_2 : decode cX0_countOfferable 2 = .ok (.iload_n 1, 1) := by decide +kernel
theorem dX0_countOfferable_3 : decode cX0_countOfferable 3 = .ok (.iconst 0, 1) := by decide +kernel
theorem dX0_countOfferable_4 : decode cX0_countOfferable 4 = .ok (.invokestatic 37, 3) := by decide +kernel
theorem dX0_countOfferable_7 : decode cX0_countOfferable 7 = .ok (.istore 4, 2) := by decide +kernel
theorem dX0_countOfferable_9 : decode cX0_countOfferable 9 = .ok (.iload 4, 2) := by decide +kernel
theorem dX0_countOfferable_11 : decode cX0_countOfferable 11 = .ok (.bipush 100, 2) := by decide +kernel
theorem dX0_countOfferable_13 : decode cX0_countOfferable 13 = .ok (.if_icmp .ge 27, 3) := by decide +kernel
theorem dX0_countOfferable_16 : decode cX0_countOfferable 16 = .ok (.iload 4, 2) := by decide +kernel
theorem dX0_countOfferable_18 : decode cX0_countOfferable 18 = .ok (.iload_n 2, 1) := by decide +kernel
theorem dX0_countOfferable_19 : decode cX0_countOfferable 19 = .ok (.if_icmp .gt 21, 3) := by decide +kernel
theorem dX0_countOfferable_22 : decode cX0_countOfferable 22 = .ok (.aload_n 0, 1) := by decide +kernel
theorem dX0_countOfferable_23 : decode cX0_countOfferable 23 = .ok (.iload 4, 2) := by decide +kernel
theorem dX0_countOfferable_25 : decode cX0_countOfferable 25 = .ok (.invokevirtual 55, 3) := by decide +kernel
theorem dX0_countOfferable_28 : decode cX0_countOfferable 28 = .ok (.ifCond .eq 6, 3) := by decide +kernel
theorem dX0_countOfferable_31 : decode cX0_countOfferable 31 = .ok (.iinc 3 1, 3) := by decide +kernel
theorem dX0_countOfferable_34 : decode cX0_countOfferable 34 = .ok (.iinc 4 1, 3) := by decide +kernel
theorem dX0_countOfferable_37 : decode cX0_countOfferable 37 = .ok (.goto (-28), 3) := by decide +kernel
theorem dX0_countOfferable_40 : decode cX0_countOfferable 40 = .ok (.iload_n 3, 1) := by decide +kernel
theorem dX0_countOfferable_41 : decode cX0_countOfferable 41 = .ok (.ireturn, 1) := by decide +kernel
theorem dX0_earliestQuarantineEnd_0 : decode cX0_earliestQuarantineEnd 0 = .ok (.ldc 58, 2) := by decide +kernel
theorem dX0_earliestQuarantineEnd_2 : decode cX0_earliestQuarantineEnd 2 = .ok (.istore_n 1, 1) := by decide +kernel
theorem dX0_earliestQuarantineEnd_3 : decode cX0_earliestQuarantineEnd 3 = .ok (.iconst 0, 1) := by decide +kernel
theorem dX0_earliestQuarantineEnd_4 : decode cX0_earliestQuarantineEnd 4 = .ok (.istore_n 2, 1) := by decide +kernel
theorem dX0_earliestQuarantineEnd_5 : decode cX0_earliestQuarantineEnd 5 = .ok (.iload_n 2, 1) := by decide +kernel
theorem dX0_earliestQuarantineEnd_6 : decode cX0_earliestQuarantineEnd 6 = .ok (.bipush 100, 2) := by decide +kernel
theorem dX0_earliestQuarantineEnd_8 : decode cX0_earliestQuarantineEnd 8 = .ok (.if_icmp .ge 35, 3) := by decide +kernel
theorem dX0_earliestQuarantineEnd_11 : decode cX0_earliestQuarantineEnd 11 = .ok (.aload_n 0, 1) := by decide +kernel
theorem dX0_earliestQuarantineEnd_12 : decode cX0_earliestQuarantineEnd 12 = .ok (.getfield 18, 3) := by decide +kernel
theorem dX0_earliestQuarantineEnd_15 : decode cX0_earliestQuarantineEnd 15 = .ok (.iload_n 2, 1) := by decide +kernel
theorem dX0_earliestQuarantineEnd_16 : decode cX0_earliestQuarantineEnd 16 = .ok (.iaload, 1) := by decide +kernel
theorem dX0_earliestQuarantineEnd_17 : decode cX0_earliestQuarantineEnd 17 = .ok (.iconst 3, 1) := by decide +kernel
theorem dX0_earliestQuarantineEnd_18 : decode cX0_earliestQuarantineEnd 18 = .ok (.if_icmp .ne 19, 3) := by decide +kernel
theorem dX0_earliestQuarantineEnd_21 : decode cX0_earliestQuarantineEnd 21 = .ok (.iload_n 1, 1) := by decide +kernel
theorem dX0_earliestQuarantineEnd_22 : decode cX0_earliestQuarantineEnd 22 = .ok (.aload_n 0, 1) := by decide +kernel
theorem dX0_earliestQuarantineEnd_23 : decode cX0_earliestQuarantineEnd 23 = .ok (.getfield 25, 3) := by decide +kernel
theorem dX0_earliestQuarantineEnd_26 : decode cX0_earliestQuarantineEnd 26 = .ok (.iload_n 2, 1) := by decide +kernel
theorem dX0_earliestQuarantineEnd_27 : decode cX0_earliestQuarantineEnd 27 = .ok (.iaload, 1) := by decide +kernel
theorem dX0_earliestQuarantineEnd_28 : decode cX0_earliestQuarantineEnd 28 = .ok (.iconst 1, 1) := by decide +kernel
theorem dX0_earliestQuarantineEnd_29 : decode cX0_earliestQuarantineEnd 29 = .ok (.iload_n 2, 1) := by decide +kernel
theorem dX0_earliestQuarantineEnd_30 : decode cX0_earliestQuarantineEnd 30 = .ok (.invokestatic 59, 3) := by decide +kernel
theorem dX0_earliestQuarantineEnd_33 : decode cX0_earliestQuarantineEnd 33 = .ok (.invokestatic 63, 3) := by decide +kernel
theorem dX0_earliestQuarantineEnd_36 : decode cX0_earliestQuarantineEnd 36 = .ok (.istore_n 1, 1) := by decide +kernel
theorem dX0_earliestQuarantineEnd_37 : decode cX0_earliestQuarantineEnd 37 = .ok (.iinc 2 1, 3) := by decide +kernel
theorem dX0_earliestQuarantineEnd_40 : decode cX0_earliestQuarantineEnd 40 = .ok (.goto (-35), 3) := by decide +kernel
theorem dX0_earliestQuarantineEnd_43 : decode cX0_earliestQuarantineEnd 43 = .ok (.iload_n 1, 1) := by decide +kernel
theorem dX0_earliestQuarantineEnd_44 : decode cX0_earliestQuarantineEnd 44 = .ok (.ireturn, 1) := by decide +kernel
theorem dX0_copyFrom_0 : decode cX0_copyFrom 0 = .ok (.aload_n 1, 1) := by decide +kernel
theorem dX0_copyFrom_1 : decode cX0_copyFrom 1 = .ok (.getfield 9, 3) := by decide +kernel
theorem dX0_copyFrom_4 : decode cX0_copyFrom 4 = .ok (.aload_n 0, 1) := by decide +kernel
theorem dX0_copyFrom_5 : decode cX0_copyFrom 5 = .ok (.getfield 9, 3) := by decide +kernel
theorem dX0_copyFrom_8 : decode cX0_copyFrom 8 = .ok (.invokestatic 66, 3) := by decide +kernel
theorem dX0_copyFrom_11 : decode cX0_copyFrom 11 = .ok (.aload_n 1, 1) := by decide +kernel
theorem dX0_copyFrom_12 : decode cX0_copyFrom 12 = .ok (.getfield 15, 3) := by decide +kernel
theorem dX0_copyFrom_15 : decode cX0_copyFrom 15 = .ok (.aload_n 0, 1) := by decide +kernel
theorem dX0_copyFrom_16 : decode cX0_copyFrom 16 = .ok (.getfield 15, 3) := by decide +kernel
theorem dX0_copyFrom_19 : decode cX0_copyFrom 19 = .ok (.invokestatic 66, 3) := by decide +kernel
theorem dX0_copyFrom_22 : decode cX0_copyFrom 22 = .ok (.aload_n 1, 1) := by decide +kernel
theorem dX0_copyFrom_23 : decode cX0_copyFrom 23 = .ok (.getfield 18, 3) := by decide +kernel
theorem dX0_copyFrom_26 : decode cX0_copyFrom 26 = .ok (.aload_n 0, 1) := by decide +kernel
theorem dX0_copyFrom_27 : decode cX0_copyFrom 27 = .ok (.getfield 18, 3) := by decide +kernel
theorem dX0_copyFrom_30 : decode cX0_copyFrom 30 = .ok (.invokestatic 70, 3) := by decide +kernel
theorem dX0_copyFrom_33 : decode cX0_copyFrom 33 = .ok (.aload_n 1, 1) := by decide +kernel
theorem dX0_copyFrom_34 : decode cX0_copyFrom 34 = .ok (.getfield 22, 3) := by decide +kernel
theorem dX0_copyFrom_37 : decode cX0_copyFrom 37 = .ok (.aload_n 0, 1) := by decide +kernel
theorem dX0_copyFrom_38 : decode cX0_copyFrom 38 = .ok (.getfield 22, 3) := by decide +kernel
theorem dX0_copyFrom_41 : decode cX0_copyFrom 41 = .ok (.invokestatic 70, 3) := by decide +kernel
theorem dX0_copyFrom_44 : decode cX0_copyFrom 44 = .ok (.aload_n 1, 1) := by decide +kernel
theorem dX0_copyFrom_45 : decode cX0_copyFrom 45 = .ok (.getfield 25, 3) := by decide +kernel
theorem dX0_copyFrom_48 : decode cX0_copyFrom 48 = .ok (.aload_n 0, 1) := by decide +kernel
theorem dX0_copyFrom_49 : decode cX0_copyFrom 49 = .ok (.getfield 25, 3) := by decide +kernel
theorem dX0_copyFrom_52 : decode cX0_copyFrom 52 = .ok (.invokestatic 70, 3) := by decide +kernel
theorem dX0_copyFrom_55 : decode cX0_copyFrom 55 = .ok (.aload_n 1, 1) := by decide +kernel
theorem dX0_copyFrom_56 : decode cX0_copyFrom 56 = .ok (.getfield 28, 3) := by decide +kernel
theorem dX0_copyFrom_59 : decode cX0_copyFrom 59 = .ok (.aload_n 0, 1) := by decide +kernel
theorem dX0_copyFrom_60 : decode cX0_copyFrom 60 = .ok (.getfield 28, 3) := by decide +kernel
theorem dX0_copyFrom_63 : decode cX0_copyFrom 63 = .ok (.invokestatic 70, 3) := by decide +kernel
theorem dX0_copyFrom_66 : decode cX0_copyFrom 66 = .ok (.return_, 1) := by decide +kernel
theorem dX1_init_0 : decode cX1_init 0 = .ok (.aload_n 0, 1) := by decide +kernel
theorem dX1_init_1 : decode cX1_init 1 = .ok (.invokespecial 3, 3) := by decide +kernel
theorem dX1_init_4 : decode cX1_init 4 = .ok (.aload_n 0, 1) := by decide +kernel
theorem dX1_init_5 : decode cX1_init 5 = .ok (.bipush 20, 2) := by decide +kernel
theorem dX1_init_7 : decode cX1_init 7 = .ok (.newarray .int, 2) := by decide +kernel
theorem dX1_init_9 : decode cX1_init 9 = .ok (.putfield 9, 3) := by decide +kernel
theorem dX1_init_12 : decode cX1_init 12 = .ok (.aload_n 0, 1) := by decide +kernel
theorem dX1_init_13 : decode cX1_init 13 = .ok (.bipush 20, 2) := by decide +kernel
theorem dX1_init_15 : decode cX1_init 15 = .ok (.newarray .int, 2) := by decide +kernel
theorem dX1_init_17 : decode cX1_init 17 = .ok (.putfield 15, 3) := by decide +kernel
theorem dX1_init_20 : decode cX1_init 20 = .ok (.aload_n 0, 1) := by decide +kernel
theorem dX1_init_21 : decode cX1_init 21 = .ok (.bipush 20, 2) := by decide +kernel
theorem dX1_init_23 : decode cX1_init 23 = .ok (.newarray .int, 2) := by decide +kernel
theorem dX1_init_25 : decode cX1_init 25 = .ok (.putfield 18, 3) := by decide +kernel
theorem dX1_init_28 : decode cX1_init 28 = .ok (.aload_n 0, 1) := by decide +kernel
theorem dX1_init_29 : decode cX1_init 29 = .ok (.bipush 20, 2) := by decide +kernel
theorem dX1_init_31 : decode cX1_init 31 = .ok (.newarray .int, 2) := by decide +kernel
theorem dX1_init_33 : decode cX1_init 33 = .ok (.putfield 21, 3) := by decide +kernel
theorem dX1_init_36 : decode cX1_init 36 = .ok (.aload_n 0, 1) := by decide +kernel
theorem dX1_init_37 : decode cX1_init 37 = .ok (.bipush 20, 2) := by decide +kernel
theorem dX1_init_39 : decode cX1_init 39 = .ok (.newarray .int, 2) := by decide +kernel
theorem dX1_init_41 : decode cX1_init 41 = .ok (.putfield 24, 3) := by decide +kernel
theorem dX1_init_44 : decode cX1_init 44 = .ok (.aload_n 0, 1) := by decide +kernel
theorem dX1_init_45 : decode cX1_init 45 = .ok (.getfield 15, 3) := by decide +kernel
theorem dX1_init_48 : decode cX1_init 48 = .ok (.iconst (-1), 1) := by decide +kernel
theorem dX1_init_49 : decode cX1_init 49 = .ok (.invokestatic 27, 3) := by decide +kernel
theorem dX1_init_52 : decode cX1_init 52 = .ok (.aload_n 0, 1) := by decide +kernel
theorem dX1_init_53 : decode cX1_init 53 = .ok (.getfield 18, 3) := by decide +kernel
theorem dX1_init_56 : decode cX1_init 56 = .ok (.iconst (-1), 1) := by decide +kernel
theorem dX1_init_57 : decode cX1_init 57 = .ok (.invokestatic 27, 3) := by decide +kernel
theorem dX1_init_60 : decode cX1_init 60 = .ok (.return_, 1) := by decide +kernel
theorem dX1_isBound_0 : decode cX1_isBound 0 = .ok (.iload_n 1, 1) := by decide +kernel
theorem dX1_isBound_1 : decode cX1_isBound 1 = .ok (.invokestatic 33, 3) := by decide +kernel
theorem dX1_isBound_4 : decode cX1_isBound 4 = .ok (.ifCond .eq 17, 3) := by decide +kernel
theorem dX1_isBound_7 : decode cX1_isBound 7 = .ok (.aload_n 0, 1) := by decide +kernel
theorem dX1_isBound_8 : decode cX1_isBound 8 = .ok (.getfield 9, 3) := by decide +kernel
theorem dX1_isBound_11 : decode cX1_isBound 11 = .ok (.iload_n 1, 1) := by decide +kernel
theorem dX1_isBound_12 : decode cX1_isBound 12 = .ok (.iaload, 1) := by decide +kernel
theorem dX1_isBound_13 : decode cX1_isBound 13 = .ok (.iconst 2, 1) := by decide +kernel
theorem dX1_isBound_14 : decode cX1_isBound 14 = .ok (.if_icmp .lt 7, 3) := by decide +kernel
theorem dX1_isBound_17 : decode cX1_isBound 17 = .ok (.iconst 1, 1) := by decide +kernel
theorem dX1_isBound_18 : decode cX1_isBound 18 = .ok (.goto 4, 3) := by decide +kernel
theorem dX1_isBound_21 : decode cX1_isBound 21 = .ok (.iconst 0, 1) := by decide +kernel
theorem dX1_isBound_22 : decode cX1_isBound 22 = .ok (.ireturn, 1) := by decide +kernel
theorem dX1_countBound_0 : decode cX1_countBound 0 = .ok (.iconst 0, 1) := by decide +kernel
theorem dX1_countBound_1 : decode cX1_countBound 1 = .ok (.istore_n 1, 1) := by decide +kernel
theorem dX1_countBound_2 : decode cX1_countBound 2 = .ok (.iconst 0, 1) := by decide +kernel
theorem dX1_countBound_3 : decode cX1_countBound 3 = .ok (.istore_n 2, 1) := by decide +kernel
theorem dX1_countBound_4 : decode cX1_countBound 4 = .ok (.iload_n 2, 1) := by decide +kernel
theorem dX1_countBound_5 : decode cX1_countBound 5 = .ok (.bipush 20, 2) := by decide +kernel
theorem dX1_countBound_7 : decode cX1_countBound 7 = .ok (.if_icmp .ge 20, 3) := by decide +kernel
theorem dX1_countBound_10 : decode cX1_countBound 10 = .ok (.aload_n 0, 1) := by decide +kernel
theorem dX1_countBound_11 : decode cX1_countBound 11 = .ok (.iload_n 2, 1) := by decide +kernel
theorem dX1_countBound_12 : decode cX1_countBound 12 = .ok (.invokevirtual 37, 3) := by decide +kernel
theorem dX1_countBound_15 : decode cX1_countBound 15 = .ok (.ifCond .eq 6, 3) := by decide +kernel
theorem dX1_countBound_18 : decode cX1_countBound 18 = .ok (.iinc 1 1, 3) := by decide +kernel
theorem dX1_countBound_21 : decode cX1_countBound 21 = .ok (.iinc 2 1, 3) := by decide +kernel
theorem dX1_countBound_24 : decode cX1_countBound 24 = .ok (.goto (-20), 3) := by decide +kernel
theorem dX1_countBound_27 : decode cX1_countBound 27 = .ok (.iload_n 1, 1) := by decide +kernel
theorem dX1_countBound_28 : decode cX1_countBound 28 = .ok (.ireturn, 1) := by decide +kernel
theorem dX1_becomeIdle_0 : decode cX1_becomeIdle 0 = .ok (.iload_n 1, 1) := by decide +kernel
theorem dX1_becomeIdle_1 : decode cX1_becomeIdle 1 = .ok (.invokestatic 33, 3) := by decide +kernel
theorem dX1_becomeIdle_4 : decode cX1_becomeIdle 4 = .ok (.ifCond .eq 17, 3) := by decide +kernel
theorem dX1_becomeIdle_7 : decode cX1_becomeIdle 7 = .ok (.aload_n 0, 1) := by decide +kernel
theorem dX1_becomeIdle_8 : decode cX1_becomeIdle 8 = .ok (.getfield 9, 3) := by decide +kernel
theorem dX1_becomeIdle_11 : decode cX1_becomeIdle 11 = .ok (.iload_n 1, 1) := by decide +kernel
theorem dX1_becomeIdle_12 : decode cX1_becomeIdle 12 = .ok (.iconst 0, 1) := by decide +kernel
theorem dX1_becomeIdle_13 : decode cX1_becomeIdle 13 = .ok (.iastore, 1) := by decide +kernel
theorem dX1_becomeIdle_14 : decode cX1_becomeIdle 14 = .ok (.aload_n 0, 1) := by decide +kernel
theorem dX1_becomeIdle_15 : decode cX1_becomeIdle 15 = .ok (.getfield 15, 3) := by decide +kernel
theorem dX1_becomeIdle_18 : decode cX1_becomeIdle 18 = .ok (.iload_n 1, 1) := by decide +kernel
theorem dX1_becomeIdle_19 : decode cX1_becomeIdle 19 = .ok (.iconst (-1), 1) := by decide +kernel
theorem dX1_becomeIdle_20 : decode cX1_becomeIdle 20 = .ok (.iastore, 1) := by decide +kernel
theorem dX1_becomeIdle_21 : decode cX1_becomeIdle 21 = .ok (.return_, 1) := by decide +kernel
theorem dX1_takeOffer_0 : decode cX1_takeOffer 0 = .ok (.iload_n 1, 1) := by decide +kernel
theorem dX1_takeOffer_1 : decode cX1_takeOffer 1 = .ok (.invokestatic 33, 3) := by decide +kernel
theorem dX1_takeOffer_4 : decode cX1_takeOffer 4 = .ok (.ifCond .eq 17, 3) := by decide +kernel
theorem dX1_takeOffer_7 : decode cX1_takeOffer 7 = .ok (.aload_n 0, 1) := by decide +kernel
theorem dX1_takeOffer_8 : decode cX1_takeOffer 8 = .ok (.getfield 9, 3) := by decide +kernel
theorem dX1_takeOffer_11 : decode cX1_takeOffer 11 = .ok (.iload_n 1, 1) := by decide +kernel
theorem dX1_takeOffer_12 : decode cX1_takeOffer 12 = .ok (.iconst 1, 1) := by decide +kernel
theorem dX1_takeOffer_13 : decode cX1_takeOffer 13 = .ok (.iastore, 1) := by decide +kernel
theorem dX1_takeOffer_14 : decode cX1_takeOffer 14 = .ok (.aload_n 0, 1) := by decide +kernel
theorem dX1_takeOffer_15 : decode cX1_takeOffer 15 = .ok (.getfield 15, 3) := by decide +kernel
theorem dX1_takeOffer_18 : decode cX1_takeOffer 18 = .ok (.iload_n 1, 1) := by decide +kernel
theorem dX1_takeOffer_19 : decode cX1_takeOffer 19 = .ok (.iload_n 2, 1) := by decide +kernel
theorem dX1_takeOffer_20 : decode cX1_takeOffer 20 = .ok (.iastore, 1) := by decide +kernel
theorem dX1_takeOffer_21 : decode cX1_takeOffer 21 = .ok (.return_, 1) := by decide +kernel
theorem dX1_takeLease_0 : decode cX1_takeLease 0 = .ok (.iload_n 1, 1) := by decide +kernel
theorem dX1_takeLease_1 : decode cX1_takeLease 1 = .ok (.invokestatic 33, 3) := by decide +kernel
theorem dX1_takeLease_4 : decode cX1_takeLease 4 = .ok (.ifCond .eq 48, 3) := by decide +kernel
theorem dX1_takeLease_7 : decode cX1_takeLease 7 = .ok (.aload_n 0, 1) := by decide +kernel
theorem dX1_takeLease_8 : decode cX1_takeLease 8 = .ok (.getfield 9, 3) := by decide +kernel
theorem dX1_takeLease_11 : decode cX1_takeLease 11 = .ok (.iload_n 1, 1) := by decide +kernel
theorem dX1_takeLease_12 : decode cX1_takeLease 12 = .ok (.iconst 2, 1) := by decide +kernel
theorem dX1_takeLease_13 : decode cX1_takeLease 13 = .ok (.iastore, 1) := by decide +kernel
theorem dX1_takeLease_14 : decode cX1_takeLease 14 = .ok (.aload_n 0, 1) := by decide +kernel
theorem dX1_takeLease_15 : decode cX1_takeLease 15 = .ok (.getfield 18, 3) := by decide +kernel
theorem dX1_takeLease_18 : decode cX1_takeLease 18 = .ok (.iload_n 1, 1) := by decide +kernel
theorem dX1_takeLease_19 : decode cX1_takeLease 19 = .ok (.aload_n 0, 1) := by decide +kernel
theorem dX1_takeLease_20 : decode cX1_takeLease 20 = .ok (.getfield 15, 3) := by decide +kernel
theorem dX1_takeLease_23 : decode cX1_takeLease 23 = .ok (.iload_n 1, 1) := by decide +kernel
theorem dX1_takeLease_24 : decode cX1_takeLease 24 = .ok (.iaload, 1) := by decide +kernel
theorem dX1_takeLease_25 : decode cX1_takeLease 25 = .ok (.iastore, 1) := by decide +kernel
theorem dX1_takeLease_26 : decode cX1_takeLease 26 = .ok (.aload_n 0, 1) := by decide +kernel
theorem dX1_takeLease_27 : decode cX1_takeLease 27 = .ok (.getfield 21, 3) := by decide +kernel
theorem dX1_takeLease_30 : decode cX1_takeLease 30 = .ok (.iload_n 1, 1) := by decide +kernel
theorem dX1_takeLease_31 : decode cX1_takeLease 31 = .ok (.iload_n 2, 1) := by decide +kernel
theorem dX1_takeLease_32 : decode cX1_takeLease 32 = .ok (.iload_n 3, 1) := by decide +kernel
theorem dX1_takeLease_33 : decode cX1_takeLease 33 = .ok (.iconst 2, 1) := by decide +kernel
theorem dX1_takeLease_34 : decode cX1_takeLease 34 = .ok (.idiv, 1) := by decide +kernel
theorem dX1_takeLease_35 : decode cX1_takeLease 35 = .ok (.iadd, 1) := by decide +kernel
theorem dX1_takeLease_36 : decode cX1_takeLease 36 = .ok (.iastore, 1) := by decide +kernel
theorem dX1_takeLease_37 : decode cX1_takeLease 37 = .ok (.aload_n 0, 1) := by decide +kernel
theorem dX1_takeLease_38 : decode cX1_takeLease 38 = .ok (.getfield 24, 3) := by decide +kernel
theorem dX1_takeLease_41 : decode cX1_takeLease 41 = .ok (.iload_n 1, 1) := by decide +kernel
theorem dX1_takeLease_42 : decode cX1_takeLease 42 = .ok (.iload_n 2, 1) := by decide +kernel
theorem dX1_takeLease_43 : decode cX1_takeLease 43 = .ok (.iload_n 3, 1) := by decide +kernel
theorem dX1_takeLease_44 : decode cX1_takeLease 44 = .ok (.bipush 7, 2) := by decide +kernel
theorem dX1_takeLease_46 : decode cX1_takeLease 46 = .ok (.imul, 1) := by decide +kernel
theorem dX1_takeLease_47 : decode cX1_takeLease 47 = .ok (.bipush 8, 2) := by decide +kernel
theorem dX1_takeLease_49 : decode cX1_takeLease 49 = .ok (.idiv, 1) := by decide +kernel
theorem dX1_takeLease_50 : decode cX1_takeLease 50 = .ok (.iadd, 1) := by decide +kernel
theorem dX1_takeLease_51 : decode cX1_takeLease 51 = .ok (.iastore, 1) := by decide +kernel
theorem dX1_takeLease_52 : decode cX1_takeLease 52 = .ok (.return_, 1) := by decide +kernel
theorem dX1_copyFrom_0 : decode cX1_copyFrom 0 = .ok (.aload_n 1, 1) := by decide +kernel
theorem dX1_copyFrom_1 : decode cX1_copyFrom 1 = .ok (.getfield 9, 3) := by decide +kernel
theorem dX1_copyFrom_4 : decode cX1_copyFrom 4 = .ok (.aload_n 0, 1) := by decide +kernel
theorem dX1_copyFrom_5 : decode cX1_copyFrom 5 = .ok (.getfield 9, 3) := by decide +kernel
theorem dX1_copyFrom_8 : decode cX1_copyFrom 8 = .ok (.invokestatic 40, 3) := by decide +kernel
theorem dX1_copyFrom_11 : decode cX1_copyFrom 11 = .ok (.aload_n 1, 1) := by decide +kernel
theorem dX1_copyFrom_12 : decode cX1_copyFrom 12 = .ok (.getfield 15, 3) := by decide +kernel
theorem dX1_copyFrom_15 : decode cX1_copyFrom 15 = .ok (.aload_n 0, 1) := by decide +kernel
theorem dX1_copyFrom_16 : decode cX1_copyFrom 16 = .ok (.getfield 15, 3) := by decide +kernel
theorem dX1_copyFrom_19 : decode cX1_copyFrom 19 = .ok (.invokestatic 40, 3) := by decide +kernel
theorem dX1_copyFrom_22 : decode cX1_copyFrom 22 = .ok (.aload_n 1, 1) := by decide +kernel
theorem dX1_copyFrom_23 : decode cX1_copyFrom 23 = .ok (.getfield 18, 3) := by decide +kernel
theorem dX1_copyFrom_26 : decode cX1_copyFrom 26 = .ok (.aload_n 0, 1) := by decide +kernel
theorem dX1_copyFrom_27 : decode cX1_copyFrom 27 = .ok (.getfield 18, 3) := by decide +kernel
theorem dX1_copyFrom_30 : decode cX1_copyFrom 30 = .ok (.invokestatic 40, 3) := by decide +kernel
theorem dX1_copyFrom_33 : decode cX1_copyFrom 33 = .ok (.aload_n 1, 1) := by decide +kernel
theorem dX1_copyFrom_34 : decode cX1_copyFrom 34 = .ok (.getfield 21, 3) := by decide +kernel
theorem dX1_copyFrom_37 : decode cX1_copyFrom 37 = .ok (.aload_n 0, 1) := by decide +kernel
theorem dX1_copyFrom_38 : decode cX1_copyFrom 38 = .ok (.getfield 21, 3) := by decide +kernel
theorem dX1_copyFrom_41 : decode cX1_copyFrom 41 = .ok (.invokestatic 40, 3) := by decide +kernel
theorem dX1_copyFrom_44 : decode cX1_copyFrom 44 = .ok (.aload_n 1, 1) := by decide +kernel
theorem dX1_copyFrom_45 : decode cX1_copyFrom 45 = .ok (.getfield 24, 3) := by decide +kernel
theorem dX1_copyFrom_48 : decode cX1_copyFrom 48 = .ok (.aload_n 0, 1) := by decide +kernel
theorem dX1_copyFrom_49 : decode cX1_copyFrom 49 = .ok (.getfield 24, 3) := by decide +kernel
theorem dX1_copyFrom_52 : decode cX1_copyFrom 52 = .ok (.invokestatic 40, 3) := by decide +kernel
theorem dX1_copyFrom_55 : decode cX1_copyFrom 55 = .ok (.return_, 1) := by decide +kernel
theorem dX2_init_0 : decode cX2_init 0 = .ok (.aload_n 0, 1) := by decide +kernel
theorem dX2_init_1 : decode cX2_init 1 = .ok (.invokespecial 3, 3) := by decide +kernel
theorem dX2_init_4 : decode cX2_init 4 = .ok (.aload_n 0, 1) := by decide +kernel
theorem dX2_init_5 : decode cX2_init 5 = .ok (.bipush 30, 2) := by decide +kernel
theorem dX2_init_7 : decode cX2_init 7 = .ok (.newarray .int, 2) := by decide +kernel
theorem dX2_init_9 : decode cX2_init 9 = .ok (.putfield 9, 3) := by decide +kernel
theorem dX2_init_12 : decode cX2_init 12 = .ok (.return_, 1) := by decide +kernel
theorem dX2_write_0 : decode cX2_write 0 = .ok (.aload_n 0, 1) := by decide +kernel
theorem dX2_write_1 : decode cX2_write 1 = .ok (.getfield 15, 3) := by decide +kernel
theorem dX2_write_4 : decode cX2_write 4 = .ok (.ifCond .lt 28, 3) := by decide +kernel
theorem dX2_write_7 : decode cX2_write 7 = .ok (.aload_n 0, 1) := by decide +kernel
theorem dX2_write_8 : decode cX2_write 8 = .ok (.getfield 15, 3) := by decide +kernel
theorem dX2_write_11 : decode cX2_write 11 = .ok (.bipush 30, 2) := by decide +kernel
theorem dX2_write_13 : decode cX2_write 13 = .ok (.if_icmp .ge 19, 3) := by decide +kernel
theorem dX2_write_16 : decode cX2_write 16 = .ok (.aload_n 0, 1) := by decide +kernel
theorem dX2_write_17 : decode cX2_write 17 = .ok (.getfield 9, 3) := by decide +kernel
theorem dX2_write_20 : decode cX2_write 20 = .ok (.aload_n 0, 1) := by decide +kernel
theorem dX2_write_21 : decode cX2_write 21 = .ok (.getfield 15, 3) := by decide +kernel
theorem dX2_write_24 : decode cX2_write 24 = .ok (.iload_n 1, 1) := by decide +kernel
theorem dX2_write_25 : decode cX2_write 25 = .ok (.sipush 1000, 3) := by decide +kernel
theorem dX2_write_28 : decode cX2_write 28 = .ok (.imul, 1) := by decide +kernel
theorem dX2_write_29 : decode cX2_write 29 = .ok (.iload_n 2, 1) := by decide +kernel
theorem dX2_write_30 : decode cX2_write 30 = .ok (.iadd, 1) := by decide +kernel
theorem dX2_write_31 : decode cX2_write 31 = .ok (.iastore, 1) := by decide +kernel
theorem dX2_write_32 : decode cX2_write 32 = .ok (.aload_n 0, 1) := by decide +kernel
theorem dX2_write_33 : decode cX2_write 33 = .ok (.aload_n 0, 1) := by decide +kernel
theorem dX2_write_34 : decode cX2_write 34 = .ok (.getfield 15, 3) := by decide +kernel
theorem dX2_write_37 : decode cX2_write 37 = .ok (.iconst 1, 1) := by decide +kernel
theorem dX2_write_38 : decode cX2_write 38 = .ok (.iadd, 1) := by decide +kernel
theorem dX2_write_39 : decode cX2_write 39 = .ok (.bipush 30, 2) := by decide +kernel
theorem dX2_write_41 : decode cX2_write 41 = .ok (.irem, 1) := by decide +kernel
theorem dX2_write_42 : decode cX2_write 42 = .ok (.putfield 15, 3) := by decide +kernel
theorem dX2_write_45 : decode cX2_write 45 = .ok (.aload_n 0, 1) := by decide +kernel
theorem dX2_write_46 : decode cX2_write 46 = .ok (.aload_n 0, 1) := by decide +kernel
theorem dX2_write_47 : decode cX2_write 47 = .ok (.getfield 19, 3) := by decide +kernel
theorem dX2_write_50 : decode cX2_write 50 = .ok (.iconst 1, 1) := by decide +kernel
theorem dX2_write_51 : decode cX2_write 51 = .ok (.iadd, 1) := by decide +kernel
theorem dX2_write_52 : decode cX2_write 52 = .ok (.bipush 30, 2) := by decide +kernel
theorem dX2_write_54 : decode cX2_write 54 = .ok (.invokestatic 22, 3) := by decide +kernel
theorem dX2_write_57 : decode cX2_write 57 = .ok (.putfield 19, 3) := by decide +kernel
theorem dX2_write_60 : decode cX2_write 60 = .ok (.return_, 1) := by decide +kernel
theorem dX2_read_0 : decode cX2_read 0 = .ok (.aload_n 0, 1) := by decide +kernel
theorem dX2_read_1 : decode cX2_read 1 = .ok (.getfield 9, 3) := by decide +kernel
theorem dX2_read_4 : decode cX2_read 4 = .ok (.aload_n 0, 1) := by decide +kernel
theorem dX2_read_5 : decode cX2_read 5 = .ok (.getfield 15, 3) := by decide +kernel
theorem dX2_read_8 : decode cX2_read 8 = .ok (.iconst 1, 1) := by decide +kernel
theorem dX2_read_9 : decode cX2_read 9 = .ok (.isub, 1) := by decide +kernel
theorem dX2_read_10 : decode cX2_read 10 = .ok (.iload_n 1, 1) := by decide +kernel
theorem dX2_read_11 : decode cX2_read 11 = .ok (.isub, 1) := by decide +kernel
theorem dX2_read_12 : decode cX2_read 12 = .ok (.bipush 30, 2) := by decide +kernel
theorem dX2_read_14 : decode cX2_read 14 = .ok (.invokestatic 28, 3) := by decide +kernel
theorem dX2_read_17 : decode cX2_read 17 = .ok (.iaload, 1) := by decide +kernel
theorem dX2_read_18 : decode cX2_read 18 = .ok (.ireturn, 1) := by decide +kernel
theorem dX3_init_0 : decode cX3_init 0 = .ok (.aload_n 0, 1) := by decide +kernel
theorem dX3_init_1 : decode cX3_init 1 = .ok (.invokespecial 3, 3) := by decide +kernel
theorem dX3_init_4 : decode cX3_init 4 = .ok (.aload_n 0, 1) := by decide +kernel
theorem dX3_init_5 : decode cX3_init 5 = .ok (.iconst 5, 1) := by decide +kernel
theorem dX3_init_6 : decode cX3_init 6 = .ok (.newarray .int, 2) := by decide +kernel
theorem dX3_init_8 : decode cX3_init 8 = .ok (.putfield 9, 3) := by decide +kernel
theorem dX3_init_11 : decode cX3_init 11 = .ok (.aload_n 0, 1) := by decide +kernel
theorem dX3_init_12 : decode cX3_init 12 = .ok (.iconst 5, 1) := by decide +kernel
theorem dX3_init_13 : decode cX3_init 13 = .ok (.newarray .int, 2) := by decide +kernel
theorem dX3_init_15 : decode cX3_init 15 = .ok (.putfield 15, 3) := by decide +kernel
theorem dX3_init_18 : decode cX3_init 18 = .ok (.aload_n 0, 1) := by decide +kernel
theorem dX3_init_19 : decode cX3_init 19 = .ok (.iconst 5, 1) := by decide +kernel
theorem dX3_init_20 : decode cX3_init 20 = .ok (.newarray .int, 2) := by decide +kernel
theorem dX3_init_22 : decode cX3_init 22 = .ok (.putfield 18, 3) := by decide +kernel
theorem dX3_init_25 : decode cX3_init 25 = .ok (.aload_n 0, 1) := by decide +kernel
theorem dX3_init_26 : decode cX3_init 26 = .ok (.iconst 5, 1) := by decide +kernel
theorem dX3_init_27 : decode cX3_init 27 = .ok (.newarray .int, 2) := by decide +kernel
theorem dX3_init_29 : decode cX3_init 29 = .ok (.putfield 21, 3) := by decide +kernel
theorem dX3_init_32 : decode cX3_init 32 = .ok (.return_, 1) := by decide +kernel
theorem dX3_isPool_0 : decode cX3_isPool 0 = .ok (.iload_n 1, 1) := by decide +kernel
theorem dX3_isPool_1 : decode cX3_isPool 1 = .ok (.ifCond .lt 20, 3) := by decide +kernel
theorem dX3_isPool_4 : decode cX3_isPool 4 = .ok (.iload_n 1, 1) := by decide +kernel
theorem dX3_isPool_5 : decode cX3_isPool 5 = .ok (.aload_n 0, 1) := by decide +kernel
theorem dX3_isPool_6 : decode cX3_isPool 6 = .ok (.getfield 24, 3) := by decide +kernel
theorem dX3_isPool_9 : decode cX3_isPool 9 = .ok (.if_icmp .ge 12, 3) := by decide +kernel
theorem dX3_isPool_12 : decode cX3_isPool 12 = .ok (.iload_n 1, 1) := by decide +kernel
theorem dX3_isPool_13 : decode cX3_isPool 13 = .ok (.iconst 5, 1) := by decide +kernel
theorem dX3_isPool_14 : decode cX3_isPool 14 = .ok (.if_icmp .ge 7, 3) := by decide +kernel
theorem dX3_isPool_17 : decode cX3_isPool 17 = .ok (.iconst 1, 1) := by decide +kernel
theorem dX3_isPool_18 : decode cX3_isPool 18 = .ok (.goto 4, 3) := by decide +kernel
theorem dX3_isPool_21 : decode cX3_isPool 21 = .ok (.iconst 0, 1) := by decide +kernel
theorem dX3_isPool_22 : decode cX3_isPool 22 = .ok (.ireturn, 1) := by decide +kernel
theorem dX3_numberAt_0 : decode cX3_numberAt 0 = .ok (.iconst 0, 1) := by decide +kernel
theorem dX3_numberAt_1 : decode cX3_numberAt 1 = .ok (.istore_n 2, 1) := by decide +kernel
theorem dX3_numberAt_2 : decode cX3_numberAt 2 = .ok (.iload_n 2, 1) := by decide +kernel
theorem dX3_numberAt_3 : decode cX3_numberAt 3 = .ok (.iconst 5, 1) := by decide +kernel
theorem dX3_numberAt_4 : decode cX3_numberAt 4 = .ok (.if_icmp .ge 39, 3) := by decide +kernel
theorem dX3_numberAt_7 : decode cX3_numberAt 7 = .ok (.iload_n 2, 1) := by decide +kernel
theorem dX3_numberAt_8 : decode cX3_numberAt 8 = .ok (.aload_n 0, 1) := by decide +kernel
theorem dX3_numberAt_9 : decode cX3_numberAt 9 = .ok (.getfield 24, 3) := by decide +kernel
theorem dX3_numberAt_12 : decode cX3_numberAt 12 = .ok (.if_icmp .ge 31, 3) := by decide +kernel
theorem dX3_numberAt_15 : decode cX3_numberAt 15 = .ok (.aload_n 0, 1) := by decide +kernel
theorem dX3_numberAt_16 : decode cX3_numberAt 16 = .ok (.getfield 15, 3) := by decide +kernel
theorem dX3_numberAt_19 : decode cX3_numberAt 19 = .ok (.iload_n 2, 1) := by decide +kernel
theorem dX3_numberAt_20 : decode cX3_numberAt 20 = .ok (.iaload, 1) := by decide +kernel
theorem dX3_numberAt_21 : decode cX3_numberAt 21 = .ok (.iload_n 1, 1) := by decide +kernel
theorem dX3_numberAt_22 : decode cX3_numberAt 22 = .ok (.if_icmp .gt 15, 3) := by decide +kernel
theorem dX3_numberAt_25 : decode cX3_numberAt 25 = .ok (.iload_n 1, 1) := by decide +kernel
theorem dX3_numberAt_26 : decode cX3_numberAt 26 = .ok (.aload_n 0, 1) := by decide +kernel
theorem dX3_numberAt_27 : decode cX3_numberAt 27 = .ok (.getfield 18, 3) := by decide +kernel
theorem dX3_numberAt_30 : decode cX3_numberAt 30 = .ok (.iload_n 2, 1) := by decide +kernel
theorem dX3_numberAt_31 : decode cX3_numberAt 31 = .ok (.iaload, 1) := by decide +kernel
theorem dX3_numberAt_32 : decode cX3_numberAt 32 = .ok (.if_icmp .gt 5, 3) := by decide +kernel
theorem dX3_numberAt_35 : decode cX3_numberAt 35 = .ok (.iload_n 2, 1) := by decide +kernel
theorem dX3_numberAt_36 : decode cX3_numberAt 36 = .ok (.ireturn, 1) := by decide +kernel
theorem dX3_numberAt_37 : decode cX3_numberAt 37 = .ok (.iinc 2 1, 3) := by decide +kernel
theorem dX3_numberAt_40 : decode cX3_numberAt 40 = .ok (.goto (-38), 3) := by decide +kernel
theorem dX3_numberAt_43 : decode cX3_numberAt 43 = .ok (.iconst (-1), 1) := by decide +kernel
theorem dX3_numberAt_44 : decode cX3_numberAt 44 = .ok (.ireturn, 1) := by decide +kernel
theorem dX3_groupAt_0 : decode cX3_groupAt 0 = .ok (.aload_n 0, 1) := by decide +kernel
theorem dX3_groupAt_1 : decode cX3_groupAt 1 = .ok (.iload_n 1, 1) := by decide +kernel
theorem dX3_groupAt_2 : decode cX3_groupAt 2 = .ok (.invokevirtual 28, 3) := by decide +kernel
theorem dX3_groupAt_5 : decode cX3_groupAt 5 = .ok (.istore_n 2, 1) := by decide +kernel
theorem dX3_groupAt_6 : decode cX3_groupAt 6 = .ok (.aload_n 0, 1) := by decide +kernel
theorem dX3_groupAt_7 : decode cX3_groupAt 7 = .ok (.iload_n 2, 1) := by decide +kernel
theorem dX3_groupAt_8 : decode cX3_groupAt 8 = .ok (.invokevirtual 32, 3) := by decide +kernel
theorem dX3_groupAt_11 : decode cX3_groupAt 11 = .ok (.ifCond .eq 12, 3) := by decide +kernel
theorem dX3_groupAt_14 : decode cX3_groupAt 14 = .ok (.aload_n 0, 1) := by decide +kernel
theorem dX3_groupAt_15 : decode cX3_groupAt 15 = .ok (.getfield 9, 3) := by decide +kernel
theorem dX3_groupAt_18 : decode cX3_groupAt 18 = .ok (.iload_n 2, 1) := by decide +kernel
theorem dX3_groupAt_19 : decode cX3_groupAt 19 = .ok (.iaload, 1) := by decide +kernel
theorem dX3_groupAt_20 : decode cX3_groupAt 20 = .ok (.goto 4, 3) := by decide +kernel
theorem dX3_groupAt_23 : decode cX3_groupAt 23 = .ok (.iconst (-1), 1) := by decide +kernel
theorem dX3_groupAt_24 : decode cX3_groupAt 24 = .ok (.ireturn, 1) := by decide +kernel
theorem dX3_leaseAt_0 : decode cX3_leaseAt 0 = .ok (.aload_n 0, 1) := by decide +kernel
theorem dX3_leaseAt_1 : decode cX3_leaseAt 1 = .ok (.iload_n 1, 1) := by decide +kernel
theorem dX3_leaseAt_2 : decode cX3_leaseAt 2 = .ok (.invokevirtual 28, 3) := by decide +kernel
theorem dX3_leaseAt_5 : decode cX3_leaseAt 5 = .ok (.istore_n 2, 1) := by decide +kernel
theorem dX3_leaseAt_6 : decode cX3_leaseAt 6 = .ok (.aload_n 0, 1) := by decide +kernel
theorem dX3_leaseAt_7 : decode cX3_leaseAt 7 = .ok (.iload_n 2, 1) := by decide +kernel
theorem dX3_leaseAt_8 : decode cX3_leaseAt 8 = .ok (.invokevirtual 32, 3) := by decide +kernel
theorem dX3_leaseAt_11 : decode cX3_leaseAt 11 = .ok (.ifCond .eq 12, 3) := by decide +kernel
theorem dX3_leaseAt_14 : decode cX3_leaseAt 14 = .ok (.aload_n 0, 1) := by decide +kernel
theorem dX3_leaseAt_15 : decode cX3_leaseAt 15 = .ok (.getfield 21, 3) := by decide +kernel
theorem dX3_leaseAt_18 : decode cX3_leaseAt 18 = .ok (.iload_n 2, 1) := by decide +kernel
theorem dX3_leaseAt_19 : decode cX3_leaseAt 19 = .ok (.iaload, 1) := by decide +kernel
theorem dX3_leaseAt_20 : decode cX3_leaseAt 20 = .ok (.goto 4, 3) := by decide +kernel
theorem dX3_leaseAt_23 : decode cX3_leaseAt 23 = .ok (.iconst 0, 1) := by decide +kernel
theorem dX3_leaseAt_24 : decode cX3_leaseAt 24 = .ok (.ireturn, 1) := by decide +kernel
theorem dX3_overlap_0 : decode cX3_overlap 0 = .ok (.iconst 0, 1) := by decide +kernel
theorem dX3_overlap_1 : decode cX3_overlap 1 = .ok (.istore_n 3, 1) := by decide +kernel
theorem dX3_overlap_2 : decode cX3_overlap 2 = .ok (.iload_n 3, 1) := by decide +kernel
theorem dX3_overlap_3 : decode cX3_overlap 3 = .ok (.iconst 5, 1) := by decide +kernel
theorem dX3_overlap_4 : decode cX3_overlap 4 = .ok (.if_icmp .ge 39, 3) := by decide +kernel
theorem dX3_overlap_7 : decode cX3_overlap 7 = .ok (.iload_n 3, 1) := by decide +kernel
theorem dX3_overlap_8 : decode cX3_overlap 8 = .ok (.aload_n 0, 1) := by decide +kernel
theorem dX3_overlap_9 : decode cX3_overlap 9 = .ok (.getfield 24, 3) := by decide +kernel
theorem dX3_overlap_12 : decode cX3_overlap 12 = .ok (.if_icmp .ge 31, 3) := by decide +kernel
theorem dX3_overlap_15 : decode cX3_overlap 15 = .ok (.aload_n 0, 1) := by decide +kernel
theorem dX3_overlap_16 : decode cX3_overlap 16 = .ok (.getfield 15, 3) := by decide +kernel
theorem dX3_overlap_19 : decode cX3_overlap 19 = .ok (.iload_n 3, 1) := by decide +kernel
theorem dX3_overlap_20 : decode cX3_overlap 20 = .ok (.iaload, 1) := by decide +kernel
theorem dX3_overlap_21 : decode cX3_overlap 21 = .ok (.iload_n 2, 1) := by decide +kernel
theorem dX3_overlap_22 : decode cX3_overlap 22 = .ok (.if_icmp .gt 15, 3) := by decide +kernel
theorem dX3_overlap_25 : decode cX3_overlap 25 = .ok (.iload_n 1, 1) := by decide +kernel
theorem dX3_overlap_26 : decode cX3_overlap 26 = .ok (.aload_n 0, 1) := by decide +kernel
theorem dX3_overlap_27 : decode cX3_overlap 27 = .ok (.getfield 18, 3) := by decide +kernel
theorem dX3_overlap_30 : decode cX3_overlap 30 = .ok (.iload_n 3, 1) := by decide +kernel
theorem dX3_overlap_31 : decode cX3_overlap 31 = .ok (.iaload, 1) := by decide +kernel
theorem dX3_overlap_32 : decode cX3_overlap 32 = .ok (.if_icmp .gt 5, 3) := by decide +kernel
theorem dX3_overlap_35 : decode cX3_overlap 35 = .ok (.iconst 1, 1) := by decide +kernel
theorem dX3_overlap_36 : decode cX3_overlap 36 = .ok (.ireturn, 1) := by decide +kernel
theorem dX3_overlap_37 : decode cX3_overlap 37 = .ok (.iinc 3 1, 3) := by decide +kernel
theorem dX3_overlap_40 : decode cX3_overlap 40 = .ok (.goto (-38), 3) := by decide +kernel
theorem dX3_overlap_43 : decode cX3_overlap 43 = .ok (.iconst 0, 1) := by decide +kernel
theorem dX3_overlap_44 : decode cX3_overlap 44 = .ok (.ireturn, 1) := by decide +kernel
theorem dX3_countAddresses_0 : decode cX3_countAddresses 0 = .ok (.iconst 0, 1) := by decide +kernel
theorem dX3_countAddresses_1 : decode cX3_countAddresses 1 = .ok (.istore_n 2, 1) := by decide +kernel
theorem dX3_countAddresses_2 : decode cX3_countAddresses 2 = .ok (.iconst 0, 1) := by decide +kernel
theorem dX3_countAddresses_3 : decode cX3_countAddresses 3 = .ok (.istore_n 3, 1) := by decide +kernel
theorem dX3_countAddresses_4 : decode cX3_countAddresses 4 = .ok (.iload_n 3, 1) := by decide +kernel
theorem dX3_countAddresses_5 : decode cX3_countAddresses 5 = .ok (.iconst 5, 1) := by decide +kernel
theorem dX3_countAddresses_6 : decode cX3_countAddresses 6 = .ok (.if_icmp .ge 45, 3) := by decide +kernel
theorem dX3_countAddresses_9 : decode cX3_countAddresses 9 = .ok (.iload_n 3, 1) := by decide +kernel
theorem dX3_countAddresses_10 : decode cX3_countAddresses 10 = .ok (.aload_n 0, 1) := by decide +kernel
theorem dX3_countAddresses_11 : decode cX3_countAddresses 11 = .ok (.getfield 24, 3) := by decide +kernel
theorem dX3_countAddresses_14 : decode cX3_countAddresses 14 = .ok (.if_icmp .ge 37, 3) := by decide +kernel
theorem dX3_countAddresses_17 : decode cX3_countAddresses 17 = .ok (.aload_n 0, 1) := by decide +kernel
theorem dX3_countAddresses_18 : decode cX3_countAddresses 18 = .ok (.getfield 9, 3) := by decide +kernel
theorem dX3_countAddresses_21 : decode cX3_countAddresses 21 = .ok (.iload_n 3, 1) := by decide +kernel
theorem dX3_countAddresses_22 : decode cX3_countAddresses 22 = .ok (.iaload, 1) := by decide +kernel
theorem dX3_countAddresses_23 : decode cX3_countAddresses 23 = .ok (.iload_n 1, 1) := by decide +kernel
theorem dX3_countAddresses_24 : decode cX3_countAddresses 24 = .ok (.if_icmp .ne 21, 3) := by decide +kernel
theorem dX3_countAddresses_27 : decode cX3_countAddresses 27 = .ok (.iload_n 2, 1) := by decide +kernel
theorem dX3_countAddresses_28 : decode cX3_countAddresses 28 = .ok (.aload_n 0, 1) := by decide +kernel
theorem dX3_countAddresses_29 : decode cX3_countAddresses 29 = .ok (.getfield 18, 3) := by decide +kernel
theorem dX3_countAddresses_32 : decode cX3_countAddresses 32 = .ok (.iload_n 3, 1) := by decide +kernel
theorem dX3_countAddresses_33 : decode cX3_countAddresses 33 = .ok (.iaload, 1) := by decide +kernel
theorem dX3_countAddresses_34 : decode cX3_countAddresses 34 = .ok (.aload_n 0, 1) := by decide +kernel
theorem dX3_countAddresses_35 : decode cX3_countAddresses 35 = .ok (.getfield 15, 3) := by decide +kernel
theorem dX3_countAddresses_38 : decode cX3_countAddresses 38 = .ok (.iload_n 3, 1) := by decide +kernel
theorem dX3_countAddresses_39 : decode cX3_countAddresses 39 = .ok (.iaload, 1) := by decide +kernel
theorem dX3_countAddresses_40 : decode cX3_countAddresses 40 = .ok (.isub, 1) := by decide +kernel
theorem dX3_countAddresses_41 : decode cX3_countAddresses 41 = .ok (.iconst 1, 1) := by decide +kernel
theorem dX3_countAddresses_42 : decode cX3_countAddresses 42 = .ok (.iadd, 1) := by decide +kernel
theorem dX3_countAddresses_43 : decode cX3_countAddresses 43 = .ok (.iadd, 1) := by decide +kernel
theorem dX3_countAddresses_44 : decode cX3_countAddresses 44 = .ok (.istore_n 2, 1) := by decide +kernel
theorem dX3_countAddresses_45 : decode cX3_countAddresses 45 = .ok (.iinc 3 1, 3) := by decide +kernel
theorem dX3_countAddresses_48 : decode cX3_countAddresses 48 = .ok (.goto (-44), 3) := by decide +kernel
theorem dX3_countAddresses_51 : decode cX3_countAddresses 51 = .ok (.iload_n 2, 1) := by decide +kernel
theorem dX3_countAddresses_52 : decode cX3_countAddresses 52 = .ok (.ireturn, 1) := by decide +kernel
theorem dX3_append_0 : decode cX3_append 0 = .ok (.aload_n 0, 1) := by decide +kernel
theorem dX3_append_1 : decode cX3_append 1 = .ok (.getfield 24, 3) := by decide +kernel
theorem dX3_append_4 : decode cX3_append 4 = .ok (.istore 5, 2) := by decide +kernel
theorem dX3_append_6 : decode cX3_append 6 = .ok (.iload 5, 2) := by decide +kernel
theorem dX3_append_8 : decode cX3_append 8 = .ok (.ifCond .lt 9, 3) := by decide +kernel
theorem dX3_append_11 : decode cX3_append 11 = .ok (.iload 5, 2) := by decide +kernel
theorem dX3_append_13 : decode cX3_append 13 = .ok (.iconst 5, 1) := by decide +kernel
theorem dX3_append_14 : decode cX3_append 14 = .ok (.if_icmp .lt 5, 3) := by decide +kernel
theorem dX3_append_17 : decode cX3_append 17 = .ok (.iconst (-1), 1) := by decide +kernel
theorem dX3_append_18 : decode cX3_append 18 = .ok (.ireturn, 1) := by decide +kernel
theorem dX3_append_19 : decode cX3_append 19 = .ok (.aload_n 0, 1) := by decide +kernel
theorem dX3_append_20 : decode cX3_append 20 = .ok (.getfield 9, 3) := by decide +kernel
theorem dX3_append_23 : decode cX3_append 23 = .ok (.iload 5, 2) := by decide +kernel
theorem dX3_append_25 : decode cX3_append 25 = .ok (.iload_n 1, 1) := by decide +kernel
theorem dX3_append_26 : decode cX3_append 26 = .ok (.iastore, 1) := by decide +kernel
theorem dX3_append_27 : decode cX3_append 27 = .ok (.aload_n 0, 1) := by decide +kernel
theorem dX3_append_28 : decode cX3_append 28 = .ok (.getfield 15, 3) := by decide +kernel
theorem dX3_append_31 : decode cX3_append 31 = .ok (.iload 5, 2) := by decide +kernel
theorem dX3_append_33 : decode cX3_append 33 = .ok (.iload_n 2, 1) := by decide +kernel
theorem dX3_append_34 : decode cX3_append 34 = .ok (.iastore, 1) := by decide +kernel
theorem dX3_append_35 : decode cX3_append 35 = .ok (.aload_n 0, 1) := by decide +kernel
theorem dX3_append_36 : decode cX3_append 36 = .ok (.getfield 18, 3) := by decide +kernel
theorem dX3_append_39 : decode cX3_append 39 = .ok (.iload 5, 2) := by decide +kernel
theorem dX3_append_41 : decode cX3_append 41 = .ok (.iload_n 3, 1) := by decide +kernel
theorem dX3_append_42 : decode cX3_append 42 = .ok (.iastore, 1) := by decide +kernel
theorem dX3_append_43 : decode cX3_append 43 = .ok (.aload_n 0, 1) := by decide +kernel
theorem dX3_append_44 : decode cX3_append 44 = .ok (.getfield 21, 3) := by decide +kernel
theorem dX3_append_47 : decode cX3_append 47 = .ok (.iload 5, 2) := by decide +kernel
theorem dX3_append_49 : decode cX3_append 49 = .ok (.iload 4, 2) := by decide +kernel
theorem dX3_append_51 : decode cX3_append 51 = .ok (.iastore, 1) := by decide +kernel
theorem dX3_append_52 : decode cX3_append 52 = .ok (.aload_n 0, 1) := by decide +kernel
theorem dX3_append_53 : decode cX3_append 53 = .ok (.iload 5, 2) := by decide +kernel
theorem dX3_append_55 : decode cX3_append 55 = .ok (.iconst 1, 1) := by decide +kernel
theorem dX3_append_56 : decode cX3_append 56 = .ok (.iadd, 1) := by decide +kernel
theorem dX3_append_57 : decode cX3_append 57 = .ok (.putfield 24, 3) := by decide +kernel
theorem dX3_append_60 : decode cX3_append 60 = .ok (.iload 5, 2) := by decide +kernel
theorem dX3_append_62 : decode cX3_append 62 = .ok (.ireturn, 1) := by decide +kernel
theorem dX3_drop_0 : decode cX3_drop 0 = .ok (.aload_n 0, 1) := by decide +kernel
theorem dX3_drop_1 : decode cX3_drop 1 = .ok (.iload_n 1, 1) := by decide +kernel
theorem dX3_drop_2 : decode cX3_drop 2 = .ok (.invokevirtual 32, 3) := by decide +kernel
theorem dX3_drop_5 : decode cX3_drop 5 = .ok (.ifCond .ne 8, 3) := by decide +kernel
theorem dX3_drop_8 : decode cX3_drop 8 = .ok (.aload_n 0, 1) := by decide +kernel
theorem dX3_drop_9 : decode cX3_drop 9 = .ok (.getfield 24, 3) := by decide +kernel
theorem dX3_drop_12 : decode cX3_drop 12 = .ok (.ireturn, 1) := by decide +kernel
theorem dX3_drop_13 : decode cX3_drop 13 = .ok (.iload_n 1, 1) := by decide +kernel
theorem dX3_drop_14 : decode cX3_drop 14 = .ok (.istore_n 2, 1) := by decide +kernel
theorem dX3_drop_15 : decode cX3_drop 15 = .ok (.iload_n 2, 1) := by decide +kernel
theorem dX3_drop_16 : decode cX3_drop 16 = .ok (.iconst 1, 1) := by decide +kernel
theorem dX3_drop_17 : decode cX3_drop 17 = .ok (.iadd, 1) := by decide +kernel
theorem dX3_drop_18 : decode cX3_drop 18 = .ok (.iconst 5, 1) := by decide +kernel
theorem dX3_drop_19 : decode cX3_drop 19 = .ok (.if_icmp .ge 75, 3) := by decide +kernel
theorem dX3_drop_22 : decode cX3_drop 22 = .ok (.iload_n 2, 1) := by decide +kernel
theorem dX3_drop_23 : decode cX3_drop 23 = .ok (.iconst 1, 1) := by decide +kernel
theorem dX3_drop_24 : decode cX3_drop 24 = .ok (.iadd, 1) := by decide +kernel
theorem dX3_drop_25 : decode cX3_drop 25 = .ok (.aload_n 0, 1) := by decide +kernel
theorem dX3_drop_26 : decode cX3_drop 26 = .ok (.getfield 24, 3) := by decide +kernel
theorem dX3_drop_29 : decode cX3_drop 29 = .ok (.if_icmp .ge 65, 3) := by decide +kernel
theorem dX3_drop_32 : decode cX3_drop 32 = .ok (.aload_n 0, 1) := by decide +kernel
theorem dX3_drop_33 : decode cX3_drop 33 = .ok (.getfield 9, 3) := by decide +kernel
theorem dX3_drop_36 : decode cX3_drop 36 = .ok (.iload_n 2, 1) := by decide +kernel
theorem dX3_drop_37 : decode cX3_drop 37 = .ok (.aload_n 0, 1) := by decide +kernel
theorem dX3_drop_38 : decode cX3_drop 38 = .ok (.getfield 9, 3) := by decide +kernel
theorem dX3_drop_41 : decode cX3_drop 41 = .ok (.iload_n 2, 1) := by decide +kernel
theorem dX3_drop_42 : decode cX3_drop 42 = .ok (.iconst 1, 1) := by decide +kernel
theorem dX3_drop_43 : decode cX3_drop 43 = .ok (.iadd, 1) := by decide +kernel
theorem dX3_drop_44 : decode cX3_drop 44 = .ok (.iaload, 1) := by decide +kernel
theorem dX3_drop_45 : decode cX3_drop 45 = .ok (.iastore, 1) := by decide +kernel
theorem dX3_drop_46 : decode cX3_drop 46 = .ok (.aload_n 0, 1) := by decide +kernel
theorem dX3_drop_47 : decode cX3_drop 47 = .ok (.getfield 15, 3) := by decide +kernel
theorem dX3_drop_50 : decode cX3_drop 50 = .ok (.iload_n 2, 1) := by decide +kernel
theorem dX3_drop_51 : decode cX3_drop 51 = .ok (.aload_n 0, 1) := by decide +kernel
theorem dX3_drop_52 : decode cX3_drop 52 = .ok (.getfield 15, 3) := by decide +kernel
theorem dX3_drop_55 : decode cX3_drop 55 = .ok (.iload_n 2, 1) := by decide +kernel
theorem dX3_drop_56 : decode cX3_drop 56 = .ok (.iconst 1, 1) := by decide +kernel
theorem dX3_drop_57 : decode cX3_drop 57 = .ok (.iadd, 1) := by decide +kernel
theorem dX3_drop_58 : decode cX3_drop 58 = .ok (.iaload, 1) := by decide +kernel
theorem dX3_drop_59 : decode cX3_drop 59 = .ok (.iastore, 1) := by decide +kernel
theorem dX3_drop_60 : decode cX3_drop 60 = .ok (.aload_n 0, 1) := by decide +kernel
theorem dX3_drop_61 : decode cX3_drop 61 = .ok (.getfield 18, 3) := by decide +kernel
theorem dX3_drop_64 : decode cX3_drop 64 = .ok (.iload_n 2, 1) := by decide +kernel
theorem dX3_drop_65 : decode cX3_drop 65 = .ok (.aload_n 0, 1) := by decide +kernel
theorem dX3_drop_66 : decode cX3_drop 66 = .ok (.getfield 18, 3) := by decide +kernel
theorem dX3_drop_69 : decode cX3_drop 69 = .ok (.iload_n 2, 1) := by decide +kernel
theorem dX3_drop_70 : decode cX3_drop 70 = .ok (.iconst 1, 1) := by decide +kernel
theorem dX3_drop_71 : decode cX3_drop 71 = .ok (.iadd, 1) := by decide +kernel
theorem dX3_drop_72 : decode cX3_drop 72 = .ok (.iaload, 1) := by decide +kernel
theorem dX3_drop_73 : decode cX3_drop 73 = .ok (.iastore, 1) := by decide +kernel
theorem dX3_drop_74 : decode cX3_drop 74 = .ok (.aload_n 0, 1) := by decide +kernel
theorem dX3_drop_75 : decode cX3_drop 75 = .ok (.getfield 21, 3) := by decide +kernel
theorem dX3_drop_78 : decode cX3_drop 78 = .ok (.iload_n 2, 1) := by decide +kernel
theorem dX3_drop_79 : decode cX3_drop 79 = .ok (.aload_n 0, 1) := by decide +kernel
theorem dX3_drop_80 : decode cX3_drop 80 = .ok (.getfield 21, 3) := by decide +kernel
theorem dX3_drop_83 : decode cX3_drop 83 = .ok (.iload_n 2, 1) := by decide +kernel
theorem dX3_drop_84 : decode cX3_drop 84 = .ok (.iconst 1, 1) := by decide +kernel
theorem dX3_drop_85 : decode cX3_drop 85 = .ok (.iadd, 1) := by decide +kernel
theorem dX3_drop_86 : decode cX3_drop 86 = .ok (.iaload, 1) := by decide +kernel
theorem dX3_drop_87 : decode cX3_drop 87 = .ok (.iastore, 1) := by decide +kernel
theorem dX3_drop_88 : decode cX3_drop 88 = .ok (.iinc 2 1, 3) := by decide +kernel
theorem dX3_drop_91 : decode cX3_drop 91 = .ok (.goto (-76), 3) := by decide +kernel
theorem dX3_drop_94 : decode cX3_drop 94 = .ok (.aload_n 0, 1) := by decide +kernel
theorem dX3_drop_95 : decode cX3_drop 95 = .ok (.dup, 1) := by decide +kernel
theorem dX3_drop_96 : decode cX3_drop 96 = .ok (.getfield 24, 3) := by decide +kernel
theorem dX3_drop_99 : decode cX3_drop 99 = .ok (.iconst 1, 1) := by decide +kernel
theorem dX3_drop_100 : decode cX3_drop 100 = .ok (.isub, 1) := by decide +kernel
theorem dX3_drop_101 : decode cX3_drop 101 = .ok (.putfield 24, 3) := by decide +kernel
theorem dX3_drop_104 : decode cX3_drop 104 = .ok (.aload_n 0, 1) := by decide +kernel
theorem dX3_drop_105 : decode cX3_drop 105 = .ok (.getfield 24, 3) := by decide +kernel
theorem dX3_drop_108 : decode cX3_drop 108 = .ok (.ireturn, 1) := by decide +kernel
theorem dX3_copyFrom_0 : decode cX3_copyFrom 0 = .ok (.aload_n 0, 1) := by decide +kernel
theorem dX3_copyFrom_1 : decode cX3_copyFrom 1 = .ok (.aload_n 1, 1) := by decide +kernel
theorem dX3_copyFrom_2 : decode cX3_copyFrom 2 = .ok (.getfield 24, 3) := by decide +kernel
theorem dX3_copyFrom_5 : decode cX3_copyFrom 5 = .ok (.putfield 24, 3) := by decide +kernel
theorem dX3_copyFrom_8 : decode cX3_copyFrom 8 = .ok (.aload_n 1, 1) := by decide +kernel
theorem dX3_copyFrom_9 : decode cX3_copyFrom 9 = .ok (.getfield 9, 3) := by decide +kernel
theorem dX3_copyFrom_12 : decode cX3_copyFrom 12 = .ok (.aload_n 0, 1) := by decide +kernel
theorem dX3_copyFrom_13 : decode cX3_copyFrom 13 = .ok (.getfield 9, 3) := by decide +kernel
theorem dX3_copyFrom_16 : decode cX3_copyFrom 16 = .ok (.invokestatic 36, 3) := by decide +kernel
theorem dX3_copyFrom_19 : decode cX3_copyFrom 19 = .ok (.aload_n 1, 1) := by decide +kernel
theorem dX3_copyFrom_20 : decode cX3_copyFrom 20 = .ok (.getfield 15, 3) := by decide +kernel
theorem dX3_copyFrom_23 : decode cX3_copyFrom 23 = .ok (.aload_n 0, 1) := by decide +kernel
theorem dX3_copyFrom_24 : decode cX3_copyFrom 24 = .ok (.getfield 15, 3) := by decide +kernel
theorem dX3_copyFrom_27 : decode cX3_copyFrom 27 = .ok (.invokestatic 36, 3) := by decide +kernel
theorem dX3_copyFrom_30 : decode cX3_copyFrom 30 = .ok (.aload_n 1, 1) := by decide +kernel
theorem dX3_copyFrom_31 : decode cX3_copyFrom 31 = .ok (.getfield 18, 3) := by decide +kernel
theorem dX3_copyFrom_34 : decode cX3_copyFrom 34 = .ok (.aload_n 0, 1) := by decide +kernel
theorem dX3_copyFrom_35 : decode cX3_copyFrom 35 = .ok (.getfield 18, 3) := by decide +kernel
theorem dX3_copyFrom_38 : decode cX3_copyFrom 38 = .ok (.invokestatic 36, 3) := by decide +kernel
theorem dX3_copyFrom_41 : decode cX3_copyFrom 41 = .ok (.aload_n 1, 1) := by decide +kernel
theorem dX3_copyFrom_42 : decode cX3_copyFrom 42 = .ok (.getfield 21, 3) := by decide +kernel
theorem dX3_copyFrom_45 : decode cX3_copyFrom 45 = .ok (.aload_n 0, 1) := by decide +kernel
theorem dX3_copyFrom_46 : decode cX3_copyFrom 46 = .ok (.getfield 21, 3) := by decide +kernel
theorem dX3_copyFrom_49 : decode cX3_copyFrom 49 = .ok (.invokestatic 36, 3) := by decide +kernel
theorem dX3_copyFrom_52 : decode cX3_copyFrom 52 = .ok (.return_, 1) := by decide +kernel
theorem dX4_init_0 : decode cX4_init 0 = .ok (.aload_n 0, 1) := by decide +kernel
theorem dX4_init_1 : decode cX4_init 1 = .ok (.invokespecial 3, 3) := by decide +kernel
theorem dX4_init_4 : decode cX4_init 4 = .ok (.aload_n 0, 1) := by decide +kernel
theorem dX4_init_5 : decode cX4_init 5 = .ok (.bipush 10, 2) := by decide +kernel
theorem dX4_init_7 : decode cX4_init 7 = .ok (.putfield 9, 3) := by decide +kernel
theorem dX4_init_10 : decode cX4_init 10 = .ok (.aload_n 0, 1) := by decide +kernel
theorem dX4_init_11 : decode cX4_init 11 = .ok (.bipush 100, 2) := by decide +kernel
theorem dX4_init_13 : decode cX4_init 13 = .ok (.putfield 15, 3) := by decide +kernel
theorem dX4_init_16 : decode cX4_init 16 = .ok (.aload_n 0, 1) := by decide +kernel
theorem dX4_init_17 : decode cX4_init 17 = .ok (.iconst 3, 1) := by decide +kernel
theorem dX4_init_18 : decode cX4_init 18 = .ok (.newarray .boolean, 2) := by decide +kernel
theorem dX4_init_20 : decode cX4_init 20 = .ok (.putfield 18, 3) := by decide +kernel
theorem dX4_init_23 : decode cX4_init 23 = .ok (.aload_n 0, 1) := by decide +kernel
theorem dX4_init_24 : decode cX4_init 24 = .ok (.iconst 3, 1) := by decide +kernel
theorem dX4_init_25 : decode cX4_init 25 = .ok (.newarray .boolean, 2) := by decide +kernel
theorem dX4_init_27 : decode cX4_init 27 = .ok (.putfield 22, 3) := by decide +kernel
theorem dX4_init_30 : decode cX4_init 30 = .ok (.iconst 0, 1) := by decide +kernel
theorem dX4_init_31 : decode cX4_init 31 = .ok (.istore_n 1, 1) := by decide +kernel
theorem dX4_init_32 : decode cX4_init 32 = .ok (.iload_n 1, 1) := by decide +kernel
theorem dX4_init_33 : decode cX4_init 33 = .ok (.iconst 3, 1) := by decide +kernel
theorem dX4_init_34 : decode cX4_init 34 = .ok (.if_icmp .ge 23, 3) := by decide +kernel
theorem dX4_init_37 : decode cX4_init 37 = .ok (.aload_n 0, 1) := by decide +kernel
theorem dX4_init_38 : decode cX4_init 38 = .ok (.getfield 18, 3) := by decide +kernel
theorem dX4_init_41 : decode cX4_init 41 = .ok (.iload_n 1, 1) := by decide +kernel
theorem dX4_init_42 : decode cX4_init 42 = .ok (.iconst 1, 1) := by decide +kernel
theorem dX4_init_43 : decode cX4_init 43 = .ok (.bastore, 1) := by decide +kernel
theorem dX4_init_44 : decode cX4_init 44 = .ok (.aload_n 0, 1) := by decide +kernel
theorem dX4_init_45 : decode cX4_init 45 = .ok (.getfield 22, 3) := by decide +kernel
theorem dX4_init_48 : decode cX4_init 48 = .ok (.iload_n 1, 1) := by decide +kernel
theorem dX4_init_49 : decode cX4_init 49 = .ok (.iconst 1, 1) := by decide +kernel
theorem dX4_init_50 : decode cX4_init 50 = .ok (.bastore, 1) := by decide +kernel
theorem dX4_init_51 : decode cX4_init 51 = .ok (.iinc 1 1, 3) := by decide +kernel
theorem dX4_init_54 : decode cX4_init 54 = .ok (.goto (-22), 3) := by decide +kernel
theorem dX4_init_57 : decode cX4_init 57 = .ok (.return_, 1) := by decide +kernel
theorem dX4_copyFrom_0 : decode cX4_copyFrom 0 = .ok (.aload_n 0, 1) := by decide +kernel
theorem dX4_copyFrom_1 : decode cX4_copyFrom 1 = .ok (.aload_n 1, 1) := by decide +kernel
theorem dX4_copyFrom_2 : decode cX4_copyFrom 2 = .ok (.getfield 25, 3) := by decide +kernel
theorem dX4_copyFrom_5 : decode cX4_copyFrom 5 = .ok (.putfield 25, 3) := by decide +kernel
theorem dX4_copyFrom_8 : decode cX4_copyFrom 8 = .ok (.aload_n 0, 1) := by decide +kernel
theorem dX4_copyFrom_9 : decode cX4_copyFrom 9 = .ok (.aload_n 1, 1) := by decide +kernel
theorem dX4_copyFrom_10 : decode cX4_copyFrom 10 = .ok (.getfield 9, 3) := by decide +kernel
theorem dX4_copyFrom_13 : decode cX4_copyFrom 13 = .ok (.putfield 9, 3) := by decide +kernel
theorem dX4_copyFrom_16 : decode cX4_copyFrom 16 = .ok (.aload_n 0, 1) := by decide +kernel
theorem dX4_copyFrom_17 : decode cX4_copyFrom 17 = .ok (.aload_n 1, 1) := by decide +kernel
theorem dX4_copyFrom_18 : decode cX4_copyFrom 18 = .ok (.getfield 15, 3) := by decide +kernel
theorem dX4_copyFrom_21 : decode cX4_copyFrom 21 = .ok (.putfield 15, 3) := by decide +kernel
theorem dX4_copyFrom_24 : decode cX4_copyFrom 24 = .ok (.aload_n 0, 1) := by decide +kernel
theorem dX4_copyFrom_25 : decode cX4_copyFrom 25 = .ok (.aload_n 1, 1) := by decide +kernel
theorem dX4_copyFrom_26 : decode cX4_copyFrom 26 = .ok (.getfield 28, 3) := by decide +kernel
theorem dX4_copyFrom_29 : decode cX4_copyFrom 29 = .ok (.putfield 28, 3) := by decide +kernel
theorem dX4_copyFrom_32 : decode cX4_copyFrom 32 = .ok (.aload_n 1, 1) := by decide +kernel
theorem dX4_copyFrom_33 : decode cX4_copyFrom 33 = .ok (.getfield 18, 3) := by decide +kernel
theorem dX4_copyFrom_36 : decode cX4_copyFrom 36 = .ok (.aload_n 0, 1) := by decide +kernel
theorem dX4_copyFrom_37 : decode cX4_copyFrom 37 = .ok (.getfield 18, 3) := by decide +kernel
theorem dX4_copyFrom_40 : decode cX4_copyFrom 40 = .ok (.invokestatic 31, 3) := by decide +kernel
theorem dX4_copyFrom_43 : decode cX4_copyFrom 43 = .ok (.aload_n 1, 1) := by decide +kernel
theorem dX4_copyFrom_44 : decode cX4_copyFrom 44 = .ok (.getfield 22, 3) := by decide +kernel
theorem dX4_copyFrom_47 : decode cX4_copyFrom 47 = .ok (.aload_n 0, 1) := by decide +kernel
theorem dX4_copyFrom_48 : decode cX4_copyFrom 48 = .ok (.getfield 22, 3) := by decide +kernel
theorem dX4_copyFrom_51 : decode cX4_copyFrom 51 = .ok (.invokestatic 31, 3) := by decide +kernel
theorem dX4_copyFrom_54 : decode cX4_copyFrom 54 = .ok (.return_, 1) := by decide +kernel
theorem dX5_init_0 : decode cX5_init 0 = .ok (.aload_n 0, 1) := by decide +kernel
theorem dX5_init_1 : decode cX5_init 1 = .ok (.invokespecial 3, 3) := by decide +kernel
theorem dX5_init_4 : decode cX5_init 4 = .ok (.aload_n 0, 1) := by decide +kernel
theorem dX5_init_5 : decode cX5_init 5 = .ok (.new 9, 3) := by decide +kernel
theorem dX5_init_8 : decode cX5_init 8 = .ok (.dup, 1) := by decide +kernel
theorem dX5_init_9 : decode cX5_init 9 = .ok (.invokespecial 11, 3) := by decide +kernel
theorem dX5_init_12 : decode cX5_init 12 = .ok (.putfield 12, 3) := by decide +kernel
theorem dX5_init_15 : decode cX5_init 15 = .ok (.aload_n 0, 1) := by decide +kernel
theorem dX5_init_16 : decode cX5_init 16 = .ok (.new 18, 3) := by decide +kernel
theorem dX5_init_19 : decode cX5_init 19 = .ok (.dup, 1) := by decide +kernel
theorem dX5_init_20 : decode cX5_init 20 = .ok (.invokespecial 20, 3) := by decide +kernel
theorem dX5_init_23 : decode cX5_init 23 = .ok (.putfield 21, 3) := by decide +kernel
theorem dX5_init_26 : decode cX5_init 26 = .ok (.aload_n 0, 1) := by decide +kernel
theorem dX5_init_27 : decode cX5_init 27 = .ok (.new 25, 3) := by decide +kernel
theorem dX5_init_30 : decode cX5_init 30 = .ok (.dup, 1) := by decide +kernel
theorem dX5_init_31 : decode cX5_init 31 = .ok (.invokespecial 27, 3) := by decide +kernel
theorem dX5_init_34 : decode cX5_init 34 = .ok (.putfield 28, 3) := by decide +kernel
theorem dX5_init_37 : decode cX5_init 37 = .ok (.aload_n 0, 1) := by decide +kernel
theorem dX5_init_38 : decode cX5_init 38 = .ok (.new 32, 3) := by decide +kernel
theorem dX5_init_41 : decode cX5_init 41 = .ok (.dup, 1) := by decide +kernel
theorem dX5_init_42 : decode cX5_init 42 = .ok (.invokespecial 34, 3) := by decide +kernel
theorem dX5_init_45 : decode cX5_init 45 = .ok (.putfield 35, 3) := by decide +kernel
theorem dX5_init_48 : decode cX5_init 48 = .ok (.aload_n 0, 1) := by decide +kernel
theorem dX5_init_49 : decode cX5_init 49 = .ok (.aload_n 1, 1) := by decide +kernel
theorem dX5_init_50 : decode cX5_init 50 = .ok (.putfield 39, 3) := by decide +kernel
theorem dX5_init_53 : decode cX5_init 53 = .ok (.return_, 1) := by decide +kernel
theorem dX5_copyFrom_0 : decode cX5_copyFrom 0 = .ok (.aload_n 0, 1) := by decide +kernel
theorem dX5_copyFrom_1 : decode cX5_copyFrom 1 = .ok (.getfield 12, 3) := by decide +kernel
theorem dX5_copyFrom_4 : decode cX5_copyFrom 4 = .ok (.aload_n 1, 1) := by decide +kernel
theorem dX5_copyFrom_5 : decode cX5_copyFrom 5 = .ok (.getfield 12, 3) := by decide +kernel
theorem dX5_copyFrom_8 : decode cX5_copyFrom 8 = .ok (.invokevirtual 43, 3) := by decide +kernel
theorem dX5_copyFrom_11 : decode cX5_copyFrom 11 = .ok (.aload_n 0, 1) := by decide +kernel
theorem dX5_copyFrom_12 : decode cX5_copyFrom 12 = .ok (.getfield 21, 3) := by decide +kernel
theorem dX5_copyFrom_15 : decode cX5_copyFrom 15 = .ok (.aload_n 1, 1) := by decide +kernel
theorem dX5_copyFrom_16 : decode cX5_copyFrom 16 = .ok (.getfield 21, 3) := by decide +kernel
theorem dX5_copyFrom_19 : decode cX5_copyFrom 19 = .ok (.invokevirtual 47, 3) := by decide +kernel
theorem dX5_copyFrom_22 : decode cX5_copyFrom 22 = .ok (.aload_n 0, 1) := by decide +kernel
theorem dX5_copyFrom_23 : decode cX5_copyFrom 23 = .ok (.getfield 28, 3) := by decide +kernel
theorem dX5_copyFrom_26 : decode cX5_copyFrom 26 = .ok (.aload_n 1, 1) := by decide +kernel
theorem dX5_copyFrom_27 : decode cX5_copyFrom 27 = .ok (.getfield 28, 3) := by decide +kernel
theorem dX5_copyFrom_30 : decode cX5_copyFrom 30 = .ok (.invokevirtual 50, 3) := by decide +kernel
theorem dX5_copyFrom_33 : decode cX5_copyFrom 33 = .ok (.aload_n 0, 1) := by decide +kernel
theorem dX5_copyFrom_34 : decode cX5_copyFrom 34 = .ok (.getfield 35, 3) := by decide +kernel
theorem dX5_copyFrom_37 : decode cX5_copyFrom 37 = .ok (.aload_n 1, 1) := by decide +kernel
theorem dX5_copyFrom_38 : decode cX5_copyFrom 38 = .ok (.getfield 35, 3) := by decide +kernel
theorem dX5_copyFrom_41 : decode cX5_copyFrom 41 = .ok (.invokevirtual 53, 3) := by decide +kernel
theorem dX5_copyFrom_44 : decode cX5_copyFrom 44 = .ok (.return_, 1) := by decide +kernel
theorem dX5_directUpFor_0 : decode cX5_directUpFor 0 = .ok (.aload_n 0, 1) := by decide +kernel
theorem dX5_directUpFor_1 : decode cX5_directUpFor 1 = .ok (.iload_n 1, 1) := by decide +kernel
theorem dX5_directUpFor_2 : decode cX5_directUpFor 2 = .ok (.invokevirtual 56, 3) := by decide +kernel
theorem dX5_directUpFor_5 : decode cX5_directUpFor 5 = .ok (.istore_n 2, 1) := by decide +kernel
theorem dX5_directUpFor_6 : decode cX5_directUpFor 6 = .ok (.iload_n 2, 1) := by decide +kernel
theorem dX5_directUpFor_7 : decode cX5_directUpFor 7 = .ok (.invokestatic 60, 3) := by decide +kernel
theorem dX5_directUpFor_10 : decode cX5_directUpFor 10 = .ok (.ifCond .eq 19, 3) := by decide +kernel
theorem dX5_directUpFor_13 : decode cX5_directUpFor 13 = .ok (.aload_n 0, 1) := by decide +kernel
theorem dX5_directUpFor_14 : decode cX5_directUpFor 14 = .ok (.getfield 35, 3) := by decide +kernel
theorem dX5_directUpFor_17 : decode cX5_directUpFor 17 = .ok (.getfield 64, 3) := by decide +kernel
theorem dX5_directUpFor_20 : decode cX5_directUpFor 20 = .ok (.iload_n 2, 1) := by decide +kernel
theorem dX5_directUpFor_21 : decode cX5_directUpFor 21 = .ok (.baload, 1) := by decide +kernel
theorem dX5_directUpFor_22 : decode cX5_directUpFor 22 = .ok (.ifCond .eq 7, 3) := by decide +kernel
theorem dX5_directUpFor_25 : decode cX5_directUpFor 25 = .ok (.iconst 1, 1) := by decide +kernel
theorem dX5_directUpFor_26 : decode cX5_directUpFor 26 = .ok (.goto 4, 3) := by decide +kernel
theorem dX5_directUpFor_29 : decode cX5_directUpFor 29 = .ok (.iconst 0, 1) := by decide +kernel
theorem dX5_directUpFor_30 : decode cX5_directUpFor 30 = .ok (.ireturn, 1) := by decide +kernel
theorem dX5_relayUpFor_0 : decode cX5_relayUpFor 0 = .ok (.aload_n 0, 1) := by decide +kernel
theorem dX5_relayUpFor_1 : decode cX5_relayUpFor 1 = .ok (.iload_n 1, 1) := by decide +kernel
theorem dX5_relayUpFor_2 : decode cX5_relayUpFor 2 = .ok (.invokevirtual 56, 3) := by decide +kernel
theorem dX5_relayUpFor_5 : decode cX5_relayUpFor 5 = .ok (.istore_n 2, 1) := by decide +kernel
theorem dX5_relayUpFor_6 : decode cX5_relayUpFor 6 = .ok (.iload_n 2, 1) := by decide +kernel
theorem dX5_relayUpFor_7 : decode cX5_relayUpFor 7 = .ok (.invokestatic 60, 3) := by decide +kernel
theorem dX5_relayUpFor_10 : decode cX5_relayUpFor 10 = .ok (.ifCond .eq 19, 3) := by decide +kernel
theorem dX5_relayUpFor_13 : decode cX5_relayUpFor 13 = .ok (.aload_n 0, 1) := by decide +kernel
theorem dX5_relayUpFor_14 : decode cX5_relayUpFor 14 = .ok (.getfield 35, 3) := by decide +kernel
theorem dX5_relayUpFor_17 : decode cX5_relayUpFor 17 = .ok (.getfield 68, 3) := by decide +kernel
theorem dX5_relayUpFor_20 : decode cX5_relayUpFor 20 = .ok (.iload_n 2, 1) := by decide +kernel
theorem dX5_relayUpFor_21 : decode cX5_relayUpFor 21 = .ok (.baload, 1) := by decide +kernel
theorem dX5_relayUpFor_22 : decode cX5_relayUpFor 22 = .ok (.ifCond .eq 7, 3) := by decide +kernel
theorem dX5_relayUpFor_25 : decode cX5_relayUpFor 25 = .ok (.iconst 1, 1) := by decide +kernel
theorem dX5_relayUpFor_26 : decode cX5_relayUpFor 26 = .ok (.goto 4, 3) := by decide +kernel
theorem dX5_relayUpFor_29 : decode cX5_relayUpFor 29 = .ok (.iconst 0, 1) := by decide +kernel
theorem dX5_relayUpFor_30 : decode cX5_relayUpFor 30 = .ok (.ireturn, 1) := by decide +kernel
theorem dX5_groupOfClient_0 : decode cX5_groupOfClient 0 = .ok (.iload_n 1, 1) := by decide +kernel
theorem dX5_groupOfClient_1 : decode cX5_groupOfClient 1 = .ok (.invokestatic 71, 3) := by decide +kernel
theorem dX5_groupOfClient_4 : decode cX5_groupOfClient 4 = .ok (.ifCond .eq 22, 3) := by decide +kernel
theorem dX5_groupOfClient_7 : decode cX5_groupOfClient 7 = .ok (.aload_n 0, 1) := by decide +kernel
theorem dX5_groupOfClient_8 : decode cX5_groupOfClient 8 = .ok (.getfield 12, 3) := by decide +kernel
theorem dX5_groupOfClient_11 : decode cX5_groupOfClient 11 = .ok (.aload_n 0, 1) := by decide +kernel
theorem dX5_groupOfClient_12 : decode cX5_groupOfClient 12 = .ok (.getfield 28, 3) := by decide +kernel
theorem dX5_groupOfClient_15 : decode cX5_groupOfClient 15 = .ok (.getfield 74, 3) := by decide +kernel
theorem dX5_groupOfClient_18 : decode cX5_groupOfClient 18 = .ok (.iload_n 1, 1) := by decide +kernel
theorem dX5_groupOfClient_19 : decode cX5_groupOfClient 19 = .ok (.iaload, 1) := by decide +kernel
theorem dX5_groupOfClient_20 : decode cX5_groupOfClient 20 = .ok (.invokevirtual 78, 3) := by decide +kernel
theorem dX5_groupOfClient_23 : decode cX5_groupOfClient 23 = .ok (.goto 4, 3) := by decide +kernel
theorem dX5_groupOfClient_26 : decode cX5_groupOfClient 26 = .ok (.iconst (-1), 1) := by decide +kernel
theorem dX5_groupOfClient_27 : decode cX5_groupOfClient 27 = .ok (.ireturn, 1) := by decide +kernel
theorem dX5_leaseEnd_0 : decode cX5_leaseEnd 0 = .ok (.iload_n 1, 1) := by decide +kernel
theorem dX5_leaseEnd_1 : decode cX5_leaseEnd 1 = .ok (.invokestatic 71, 3) := by decide +kernel
theorem dX5_leaseEnd_4 : decode cX5_leaseEnd 4 = .ok (.ifCond .eq 15, 3) := by decide +kernel
theorem dX5_leaseEnd_7 : decode cX5_leaseEnd 7 = .ok (.aload_n 0, 1) := by decide +kernel
theorem dX5_leaseEnd_8 : decode cX5_leaseEnd 8 = .ok (.getfield 28, 3) := by decide +kernel
theorem dX5_leaseEnd_11 : decode cX5_leaseEnd 11 = .ok (.getfield 74, 3) := by decide +kernel
theorem dX5_leaseEnd_14 : decode cX5_leaseEnd 14 = .ok (.iload_n 1, 1) := by decide +kernel
theorem dX5_leaseEnd_15 : decode cX5_leaseEnd 15 = .ok (.iaload, 1) := by decide +kernel
theorem dX5_leaseEnd_16 : decode cX5_leaseEnd 16 = .ok (.goto 4, 3) := by decide +kernel
theorem dX5_leaseEnd_19 : decode cX5_leaseEnd 19 = .ok (.iconst (-1), 1) := by decide +kernel
theorem dX5_leaseEnd_20 : decode cX5_leaseEnd 20 = .ok (.istore_n 2, 1) := by decide +kernel
theorem dX5_leaseEnd_21 : decode cX5_leaseEnd 21 = .ok (.iload_n 2, 1) := by decide +kernel
theorem dX5_leaseEnd_22 : decode cX5_leaseEnd 22 = .ok (.invokestatic 81, 3) := by decide +kernel
theorem dX5_leaseEnd_25 : decode cX5_leaseEnd 25 = .ok (.ifCond .eq 15, 3) := by decide +kernel
theorem dX5_leaseEnd_28 : decode cX5_leaseEnd 28 = .ok (.aload_n 0, 1) := by decide +kernel
theorem dX5_leaseEnd_29 : decode cX5_leaseEnd 29 = .ok (.getfield 21, 3) := by decide +kernel
theorem dX5_leaseEnd_32 : decode cX5_leaseEnd 32 = .ok (.getfield 84, 3) := by decide +kernel
theorem dX5_leaseEnd_35 : decode cX5_leaseEnd 35 = .ok (.iload_n 2, 1) := by decide +kernel
theorem dX5_leaseEnd_36 : decode cX5_leaseEnd 36 = .ok (.iaload, 1) := by decide +kernel
theorem dX5_leaseEnd_37 : decode cX5_leaseEnd 37 = .ok (.goto 4, 3) := by decide +kernel
theorem dX5_leaseEnd_40 : decode cX5_leaseEnd 40 = .ok (.iconst (-1), 1) := by decide +kernel
theorem dX5_leaseEnd_41 : decode cX5_leaseEnd 41 = .ok (.ireturn, 1) := by decide +kernel
theorem dX5_countInGroup_0 : decode cX5_countInGroup 0 = .ok (.iconst 0, 1) := by decide +kernel
theorem dX5_countInGroup_1 : decode cX5_countInGroup 1 = .ok (.istore_n 3, 1) := by decide +kernel
theorem dX5_countInGroup_2 : decode cX5_countInGroup 2 = .ok (.iconst 0, 1) := by decide +kernel
theorem dX5_countInGroup_3 : decode cX5_countInGroup 3 = .ok (.istore 4, 2) := by decide +kernel
theorem dX5_countInGroup_5 : decode cX5_countInGroup 5 = .ok (.iload 4, 2) := by decide +kernel
theorem dX5_countInGroup_7 : decode cX5_countInGroup 7 = .ok (.iconst 5, 1) := by decide +kernel
theorem dX5_countInGroup_8 : decode cX5_countInGroup 8 = .ok (.if_icmp .ge 66, 3) := by decide +kernel
theorem dX5_countInGroup_11 : decode cX5_countInGroup 11 = .ok (.iload 4, 2) := by decide +kernel
theorem dX5_countInGroup_13 : decode cX5_countInGroup 13 = .ok (.aload_n 0, 1) := by decide +kernel
theorem dX5_countInGroup_14 : decode cX5_countInGroup 14 = .ok (.getfield 12, 3) := by decide +kernel
theorem dX5_countInGroup_17 : decode cX5_countInGroup 17 = .ok (.getfield 87, 3) := by decide +kernel
theorem dX5_countInGroup_20 : decode cX5_countInGroup 20 = .ok (.if_icmp .ge 54, 3) := by decide +kernel
theorem dX5_countInGroup_23 : decode cX5_countInGroup 23 = .ok (.aload_n 0, 1) := by decide +kernel
theorem dX5_countInGroup_24 : decode cX5_countInGroup 24 = .ok (.getfield 12, 3) := by decide +kernel
theorem dX5_countInGroup_27 : decode cX5_countInGroup 27 = .ok (.getfield 91, 3) := by decide +kernel
theorem dX5_countInGroup_30 : decode cX5_countInGroup 30 = .ok (.iload 4, 2) := by decide +kernel
theorem dX5_countInGroup_32 : decode cX5_countInGroup 32 = .ok (.iaload, 1) := by decide +kernel
theorem dX5_countInGroup_33 : decode cX5_countInGroup 33 = .ok (.iload_n 1, 1) := by decide +kernel
theorem dX5_countInGroup_34 : decode cX5_countInGroup 34 = .ok (.if_icmp .ne 34, 3) := by decide +kernel
theorem dX5_countInGroup_37 : decode cX5_countInGroup 37 = .ok (.iload_n 3, 1) := by decide +kernel
theorem dX5_countInGroup_38 : decode cX5_countInGroup 38 = .ok (.aload_n 0, 1) := by decide +kernel
theorem dX5_countInGroup_39 : decode cX5_countInGroup 39 = .ok (.getfield 21, 3) := by decide +kernel
theorem dX5_countInGroup_42 : decode cX5_countInGroup 42 = .ok (.aload_n 0, 1) := by decide +kernel
theorem dX5_countInGroup_43 : decode cX5_countInGroup 43 = .ok (.getfield 12, 3) := by decide +kernel
theorem dX5_countInGroup_46 : decode cX5_countInGroup 46 = .ok (.getfield 94, 3) := by decide +kernel
theorem dX5_countInGroup_49 : decode cX5_countInGroup 49 = .ok (.iload 4, 2) := by decide +kernel
theorem dX5_countInGroup_51 : decode cX5_countInGroup 51 = .ok (.iaload, 1) := by decide +kernel
theorem dX5_countInGroup_52 : decode cX5_countInGroup 52 = .ok (.aload_n 0, 1) := by decide +kernel
theorem dX5_countInGroup_53 : decode cX5_countInGroup 53 = .ok (.getfield 12, 3) := by decide +kernel
theorem dX5_countInGroup_56 : decode cX5_countInGroup 56 = .ok (.getfield 97, 3) := by decide +kernel
theorem dX5_countInGroup_59 : decode cX5_countInGroup 59 = .ok (.iload 4, 2) := by decide +kernel
theorem dX5_countInGroup_61 : decode cX5_countInGroup 61 = .ok (.iaload, 1) := by decide +kernel
theorem dX5_countInGroup_62 : decode cX5_countInGroup 62 = .ok (.iload_n 2, 1) := by decide +kernel
theorem dX5_countInGroup_63 : decode cX5_countInGroup 63 = .ok (.invokevirtual 100, 3) := by decide +kernel
theorem dX5_countInGroup_66 : decode cX5_countInGroup 66 = .ok (.iadd, 1) := by decide +kernel
theorem dX5_countInGroup_67 : decode cX5_countInGroup 67 = .ok (.istore_n 3, 1) := by decide +kernel
theorem dX5_countInGroup_68 : decode cX5_countInGroup 68 = .ok (.iinc 4 1, 3) := by decide +kernel
theorem dX5_countInGroup_71 : decode cX5_countInGroup 71 = .ok (.goto (-66), 3) := by decide +kernel
theorem dX5_countInGroup_74 : decode cX5_countInGroup 74 = .ok (.iload_n 3, 1) := by decide +kernel
theorem dX5_countInGroup_75 : decode cX5_countInGroup 75 = .ok (.ireturn, 1) := by decide +kernel
theorem dX5_sumOfRests_0 : decode cX5_sumOfRests 0 = .ok (.iconst 0, 1) := by decide +kernel
theorem dX5_sumOfRests_1 : decode cX5_sumOfRests 1 = .ok (.istore_n 1, 1) := by decide +kernel
theorem dX5_sumOfRests_2 : decode cX5_sumOfRests 2 = .ok (.iconst 0, 1) := by decide +kernel
theorem dX5_sumOfRests_3 : decode cX5_sumOfRests 3 = .ok (.istore_n 2, 1) := by decide +kernel
theorem dX5_sumOfRests_4 : decode cX5_sumOfRests 4 = .ok (.iload_n 2, 1) := by decide +kernel
theorem dX5_sumOfRests_5 : decode cX5_sumOfRests 5 = .ok (.bipush 20, 2) := by decide +kernel
theorem dX5_sumOfRests_7 : decode cX5_sumOfRests 7 = .ok (.if_icmp .ge 36, 3) := by decide +kernel
theorem dX5_sumOfRests_10 : decode cX5_sumOfRests 10 = .ok (.aload_n 0, 1) := by decide +kernel
theorem dX5_sumOfRests_11 : decode cX5_sumOfRests 11 = .ok (.getfield 28, 3) := by decide +kernel
theorem dX5_sumOfRests_14 : decode cX5_sumOfRests 14 = .ok (.iload_n 2, 1) := by decide +kernel
theorem dX5_sumOfRests_15 : decode cX5_sumOfRests 15 = .ok (.invokevirtual 104, 3) := by decide +kernel
theorem dX5_sumOfRests_18 : decode cX5_sumOfRests 18 = .ok (.ifCond .eq 19, 3) := by decide +kernel
theorem dX5_sumOfRests_21 : decode cX5_sumOfRests 21 = .ok (.iload_n 1, 1) := by decide +kernel
theorem dX5_sumOfRests_22 : decode cX5_sumOfRests 22 = .ok (.aload_n 0, 1) := by decide +kernel
theorem dX5_sumOfRests_23 : decode cX5_sumOfRests 23 = .ok (.iload_n 2, 1) := by decide +kernel
theorem dX5_sumOfRests_24 : decode cX5_sumOfRests 24 = .ok (.invokevirtual 107, 3) := by decide +kernel
theorem dX5_sumOfRests_27 : decode cX5_sumOfRests 27 = .ok (.aload_n 0, 1) := by decide +kernel
theorem dX5_sumOfRests_28 : decode cX5_sumOfRests 28 = .ok (.getfield 35, 3) := by decide +kernel
theorem dX5_sumOfRests_31 : decode cX5_sumOfRests 31 = .ok (.getfield 110, 3) := by decide +kernel
theorem dX5_sumOfRests_34 : decode cX5_sumOfRests 34 = .ok (.isub, 1) := by decide +kernel
theorem dX5_sumOfRests_35 : decode cX5_sumOfRests 35 = .ok (.iadd, 1) := by decide +kernel
theorem dX5_sumOfRests_36 : decode cX5_sumOfRests 36 = .ok (.istore_n 1, 1) := by decide +kernel
theorem dX5_sumOfRests_37 : decode cX5_sumOfRests 37 = .ok (.iinc 2 1, 3) := by decide +kernel
theorem dX5_sumOfRests_40 : decode cX5_sumOfRests 40 = .ok (.goto (-36), 3) := by decide +kernel
theorem dX5_sumOfRests_43 : decode cX5_sumOfRests 43 = .ok (.iload_n 1, 1) := by decide +kernel
theorem dX5_sumOfRests_44 : decode cX5_sumOfRests 44 = .ok (.ireturn, 1) := by decide +kernel
theorem dX5_firstCandidate_0 : decode cX5_firstCandidate 0 = .ok (.iload_n 1, 1) := by decide +kernel
theorem dX5_firstCandidate_1 : decode cX5_firstCandidate 1 = .ok (.invokestatic 71, 3) := by decide +kernel
theorem dX5_firstCandidate_4 : decode cX5_firstCandidate 4 = .ok (.ifCond .eq 15, 3) := by decide +kernel
theorem dX5_firstCandidate_7 : decode cX5_firstCandidate 7 = .ok (.aload_n 0, 1) := by decide +kernel
theorem dX5_firstCandidate_8 : decode cX5_firstCandidate 8 = .ok (.getfield 28, 3) := by decide +kernel
theorem dX5_firstCandidate_11 : decode cX5_firstCandidate 11 = .ok (.getfield 113, 3) := by decide +kernel
theorem dX5_firstCandidate_14 : decode cX5_firstCandidate 14 = .ok (.iload_n 1, 1) := by decide +kernel
theorem dX5_firstCandidate_15 : decode cX5_firstCandidate 15 = .ok (.iaload, 1) := by decide +kernel
theorem dX5_firstCandidate_16 : decode cX5_firstCandidate 16 = .ok (.goto 4, 3) := by decide +kernel
theorem dX5_firstCandidate_19 : decode cX5_firstCandidate 19 = .ok (.iconst (-1), 1) := by decide +kernel
theorem dX5_firstCandidate_20 : decode cX5_firstCandidate 20 = .ok (.istore 4, 2) := by decide +kernel
theorem dX5_firstCandidate_22 : decode cX5_firstCandidate 22 = .ok (.aload_n 0, 1) := by decide +kernel
theorem dX5_firstCandidate_23 : decode cX5_firstCandidate 23 = .ok (.iload 4, 2) := by decide +kernel
theorem dX5_firstCandidate_25 : decode cX5_firstCandidate 25 = .ok (.iload_n 2, 1) := by decide +kernel
theorem dX5_firstCandidate_26 : decode cX5_firstCandidate 26 = .ok (.invokevirtual 116, 3) := by decide +kernel
theorem dX5_firstCandidate_29 : decode cX5_firstCandidate 29 = .ok (.ifCond .eq 6, 3) := by decide +kernel
theorem dX5_firstCandidate_32 : decode cX5_firstCandidate 32 = .ok (.iload 4, 2) := by decide +kernel
theorem dX5_firstCandidate_34 : decode cX5_firstCandidate 34 = .ok (.ireturn, 1) := by decide +kernel
theorem dX5_firstCandidate_35 : decode cX5_firstCandidate 35 = .ok (.aload_n 0, 1) := by decide +kernel
theorem dX5_firstCandidate_36 : decode cX5_firstCandidate 36 = .ok (.iload_n 3, 1) := by decide +kernel
theorem dX5_firstCandidate_37 : decode cX5_firstCandidate 37 = .ok (.iload_n 2, 1) := by decide +kernel
theorem dX5_firstCandidate_38 : decode cX5_firstCandidate 38 = .ok (.invokevirtual 116, 3) := by decide +kernel
theorem dX5_firstCandidate_41 : decode cX5_firstCandidate 41 = .ok (.ifCond .eq 5, 3) := by decide +kernel
theorem dX5_firstCandidate_44 : decode cX5_firstCandidate 44 = .ok (.iload_n 3, 1) := by decide +kernel
theorem dX5_firstCandidate_45 : decode cX5_firstCandidate 45 = .ok (.ireturn, 1) := by decide +kernel
theorem dX5_firstCandidate_46 : decode cX5_firstCandidate 46 = .ok (.aload_n 0, 1) := by decide +kernel
theorem dX5_firstCandidate_47 : decode cX5_firstCandidate 47 = .ok (.iload_n 2, 1) := by decide +kernel
theorem dX5_firstCandidate_48 : decode cX5_firstCandidate 48 = .ok (.invokevirtual 120, 3) := by decide +kernel
theorem dX5_firstCandidate_51 : decode cX5_firstCandidate 51 = .ok (.ireturn, 1) := by decide +kernel
theorem dX5_isCandidate_0 : decode cX5_isCandidate 0 = .ok (.aload_n 0, 1) := by decide +kernel
theorem dX5_isCandidate_1 : decode cX5_isCandidate 1 = .ok (.getfield 21, 3) := by decide +kernel
theorem dX5_isCandidate_4 : decode cX5_isCandidate 4 = .ok (.iload_n 1, 1) := by decide +kernel
theorem dX5_isCandidate_5 : decode cX5_isCandidate 5 = .ok (.invokevirtual 123, 3) := by decide +kernel
theorem dX5_isCandidate_8 : decode cX5_isCandidate 8 = .ok (.ifCond .eq 19, 3) := by decide +kernel
theorem dX5_isCandidate_11 : decode cX5_isCandidate 11 = .ok (.aload_n 0, 1) := by decide +kernel
theorem dX5_isCandidate_12 : decode cX5_isCandidate 12 = .ok (.getfield 12, 3) := by decide +kernel
theorem dX5_isCandidate_15 : decode cX5_isCandidate 15 = .ok (.iload_n 1, 1) := by decide +kernel
theorem dX5_isCandidate_16 : decode cX5_isCandidate 16 = .ok (.invokevirtual 78, 3) := by decide +kernel
theorem dX5_isCandidate_19 : decode cX5_isCandidate 19 = .ok (.iload_n 2, 1) := by decide +kernel
theorem dX5_isCandidate_20 : decode cX5_isCandidate 20 = .ok (.if_icmp .ne 7, 3) := by decide +kernel
theorem dX5_isCandidate_23 : decode cX5_isCandidate 23 = .ok (.iconst 1, 1) := by decide +kernel
theorem dX5_isCandidate_24 : decode cX5_isCandidate 24 = .ok (.goto 4, 3) := by decide +kernel
theorem dX5_isCandidate_27 : decode cX5_isCandidate 27 = .ok (.iconst 0, 1) := by decide +kernel
theorem dX5_isCandidate_28 : decode cX5_isCandidate 28 = .ok (.ireturn, 1) := by decide +kernel
theorem dX5_longestFree_0 : decode cX5_longestFree 0 = .ok (.iconst (-1), 1) := by decide +kernel
theorem dX5_longestFree_1 : decode cX5_longestFree 1 = .ok (.istore_n 2, 1) := by decide +kernel
theorem dX5_longestFree_2 : decode cX5_longestFree 2 = .ok (.iconst 0, 1) := by decide +kernel
theorem dX5_longestFree_3 : decode cX5_longestFree 3 = .ok (.istore_n 3, 1) := by decide +kernel
theorem dX5_longestFree_4 : decode cX5_longestFree 4 = .ok (.iload_n 3, 1) := by decide +kernel
theorem dX5_longestFree_5 : decode cX5_longestFree 5 = .ok (.iconst 5, 1) := by decide +kernel
theorem dX5_longestFree_6 : decode cX5_longestFree 6 = .ok (.if_icmp .ge 57, 3) := by decide +kernel
theorem dX5_longestFree_9 : decode cX5_longestFree 9 = .ok (.iload_n 3, 1) := by decide +kernel
theorem dX5_longestFree_10 : decode cX5_longestFree 10 = .ok (.aload_n 0, 1) := by decide +kernel
theorem dX5_longestFree_11 : decode cX5_longestFree 11 = .ok (.getfield 12, 3) := by decide +kernel
theorem dX5_longestFree_14 : decode cX5_longestFree 14 = .ok (.getfield 87, 3) := by decide +kernel
theorem dX5_longestFree_17 : decode cX5_longestFree 17 = .ok (.if_icmp .ge 46, 3) := by decide +kernel
theorem dX5_longestFree_20 : decode cX5_longestFree 20 = .ok (.aload_n 0, 1) := by decide +kernel
theorem dX5_longestFree_21 : decode cX5_longestFree 21 = .ok (.getfield 12, 3) := by decide +kernel
theorem dX5_longestFree_24 : decode cX5_longestFree 24 = .ok (.getfield 91, 3) := by decide +kernel
theorem dX5_longestFree_27 : decode cX5_longestFree 27 = .ok (.iload_n 3, 1) := by decide +kernel
theorem dX5_longestFree_28 : decode cX5_longestFree 28 = .ok (.iaload, 1) := by decide +kernel
theorem dX5_longestFree_29 : decode cX5_longestFree 29 = .ok (.iload_n 1, 1) := by decide +kernel
theorem dX5_longestFree_30 : decode cX5_longestFree 30 = .ok (.if_icmp .ne 27, 3) := by decide +kernel
theorem dX5_longestFree_33 : decode cX5_longestFree 33 = .ok (.aload_n 0, 1) := by decide +kernel
theorem dX5_longestFree_34 : decode cX5_longestFree 34 = .ok (.aload_n 0, 1) := by decide +kernel
theorem dX5_longestFree_35 : decode cX5_longestFree 35 = .ok (.getfield 12, 3) := by decide +kernel
theorem dX5_longestFree_38 : decode cX5_longestFree 38 = .ok (.getfield 94, 3) := by decide +kernel
theorem dX5_longestFree_41 : decode cX5_longestFree 41 = .ok (.iload_n 3, 1) := by decide +kernel
theorem dX5_longestFree_42 : decode cX5_longestFree 42 = .ok (.iaload, 1) := by decide +kernel
theorem dX5_longestFree_43 : decode cX5_longestFree 43 = .ok (.aload_n 0, 1) := by decide +kernel
theorem dX5_longestFree_44 : decode cX5_longestFree 44 = .ok (.getfield 12, 3) := by decide +kernel
theorem dX5_longestFree_47 : decode cX5_longestFree 47 = .ok (.getfield 97, 3) := by decide +kernel
theorem dX5_longestFree_50 : decode cX5_longestFree 50 = .ok (.iload_n 3, 1) := by decide +kernel
theorem dX5_longestFree_51 : decode cX5_longestFree 51 = .ok (.iaload, 1) := by decide +kernel
theorem dX5_longestFree_52 : decode cX5_longestFree 52 = .ok (.iload_n 2, 1) := by decide +kernel
theorem dX5_longestFree_53 : decode cX5_longestFree 53 = .ok (.invokevirtual 126, 3) := by decide +kernel
theorem dX5_longestFree_56 : decode cX5_longestFree 56 = .ok (.istore_n 2, 1) := by decide +kernel
theorem dX5_longestFree_57 : decode cX5_longestFree 57 = .ok (.iinc 3 1, 3) := by decide +kernel
theorem dX5_longestFree_60 : decode cX5_longestFree 60 = .ok (.goto (-56), 3) := by decide +kernel
theorem dX5_longestFree_63 : decode cX5_longestFree 63 = .ok (.iload_n 2, 1) := by decide +kernel
theorem dX5_longestFree_64 : decode cX5_longestFree 64 = .ok (.ireturn, 1) := by decide +kernel
theorem dX5_longestFreeIn_0 : decode cX5_longestFreeIn 0 = .ok (.iload_n 3, 1) := by decide +kernel
theorem dX5_longestFreeIn_1 : decode cX5_longestFreeIn 1 = .ok (.istore 4, 2) := by decide +kernel
theorem dX5_longestFreeIn_3 : decode cX5_longestFreeIn 3 = .ok (.iload_n 1, 1) := by decide +kernel
theorem dX5_longestFreeIn_4 : decode cX5_longestFreeIn 4 = .ok (.iconst 0, 1) := by decide +kernel
theorem dX5_longestFreeIn_5 : decode cX5_longestFreeIn 5 = .ok (.invokestatic 129, 3) := by decide +kernel
theorem dX5_longestFreeIn_8 : decode cX5_longestFreeIn 8 = .ok (.istore 5, 2) := by decide +kernel
theorem dX5_longestFreeIn_10 : decode cX5_longestFreeIn 10 = .ok (.iload 5, 2) := by decide +kernel
theorem dX5_longestFreeIn_12 : decode cX5_longestFreeIn 12 = .ok (.bipush 100, 2) := by decide +kernel
theorem dX5_longestFreeIn_14 : decode cX5_longestFreeIn 14 = .ok (.if_icmp .ge 51, 3) := by decide +kernel
theorem dX5_longestFreeIn_17 : decode cX5_longestFreeIn 17 = .ok (.iload 5, 2) := by decide +kernel
theorem dX5_longestFreeIn_19 : decode cX5_longestFreeIn 19 = .ok (.iload_n 2, 1) := by decide +kernel
theorem dX5_longestFreeIn_20 : decode cX5_longestFreeIn 20 = .ok (.if_icmp .gt 45, 3) := by decide +kernel
theorem dX5_longestFreeIn_23 : decode cX5_longestFreeIn 23 = .ok (.aload_n 0, 1) := by decide +kernel
theorem dX5_longestFreeIn_24 : decode cX5_longestFreeIn 24 = .ok (.getfield 21, 3) := by decide +kernel
theorem dX5_longestFreeIn_27 : decode cX5_longestFreeIn 27 = .ok (.iload 5, 2) := by decide +kernel
theorem dX5_longestFreeIn_29 : decode cX5_longestFreeIn 29 = .ok (.invokevirtual 123, 3) := by decide +kernel
theorem dX5_longestFreeIn_32 : decode cX5_longestFreeIn 32 = .ok (.ifCond .eq 27, 3) := by decide +kernel
theorem dX5_longestFreeIn_35 : decode cX5_longestFreeIn 35 = .ok (.iload 4, 2) := by decide +kernel
theorem dX5_longestFreeIn_37 : decode cX5_longestFreeIn 37 = .ok (.iconst (-1), 1) := by decide +kernel
theorem dX5_longestFreeIn_38 : decode cX5_longestFreeIn 38 = .ok (.if_icmp .eq 17, 3) := by decide +kernel
theorem dX5_longestFreeIn_41 : decode cX5_longestFreeIn 41 = .ok (.aload_n 0, 1) := by decide +kernel
theorem dX5_longestFreeIn_42 : decode cX5_longestFreeIn 42 = .ok (.getfield 21, 3) := by decide +kernel
theorem dX5_longestFreeIn_45 : decode cX5_longestFreeIn 45 = .ok (.iload 5, 2) := by decide +kernel
theorem dX5_longestFreeIn_47 : decode cX5_longestFreeIn 47 = .ok (.iload 4, 2) := by decide +kernel
theorem dX5_longestFreeIn_49 : decode cX5_longestFreeIn 49 = .ok (.invokevirtual 135, 3) := by decide +kernel
theorem dX5_longestFreeIn_52 : decode cX5_longestFreeIn 52 = .ok (.ifCond .eq 7, 3) := by decide +kernel
theorem dX5_longestFreeIn_55 : decode cX5_longestFreeIn 55 = .ok (.iload 5, 2) := by decide +kernel
theorem dX5_longestFreeIn_57 : decode cX5_longestFreeIn 57 = .ok (.istore 4, 2) := by decide +kernel
theorem dX5_longestFreeIn_59 : decode cX5_longestFreeIn 59 = .ok (.iinc 5 1, 3) := by decide +kernel
theorem dX5_longestFreeIn_62 : decode cX5_longestFreeIn 62 = .ok (.goto (-52), 3) := by decide +kernel
theorem dX5_longestFreeIn_65 : decode cX5_longestFreeIn 65 = .ok (.iload 4, 2) := by decide +kernel
theorem dX5_longestFreeIn_67 : decode cX5_longestFreeIn 67 = .ok (.ireturn, 1) := by decide +kernel
theorem dX5_makeOffer_0 : decode cX5_makeOffer 0 = .ok (.aload_n 0, 1) := by decide +kernel
theorem dX5_makeOffer_1 : decode cX5_makeOffer 1 = .ok (.iload_n 1, 1) := by decide +kernel
theorem dX5_makeOffer_2 : decode cX5_makeOffer 2 = .ok (.invokevirtual 138, 3) := by decide +kernel
theorem dX5_makeOffer_5 : decode cX5_makeOffer 5 = .ok (.iconst 0, 1) := by decide +kernel
theorem dX5_makeOffer_6 : decode cX5_makeOffer 6 = .ok (.istore 4, 2) := by decide +kernel
theorem dX5_makeOffer_8 : decode cX5_makeOffer 8 = .ok (.iload 4, 2) := by decide +kernel
theorem dX5_makeOffer_10 : decode cX5_makeOffer 10 = .ok (.bipush 100, 2) := by decide +kernel
theorem dX5_makeOffer_12 : decode cX5_makeOffer 12 = .ok (.if_icmp .ge 57, 3) := by decide +kernel
theorem dX5_makeOffer_15 : decode cX5_makeOffer 15 = .ok (.aload_n 0, 1) := by decide +kernel
theorem dX5_makeOffer_16 : decode cX5_makeOffer 16 = .ok (.iload_n 1, 1) := by decide +kernel
theorem dX5_makeOffer_17 : decode cX5_makeOffer 17 = .ok (.iload_n 2, 1) := by decide +kernel
theorem dX5_makeOffer_18 : decode cX5_makeOffer 18 = .ok (.iload_n 3, 1) := by decide +kernel
theorem dX5_makeOffer_19 : decode cX5_makeOffer 19 = .ok (.invokevirtual 142, 3) := by decide +kernel
theorem dX5_makeOffer_22 : decode cX5_makeOffer 22 = .ok (.istore 5, 2) := by decide +kernel
theorem dX5_makeOffer_24 : decode cX5_makeOffer 24 = .ok (.iload 5, 2) := by decide +kernel
theorem dX5_makeOffer_26 : decode cX5_makeOffer 26 = .ok (.invokestatic 81, 3) := by decide +kernel
theorem dX5_makeOffer_29 : decode cX5_makeOffer 29 = .ok (.ifCond .ne 5, 3) := by decide +kernel
theorem dX5_makeOffer_32 : decode cX5_makeOffer 32 = .ok (.iconst (-1), 1) := by decide +kernel
theorem dX5_makeOffer_33 : decode cX5_makeOffer 33 = .ok (.ireturn, 1) := by decide +kernel
theorem dX5_makeOffer_34 : decode cX5_makeOffer 34 = .ok (.aload_n 0, 1) := by decide +kernel
theorem dX5_makeOffer_35 : decode cX5_makeOffer 35 = .ok (.getfield 21, 3) := by decide +kernel
theorem dX5_makeOffer_38 : decode cX5_makeOffer 38 = .ok (.getfield 145, 3) := by decide +kernel
theorem dX5_makeOffer_41 : decode cX5_makeOffer 41 = .ok (.iload 5, 2) := by decide +kernel
theorem dX5_makeOffer_43 : decode cX5_makeOffer 43 = .ok (.baload, 1) := by decide +kernel
theorem dX5_makeOffer_44 : decode cX5_makeOffer 44 = .ok (.ifCond .ne 13, 3) := by decide +kernel
theorem dX5_makeOffer_47 : decode cX5_makeOffer 47 = .ok (.aload_n 0, 1) := by decide +kernel
theorem dX5_makeOffer_48 : decode cX5_makeOffer 48 = .ok (.iload_n 1, 1) := by decide +kernel
theorem dX5_makeOffer_49 : decode cX5_makeOffer 49 = .ok (.iload 5, 2) := by decide +kernel
theorem dX5_makeOffer_51 : decode cX5_makeOffer 51 = .ok (.invokevirtual 148, 3) := by decide +kernel
theorem dX5_makeOffer_54 : decode cX5_makeOffer 54 = .ok (.iload 5, 2) := by decide +kernel
theorem dX5_makeOffer_56 : decode cX5_makeOffer 56 = .ok (.ireturn, 1) := by decide +kernel
theorem dX5_makeOffer_57 : decode cX5_makeOffer 57 = .ok (.aload_n 0, 1) := by decide +kernel
theorem dX5_makeOffer_58 : decode cX5_makeOffer 58 = .ok (.iload 5, 2) := by decide +kernel
theorem dX5_makeOffer_60 : decode cX5_makeOffer 60 = .ok (.invokevirtual 152, 3) := by decide +kernel
theorem dX5_makeOffer_63 : decode cX5_makeOffer 63 = .ok (.iinc 4 1, 3) := by decide +kernel
theorem dX5_makeOffer_66 : decode cX5_makeOffer 66 = .ok (.goto (-58), 3) := by decide +kernel
theorem dX5_makeOffer_69 : decode cX5_makeOffer 69 = .ok (.iconst (-1), 1) := by decide +kernel
theorem dX5_makeOffer_70 : decode cX5_makeOffer 70 = .ok (.ireturn, 1) := by decide +kernel
theorem dX5_holdFor_0 : decode cX5_holdFor 0 = .ok (.aload_n 0, 1) := by decide +kernel
theorem dX5_holdFor_1 : decode cX5_holdFor 1 = .ok (.getfield 21, 3) := by decide +kernel
theorem dX5_holdFor_4 : decode cX5_holdFor 4 = .ok (.iload_n 2, 1) := by decide +kernel
theorem dX5_holdFor_5 : decode cX5_holdFor 5 = .ok (.iconst 1, 1) := by decide +kernel
theorem dX5_holdFor_6 : decode cX5_holdFor 6 = .ok (.iload_n 1, 1) := by decide +kernel
theorem dX5_holdFor_7 : decode cX5_holdFor 7 = .ok (.aload_n 0, 1) := by decide +kernel
theorem dX5_holdFor_8 : decode cX5_holdFor 8 = .ok (.getfield 35, 3) := by decide +kernel
theorem dX5_holdFor_11 : decode cX5_holdFor 11 = .ok (.getfield 110, 3) := by decide +kernel
theorem dX5_holdFor_14 : decode cX5_holdFor 14 = .ok (.aload_n 0, 1) := by decide +kernel
theorem dX5_holdFor_15 : decode cX5_holdFor 15 = .ok (.getfield 35, 3) := by decide +kernel
theorem dX5_holdFor_18 : decode cX5_holdFor 18 = .ok (.getfield 155, 3) := by decide +kernel
theorem dX5_holdFor_21 : decode cX5_holdFor 21 = .ok (.iadd, 1) := by decide +kernel
theorem dX5_holdFor_22 : decode cX5_holdFor 22 = .ok (.invokevirtual 158, 3) := by decide +kernel
theorem dX5_holdFor_25 : decode cX5_holdFor 25 = .ok (.aload_n 0, 1) := by decide +kernel
theorem dX5_holdFor_26 : decode cX5_holdFor 26 = .ok (.getfield 28, 3) := by decide +kernel
theorem dX5_holdFor_29 : decode cX5_holdFor 29 = .ok (.iload_n 1, 1) := by decide +kernel
theorem dX5_holdFor_30 : decode cX5_holdFor 30 = .ok (.iload_n 2, 1) := by decide +kernel
theorem dX5_holdFor_31 : decode cX5_holdFor 31 = .ok (.invokevirtual 162, 3) := by decide +kernel
theorem dX5_holdFor_34 : decode cX5_holdFor 34 = .ok (.aload_n 0, 1) := by decide +kernel
theorem dX5_holdFor_35 : decode cX5_holdFor 35 = .ok (.getfield 39, 3) := by decide +kernel
theorem dX5_holdFor_38 : decode cX5_holdFor 38 = .ok (.iconst 1, 1) := by decide +kernel
theorem dX5_holdFor_39 : decode cX5_holdFor 39 = .ok (.iload_n 2, 1) := by decide +kernel
theorem dX5_holdFor_40 : decode cX5_holdFor 40 = .ok (.invokevirtual 165, 3) := by decide +kernel
theorem dX5_holdFor_43 : decode cX5_holdFor 43 = .ok (.return_, 1) := by decide +kernel
theorem dX5_findConflict_0 : decode cX5_findConflict 0 = .ok (.aload_n 0, 1) := by decide +kernel
theorem dX5_findConflict_1 : decode cX5_findConflict 1 = .ok (.getfield 21, 3) := by decide +kernel
theorem dX5_findConflict_4 : decode cX5_findConflict 4 = .ok (.iload_n 1, 1) := by decide +kernel
theorem dX5_findConflict_5 : decode cX5_findConflict 5 = .ok (.aload_n 0, 1) := by decide +kernel
theorem dX5_findConflict_6 : decode cX5_findConflict 6 = .ok (.getfield 35, 3) := by decide +kernel
theorem dX5_findConflict_9 : decode cX5_findConflict 9 = .ok (.getfield 110, 3) := by decide +kernel
theorem dX5_findConflict_12 : decode cX5_findConflict 12 = .ok (.aload_n 0, 1) := by decide +kernel
theorem dX5_findConflict_13 : decode cX5_findConflict 13 = .ok (.getfield 35, 3) := by decide +kernel
theorem dX5_findConflict_16 : decode cX5_findConflict 16 = .ok (.getfield 170, 3) := by decide +kernel
theorem dX5_findConflict_19 : decode cX5_findConflict 19 = .ok (.iadd, 1) := by decide +kernel
theorem dX5_findConflict_20 : decode cX5_findConflict 20 = .ok (.invokevirtual 173, 3) := by decide +kernel
theorem dX5_findConflict_23 : decode cX5_findConflict 23 = .ok (.aload_n 0, 1) := by decide +kernel
theorem dX5_findConflict_24 : decode cX5_findConflict 24 = .ok (.getfield 35, 3) := by decide +kernel
theorem dX5_findConflict_27 : decode cX5_findConflict 27 = .ok (.dup, 1) := by decide +kernel
theorem dX5_findConflict_28 : decode cX5_findConflict 28 = .ok (.getfield 176, 3) := by decide +kernel
theorem dX5_findConflict_31 : decode cX5_findConflict 31 = .ok (.iconst 1, 1) := by decide +kernel
theorem dX5_findConflict_32 : decode cX5_findConflict 32 = .ok (.iadd, 1) := by decide +kernel
theorem dX5_findConflict_33 : decode cX5_findConflict 33 = .ok (.putfield 176, 3) := by decide +kernel
theorem dX5_findConflict_36 : decode cX5_findConflict 36 = .ok (.aload_n 0, 1) := by decide +kernel
theorem dX5_findConflict_37 : decode cX5_findConflict 37 = .ok (.getfield 39, 3) := by decide +kernel
theorem dX5_findConflict_40 : decode cX5_findConflict 40 = .ok (.bipush 8, 2) := by decide +kernel
theorem dX5_findConflict_42 : decode cX5_findConflict 42 = .ok (.iload_n 1, 1) := by decide +kernel
theorem dX5_findConflict_43 : decode cX5_findConflict 43 = .ok (.invokevirtual 165, 3) := by decide +kernel
theorem dX5_findConflict_46 : decode cX5_findConflict 46 = .ok (.return_, 1) := by decide +kernel
theorem dX5_beginLease_0 : decode cX5_beginLease 0 = .ok (.iload_n 1, 1) := by decide +kernel
theorem dX5_beginLease_1 : decode cX5_beginLease 1 = .ok (.invokestatic 71, 3) := by decide +kernel
theorem dX5_beginLease_4 : decode cX5_beginLease 4 = .ok (.ifCond .eq 25, 3) := by decide +kernel
theorem dX5_beginLease_7 : decode cX5_beginLease 7 = .ok (.aload_n 0, 1) := by decide +kernel
theorem dX5_beginLease_8 : decode cX5_beginLease 8 = .ok (.iload_n 1, 1) := by decide +kernel
theorem dX5_beginLease_9 : decode cX5_beginLease 9 = .ok (.invokevirtual 179, 3) := by decide +kernel
theorem dX5_beginLease_12 : decode cX5_beginLease 12 = .ok (.aload_n 0, 1) := by decide +kernel
theorem dX5_beginLease_13 : decode cX5_beginLease 13 = .ok (.getfield 39, 3) := by decide +kernel
theorem dX5_beginLease_16 : decode cX5_beginLease 16 = .ok (.iconst 2, 1) := by decide +kernel
theorem dX5_beginLease_17 : decode cX5_beginLease 17 = .ok (.aload_n 0, 1) := by decide +kernel
theorem dX5_beginLease_18 : decode cX5_beginLease 18 = .ok (.getfield 28, 3) := by decide +kernel
theorem dX5_beginLease_21 : decode cX5_beginLease 21 = .ok (.getfield 74, 3) := by decide +kernel
theorem dX5_beginLease_24 : decode cX5_beginLease 24 = .ok (.iload_n 1, 1) := by decide +kernel
theorem dX5_beginLease_25 : decode cX5_beginLease 25 = .ok (.iaload, 1) := by decide +kernel
theorem dX5_beginLease_26 : decode cX5_beginLease 26 = .ok (.invokevirtual 165, 3) := by decide +kernel
theorem dX5_beginLease_29 : decode cX5_beginLease 29 = .ok (.return_, 1) := by decide +kernel
theorem dX5_startTerm_0 : decode cX5_startTerm 0 = .ok (.aload_n 0, 1) := by decide +kernel
theorem dX5_startTerm_1 : decode cX5_startTerm 1 = .ok (.getfield 28, 3) := by decide +kernel
theorem dX5_startTerm_4 : decode cX5_startTerm 4 = .ok (.getfield 74, 3) := by decide +kernel
theorem dX5_startTerm_7 : decode cX5_startTerm 7 = .ok (.iload_n 1, 1) := by decide +kernel
theorem dX5_startTerm_8 : decode cX5_startTerm 8 = .ok (.iaload, 1) := by decide +kernel
theorem dX5_startTerm_9 : decode cX5_startTerm 9 = .ok (.istore_n 2, 1) := by decide +kernel
theorem dX5_startTerm_10 : decode cX5_startTerm 10 = .ok (.aload_n 0, 1) := by decide +kernel
theorem dX5_startTerm_11 : decode cX5_startTerm 11 = .ok (.getfield 12, 3) := by decide +kernel
theorem dX5_startTerm_14 : decode cX5_startTerm 14 = .ok (.iload_n 2, 1) := by decide +kernel
theorem dX5_startTerm_15 : decode cX5_startTerm 15 = .ok (.invokevirtual 182, 3) := by decide +kernel
theorem dX5_startTerm_18 : decode cX5_startTerm 18 = .ok (.istore_n 3, 1) := by decide +kernel
theorem dX5_startTerm_19 : decode cX5_startTerm 19 = .ok (.aload_n 0, 1) := by decide +kernel
theorem dX5_startTerm_20 : decode cX5_startTerm 20 = .ok (.getfield 21, 3) := by decide +kernel
theorem dX5_startTerm_23 : decode cX5_startTerm 23 = .ok (.iload_n 2, 1) := by decide +kernel
theorem dX5_startTerm_24 : decode cX5_startTerm 24 = .ok (.iconst 2, 1) := by decide +kernel
theorem dX5_startTerm_25 : decode cX5_startTerm 25 = .ok (.iload_n 1, 1) := by decide +kernel
theorem dX5_startTerm_26 : decode cX5_startTerm 26 = .ok (.aload_n 0, 1) := by decide +kernel
theorem dX5_startTerm_27 : decode cX5_startTerm 27 = .ok (.getfield 35, 3) := by decide +kernel
theorem dX5_startTerm_30 : decode cX5_startTerm 30 = .ok (.getfield 110, 3) := by decide +kernel
theorem dX5_startTerm_33 : decode cX5_startTerm 33 = .ok (.iload_n 3, 1) := by decide +kernel
theorem dX5_startTerm_34 : decode cX5_startTerm 34 = .ok (.iadd, 1) := by decide +kernel
theorem dX5_startTerm_35 : decode cX5_startTerm 35 = .ok (.invokevirtual 158, 3) := by decide +kernel
theorem dX5_startTerm_38 : decode cX5_startTerm 38 = .ok (.aload_n 0, 1) := by decide +kernel
theorem dX5_startTerm_39 : decode cX5_startTerm 39 = .ok (.getfield 28, 3) := by decide +kernel
theorem dX5_startTerm_42 : decode cX5_startTerm 42 = .ok (.iload_n 1, 1) := by decide +kernel
theorem dX5_startTerm_43 : decode cX5_startTerm 43 = .ok (.aload_n 0, 1) := by decide +kernel
theorem dX5_startTerm_44 : decode cX5_startTerm 44 = .ok (.getfield 35, 3) := by decide +kernel
theorem dX5_startTerm_47 : decode cX5_startTerm 47 = .ok (.getfield 110, 3) := by decide +kernel
theorem dX5_startTerm_50 : decode cX5_startTerm 50 = .ok (.iload_n 3, 1) := by decide +kernel
theorem dX5_startTerm_51 : decode cX5_startTerm 51 = .ok (.invokevirtual 185, 3) := by decide +kernel
theorem dX5_startTerm_54 : decode cX5_startTerm 54 = .ok (.return_, 1) := by decide +kernel
theorem dX5_endHolding_0 : decode cX5_endHolding 0 = .ok (.iload_n 1, 1) := by decide +kernel
theorem dX5_endHolding_1 : decode cX5_endHolding 1 = .ok (.invokestatic 71, 3) := by decide +kernel
theorem dX5_endHolding_4 : decode cX5_endHolding 4 = .ok (.ifCond .eq 34, 3) := by decide +kernel
theorem dX5_endHolding_7 : decode cX5_endHolding 7 = .ok (.aload_n 0, 1) := by decide +kernel
theorem dX5_endHolding_8 : decode cX5_endHolding 8 = .ok (.getfield 21, 3) := by decide +kernel
theorem dX5_endHolding_11 : decode cX5_endHolding 11 = .ok (.aload_n 0, 1) := by decide +kernel
theorem dX5_endHolding_12 : decode cX5_endHolding 12 = .ok (.getfield 28, 3) := by decide +kernel
theorem dX5_endHolding_15 : decode cX5_endHolding 15 = .ok (.getfield 74, 3) := by decide +kernel
theorem dX5_endHolding_18 : decode cX5_endHolding 18 = .ok (.iload_n 1, 1) := by decide +kernel
theorem dX5_endHolding_19 : decode cX5_endHolding 19 = .ok (.iaload, 1) := by decide +kernel
theorem dX5_endHolding_20 : decode cX5_endHolding 20 = .ok (.aload_n 0, 1) := by decide +kernel
theorem dX5_endHolding_21 : decode cX5_endHolding 21 = .ok (.getfield 35, 3) := by decide +kernel
theorem dX5_endHolding_24 : decode cX5_endHolding 24 = .ok (.getfield 110, 3) := by decide +kernel
theorem dX5_endHolding_27 : decode cX5_endHolding 27 = .ok (.invokevirtual 189, 3) := by decide +kernel
theorem dX5_endHolding_30 : decode cX5_endHolding 30 = .ok (.aload_n 0, 1) := by decide +kernel
theorem dX5_endHolding_31 : decode cX5_endHolding 31 = .ok (.getfield 28, 3) := by decide +kernel
theorem dX5_endHolding_34 : decode cX5_endHolding 34 = .ok (.iload_n 1, 1) := by decide +kernel
theorem dX5_endHolding_35 : decode cX5_endHolding 35 = .ok (.invokevirtual 192, 3) := by decide +kernel
theorem dX5_endHolding_38 : decode cX5_endHolding 38 = .ok (.return_, 1) := by decide +kernel
theorem dX5_declineLease_0 : decode cX5_declineLease 0 = .ok (.iload_n 1, 1) := by decide +kernel
theorem dX5_declineLease_1 : decode cX5_declineLease 1 = .ok (.invokestatic 71, 3) := by decide +kernel
theorem dX5_declineLease_4 : decode cX5_declineLease 4 = .ok (.ifCond .eq 64, 3) := by decide +kernel
theorem dX5_declineLease_7 : decode cX5_declineLease 7 = .ok (.aload_n 0, 1) := by decide +kernel
theorem dX5_declineLease_8 : decode cX5_declineLease 8 = .ok (.getfield 28, 3) := by decide +kernel
theorem dX5_declineLease_11 : decode cX5_declineLease 11 = .ok (.getfield 74, 3) := by decide +kernel
theorem dX5_declineLease_14 : decode cX5_declineLease 14 = .ok (.iload_n 1, 1) := by decide +kernel
theorem dX5_declineLease_15 : decode cX5_declineLease 15 = .ok (.iaload, 1) := by decide +kernel
theorem dX5_declineLease_16 : decode cX5_declineLease 16 = .ok (.istore_n 2, 1) := by decide +kernel
theorem dX5_declineLease_17 : decode cX5_declineLease 17 = .ok (.aload_n 0, 1) := by decide +kernel
theorem dX5_declineLease_18 : decode cX5_declineLease 18 = .ok (.getfield 21, 3) := by decide +kernel
theorem dX5_declineLease_21 : decode cX5_declineLease 21 = .ok (.iload_n 2, 1) := by decide +kernel
theorem dX5_declineLease_22 : decode cX5_declineLease 22 = .ok (.aload_n 0, 1) := by decide +kernel
theorem dX5_declineLease_23 : decode cX5_declineLease 23 = .ok (.getfield 35, 3) := by decide +kernel
theorem dX5_declineLease_26 : decode cX5_declineLease 26 = .ok (.getfield 110, 3) := by decide +kernel
theorem dX5_declineLease_29 : decode cX5_declineLease 29 = .ok (.aload_n 0, 1) := by decide +kernel
theorem dX5_declineLease_30 : decode cX5_declineLease 30 = .ok (.getfield 35, 3) := by decide +kernel
theorem dX5_declineLease_33 : decode cX5_declineLease 33 = .ok (.getfield 170, 3) := by decide +kernel
theorem dX5_declineLease_36 : decode cX5_declineLease 36 = .ok (.iadd, 1) := by decide +kernel
theorem dX5_declineLease_37 : decode cX5_declineLease 37 = .ok (.invokevirtual 173, 3) := by decide +kernel
theorem dX5_declineLease_40 : decode cX5_declineLease 40 = .ok (.aload_n 0, 1) := by decide +kernel
theorem dX5_declineLease_41 : decode cX5_declineLease 41 = .ok (.getfield 28, 3) := by decide +kernel
theorem dX5_declineLease_44 : decode cX5_declineLease 44 = .ok (.iload_n 1, 1) := by decide +kernel
theorem dX5_declineLease_45 : decode cX5_declineLease 45 = .ok (.invokevirtual 192, 3) := by decide +kernel
theorem dX5_declineLease_48 : decode cX5_declineLease 48 = .ok (.aload_n 0, 1) := by decide +kernel
theorem dX5_declineLease_49 : decode cX5_declineLease 49 = .ok (.getfield 28, 3) := by decide +kernel
theorem dX5_declineLease_52 : decode cX5_declineLease 52 = .ok (.getfield 113, 3) := by decide +kernel
theorem dX5_declineLease_55 : decode cX5_declineLease 55 = .ok (.iload_n 1, 1) := by decide +kernel
theorem dX5_declineLease_56 : decode cX5_declineLease 56 = .ok (.iconst (-1), 1) := by decide +kernel
theorem dX5_declineLease_57 : decode cX5_declineLease 57 = .ok (.iastore, 1) := by decide +kernel
theorem dX5_declineLease_58 : decode cX5_declineLease 58 = .ok (.aload_n 0, 1) := by decide +kernel
theorem dX5_declineLease_59 : decode cX5_declineLease 59 = .ok (.getfield 39, 3) := by decide +kernel
theorem dX5_declineLease_62 : decode cX5_declineLease 62 = .ok (.bipush 7, 2) := by decide +kernel
theorem dX5_declineLease_64 : decode cX5_declineLease 64 = .ok (.iload_n 2, 1) := by decide +kernel
theorem dX5_declineLease_65 : decode cX5_declineLease 65 = .ok (.invokevirtual 165, 3) := by decide +kernel
theorem dX5_declineLease_68 : decode cX5_declineLease 68 = .ok (.return_, 1) := by decide +kernel
theorem dX5_renewOrRefuse_0 : decode cX5_renewOrRefuse 0 = .ok (.iload_n 1, 1) := by decide +kernel
theorem dX5_renewOrRefuse_1 : decode cX5_renewOrRefuse 1 = .ok (.invokestatic 71, 3) := by decide +kernel
theorem dX5_renewOrRefuse_4 : decode cX5_renewOrRefuse 4 = .ok (.ifCond .eq 15, 3) := by decide +kernel
theorem dX5_renewOrRefuse_7 : decode cX5_renewOrRefuse 7 = .ok (.aload_n 0, 1) := by decide +kernel
theorem dX5_renewOrRefuse_8 : decode cX5_renewOrRefuse 8 = .ok (.getfield 28, 3) := by decide +kernel
theorem dX5_renewOrRefuse_11 : decode cX5_renewOrRefuse 11 = .ok (.getfield 74, 3) := by decide +kernel
theorem dX5_renewOrRefuse_14 : decode cX5_renewOrRefuse 14 = .ok (.iload_n 1, 1) := by decide +kernel
theorem dX5_renewOrRefuse_15 : decode cX5_renewOrRefuse 15 = .ok (.iaload, 1) := by decide +kernel
theorem dX5_renewOrRefuse_16 : decode cX5_renewOrRefuse 16 = .ok (.goto 4, 3) := by decide +kernel
theorem dX5_renewOrRefuse_19 : decode cX5_renewOrRefuse 19 = .ok (.iconst (-1), 1) := by decide +kernel
theorem dX5_renewOrRefuse_20 : decode cX5_renewOrRefuse 20 = .ok (.istore_n 2, 1) := by decide +kernel
theorem dX5_renewOrRefuse_21 : decode cX5_renewOrRefuse 21 = .ok (.iload_n 2, 1) := by decide +kernel
theorem dX5_renewOrRefuse_22 : decode cX5_renewOrRefuse 22 = .ok (.invokestatic 81, 3) := by decide +kernel
theorem dX5_renewOrRefuse_25 : decode cX5_renewOrRefuse 25 = .ok (.ifCond .ne 5, 3) := by decide +kernel
theorem dX5_renewOrRefuse_28 : decode cX5_renewOrRefuse 28 = .ok (.iconst 0, 1) := by decide +kernel
theorem dX5_renewOrRefuse_29 : decode cX5_renewOrRefuse 29 = .ok (.ireturn, 1) := by decide +kernel
theorem dX5_renewOrRefuse_30 : decode cX5_renewOrRefuse 30 = .ok (.aload_n 0, 1) := by decide +kernel
theorem dX5_renewOrRefuse_31 : decode cX5_renewOrRefuse 31 = .ok (.getfield 21, 3) := by decide +kernel
theorem dX5_renewOrRefuse_34 : decode cX5_renewOrRefuse 34 = .ok (.getfield 195, 3) := by decide +kernel
theorem dX5_renewOrRefuse_37 : decode cX5_renewOrRefuse 37 = .ok (.iload_n 2, 1) := by decide +kernel
theorem dX5_renewOrRefuse_38 : decode cX5_renewOrRefuse 38 = .ok (.baload, 1) := by decide +kernel
theorem dX5_renewOrRefuse_39 : decode cX5_renewOrRefuse 39 = .ok (.ifCond .eq 19, 3) := by decide +kernel
theorem dX5_renewOrRefuse_42 : decode cX5_renewOrRefuse 42 = .ok (.aload_n 0, 1) := by decide +kernel
theorem dX5_renewOrRefuse_43 : decode cX5_renewOrRefuse 43 = .ok (.iload_n 1, 1) := by decide +kernel
theorem dX5_renewOrRefuse_44 : decode cX5_renewOrRefuse 44 = .ok (.invokevirtual 138, 3) := by decide +kernel
theorem dX5_renewOrRefuse_47 : decode cX5_renewOrRefuse 47 = .ok (.aload_n 0, 1) := by decide +kernel
theorem dX5_renewOrRefuse_48 : decode cX5_renewOrRefuse 48 = .ok (.getfield 39, 3) := by decide +kernel
theorem dX5_renewOrRefuse_51 : decode cX5_renewOrRefuse 51 = .ok (.iconst 4, 1) := by decide +kernel
theorem dX5_renewOrRefuse_52 : decode cX5_renewOrRefuse 52 = .ok (.iload_n 2, 1) := by decide +kernel
theorem dX5_renewOrRefuse_53 : decode cX5_renewOrRefuse 53 = .ok (.invokevirtual 165, 3) := by decide +kernel
theorem dX5_renewOrRefuse_56 : decode cX5_renewOrRefuse 56 = .ok (.iconst 0, 1) := by decide +kernel
theorem dX5_renewOrRefuse_57 : decode cX5_renewOrRefuse 57 = .ok (.ireturn, 1) := by decide +kernel
theorem dX5_renewOrRefuse_58 : decode cX5_renewOrRefuse 58 = .ok (.aload_n 0, 1) := by decide +kernel
theorem dX5_renewOrRefuse_59 : decode cX5_renewOrRefuse 59 = .ok (.iload_n 1, 1) := by decide +kernel
theorem dX5_renewOrRefuse_60 : decode cX5_renewOrRefuse 60 = .ok (.invokevirtual 179, 3) := by decide +kernel
theorem dX5_renewOrRefuse_63 : decode cX5_renewOrRefuse 63 = .ok (.aload_n 0, 1) := by decide +kernel
theorem dX5_renewOrRefuse_64 : decode cX5_renewOrRefuse 64 = .ok (.getfield 39, 3) := by decide +kernel
theorem dX5_renewOrRefuse_67 : decode cX5_renewOrRefuse 67 = .ok (.iconst 3, 1) := by decide +kernel
theorem dX5_renewOrRefuse_68 : decode cX5_renewOrRefuse 68 = .ok (.iload_n 2, 1) := by decide +kernel
theorem dX5_renewOrRefuse_69 : decode cX5_renewOrRefuse 69 = .ok (.invokevirtual 165, 3) := by decide +kernel
theorem dX5_renewOrRefuse_72 : decode cX5_renewOrRefuse 72 = .ok (.iconst 1, 1) := by decide +kernel
theorem dX5_renewOrRefuse_73 : decode cX5_renewOrRefuse 73 = .ok (.ireturn, 1) := by decide +kernel
theorem dX5_earliestEvent_0 : decode cX5_earliestEvent 0 = .ok (.aload_n 0, 1) := by decide +kernel
theorem dX5_earliestEvent_1 : decode cX5_earliestEvent 1 = .ok (.invokevirtual 198, 3) := by decide +kernel
theorem dX5_earliestEvent_4 : decode cX5_earliestEvent 4 = .ok (.aload_n 0, 1) := by decide +kernel
theorem dX5_earliestEvent_5 : decode cX5_earliestEvent 5 = .ok (.getfield 21, 3) := by decide +kernel
theorem dX5_earliestEvent_8 : decode cX5_earliestEvent 8 = .ok (.invokevirtual 202, 3) := by decide +kernel
theorem dX5_earliestEvent_11 : decode cX5_earliestEvent 11 = .ok (.invokestatic 205, 3) := by decide +kernel
theorem dX5_earliestEvent_14 : decode cX5_earliestEvent 14 = .ok (.ireturn, 1) := by decide +kernel
theorem dX5_earliestEventOfClients_0 : decode cX5_earliestEventOfClients 0 = .ok (.ldc 208, 2) := by decide +kernel
theorem dX5_earliestEventOfClients_2 : decode cX5_earliestEventOfClients 2 = .ok (.istore_n 1, 1) := by decide +kernel
theorem dX5_earliestEventOfClients_3 : decode cX5_earliestEventOfClients 3 = .ok (.iconst 0, 1) := by decide +kernel
theorem dX5_earliestEventOfClients_4 : decode cX5_earliestEventOfClients 4 = .ok (.istore_n 2, 1) := by decide +kernel
theorem dX5_earliestEventOfClients_5 : decode cX5_earliestEventOfClients 5 = .ok (.iload_n 2, 1) := by decide +kernel
theorem dX5_earliestEventOfClients_6 : decode cX5_earliestEventOfClients 6 = .ok (.bipush 20, 2) := by decide +kernel
theorem dX5_earliestEventOfClients_8 : decode cX5_earliestEventOfClients 8 = .ok (.if_icmp .ge 31, 3) := by decide +kernel
theorem dX5_earliestEventOfClients_11 : decode cX5_earliestEventOfClients 11 = .ok (.aload_n 0, 1) := by decide +kernel
theorem dX5_earliestEventOfClients_12 : decode cX5_earliestEventOfClients 12 = .ok (.getfield 28, 3) := by decide +kernel
theorem dX5_earliestEventOfClients_15 : decode cX5_earliestEventOfClients 15 = .ok (.getfield 209, 3) := by decide +kernel
theorem dX5_earliestEventOfClients_18 : decode cX5_earliestEventOfClients 18 = .ok (.iload_n 2, 1) := by decide +kernel
theorem dX5_earliestEventOfClients_19 : decode cX5_earliestEventOfClients 19 = .ok (.iaload, 1) := by decide +kernel
theorem dX5_earliestEventOfClients_20 : decode cX5_earliestEventOfClients 20 = .ok (.ifCond .eq 13, 3) := by decide +kernel
theorem dX5_earliestEventOfClients_23 : decode cX5_earliestEventOfClients 23 = .ok (.iload_n 1, 1) := by decide +kernel
theorem dX5_earliestEventOfClients_24 : decode cX5_earliestEventOfClients 24 = .ok (.aload_n 0, 1) := by decide +kernel
theorem dX5_earliestEventOfClients_25 : decode cX5_earliestEventOfClients 25 = .ok (.iload_n 2, 1) := by decide +kernel
theorem dX5_earliestEventOfClients_26 : decode cX5_earliestEventOfClients 26 = .ok (.invokevirtual 212, 3) := by decide +kernel
theorem dX5_earliestEventOfClients_29 : decode cX5_earliestEventOfClients 29 = .ok (.invokestatic 205, 3) := by decide +kernel
theorem dX5_earliestEventOfClients_32 : decode cX5_earliestEventOfClients 32 = .ok (.istore_n 1, 1) := by decide +kernel
theorem dX5_earliestEventOfClients_33 : decode cX5_earliestEventOfClients 33 = .ok (.iinc 2 1, 3) := by decide +kernel
theorem dX5_earliestEventOfClients_36 : decode cX5_earliestEventOfClients 36 = .ok (.goto (-31), 3) := by decide +kernel
theorem dX5_earliestEventOfClients_39 : decode cX5_earliestEventOfClients 39 = .ok (.iload_n 1, 1) := by decide +kernel
theorem dX5_earliestEventOfClients_40 : decode cX5_earliestEventOfClients 40 = .ok (.ireturn, 1) := by decide +kernel
theorem dX5_eventOfClient_0 : decode cX5_eventOfClient 0 = .ok (.aload_n 0, 1) := by decide +kernel
theorem dX5_eventOfClient_1 : decode cX5_eventOfClient 1 = .ok (.getfield 28, 3) := by decide +kernel
theorem dX5_eventOfClient_4 : decode cX5_eventOfClient 4 = .ok (.getfield 74, 3) := by decide +kernel
theorem dX5_eventOfClient_7 : decode cX5_eventOfClient 7 = .ok (.iload_n 1, 1) := by decide +kernel
theorem dX5_eventOfClient_8 : decode cX5_eventOfClient 8 = .ok (.iaload, 1) := by decide +kernel
theorem dX5_eventOfClient_9 : decode cX5_eventOfClient 9 = .ok (.istore_n 2, 1) := by decide +kernel
theorem dX5_eventOfClient_10 : decode cX5_eventOfClient 10 = .ok (.iload_n 2, 1) := by decide +kernel
theorem dX5_eventOfClient_11 : decode cX5_eventOfClient 11 = .ok (.invokestatic 81, 3) := by decide +kernel
theorem dX5_eventOfClient_14 : decode cX5_eventOfClient 14 = .ok (.ifCond .ne 6, 3) := by decide +kernel
theorem dX5_eventOfClient_17 : decode cX5_eventOfClient 17 = .ok (.ldc 208, 2) := by decide +kernel
theorem dX5_eventOfClient_19 : decode cX5_eventOfClient 19 = .ok (.ireturn, 1) := by decide +kernel
theorem dX5_eventOfClient_20 : decode cX5_eventOfClient 20 = .ok (.aload_n 0, 1) := by decide +kernel
theorem dX5_eventOfClient_21 : decode cX5_eventOfClient 21 = .ok (.getfield 28, 3) := by decide +kernel
theorem dX5_eventOfClient_24 : decode cX5_eventOfClient 24 = .ok (.getfield 209, 3) := by decide +kernel
theorem dX5_eventOfClient_27 : decode cX5_eventOfClient 27 = .ok (.iload_n 1, 1) := by decide +kernel
theorem dX5_eventOfClient_28 : decode cX5_eventOfClient 28 = .ok (.iaload, 1) := by decide +kernel
theorem dX5_eventOfClient_29 : decode cX5_eventOfClient 29 = .ok (.tableswitch 91 1 4 #[31, 46, 61, 76], 31) := by decide +kernel
theorem dX5_eventOfClient_60 : decode cX5_eventOfClient 60 = .ok (.aload_n 0, 1) := by decide +kernel
theorem dX5_eventOfClient_61 : decode cX5_eventOfClient 61 = .ok (.getfield 21, 3) := by decide +kernel
theorem dX5_eventOfClient_64 : decode cX5_eventOfClient 64 = .ok (.getfield 84, 3) := by decide +kernel
theorem dX5_eventOfClient_67 : decode cX5_eventOfClient 67 = .ok (.iload_n 2, 1) := by decide +kernel
theorem dX5_eventOfClient_68 : decode cX5_eventOfClient 68 = .ok (.iaload, 1) := by decide +kernel
theorem dX5_eventOfClient_69 : decode cX5_eventOfClient 69 = .ok (.iconst 0, 1) := by decide +kernel
theorem dX5_eventOfClient_70 : decode cX5_eventOfClient 70 = .ok (.iload_n 2, 1) := by decide +kernel
theorem dX5_eventOfClient_71 : decode cX5_eventOfClient 71 = .ok (.invokestatic 215, 3) := by decide +kernel
theorem dX5_eventOfClient_74 : decode cX5_eventOfClient 74 = .ok (.ireturn, 1) := by decide +kernel
theorem dX5_eventOfClient_75 : decode cX5_eventOfClient 75 = .ok (.aload_n 0, 1) := by decide +kernel
theorem dX5_eventOfClient_76 : decode cX5_eventOfClient 76 = .ok (.getfield 28, 3) := by decide +kernel
theorem dX5_eventOfClient_79 : decode cX5_eventOfClient 79 = .ok (.getfield 218, 3) := by decide +kernel
theorem dX5_eventOfClient_82 : decode cX5_eventOfClient 82 = .ok (.iload_n 1, 1) := by decide +kernel
theorem dX5_eventOfClient_83 : decode cX5_eventOfClient 83 = .ok (.iaload, 1) := by decide +kernel
theorem dX5_eventOfClient_84 : decode cX5_eventOfClient 84 = .ok (.iconst 2, 1) := by decide +kernel
theorem dX5_eventOfClient_85 : decode cX5_eventOfClient 85 = .ok (.iload_n 2, 1) := by decide +kernel
theorem dX5_eventOfClient_86 : decode cX5_eventOfClient 86 = .ok (.invokestatic 215, 3) := by decide +kernel
theorem dX5_eventOfClient_89 : decode cX5_eventOfClient 89 = .ok (.ireturn, 1) := by decide +kernel
theorem dX5_eventOfClient_90 : decode cX5_eventOfClient 90 = .ok (.aload_n 0, 1) := by decide +kernel
theorem dX5_eventOfClient_91 : decode cX5_eventOfClient 91 = .ok (.getfield 28, 3) := by decide +kernel
theorem dX5_eventOfClient_94 : decode cX5_eventOfClient 94 = .ok (.getfield 221, 3) := by decide +kernel
theorem dX5_eventOfClient_97 : decode cX5_eventOfClient 97 = .ok (.iload_n 1, 1) := by decide +kernel
theorem dX5_eventOfClient_98 : decode cX5_eventOfClient 98 = .ok (.iaload, 1) := by decide +kernel
theorem dX5_eventOfClient_99 : decode cX5_eventOfClient 99 = .ok (.iconst 3, 1) := by decide +kernel
theorem dX5_eventOfClient_100 : decode cX5_eventOfClient 100 = .ok (.iload_n 2, 1) := by decide +kernel
theorem dX5_eventOfClient_101 : decode cX5_eventOfClient 101 = .ok (.invokestatic 215, 3) := by decide +kernel
theorem dX5_eventOfClient_104 : decode cX5_eventOfClient 104 = .ok (.ireturn, 1) := by decide +kernel
theorem dX5_eventOfClient_105 : decode cX5_eventOfClient 105 = .ok (.aload_n 0, 1) := by decide +kernel
theorem dX5_eventOfClient_106 : decode cX5_eventOfClient 106 = .ok (.getfield 21, 3) := by decide +kernel
theorem dX5_eventOfClient_109 : decode cX5_eventOfClient 109 = .ok (.getfield 84, 3) := by decide +kernel
theorem dX5_eventOfClient_112 : decode cX5_eventOfClient 112 = .ok (.iload_n 2, 1) := by decide +kernel
theorem dX5_eventOfClient_113 : decode cX5_eventOfClient 113 = .ok (.iaload, 1) := by decide +kernel
theorem dX5_eventOfClient_114 : decode cX5_eventOfClient 114 = .ok (.iconst 4, 1) := by decide +kernel
theorem dX5_eventOfClient_115 : decode cX5_eventOfClient 115 = .ok (.iload_n 2, 1) := by decide +kernel
theorem dX5_eventOfClient_116 : decode cX5_eventOfClient 116 = .ok (.invokestatic 215, 3) := by decide +kernel
theorem dX5_eventOfClient_119 : decode cX5_eventOfClient 119 = .ok (.ireturn, 1) := by decide +kernel
theorem dX5_eventOfClient_120 : decode cX5_eventOfClient 120 = .ok (.ldc 208, 2) := by decide +kernel
theorem dX5_eventOfClient_122 : decode cX5_eventOfClient 122 = .ok (.ireturn, 1) := by decide +kernel
theorem dX5_passTimeTo_0 : decode cX5_passTimeTo 0 = .ok (.iconst 0, 1) := by decide +kernel
theorem dX5_passTimeTo_1 : decode cX5_passTimeTo 1 = .ok (.istore_n 2, 1) := by decide +kernel
theorem dX5_passTimeTo_2 : decode cX5_passTimeTo 2 = .ok (.aload_n 0, 1) := by decide +kernel
theorem dX5_passTimeTo_3 : decode cX5_passTimeTo 3 = .ok (.getfield 21, 3) := by decide +kernel
theorem dX5_passTimeTo_6 : decode cX5_passTimeTo 6 = .ok (.invokevirtual 202, 3) := by decide +kernel
theorem dX5_passTimeTo_9 : decode cX5_passTimeTo 9 = .ok (.istore_n 3, 1) := by decide +kernel
theorem dX5_passTimeTo_10 : decode cX5_passTimeTo 10 = .ok (.iload_n 2, 1) := by decide +kernel
theorem dX5_passTimeTo_11 : decode cX5_passTimeTo 11 = .ok (.ldc 224, 2) := by decide +kernel
theorem dX5_passTimeTo_13 : decode cX5_passTimeTo 13 = .ok (.if_icmp .ge 61, 3) := by decide +kernel
theorem dX5_passTimeTo_16 : decode cX5_passTimeTo 16 = .ok (.iload_n 3, 1) := by decide +kernel
theorem dX5_passTimeTo_17 : decode cX5_passTimeTo 17 = .ok (.aload_n 0, 1) := by decide +kernel
theorem dX5_passTimeTo_18 : decode cX5_passTimeTo 18 = .ok (.invokevirtual 198, 3) := by decide +kernel
theorem dX5_passTimeTo_21 : decode cX5_passTimeTo 21 = .ok (.invokestatic 205, 3) := by decide +kernel
theorem dX5_passTimeTo_24 : decode cX5_passTimeTo 24 = .ok (.istore 4, 2) := by decide +kernel
theorem dX5_passTimeTo_26 : decode cX5_passTimeTo 26 = .ok (.iload 4, 2) := by decide +kernel
theorem dX5_passTimeTo_28 : decode cX5_passTimeTo 28 = .ok (.ldc 208, 2) := by decide +kernel
theorem dX5_passTimeTo_30 : decode cX5_passTimeTo 30 = .ok (.if_icmp .eq 44, 3) := by decide +kernel
theorem dX5_passTimeTo_33 : decode cX5_passTimeTo 33 = .ok (.iload 4, 2) := by decide +kernel
theorem dX5_passTimeTo_35 : decode cX5_passTimeTo 35 = .ok (.invokestatic 225, 3) := by decide +kernel
theorem dX5_passTimeTo_38 : decode cX5_passTimeTo 38 = .ok (.iload_n 1, 1) := by decide +kernel
theorem dX5_passTimeTo_39 : decode cX5_passTimeTo 39 = .ok (.if_icmp .le 6, 3) := by decide +kernel
theorem dX5_passTimeTo_42 : decode cX5_passTimeTo 42 = .ok (.goto 32, 3) := by decide +kernel
theorem dX5_passTimeTo_45 : decode cX5_passTimeTo 45 = .ok (.aload_n 0, 1) := by decide +kernel
theorem dX5_passTimeTo_46 : decode cX5_passTimeTo 46 = .ok (.iload 4, 2) := by decide +kernel
theorem dX5_passTimeTo_48 : decode cX5_passTimeTo 48 = .ok (.invokevirtual 228, 3) := by decide +kernel
theorem dX5_passTimeTo_51 : decode cX5_passTimeTo 51 = .ok (.iinc 2 1, 3) := by decide +kernel
theorem dX5_passTimeTo_54 : decode cX5_passTimeTo 54 = .ok (.iload 4, 2) := by decide +kernel
theorem dX5_passTimeTo_56 : decode cX5_passTimeTo 56 = .ok (.invokestatic 231, 3) := by decide +kernel
theorem dX5_passTimeTo_59 : decode cX5_passTimeTo 59 = .ok (.iconst 1, 1) := by decide +kernel
theorem dX5_passTimeTo_60 : decode cX5_passTimeTo 60 = .ok (.if_icmp .ne 11, 3) := by decide +kernel
theorem dX5_passTimeTo_63 : decode cX5_passTimeTo 63 = .ok (.aload_n 0, 1) := by decide +kernel
theorem dX5_passTimeTo_64 : decode cX5_passTimeTo 64 = .ok (.getfield 21, 3) := by decide +kernel
theorem dX5_passTimeTo_67 : decode cX5_passTimeTo 67 = .ok (.invokevirtual 202, 3) := by decide +kernel
theorem dX5_passTimeTo_70 : decode cX5_passTimeTo 70 = .ok (.istore_n 3, 1) := by decide +kernel
theorem dX5_passTimeTo_71 : decode cX5_passTimeTo 71 = .ok (.goto (-61), 3) := by decide +kernel
theorem dX5_passTimeTo_74 : decode cX5_passTimeTo 74 = .ok (.aload_n 0, 1) := by decide +kernel
theorem dX5_passTimeTo_75 : decode cX5_passTimeTo 75 = .ok (.getfield 35, 3) := by decide +kernel
theorem dX5_passTimeTo_78 : decode cX5_passTimeTo 78 = .ok (.iload_n 1, 1) := by decide +kernel
theorem dX5_passTimeTo_79 : decode cX5_passTimeTo 79 = .ok (.putfield 110, 3) := by decide +kernel
theorem dX5_passTimeTo_82 : decode cX5_passTimeTo 82 = .ok (.iload_n 2, 1) := by decide +kernel
theorem dX5_passTimeTo_83 : decode cX5_passTimeTo 83 = .ok (.ireturn, 1) := by decide +kernel
theorem dX5_carryOut_0 : decode cX5_carryOut 0 = .ok (.iload_n 1, 1) := by decide +kernel
theorem dX5_carryOut_1 : decode cX5_carryOut 1 = .ok (.invokestatic 234, 3) := by decide +kernel
theorem dX5_carryOut_4 : decode cX5_carryOut 4 = .ok (.istore_n 2, 1) := by decide +kernel
theorem dX5_carryOut_5 : decode cX5_carryOut 5 = .ok (.iload_n 2, 1) := by decide +kernel
theorem dX5_carryOut_6 : decode cX5_carryOut 6 = .ok (.invokestatic 81, 3) := by decide +kernel
theorem dX5_carryOut_9 : decode cX5_carryOut 9 = .ok (.ifCond .eq 15, 3) := by decide +kernel
theorem dX5_carryOut_12 : decode cX5_carryOut 12 = .ok (.aload_n 0, 1) := by decide +kernel
theorem dX5_carryOut_13 : decode cX5_carryOut 13 = .ok (.getfield 21, 3) := by decide +kernel
theorem dX5_carryOut_16 : decode cX5_carryOut 16 = .ok (.getfield 237, 3) := by decide +kernel
theorem dX5_carryOut_19 : decode cX5_carryOut 19 = .ok (.iload_n 2, 1) := by decide +kernel
theorem dX5_carryOut_20 : decode cX5_carryOut 20 = .ok (.iaload, 1) := by decide +kernel
theorem dX5_carryOut_21 : decode cX5_carryOut 21 = .ok (.goto 4, 3) := by decide +kernel
theorem dX5_carryOut_24 : decode cX5_carryOut 24 = .ok (.iconst (-1), 1) := by decide +kernel
theorem dX5_carryOut_25 : decode cX5_carryOut 25 = .ok (.istore_n 3, 1) := by decide +kernel
theorem dX5_carryOut_26 : decode cX5_carryOut 26 = .ok (.aload_n 0, 1) := by decide +kernel
theorem dX5_carryOut_27 : decode cX5_carryOut 27 = .ok (.getfield 35, 3) := by decide +kernel
theorem dX5_carryOut_30 : decode cX5_carryOut 30 = .ok (.iload_n 1, 1) := by decide +kernel
theorem dX5_carryOut_31 : decode cX5_carryOut 31 = .ok (.invokestatic 225, 3) := by decide +kernel
theorem dX5_carryOut_34 : decode cX5_carryOut 34 = .ok (.putfield 110, 3) := by decide +kernel
theorem dX5_carryOut_37 : decode cX5_carryOut 37 = .ok (.iload_n 1, 1) := by decide +kernel
theorem dX5_carryOut_38 : decode cX5_carryOut 38 = .ok (.invokestatic 231, 3) := by decide +kernel
theorem dX5_carryOut_41 : decode cX5_carryOut 41 = .ok (.tableswitch 116 0 4 #[35, 53, 71, 85, 99], 35) := by decide +kernel
theorem dX5_carryOut_76 : decode cX5_carryOut 76 = .ok (.aload_n 0, 1) := by decide +kernel
theorem dX5_carryOut_77 : decode cX5_carryOut 77 = .ok (.iload_n 3, 1) := by decide +kernel
theorem dX5_carryOut_78 : decode cX5_carryOut 78 = .ok (.invokevirtual 138, 3) := by decide +kernel
theorem dX5_carryOut_81 : decode cX5_carryOut 81 = .ok (.aload_n 0, 1) := by decide +kernel
theorem dX5_carryOut_82 : decode cX5_carryOut 82 = .ok (.getfield 39, 3) := by decide +kernel
theorem dX5_carryOut_85 : decode cX5_carryOut 85 = .ok (.bipush 9, 2) := by decide +kernel
theorem dX5_carryOut_87 : decode cX5_carryOut 87 = .ok (.iload_n 2, 1) := by decide +kernel
theorem dX5_carryOut_88 : decode cX5_carryOut 88 = .ok (.invokevirtual 165, 3) := by decide +kernel
theorem dX5_carryOut_91 : decode cX5_carryOut 91 = .ok (.goto 66, 3) := by decide +kernel
theorem dX5_carryOut_94 : decode cX5_carryOut 94 = .ok (.aload_n 0, 1) := by decide +kernel
theorem dX5_carryOut_95 : decode cX5_carryOut 95 = .ok (.getfield 21, 3) := by decide +kernel
theorem dX5_carryOut_98 : decode cX5_carryOut 98 = .ok (.iload_n 2, 1) := by decide +kernel
theorem dX5_carryOut_99 : decode cX5_carryOut 99 = .ok (.aload_n 0, 1) := by decide +kernel
theorem dX5_carryOut_100 : decode cX5_carryOut 100 = .ok (.getfield 35, 3) := by decide +kernel
theorem dX5_carryOut_103 : decode cX5_carryOut 103 = .ok (.getfield 110, 3) := by decide +kernel
theorem dX5_carryOut_106 : decode cX5_carryOut 106 = .ok (.invokevirtual 189, 3) := by decide +kernel
theorem dX5_carryOut_109 : decode cX5_carryOut 109 = .ok (.goto 48, 3) := by decide +kernel
theorem dX5_carryOut_112 : decode cX5_carryOut 112 = .ok (.aload_n 0, 1) := by decide +kernel
theorem dX5_carryOut_113 : decode cX5_carryOut 113 = .ok (.iload_n 3, 1) := by decide +kernel
theorem dX5_carryOut_114 : decode cX5_carryOut 114 = .ok (.aload_n 0, 1) := by decide +kernel
theorem dX5_carryOut_115 : decode cX5_carryOut 115 = .ok (.iload_n 3, 1) := by decide +kernel
theorem dX5_carryOut_116 : decode cX5_carryOut 116 = .ok (.invokevirtual 240, 3) := by decide +kernel
theorem dX5_carryOut_119 : decode cX5_carryOut 119 = .ok (.iconst 3, 1) := by decide +kernel
theorem dX5_carryOut_120 : decode cX5_carryOut 120 = .ok (.invokevirtual 243, 3) := by decide +kernel
theorem dX5_carryOut_123 : decode cX5_carryOut 123 = .ok (.goto 34, 3) := by decide +kernel
theorem dX5_carryOut_126 : decode cX5_carryOut 126 = .ok (.aload_n 0, 1) := by decide +kernel
theorem dX5_carryOut_127 : decode cX5_carryOut 127 = .ok (.iload_n 3, 1) := by decide +kernel
theorem dX5_carryOut_128 : decode cX5_carryOut 128 = .ok (.aload_n 0, 1) := by decide +kernel
theorem dX5_carryOut_129 : decode cX5_carryOut 129 = .ok (.iload_n 3, 1) := by decide +kernel
theorem dX5_carryOut_130 : decode cX5_carryOut 130 = .ok (.invokevirtual 247, 3) := by decide +kernel
theorem dX5_carryOut_133 : decode cX5_carryOut 133 = .ok (.iconst 4, 1) := by decide +kernel
theorem dX5_carryOut_134 : decode cX5_carryOut 134 = .ok (.invokevirtual 243, 3) := by decide +kernel
theorem dX5_carryOut_137 : decode cX5_carryOut 137 = .ok (.goto 20, 3) := by decide +kernel
theorem dX5_carryOut_140 : decode cX5_carryOut 140 = .ok (.aload_n 0, 1) := by decide +kernel
theorem dX5_carryOut_141 : decode cX5_carryOut 141 = .ok (.iload_n 3, 1) := by decide +kernel
theorem dX5_carryOut_142 : decode cX5_carryOut 142 = .ok (.invokevirtual 138, 3) := by decide +kernel
theorem dX5_carryOut_145 : decode cX5_carryOut 145 = .ok (.aload_n 0, 1) := by decide +kernel
theorem dX5_carryOut_146 : decode cX5_carryOut 146 = .ok (.getfield 39, 3) := by decide +kernel
theorem dX5_carryOut_149 : decode cX5_carryOut 149 = .ok (.iconst 5, 1) := by decide +kernel
theorem dX5_carryOut_150 : decode cX5_carryOut 150 = .ok (.iload_n 2, 1) := by decide +kernel
theorem dX5_carryOut_151 : decode cX5_carryOut 151 = .ok (.invokevirtual 165, 3) := by decide +kernel
theorem dX5_carryOut_154 : decode cX5_carryOut 154 = .ok (.goto 3, 3) := by decide +kernel
theorem dX5_carryOut_157 : decode cX5_carryOut 157 = .ok (.return_, 1) := by decide +kernel
theorem dX5_renewOrTurn_0 : decode cX5_renewOrTurn 0 = .ok (.iload_n 2, 1) := by decide +kernel
theorem dX5_renewOrTurn_1 : decode cX5_renewOrTurn 1 = .ok (.ifCond .eq 12, 3) := by decide +kernel
theorem dX5_renewOrTurn_4 : decode cX5_renewOrTurn 4 = .ok (.aload_n 0, 1) := by decide +kernel
theorem dX5_renewOrTurn_5 : decode cX5_renewOrTurn 5 = .ok (.iload_n 1, 1) := by decide +kernel
theorem dX5_renewOrTurn_6 : decode cX5_renewOrTurn 6 = .ok (.invokevirtual 250, 3) := by decide +kernel
theorem dX5_renewOrTurn_9 : decode cX5_renewOrTurn 9 = .ok (.pop, 1) := by decide +kernel
theorem dX5_renewOrTurn_10 : decode cX5_renewOrTurn 10 = .ok (.goto 20, 3) := by decide +kernel
theorem dX5_renewOrTurn_13 : decode cX5_renewOrTurn 13 = .ok (.iload_n 1, 1) := by decide +kernel
theorem dX5_renewOrTurn_14 : decode cX5_renewOrTurn 14 = .ok (.invokestatic 71, 3) := by decide +kernel
theorem dX5_renewOrTurn_17 : decode cX5_renewOrTurn 17 = .ok (.ifCond .eq 13, 3) := by decide +kernel
theorem dX5_renewOrTurn_20 : decode cX5_renewOrTurn 20 = .ok (.aload_n 0, 1) := by decide +kernel
theorem dX5_renewOrTurn_21 : decode cX5_renewOrTurn 21 = .ok (.getfield 28, 3) := by decide +kernel
theorem dX5_renewOrTurn_24 : decode cX5_renewOrTurn 24 = .ok (.getfield 209, 3) := by decide +kernel
theorem dX5_renewOrTurn_27 : decode cX5_renewOrTurn 27 = .ok (.iload_n 1, 1) := by decide +kernel
theorem dX5_renewOrTurn_28 : decode cX5_renewOrTurn 28 = .ok (.iload_n 3, 1) := by decide +kernel
theorem dX5_renewOrTurn_29 : decode cX5_renewOrTurn 29 = .ok (.iastore, 1) := by decide +kernel
theorem dX5_renewOrTurn_30 : decode cX5_renewOrTurn 30 = .ok (.return_, 1) := by decide +kernel
theorem dX6_init_0 : decode cX6_init 0 = .ok (.aload_n 0, 1) := by decide +kernel
theorem dX6_init_1 : decode cX6_init 1 = .ok (.invokespecial 1, 3) := by decide +kernel
theorem dX6_init_4 : decode cX6_init 4 = .ok (.aload_n 0, 1) := by decide +kernel
theorem dX6_init_5 : decode cX6_init 5 = .ok (.new 7, 3) := by decide +kernel
theorem dX6_init_8 : decode cX6_init 8 = .ok (.dup, 1) := by decide +kernel
theorem dX6_init_9 : decode cX6_init 9 = .ok (.invokespecial 9, 3) := by decide +kernel
theorem dX6_init_12 : decode cX6_init 12 = .ok (.putfield 10, 3) := by decide +kernel
theorem dX6_init_15 : decode cX6_init 15 = .ok (.aload_n 0, 1) := by decide +kernel
theorem dX6_init_16 : decode cX6_init 16 = .ok (.new 16, 3) := by decide +kernel
theorem dX6_init_19 : decode cX6_init 19 = .ok (.dup, 1) := by decide +kernel
theorem dX6_init_20 : decode cX6_init 20 = .ok (.aload_n 0, 1) := by decide +kernel
theorem dX6_init_21 : decode cX6_init 21 = .ok (.getfield 10, 3) := by decide +kernel
theorem dX6_init_24 : decode cX6_init 24 = .ok (.invokespecial 18, 3) := by decide +kernel
theorem dX6_init_27 : decode cX6_init 27 = .ok (.putfield 21, 3) := by decide +kernel
theorem dX6_init_30 : decode cX6_init 30 = .ok (.aload_n 0, 1) := by decide +kernel
theorem dX6_init_31 : decode cX6_init 31 = .ok (.new 16, 3) := by decide +kernel
theorem dX6_init_34 : decode cX6_init 34 = .ok (.dup, 1) := by decide +kernel
theorem dX6_init_35 : decode cX6_init 35 = .ok (.aload_n 0, 1) := by decide +kernel
theorem dX6_init_36 : decode cX6_init 36 = .ok (.getfield 10, 3) := by decide +kernel
theorem dX6_init_39 : decode cX6_init 39 = .ok (.invokespecial 18, 3) := by decide +kernel
theorem dX6_init_42 : decode cX6_init 42 = .ok (.putfield 25, 3) := by decide +kernel
theorem dX6_init_45 : decode cX6_init 45 = .ok (.return_, 1) := by decide +kernel
theorem dX6_addPool_0 : decode cX6_addPool 0 = .ok (.iload_n 1, 1) := by decide +kernel
theorem dX6_addPool_1 : decode cX6_addPool 1 = .ok (.invokestatic 28, 3) := by decide +kernel
theorem dX6_addPool_4 : decode cX6_addPool 4 = .ok (.iload_n 2, 1) := by decide +kernel
theorem dX6_addPool_5 : decode cX6_addPool 5 = .ok (.invokestatic 32, 3) := by decide +kernel
theorem dX6_addPool_8 : decode cX6_addPool 8 = .ok (.ifCond .eq 15, 3) := by decide +kernel
theorem dX6_addPool_11 : decode cX6_addPool 11 = .ok (.iload_n 3, 1) := by decide +kernel
theorem dX6_addPool_12 : decode cX6_addPool 12 = .ok (.invokestatic 32, 3) := by decide +kernel
theorem dX6_addPool_15 : decode cX6_addPool 15 = .ok (.ifCond .eq 8, 3) := by decide +kernel
theorem dX6_addPool_18 : decode cX6_addPool 18 = .ok (.iload_n 2, 1) := by decide +kernel
theorem dX6_addPool_19 : decode cX6_addPool 19 = .ok (.iload_n 3, 1) := by decide +kernel
theorem dX6_addPool_20 : decode cX6_addPool 20 = .ok (.if_icmp .le 13, 3) := by decide +kernel
theorem dX6_addPool_23 : decode cX6_addPool 23 = .ok (.new 36, 3) := by decide +kernel
theorem dX6_addPool_26 : decode cX6_addPool 26 = .ok (.dup, 1) := by decide +kernel
theorem dX6_addPool_27 : decode cX6_addPool 27 = .ok (.ldc 38, 2) := by decide +kernel
theorem dX6_addPool_29 : decode cX6_addPool 29 = .ok (.invokespecial 40, 3) := by decide +kernel
theorem dX6_addPool_32 : decode cX6_addPool 32 = .ok (.athrow, 1) := by decide +kernel
theorem dX6_addPool_33 : decode cX6_addPool 33 = .ok (.iload 4, 2) := by decide +kernel
theorem dX6_addPool_35 : decode cX6_addPool 35 = .ok (.bipush 8, 2) := by decide +kernel
theorem dX6_addPool_37 : decode cX6_addPool 37 = .ok (.if_icmp .lt 11, 3) := by decide +kernel
theorem dX6_addPool_40 : decode cX6_addPool 40 = .ok (.iload 4, 2) := by decide +kernel
theorem dX6_addPool_42 : decode cX6_addPool 42 = .ok (.sipush 800, 3) := by decide +kernel
theorem dX6_addPool_45 : decode cX6_addPool 45 = .ok (.if_icmp .le 13, 3) := by decide +kernel
theorem dX6_addPool_48 : decode cX6_addPool 48 = .ok (.new 36, 3) := by decide +kernel
theorem dX6_addPool_51 : decode cX6_addPool 51 = .ok (.dup, 1) := by decide +kernel
theorem dX6_addPool_52 : decode cX6_addPool 52 = .ok (.ldc 43, 2) := by decide +kernel
theorem dX6_addPool_54 : decode cX6_addPool 54 = .ok (.invokespecial 40, 3) := by decide +kernel
theorem dX6_addPool_57 : decode cX6_addPool 57 = .ok (.athrow, 1) := by decide +kernel
theorem dX6_addPool_58 : decode cX6_addPool 58 = .ok (.aload_n 0, 1) := by decide +kernel
theorem dX6_addPool_59 : decode cX6_addPool 59 = .ok (.getfield 21, 3) := by decide +kernel
theorem dX6_addPool_62 : decode cX6_addPool 62 = .ok (.getfield 45, 3) := by decide +kernel
theorem dX6_addPool_65 : decode cX6_addPool 65 = .ok (.getfield 49, 3) := by decide +kernel
theorem dX6_addPool_68 : decode cX6_addPool 68 = .ok (.iconst 5, 1) := by decide +kernel
theorem dX6_addPool_69 : decode cX6_addPool 69 = .ok (.if_icmp .lt 13, 3) := by decide +kernel
theorem dX6_addPool_72 : decode cX6_addPool 72 = .ok (.new 55, 3) := by decide +kernel
theorem dX6_addPool_75 : decode cX6_addPool 75 = .ok (.dup, 1) := by decide +kernel
theorem dX6_addPool_76 : decode cX6_addPool 76 = .ok (.ldc 57, 2) := by decide +kernel
theorem dX6_addPool_78 : decode cX6_addPool 78 = .ok (.invokespecial 59, 3) := by decide +kernel
theorem dX6_addPool_81 : decode cX6_addPool 81 = .ok (.athrow, 1) := by decide +kernel
theorem dX6_addPool_82 : decode cX6_addPool 82 = .ok (.aload_n 0, 1) := by decide +kernel
theorem dX6_addPool_83 : decode cX6_addPool 83 = .ok (.getfield 21, 3) := by decide +kernel
theorem dX6_addPool_86 : decode cX6_addPool 86 = .ok (.getfield 45, 3) := by decide +kernel
theorem dX6_addPool_89 : decode cX6_addPool 89 = .ok (.iload_n 2, 1) := by decide +kernel
theorem dX6_addPool_90 : decode cX6_addPool 90 = .ok (.iload_n 3, 1) := by decide +kernel
theorem dX6_addPool_91 : decode cX6_addPool 91 = .ok (.invokevirtual 60, 3) := by decide +kernel
theorem dX6_addPool_94 : decode cX6_addPool 94 = .ok (.ifCond .eq 13, 3) := by decide +kernel
theorem dX6_addPool_97 : decode cX6_addPool 97 = .ok (.new 55, 3) := by decide +kernel
theorem dX6_addPool_100 : decode cX6_addPool 100 = .ok (.dup, 1) := by decide +kernel
theorem dX6_addPool_101 : decode cX6_addPool 101 = .ok (.ldc 64, 2) := by decide +kernel
theorem dX6_addPool_103 : decode cX6_addPool 103 = .ok (.invokespecial 59, 3) := by decide +kernel
theorem dX6_addPool_106 : decode cX6_addPool 106 = .ok (.athrow, 1) := by decide +kernel
theorem dX6_addPool_107 : decode cX6_addPool 107 = .ok (.aload_n 0, 1) := by decide +kernel
theorem dX6_addPool_108 : decode cX6_addPool 108 = .ok (.getfield 21, 3) := by decide +kernel
theorem dX6_addPool_111 : decode cX6_addPool 111 = .ok (.getfield 66, 3) := by decide +kernel
theorem dX6_addPool_114 : decode cX6_addPool 114 = .ok (.iload_n 2, 1) := by decide +kernel
theorem dX6_addPool_115 : decode cX6_addPool 115 = .ok (.iload_n 3, 1) := by decide +kernel
theorem dX6_addPool_116 : decode cX6_addPool 116 = .ok (.invokevirtual 70, 3) := by decide +kernel
theorem dX6_addPool_119 : decode cX6_addPool 119 = .ok (.aload_n 0, 1) := by decide +kernel
theorem dX6_addPool_120 : decode cX6_addPool 120 = .ok (.getfield 21, 3) := by decide +kernel
theorem dX6_addPool_123 : decode cX6_addPool 123 = .ok (.getfield 45, 3) := by decide +kernel
theorem dX6_addPool_126 : decode cX6_addPool 126 = .ok (.iload_n 1, 1) := by decide +kernel
theorem dX6_addPool_127 : decode cX6_addPool 127 = .ok (.iload_n 2, 1) := by decide +kernel
theorem dX6_addPool_128 : decode cX6_addPool 128 = .ok (.iload_n 3, 1) := by decide +kernel
theorem dX6_addPool_129 : decode cX6_addPool 129 = .ok (.iload 4, 2) := by decide +kernel
theorem dX6_addPool_131 : decode cX6_addPool 131 = .ok (.invokevirtual 76, 3) := by decide +kernel
theorem dX6_addPool_134 : decode cX6_addPool 134 = .ok (.ireturn, 1) := by decide +kernel
theorem dX6_removePool_0 : decode cX6_removePool 0 = .ok (.aload_n 0, 1) := by decide +kernel
theorem dX6_removePool_1 : decode cX6_removePool 1 = .ok (.iload_n 1, 1) := by decide +kernel
theorem dX6_removePool_2 : decode cX6_removePool 2 = .ok (.invokevirtual 80, 3) := by decide +kernel
theorem dX6_removePool_5 : decode cX6_removePool 5 = .ok (.aload_n 0, 1) := by decide +kernel
theorem dX6_removePool_6 : decode cX6_removePool 6 = .ok (.getfield 21, 3) := by decide +kernel
theorem dX6_removePool_9 : decode cX6_removePool 9 = .ok (.getfield 45, 3) := by decide +kernel
theorem dX6_removePool_12 : decode cX6_removePool 12 = .ok (.getfield 83, 3) := by decide +kernel
theorem dX6_removePool_15 : decode cX6_removePool 15 = .ok (.iload_n 1, 1) := by decide +kernel
theorem dX6_removePool_16 : decode cX6_removePool 16 = .ok (.iaload, 1) := by decide +kernel
theorem dX6_removePool_17 : decode cX6_removePool 17 = .ok (.istore_n 2, 1) := by decide +kernel
theorem dX6_removePool_18 : decode cX6_removePool 18 = .ok (.aload_n 0, 1) := by decide +kernel
theorem dX6_removePool_19 : decode cX6_removePool 19 = .ok (.getfield 21, 3) := by decide +kernel
theorem dX6_removePool_22 : decode cX6_removePool 22 = .ok (.getfield 45, 3) := by decide +kernel
theorem dX6_removePool_25 : decode cX6_removePool 25 = .ok (.getfield 87, 3) := by decide +kernel
theorem dX6_removePool_28 : decode cX6_removePool 28 = .ok (.iload_n 1, 1) := by decide +kernel
theorem dX6_removePool_29 : decode cX6_removePool 29 = .ok (.iaload, 1) := by decide +kernel
theorem dX6_removePool_30 : decode cX6_removePool 30 = .ok (.istore_n 3, 1) := by decide +kernel
theorem dX6_removePool_31 : decode cX6_removePool 31 = .ok (.aload_n 0, 1) := by decide +kernel
theorem dX6_removePool_32 : decode cX6_removePool 32 = .ok (.getfield 21, 3) := by decide +kernel
theorem dX6_removePool_35 : decode cX6_removePool 35 = .ok (.getfield 66, 3) := by decide +kernel
theorem dX6_removePool_38 : decode cX6_removePool 38 = .ok (.iload_n 2, 1) := by decide +kernel
theorem dX6_removePool_39 : decode cX6_removePool 39 = .ok (.iload_n 3, 1) := by decide +kernel
theorem dX6_removePool_40 : decode cX6_removePool 40 = .ok (.iconst 0, 1) := by decide +kernel
theorem dX6_removePool_41 : decode cX6_removePool 41 = .ok (.invokevirtual 90, 3) := by decide +kernel
theorem dX6_removePool_44 : decode cX6_removePool 44 = .ok (.iload_n 3, 1) := by decide +kernel
theorem dX6_removePool_45 : decode cX6_removePool 45 = .ok (.iload_n 2, 1) := by decide +kernel
theorem dX6_removePool_46 : decode cX6_removePool 46 = .ok (.isub, 1) := by decide +kernel
theorem dX6_removePool_47 : decode cX6_removePool 47 = .ok (.iconst 1, 1) := by decide +kernel
theorem dX6_removePool_48 : decode cX6_removePool 48 = .ok (.iadd, 1) := by decide +kernel
theorem dX6_removePool_49 : decode cX6_removePool 49 = .ok (.if_icmp .eq 13, 3) := by decide +kernel
theorem dX6_removePool_52 : decode cX6_removePool 52 = .ok (.new 55, 3) := by decide +kernel
theorem dX6_removePool_55 : decode cX6_removePool 55 = .ok (.dup, 1) := by decide +kernel
theorem dX6_removePool_56 : decode cX6_removePool 56 = .ok (.ldc 94, 2) := by decide +kernel
theorem dX6_removePool_58 : decode cX6_removePool 58 = .ok (.invokespecial 59, 3) := by decide +kernel
theorem dX6_removePool_61 : decode cX6_removePool 61 = .ok (.athrow, 1) := by decide +kernel
theorem dX6_removePool_62 : decode cX6_removePool 62 = .ok (.aload_n 0, 1) := by decide +kernel
theorem dX6_removePool_63 : decode cX6_removePool 63 = .ok (.getfield 21, 3) := by decide +kernel
theorem dX6_removePool_66 : decode cX6_removePool 66 = .ok (.getfield 45, 3) := by decide +kernel
theorem dX6_removePool_69 : decode cX6_removePool 69 = .ok (.iload_n 1, 1) := by decide +kernel
theorem dX6_removePool_70 : decode cX6_removePool 70 = .ok (.invokevirtual 96, 3) := by decide +kernel
theorem dX6_removePool_73 : decode cX6_removePool 73 = .ok (.ireturn, 1) := by decide +kernel
theorem dX6_poolCount_0 : decode cX6_poolCount 0 = .ok (.aload_n 0, 1) := by decide +kernel
theorem dX6_poolCount_1 : decode cX6_poolCount 1 = .ok (.getfield 21, 3) := by decide +kernel
theorem dX6_poolCount_4 : decode cX6_poolCount 4 = .ok (.getfield 45, 3) := by decide +kernel
theorem dX6_poolCount_7 : decode cX6_poolCount 7 = .ok (.getfield 49, 3) := by decide +kernel
theorem dX6_poolCount_10 : decode cX6_poolCount 10 = .ok (.ireturn, 1) := by decide +kernel
theorem dX6_pool_0 : decode cX6_pool 0 = .ok (.aload_n 0, 1) := by decide +kernel
theorem dX6_pool_1 : decode cX6_pool 1 = .ok (.iload_n 1, 1) := by decide +kernel
theorem dX6_pool_2 : decode cX6_pool 2 = .ok (.invokevirtual 80, 3) := by decide +kernel
theorem dX6_pool_5 : decode cX6_pool 5 = .ok (.aload_n 0, 1) := by decide +kernel
theorem dX6_pool_6 : decode cX6_pool 6 = .ok (.getfield 21, 3) := by decide +kernel
theorem dX6_pool_9 : decode cX6_pool 9 = .ok (.getfield 45, 3) := by decide +kernel
theorem dX6_pool_12 : decode cX6_pool 12 = .ok (.astore_n 3, 1) := by decide +kernel
theorem dX6_pool_13 : decode cX6_pool 13 = .ok (.iload_n 2, 1) := by decide +kernel
theorem dX6_pool_14 : decode cX6_pool 14 = .ok (.tableswitch 85 0 4 #[34, 41, 48, 55, 62], 34) := by decide +kernel
theorem dX6_pool_48 : decode cX6_pool 48 = .ok (.aload_n 3, 1) := by decide +kernel
theorem dX6_pool_49 : decode cX6_pool 49 = .ok (.getfield 100, 3) := by decide +kernel
theorem dX6_pool_52 : decode cX6_pool 52 = .ok (.iload_n 1, 1) := by decide +kernel
theorem dX6_pool_53 : decode cX6_pool 53 = .ok (.iaload, 1) := by decide +kernel
theorem dX6_pool_54 : decode cX6_pool 54 = .ok (.ireturn, 1) := by decide +kernel
theorem dX6_pool_55 : decode cX6_pool 55 = .ok (.aload_n 3, 1) := by decide +kernel
theorem dX6_pool_56 : decode cX6_pool 56 = .ok (.getfield 83, 3) := by decide +kernel
theorem dX6_pool_59 : decode cX6_pool 59 = .ok (.iload_n 1, 1) := by decide +kernel
theorem dX6_pool_60 : decode cX6_pool 60 = .ok (.iaload, 1) := by decide +kernel
theorem dX6_pool_61 : decode cX6_pool 61 = .ok (.ireturn, 1) := by decide +kernel
theorem dX6_pool_62 : decode cX6_pool 62 = .ok (.aload_n 3, 1) := by decide +kernel
theorem dX6_pool_63 : decode cX6_pool 63 = .ok (.getfield 87, 3) := by decide +kernel
theorem dX6_pool_66 : decode cX6_pool 66 = .ok (.iload_n 1, 1) := by decide +kernel
theorem dX6_pool_67 : decode cX6_pool 67 = .ok (.iaload, 1) := by decide +kernel
theorem dX6_pool_68 : decode cX6_pool 68 = .ok (.ireturn, 1) := by decide +kernel
theorem dX6_pool_69 : decode cX6_pool 69 = .ok (.aload_n 3, 1) := by decide +kernel
theorem dX6_pool_70 : decode cX6_pool 70 = .ok (.getfield 103, 3) := by decide +kernel
theorem dX6_pool_73 : decode cX6_pool 73 = .ok (.iload_n 1, 1) := by decide +kernel
theorem dX6_pool_74 : decode cX6_pool 74 = .ok (.iaload, 1) := by decide +kernel
theorem dX6_pool_75 : decode cX6_pool 75 = .ok (.ireturn, 1) := by decide +kernel
theorem dX6_pool_76 : decode cX6_pool 76 = .ok (.aload_n 0, 1) := by decide +kernel
theorem dX6_pool_77 : decode cX6_pool 77 = .ok (.getfield 21, 3) := by decide +kernel
theorem dX6_pool_80 : decode cX6_pool 80 = .ok (.getfield 66, 3) := by decide +kernel
theorem dX6_pool_83 : decode cX6_pool 83 = .ok (.aload_n 3, 1) := by decide +kernel
theorem dX6_pool_84 : decode cX6_pool 84 = .ok (.getfield 83, 3) := by decide +kernel
theorem dX6_pool_87 : decode cX6_pool 87 = .ok (.iload_n 1, 1) := by decide +kernel
theorem dX6_pool_88 : decode cX6_pool 88 = .ok (.iaload, 1) := by decide +kernel
theorem dX6_pool_89 : decode cX6_pool 89 = .ok (.aload_n 3, 1) := by decide +kernel
theorem dX6_pool_90 : decode cX6_pool 90 = .ok (.getfield 87, 3) := by decide +kernel
theorem dX6_pool_93 : decode cX6_pool 93 = .ok (.iload_n 1, 1) := by decide +kernel
theorem dX6_pool_94 : decode cX6_pool 94 = .ok (.iaload, 1) := by decide +kernel
theorem dX6_pool_95 : decode cX6_pool 95 = .ok (.invokevirtual 106, 3) := by decide +kernel
theorem dX6_pool_98 : decode cX6_pool 98 = .ok (.ireturn, 1) := by decide +kernel
theorem dX6_pool_99 : decode cX6_pool 99 = .ok (.new 36, 3) := by decide +kernel
theorem dX6_pool_102 : decode cX6_pool 102 = .ok (.dup, 1) := by decide +kernel
theorem dX6_pool_103 : decode cX6_pool 103 = .ok (.ldc 110, 2) := by decide +kernel
theorem dX6_pool_105 : decode cX6_pool 105 = .ok (.invokespecial 40, 3) := by decide +kernel
theorem dX6_pool_108 : decode cX6_pool 108 = .ok (.athrow, 1) := by decide +kernel
theorem dX6_poolOf_0 : decode cX6_poolOf 0 = .ok (.iload_n 1, 1) := by decide +kernel
theorem dX6_poolOf_1 : decode cX6_poolOf 1 = .ok (.invokestatic 112, 3) := by decide +kernel
theorem dX6_poolOf_4 : decode cX6_poolOf 4 = .ok (.aload_n 0, 1) := by decide +kernel
theorem dX6_poolOf_5 : decode cX6_poolOf 5 = .ok (.iload_n 1, 1) := by decide +kernel
theorem dX6_poolOf_6 : decode cX6_poolOf 6 = .ok (.invokevirtual 115, 3) := by decide +kernel
theorem dX6_poolOf_9 : decode cX6_poolOf 9 = .ok (.aload_n 0, 1) := by decide +kernel
theorem dX6_poolOf_10 : decode cX6_poolOf 10 = .ok (.getfield 21, 3) := by decide +kernel
theorem dX6_poolOf_13 : decode cX6_poolOf 13 = .ok (.getfield 45, 3) := by decide +kernel
theorem dX6_poolOf_16 : decode cX6_poolOf 16 = .ok (.iload_n 1, 1) := by decide +kernel
theorem dX6_poolOf_17 : decode cX6_poolOf 17 = .ok (.invokevirtual 118, 3) := by decide +kernel
theorem dX6_poolOf_20 : decode cX6_poolOf 20 = .ok (.ireturn, 1) := by decide +kernel
theorem dX6_exclude_0 : decode cX6_exclude 0 = .ok (.iload_n 1, 1) := by decide +kernel
theorem dX6_exclude_1 : decode cX6_exclude 1 = .ok (.invokestatic 112, 3) := by decide +kernel
theorem dX6_exclude_4 : decode cX6_exclude 4 = .ok (.aload_n 0, 1) := by decide +kernel
theorem dX6_exclude_5 : decode cX6_exclude 5 = .ok (.getfield 21, 3) := by decide +kernel
theorem dX6_exclude_8 : decode cX6_exclude 8 = .ok (.getfield 66, 3) := by decide +kernel
theorem dX6_exclude_11 : decode cX6_exclude 11 = .ok (.getfield 121, 3) := by decide +kernel
theorem dX6_exclude_14 : decode cX6_exclude 14 = .ok (.iload_n 1, 1) := by decide +kernel
theorem dX6_exclude_15 : decode cX6_exclude 15 = .ok (.baload, 1) := by decide +kernel
theorem dX6_exclude_16 : decode cX6_exclude 16 = .ok (.istore_n 3, 1) := by decide +kernel
theorem dX6_exclude_17 : decode cX6_exclude 17 = .ok (.aload_n 0, 1) := by decide +kernel
theorem dX6_exclude_18 : decode cX6_exclude 18 = .ok (.getfield 21, 3) := by decide +kernel
theorem dX6_exclude_21 : decode cX6_exclude 21 = .ok (.getfield 66, 3) := by decide +kernel
theorem dX6_exclude_24 : decode cX6_exclude 24 = .ok (.getfield 121, 3) := by decide +kernel
theorem dX6_exclude_27 : decode cX6_exclude 27 = .ok (.iload_n 1, 1) := by decide +kernel
theorem dX6_exclude_28 : decode cX6_exclude 28 = .ok (.iload_n 2, 1) := by decide +kernel
theorem dX6_exclude_29 : decode cX6_exclude 29 = .ok (.bastore, 1) := by decide +kernel
theorem dX6_exclude_30 : decode cX6_exclude 30 = .ok (.iload_n 3, 1) := by decide +kernel
theorem dX6_exclude_31 : decode cX6_exclude 31 = .ok (.ireturn, 1) := by decide +kernel
theorem dX6_setStranger_0 : decode cX6_setStranger 0 = .ok (.iload_n 1, 1) := by decide +kernel
theorem dX6_setStranger_1 : decode cX6_setStranger 1 = .ok (.invokestatic 112, 3) := by decide +kernel
theorem dX6_setStranger_4 : decode cX6_setStranger 4 = .ok (.aload_n 0, 1) := by decide +kernel
theorem dX6_setStranger_5 : decode cX6_setStranger 5 = .ok (.getfield 21, 3) := by decide +kernel
theorem dX6_setStranger_8 : decode cX6_setStranger 8 = .ok (.getfield 66, 3) := by decide +kernel
theorem dX6_setStranger_11 : decode cX6_setStranger 11 = .ok (.getfield 125, 3) := by decide +kernel
theorem dX6_setStranger_14 : decode cX6_setStranger 14 = .ok (.iload_n 1, 1) := by decide +kernel
theorem dX6_setStranger_15 : decode cX6_setStranger 15 = .ok (.baload, 1) := by decide +kernel
theorem dX6_setStranger_16 : decode cX6_setStranger 16 = .ok (.istore_n 3, 1) := by decide +kernel
theorem dX6_setStranger_17 : decode cX6_setStranger 17 = .ok (.aload_n 0, 1) := by decide +kernel
theorem dX6_setStranger_18 : decode cX6_setStranger 18 = .ok (.getfield 21, 3) := by decide +kernel
theorem dX6_setStranger_21 : decode cX6_setStranger 21 = .ok (.getfield 66, 3) := by decide +kernel
theorem dX6_setStranger_24 : decode cX6_setStranger 24 = .ok (.getfield 125, 3) := by decide +kernel
theorem dX6_setStranger_27 : decode cX6_setStranger 27 = .ok (.iload_n 1, 1) := by decide +kernel
theorem dX6_setStranger_28 : decode cX6_setStranger 28 = .ok (.iload_n 2, 1) := by decide +kernel
theorem dX6_setStranger_29 : decode cX6_setStranger 29 = .ok (.bastore, 1) := by decide +kernel
theorem dX6_setStranger_30 : decode cX6_setStranger 30 = .ok (.iload_n 3, 1) := by decide +kernel
theorem dX6_setStranger_31 : decode cX6_setStranger 31 = .ok (.ireturn, 1) := by decide +kernel
theorem dX6_setHold_0 : decode cX6_setHold 0 = .ok (.iload_n 1, 1) := by decide +kernel
theorem dX6_setHold_1 : decode cX6_setHold 1 = .ok (.iconst 1, 1) := by decide +kernel
theorem dX6_setHold_2 : decode cX6_setHold 2 = .ok (.if_icmp .lt 9, 3) := by decide +kernel
theorem dX6_setHold_5 : decode cX6_setHold 5 = .ok (.iload_n 1, 1) := by decide +kernel
theorem dX6_setHold_6 : decode cX6_setHold 6 = .ok (.bipush 50, 2) := by decide +kernel
theorem dX6_setHold_8 : decode cX6_setHold 8 = .ok (.if_icmp .le 13, 3) := by decide +kernel
theorem dX6_setHold_11 : decode cX6_setHold 11 = .ok (.new 36, 3) := by decide +kernel
theorem dX6_setHold_14 : decode cX6_setHold 14 = .ok (.dup, 1) := by decide +kernel
theorem dX6_setHold_15 : decode cX6_setHold 15 = .ok (.ldc 128, 2) := by decide +kernel
theorem dX6_setHold_17 : decode cX6_setHold 17 = .ok (.invokespecial 40, 3) := by decide +kernel
theorem dX6_setHold_20 : decode cX6_setHold 20 = .ok (.athrow, 1) := by decide +kernel
theorem dX6_setHold_21 : decode cX6_setHold 21 = .ok (.aload_n 0, 1) := by decide +kernel
theorem dX6_setHold_22 : decode cX6_setHold 22 = .ok (.getfield 21, 3) := by decide +kernel
theorem dX6_setHold_25 : decode cX6_setHold 25 = .ok (.getfield 130, 3) := by decide +kernel
theorem dX6_setHold_28 : decode cX6_setHold 28 = .ok (.getfield 134, 3) := by decide +kernel
theorem dX6_setHold_31 : decode cX6_setHold 31 = .ok (.istore_n 2, 1) := by decide +kernel
theorem dX6_setHold_32 : decode cX6_setHold 32 = .ok (.aload_n 0, 1) := by decide +kernel
theorem dX6_setHold_33 : decode cX6_setHold 33 = .ok (.getfield 21, 3) := by decide +kernel
theorem dX6_setHold_36 : decode cX6_setHold 36 = .ok (.getfield 130, 3) := by decide +kernel
theorem dX6_setHold_39 : decode cX6_setHold 39 = .ok (.iload_n 1, 1) := by decide +kernel
theorem dX6_setHold_40 : decode cX6_setHold 40 = .ok (.putfield 134, 3) := by decide +kernel
theorem dX6_setHold_43 : decode cX6_setHold 43 = .ok (.iload_n 2, 1) := by decide +kernel
theorem dX6_setHold_44 : decode cX6_setHold 44 = .ok (.ireturn, 1) := by decide +kernel
theorem dX6_setQuarantine_0 : decode cX6_setQuarantine 0 = .ok (.iload_n 1, 1) := by decide +kernel
theorem dX6_setQuarantine_1 : decode cX6_setQuarantine 1 = .ok (.iconst 1, 1) := by decide +kernel
theorem dX6_setQuarantine_2 : decode cX6_setQuarantine 2 = .ok (.if_icmp .lt 10, 3) := by decide +kernel
theorem dX6_setQuarantine_5 : decode cX6_setQuarantine 5 = .ok (.iload_n 1, 1) := by decide +kernel
theorem dX6_setQuarantine_6 : decode cX6_setQuarantine 6 = .ok (.sipush 500, 3) := by decide +kernel
theorem dX6_setQuarantine_9 : decode cX6_setQuarantine 9 = .ok (.if_icmp .le 13, 3) := by decide +kernel
theorem dX6_setQuarantine_12 : decode cX6_setQuarantine 12 = .ok (.new 36, 3) := by decide +kernel
theorem dX6_setQuarantine_15 : decode cX6_setQuarantine 15 = .ok (.dup, 1) := by decide +kernel
theorem dX6_setQuarantine_16 : decode cX6_setQuarantine 16 = .ok (.ldc 139, 2) := by decide +kernel
theorem dX6_setQuarantine_18 : decode cX6_setQuarantine 18 = .ok (.invokespecial 40, 3) := by decide +kernel
theorem dX6_setQuarantine_21 : decode cX6_setQuarantine 21 = .ok (.athrow, 1) := by decide +kernel
theorem dX6_setQuarantine_22 : decode cX6_setQuarantine 22 = .ok (.aload_n 0, 1) := by decide +kernel
theorem dX6_setQuarantine_23 : decode cX6_setQuarantine 23 = .ok (.getfield 21, 3) := by decide +kernel
theorem dX6_setQuarantine_26 : decode cX6_setQuarantine 26 = .ok (.getfield 130, 3) := by decide +kernel
theorem dX6_setQuarantine_29 : decode cX6_setQuarantine 29 = .ok (.getfield 141, 3) := by decide +kernel
theorem dX6_setQuarantine_32 : decode cX6_setQuarantine 32 = .ok (.istore_n 2, 1) := by decide +kernel
theorem dX6_setQuarantine_33 : decode cX6_setQuarantine 33 = .ok (.aload_n 0, 1) := by decide +kernel
theorem dX6_setQuarantine_34 : decode cX6_setQuarantine 34 = .ok (.getfield 21, 3) := by decide +kernel
theorem dX6_setQuarantine_37 : decode cX6_setQuarantine 37 = .ok (.getfield 130, 3) := by decide +kernel
theorem dX6_setQuarantine_40 : decode cX6_setQuarantine 40 = .ok (.iload_n 1, 1) := by decide +kernel
theorem dX6_setQuarantine_41 : decode cX6_setQuarantine 41 = .ok (.putfield 141, 3) := by decide +kernel
theorem dX6_setQuarantine_44 : decode cX6_setQuarantine 44 = .ok (.iload_n 2, 1) := by decide +kernel
theorem dX6_setQuarantine_45 : decode cX6_setQuarantine 45 = .ok (.ireturn, 1) := by decide +kernel
theorem dX6_setDirect_0 : decode cX6_setDirect 0 = .ok (.iload_n 1, 1) := by decide +kernel
theorem dX6_setDirect_1 : decode cX6_setDirect 1 = .ok (.invokestatic 28, 3) := by decide +kernel
theorem dX6_setDirect_4 : decode cX6_setDirect 4 = .ok (.aload_n 0, 1) := by decide +kernel
theorem dX6_setDirect_5 : decode cX6_setDirect 5 = .ok (.getfield 21, 3) := by decide +kernel
theorem dX6_setDirect_8 : decode cX6_setDirect 8 = .ok (.getfield 130, 3) := by decide +kernel
theorem dX6_setDirect_11 : decode cX6_setDirect 11 = .ok (.getfield 144, 3) := by decide +kernel
theorem dX6_setDirect_14 : decode cX6_setDirect 14 = .ok (.iload_n 1, 1) := by decide +kernel
theorem dX6_setDirect_15 : decode cX6_setDirect 15 = .ok (.baload, 1) := by decide +kernel
theorem dX6_setDirect_16 : decode cX6_setDirect 16 = .ok (.istore_n 3, 1) := by decide +kernel
theorem dX6_setDirect_17 : decode cX6_setDirect 17 = .ok (.aload_n 0, 1) := by decide +kernel
theorem dX6_setDirect_18 : decode cX6_setDirect 18 = .ok (.getfield 21, 3) := by decide +kernel
theorem dX6_setDirect_21 : decode cX6_setDirect 21 = .ok (.getfield 130, 3) := by decide +kernel
theorem dX6_setDirect_24 : decode cX6_setDirect 24 = .ok (.getfield 144, 3) := by decide +kernel
theorem dX6_setDirect_27 : decode cX6_setDirect 27 = .ok (.iload_n 1, 1) := by decide +kernel
theorem dX6_setDirect_28 : decode cX6_setDirect 28 = .ok (.iload_n 2, 1) := by decide +kernel
theorem dX6_setDirect_29 : decode cX6_setDirect 29 = .ok (.bastore, 1) := by decide +kernel
theorem dX6_setDirect_30 : decode cX6_setDirect 30 = .ok (.iload_n 3, 1) := by decide +kernel
theorem dX6_setDirect_31 : decode cX6_setDirect 31 = .ok (.ireturn, 1) := by decide +kernel
theorem dX6_setRelay_0 : decode cX6_setRelay 0 = .ok (.iload_n 1, 1) := by decide +kernel
theorem dX6_setRelay_1 : decode cX6_setRelay 1 = .ok (.invokestatic 28, 3) := by decide +kernel
theorem dX6_setRelay_4 : decode cX6_setRelay 4 = .ok (.aload_n 0, 1) := by decide +kernel
theorem dX6_setRelay_5 : decode cX6_setRelay 5 = .ok (.getfield 21, 3) := by decide +kernel
theorem dX6_setRelay_8 : decode cX6_setRelay 8 = .ok (.getfield 130, 3) := by decide +kernel
theorem dX6_setRelay_11 : decode cX6_setRelay 11 = .ok (.getfield 147, 3) := by decide +kernel
theorem dX6_setRelay_14 : decode cX6_setRelay 14 = .ok (.iload_n 1, 1) := by decide +kernel
theorem dX6_setRelay_15 : decode cX6_setRelay 15 = .ok (.baload, 1) := by decide +kernel
theorem dX6_setRelay_16 : decode cX6_setRelay 16 = .ok (.istore_n 3, 1) := by decide +kernel
theorem dX6_setRelay_17 : decode cX6_setRelay 17 = .ok (.aload_n 0, 1) := by decide +kernel
theorem dX6_setRelay_18 : decode cX6_setRelay 18 = .ok (.getfield 21, 3) := by decide +kernel
theorem dX6_setRelay_21 : decode cX6_setRelay 21 = .ok (.getfield 130, 3) := by decide +kernel
theorem dX6_setRelay_24 : decode cX6_setRelay 24 = .ok (.getfield 147, 3) := by decide +kernel
theorem dX6_setRelay_27 : decode cX6_setRelay 27 = .ok (.iload_n 1, 1) := by decide +kernel
theorem dX6_setRelay_28 : decode cX6_setRelay 28 = .ok (.iload_n 2, 1) := by decide +kernel
theorem dX6_setRelay_29 : decode cX6_setRelay 29 = .ok (.bastore, 1) := by decide +kernel
theorem dX6_setRelay_30 : decode cX6_setRelay 30 = .ok (.iload_n 3, 1) := by decide +kernel
theorem dX6_setRelay_31 : decode cX6_setRelay 31 = .ok (.ireturn, 1) := by decide +kernel
theorem dX6_discover_0 : decode cX6_discover 0 = .ok (.iload_n 1, 1) := by decide +kernel
theorem dX6_discover_1 : decode cX6_discover 1 = .ok (.invokestatic 150, 3) := by decide +kernel
theorem dX6_discover_4 : decode cX6_discover 4 = .ok (.iload_n 2, 1) := by decide +kernel
theorem dX6_discover_5 : decode cX6_discover 5 = .ok (.invokestatic 28, 3) := by decide +kernel
theorem dX6_discover_8 : decode cX6_discover 8 = .ok (.aload_n 0, 1) := by decide +kernel
theorem dX6_discover_9 : decode cX6_discover 9 = .ok (.getfield 21, 3) := by decide +kernel
theorem dX6_discover_12 : decode cX6_discover 12 = .ok (.getfield 153, 3) := by decide +kernel
theorem dX6_discover_15 : decode cX6_discover 15 = .ok (.iload_n 1, 1) := by decide +kernel
theorem dX6_discover_16 : decode cX6_discover 16 = .ok (.invokevirtual 157, 3) := by decide +kernel
theorem dX6_discover_19 : decode cX6_discover 19 = .ok (.ifCond .eq 13, 3) := by decide +kernel
theorem dX6_discover_22 : decode cX6_discover 22 = .ok (.new 55, 3) := by decide +kernel
theorem dX6_discover_25 : decode cX6_discover 25 = .ok (.dup, 1) := by decide +kernel
theorem dX6_discover_26 : decode cX6_discover 26 = .ok (.ldc 162, 2) := by decide +kernel
theorem dX6_discover_28 : decode cX6_discover 28 = .ok (.invokespecial 59, 3) := by decide +kernel
theorem dX6_discover_31 : decode cX6_discover 31 = .ok (.athrow, 1) := by decide +kernel
theorem dX6_discover_32 : decode cX6_discover 32 = .ok (.aload_n 0, 1) := by decide +kernel
theorem dX6_discover_33 : decode cX6_discover 33 = .ok (.getfield 21, 3) := by decide +kernel
theorem dX6_discover_36 : decode cX6_discover 36 = .ok (.getfield 130, 3) := by decide +kernel
theorem dX6_discover_39 : decode cX6_discover 39 = .ok (.getfield 147, 3) := by decide +kernel
theorem dX6_discover_42 : decode cX6_discover 42 = .ok (.iload_n 2, 1) := by decide +kernel
theorem dX6_discover_43 : decode cX6_discover 43 = .ok (.baload, 1) := by decide +kernel
theorem dX6_discover_44 : decode cX6_discover 44 = .ok (.ifCond .ne 13, 3) := by decide +kernel
theorem dX6_discover_47 : decode cX6_discover 47 = .ok (.new 55, 3) := by decide +kernel
theorem dX6_discover_50 : decode cX6_discover 50 = .ok (.dup, 1) := by decide +kernel
theorem dX6_discover_51 : decode cX6_discover 51 = .ok (.ldc 164, 2) := by decide +kernel
theorem dX6_discover_53 : decode cX6_discover 53 = .ok (.invokespecial 59, 3) := by decide +kernel
theorem dX6_discover_56 : decode cX6_discover 56 = .ok (.athrow, 1) := by decide +kernel
theorem dX6_discover_57 : decode cX6_discover 57 = .ok (.aload_n 0, 1) := by decide +kernel
theorem dX6_discover_58 : decode cX6_discover 58 = .ok (.getfield 21, 3) := by decide +kernel
theorem dX6_discover_61 : decode cX6_discover 61 = .ok (.iload_n 1, 1) := by decide +kernel
theorem dX6_discover_62 : decode cX6_discover 62 = .ok (.iload_n 2, 1) := by decide +kernel
theorem dX6_discover_63 : decode cX6_discover 63 = .ok (.iload_n 3, 1) := by decide +kernel
theorem dX6_discover_64 : decode cX6_discover 64 = .ok (.invokevirtual 166, 3) := by decide +kernel
theorem dX6_discover_67 : decode cX6_discover 67 = .ok (.istore 4, 2) := by decide +kernel
theorem dX6_discover_69 : decode cX6_discover 69 = .ok (.iload 4, 2) := by decide +kernel
theorem dX6_discover_71 : decode cX6_discover 71 = .ok (.iconst (-1), 1) := by decide +kernel
theorem dX6_discover_72 : decode cX6_discover 72 = .ok (.if_icmp .ne 13, 3) := by decide +kernel
theorem dX6_discover_75 : decode cX6_discover 75 = .ok (.new 169, 3) := by decide +kernel
theorem dX6_discover_78 : decode cX6_discover 78 = .ok (.dup, 1) := by decide +kernel
theorem dX6_discover_79 : decode cX6_discover 79 = .ok (.ldc 171, 2) := by decide +kernel
theorem dX6_discover_81 : decode cX6_discover 81 = .ok (.invokespecial 173, 3) := by decide +kernel
theorem dX6_discover_84 : decode cX6_discover 84 = .ok (.athrow, 1) := by decide +kernel
theorem dX6_discover_85 : decode cX6_discover 85 = .ok (.iload 4, 2) := by decide +kernel
theorem dX6_discover_87 : decode cX6_discover 87 = .ok (.ireturn, 1) := by decide +kernel
theorem dX6_accept_0 : decode cX6_accept 0 = .ok (.iload_n 1, 1) := by decide +kernel
theorem dX6_accept_1 : decode cX6_accept 1 = .ok (.invokestatic 150, 3) := by decide +kernel
theorem dX6_accept_4 : decode cX6_accept 4 = .ok (.aload_n 0, 1) := by decide +kernel
theorem dX6_accept_5 : decode cX6_accept 5 = .ok (.getfield 21, 3) := by decide +kernel
theorem dX6_accept_8 : decode cX6_accept 8 = .ok (.getfield 153, 3) := by decide +kernel
theorem dX6_accept_11 : decode cX6_accept 11 = .ok (.getfield 174, 3) := by decide +kernel
theorem dX6_accept_14 : decode cX6_accept 14 = .ok (.iload_n 1, 1) := by decide +kernel
theorem dX6_accept_15 : decode cX6_accept 15 = .ok (.iaload, 1) := by decide +kernel
theorem dX6_accept_16 : decode cX6_accept 16 = .ok (.iconst 1, 1) := by decide +kernel
theorem dX6_accept_17 : decode cX6_accept 17 = .ok (.if_icmp .eq 13, 3) := by decide +kernel
theorem dX6_accept_20 : decode cX6_accept 20 = .ok (.new 169, 3) := by decide +kernel
theorem dX6_accept_23 : decode cX6_accept 23 = .ok (.dup, 1) := by decide +kernel
theorem dX6_accept_24 : decode cX6_accept 24 = .ok (.ldc 176, 2) := by decide +kernel
theorem dX6_accept_26 : decode cX6_accept 26 = .ok (.invokespecial 173, 3) := by decide +kernel
theorem dX6_accept_29 : decode cX6_accept 29 = .ok (.athrow, 1) := by decide +kernel
theorem dX6_accept_30 : decode cX6_accept 30 = .ok (.aload_n 0, 1) := by decide +kernel
theorem dX6_accept_31 : decode cX6_accept 31 = .ok (.getfield 21, 3) := by decide +kernel
theorem dX6_accept_34 : decode cX6_accept 34 = .ok (.iload_n 1, 1) := by decide +kernel
theorem dX6_accept_35 : decode cX6_accept 35 = .ok (.invokevirtual 178, 3) := by decide +kernel
theorem dX6_accept_38 : decode cX6_accept 38 = .ok (.ifCond .ne 13, 3) := by decide +kernel
theorem dX6_accept_41 : decode cX6_accept 41 = .ok (.new 55, 3) := by decide +kernel
theorem dX6_accept_44 : decode cX6_accept 44 = .ok (.dup, 1) := by decide +kernel
theorem dX6_accept_45 : decode cX6_accept 45 = .ok (.ldc 164, 2) := by decide +kernel
theorem dX6_accept_47 : decode cX6_accept 47 = .ok (.invokespecial 59, 3) := by decide +kernel
theorem dX6_accept_50 : decode cX6_accept 50 = .ok (.athrow, 1) := by decide +kernel
theorem dX6_accept_51 : decode cX6_accept 51 = .ok (.aload_n 0, 1) := by decide +kernel
theorem dX6_accept_52 : decode cX6_accept 52 = .ok (.getfield 21, 3) := by decide +kernel
theorem dX6_accept_55 : decode cX6_accept 55 = .ok (.iload_n 1, 1) := by decide +kernel
theorem dX6_accept_56 : decode cX6_accept 56 = .ok (.invokevirtual 181, 3) := by decide +kernel
theorem dX6_accept_59 : decode cX6_accept 59 = .ok (.aload_n 0, 1) := by decide +kernel
theorem dX6_accept_60 : decode cX6_accept 60 = .ok (.getfield 21, 3) := by decide +kernel
theorem dX6_accept_63 : decode cX6_accept 63 = .ok (.getfield 153, 3) := by decide +kernel
theorem dX6_accept_66 : decode cX6_accept 66 = .ok (.getfield 184, 3) := by decide +kernel
theorem dX6_accept_69 : decode cX6_accept 69 = .ok (.iload_n 1, 1) := by decide +kernel
theorem dX6_accept_70 : decode cX6_accept 70 = .ok (.iaload, 1) := by decide +kernel
theorem dX6_accept_71 : decode cX6_accept 71 = .ok (.ireturn, 1) := by decide +kernel
theorem dX6_release_0 : decode cX6_release 0 = .ok (.iload_n 1, 1) := by decide +kernel
theorem dX6_release_1 : decode cX6_release 1 = .ok (.invokestatic 150, 3) := by decide +kernel
theorem dX6_release_4 : decode cX6_release 4 = .ok (.aload_n 0, 1) := by decide +kernel
theorem dX6_release_5 : decode cX6_release 5 = .ok (.iload_n 1, 1) := by decide +kernel
theorem dX6_release_6 : decode cX6_release 6 = .ok (.invokevirtual 187, 3) := by decide +kernel
theorem dX6_release_9 : decode cX6_release 9 = .ok (.aload_n 0, 1) := by decide +kernel
theorem dX6_release_10 : decode cX6_release 10 = .ok (.getfield 21, 3) := by decide +kernel
theorem dX6_release_13 : decode cX6_release 13 = .ok (.getfield 153, 3) := by decide +kernel
theorem dX6_release_16 : decode cX6_release 16 = .ok (.getfield 184, 3) := by decide +kernel
theorem dX6_release_19 : decode cX6_release 19 = .ok (.iload_n 1, 1) := by decide +kernel
theorem dX6_release_20 : decode cX6_release 20 = .ok (.iaload, 1) := by decide +kernel
theorem dX6_release_21 : decode cX6_release 21 = .ok (.istore_n 2, 1) := by decide +kernel
theorem dX6_release_22 : decode cX6_release 22 = .ok (.aload_n 0, 1) := by decide +kernel
theorem dX6_release_23 : decode cX6_release 23 = .ok (.getfield 21, 3) := by decide +kernel
theorem dX6_release_26 : decode cX6_release 26 = .ok (.iload_n 1, 1) := by decide +kernel
theorem dX6_release_27 : decode cX6_release 27 = .ok (.invokevirtual 190, 3) := by decide +kernel
theorem dX6_release_30 : decode cX6_release 30 = .ok (.aload_n 0, 1) := by decide +kernel
theorem dX6_release_31 : decode cX6_release 31 = .ok (.getfield 10, 3) := by decide +kernel
theorem dX6_release_34 : decode cX6_release 34 = .ok (.bipush 6, 2) := by decide +kernel
theorem dX6_release_36 : decode cX6_release 36 = .ok (.iload_n 2, 1) := by decide +kernel
theorem dX6_release_37 : decode cX6_release 37 = .ok (.invokevirtual 193, 3) := by decide +kernel
theorem dX6_release_40 : decode cX6_release 40 = .ok (.iload_n 2, 1) := by decide +kernel
theorem dX6_release_41 : decode cX6_release 41 = .ok (.ireturn, 1) := by decide +kernel
theorem dX6_decline_0 : decode cX6_decline 0 = .ok (.iload_n 1, 1) := by decide +kernel
theorem dX6_decline_1 : decode cX6_decline 1 = .ok (.invokestatic 150, 3) := by decide +kernel
theorem dX6_decline_4 : decode cX6_decline 4 = .ok (.aload_n 0, 1) := by decide +kernel
theorem dX6_decline_5 : decode cX6_decline 5 = .ok (.iload_n 1, 1) := by decide +kernel
theorem dX6_decline_6 : decode cX6_decline 6 = .ok (.invokevirtual 187, 3) := by decide +kernel
theorem dX6_decline_9 : decode cX6_decline 9 = .ok (.aload_n 0, 1) := by decide +kernel
theorem dX6_decline_10 : decode cX6_decline 10 = .ok (.getfield 21, 3) := by decide +kernel
theorem dX6_decline_13 : decode cX6_decline 13 = .ok (.getfield 153, 3) := by decide +kernel
theorem dX6_decline_16 : decode cX6_decline 16 = .ok (.getfield 184, 3) := by decide +kernel
theorem dX6_decline_19 : decode cX6_decline 19 = .ok (.iload_n 1, 1) := by decide +kernel
theorem dX6_decline_20 : decode cX6_decline 20 = .ok (.iaload, 1) := by decide +kernel
theorem dX6_decline_21 : decode cX6_decline 21 = .ok (.istore_n 2, 1) := by decide +kernel
theorem dX6_decline_22 : decode cX6_decline 22 = .ok (.aload_n 0, 1) := by decide +kernel
theorem dX6_decline_23 : decode cX6_decline 23 = .ok (.getfield 21, 3) := by decide +kernel
theorem dX6_decline_26 : decode cX6_decline 26 = .ok (.iload_n 1, 1) := by decide +kernel
theorem dX6_decline_27 : decode cX6_decline 27 = .ok (.invokevirtual 196, 3) := by decide +kernel
theorem dX6_decline_30 : decode cX6_decline 30 = .ok (.iload_n 2, 1) := by decide +kernel
theorem dX6_decline_31 : decode cX6_decline 31 = .ok (.ireturn, 1) := by decide +kernel
theorem dX6_renew_0 : decode cX6_renew 0 = .ok (.iload_n 1, 1) := by decide +kernel
theorem dX6_renew_1 : decode cX6_renew 1 = .ok (.invokestatic 150, 3) := by decide +kernel
theorem dX6_renew_4 : decode cX6_renew 4 = .ok (.aload_n 0, 1) := by decide +kernel
theorem dX6_renew_5 : decode cX6_renew 5 = .ok (.iload_n 1, 1) := by decide +kernel
theorem dX6_renew_6 : decode cX6_renew 6 = .ok (.invokevirtual 187, 3) := by decide +kernel
theorem dX6_renew_9 : decode cX6_renew 9 = .ok (.aload_n 0, 1) := by decide +kernel
theorem dX6_renew_10 : decode cX6_renew 10 = .ok (.getfield 21, 3) := by decide +kernel
theorem dX6_renew_13 : decode cX6_renew 13 = .ok (.iload_n 1, 1) := by decide +kernel
theorem dX6_renew_14 : decode cX6_renew 14 = .ok (.invokevirtual 199, 3) := by decide +kernel
theorem dX6_renew_17 : decode cX6_renew 17 = .ok (.ifCond .ne 13, 3) := by decide +kernel
theorem dX6_renew_20 : decode cX6_renew 20 = .ok (.new 55, 3) := by decide +kernel
theorem dX6_renew_23 : decode cX6_renew 23 = .ok (.dup, 1) := by decide +kernel
theorem dX6_renew_24 : decode cX6_renew 24 = .ok (.ldc 202, 2) := by decide +kernel
theorem dX6_renew_26 : decode cX6_renew 26 = .ok (.invokespecial 59, 3) := by decide +kernel
theorem dX6_renew_29 : decode cX6_renew 29 = .ok (.athrow, 1) := by decide +kernel
theorem dX6_renew_30 : decode cX6_renew 30 = .ok (.aload_n 0, 1) := by decide +kernel
theorem dX6_renew_31 : decode cX6_renew 31 = .ok (.getfield 21, 3) := by decide +kernel
theorem dX6_renew_34 : decode cX6_renew 34 = .ok (.iload_n 1, 1) := by decide +kernel
theorem dX6_renew_35 : decode cX6_renew 35 = .ok (.invokevirtual 204, 3) := by decide +kernel
theorem dX6_renew_38 : decode cX6_renew 38 = .ok (.ireturn, 1) := by decide +kernel
theorem dX6_advance_0 : decode cX6_advance 0 = .ok (.iload_n 1, 1) := by decide +kernel
theorem dX6_advance_1 : decode cX6_advance 1 = .ok (.iconst 1, 1) := by decide +kernel
theorem dX6_advance_2 : decode cX6_advance 2 = .ok (.if_icmp .lt 10, 3) := by decide +kernel
theorem dX6_advance_5 : decode cX6_advance 5 = .ok (.iload_n 1, 1) := by decide +kernel
theorem dX6_advance_6 : decode cX6_advance 6 = .ok (.sipush 2000, 3) := by decide +kernel
theorem dX6_advance_9 : decode cX6_advance 9 = .ok (.if_icmp .le 13, 3) := by decide +kernel
theorem dX6_advance_12 : decode cX6_advance 12 = .ok (.new 36, 3) := by decide +kernel
theorem dX6_advance_15 : decode cX6_advance 15 = .ok (.dup, 1) := by decide +kernel
theorem dX6_advance_16 : decode cX6_advance 16 = .ok (.ldc 207, 2) := by decide +kernel
theorem dX6_advance_18 : decode cX6_advance 18 = .ok (.invokespecial 40, 3) := by decide +kernel
theorem dX6_advance_21 : decode cX6_advance 21 = .ok (.athrow, 1) := by decide +kernel
theorem dX6_advance_22 : decode cX6_advance 22 = .ok (.aload_n 0, 1) := by decide +kernel
theorem dX6_advance_23 : decode cX6_advance 23 = .ok (.getfield 21, 3) := by decide +kernel
theorem dX6_advance_26 : decode cX6_advance 26 = .ok (.getfield 130, 3) := by decide +kernel
theorem dX6_advance_29 : decode cX6_advance 29 = .ok (.getfield 209, 3) := by decide +kernel
theorem dX6_advance_32 : decode cX6_advance 32 = .ok (.iload_n 1, 1) := by decide +kernel
theorem dX6_advance_33 : decode cX6_advance 33 = .ok (.iadd, 1) := by decide +kernel
theorem dX6_advance_34 : decode cX6_advance 34 = .ok (.istore_n 2, 1) := by decide +kernel
theorem dX6_advance_35 : decode cX6_advance 35 = .ok (.iload_n 2, 1) := by decide +kernel
theorem dX6_advance_36 : decode cX6_advance 36 = .ok (.ldc 212, 2) := by decide +kernel
theorem dX6_advance_38 : decode cX6_advance 38 = .ok (.if_icmp .le 13, 3) := by decide +kernel
theorem dX6_advance_41 : decode cX6_advance 41 = .ok (.new 55, 3) := by decide +kernel
theorem dX6_advance_44 : decode cX6_advance 44 = .ok (.dup, 1) := by decide +kernel
theorem dX6_advance_45 : decode cX6_advance 45 = .ok (.ldc 213, 2) := by decide +kernel
theorem dX6_advance_47 : decode cX6_advance 47 = .ok (.invokespecial 59, 3) := by decide +kernel
theorem dX6_advance_50 : decode cX6_advance 50 = .ok (.athrow, 1) := by decide +kernel
theorem dX6_advance_51 : decode cX6_advance 51 = .ok (.aload_n 0, 1) := by decide +kernel
theorem dX6_advance_52 : decode cX6_advance 52 = .ok (.getfield 21, 3) := by decide +kernel
theorem dX6_advance_55 : decode cX6_advance 55 = .ok (.iload_n 2, 1) := by decide +kernel
theorem dX6_advance_56 : decode cX6_advance 56 = .ok (.invokevirtual 215, 3) := by decide +kernel
theorem dX6_advance_59 : decode cX6_advance 59 = .ok (.ireturn, 1) := by decide +kernel
theorem dX6_advanceToEvent_0 : decode cX6_advanceToEvent 0 = .ok (.aload_n 0, 1) := by decide +kernel
theorem dX6_advanceToEvent_1 : decode cX6_advanceToEvent 1 = .ok (.getfield 21, 3) := by decide +kernel
theorem dX6_advanceToEvent_4 : decode cX6_advanceToEvent 4 = .ok (.invokevirtual 218, 3) := by decide +kernel
theorem dX6_advanceToEvent_7 : decode cX6_advanceToEvent 7 = .ok (.istore_n 1, 1) := by decide +kernel
theorem dX6_advanceToEvent_8 : decode cX6_advanceToEvent 8 = .ok (.iload_n 1, 1) := by decide +kernel
theorem dX6_advanceToEvent_9 : decode cX6_advanceToEvent 9 = .ok (.ldc 222, 2) := by decide +kernel
theorem dX6_advanceToEvent_11 : decode cX6_advanceToEvent 11 = .ok (.if_icmp .ne 13, 3) := by decide +kernel
theorem dX6_advanceToEvent_14 : decode cX6_advanceToEvent 14 = .ok (.new 169, 3) := by decide +kernel
theorem dX6_advanceToEvent_17 : decode cX6_advanceToEvent 17 = .ok (.dup, 1) := by decide +kernel
theorem dX6_advanceToEvent_18 : decode cX6_advanceToEvent 18 = .ok (.ldc 223, 2) := by decide +kernel
theorem dX6_advanceToEvent_20 : decode cX6_advanceToEvent 20 = .ok (.invokespecial 173, 3) := by decide +kernel
theorem dX6_advanceToEvent_23 : decode cX6_advanceToEvent 23 = .ok (.athrow, 1) := by decide +kernel
theorem dX6_advanceToEvent_24 : decode cX6_advanceToEvent 24 = .ok (.iload_n 1, 1) := by decide +kernel
theorem dX6_advanceToEvent_25 : decode cX6_advanceToEvent 25 = .ok (.invokestatic 225, 3) := by decide +kernel
theorem dX6_advanceToEvent_28 : decode cX6_advanceToEvent 28 = .ok (.istore_n 2, 1) := by decide +kernel
theorem dX6_advanceToEvent_29 : decode cX6_advanceToEvent 29 = .ok (.iload_n 2, 1) := by decide +kernel
theorem dX6_advanceToEvent_30 : decode cX6_advanceToEvent 30 = .ok (.ldc 212, 2) := by decide +kernel
theorem dX6_advanceToEvent_32 : decode cX6_advanceToEvent 32 = .ok (.if_icmp .le 13, 3) := by decide +kernel
theorem dX6_advanceToEvent_35 : decode cX6_advanceToEvent 35 = .ok (.new 55, 3) := by decide +kernel
theorem dX6_advanceToEvent_38 : decode cX6_advanceToEvent 38 = .ok (.dup, 1) := by decide +kernel
theorem dX6_advanceToEvent_39 : decode cX6_advanceToEvent 39 = .ok (.ldc 213, 2) := by decide +kernel
theorem dX6_advanceToEvent_41 : decode cX6_advanceToEvent 41 = .ok (.invokespecial 59, 3) := by decide +kernel
theorem dX6_advanceToEvent_44 : decode cX6_advanceToEvent 44 = .ok (.athrow, 1) := by decide +kernel
theorem dX6_advanceToEvent_45 : decode cX6_advanceToEvent 45 = .ok (.aload_n 0, 1) := by decide +kernel
theorem dX6_advanceToEvent_46 : decode cX6_advanceToEvent 46 = .ok (.getfield 21, 3) := by decide +kernel
theorem dX6_advanceToEvent_49 : decode cX6_advanceToEvent 49 = .ok (.iload_n 2, 1) := by decide +kernel
theorem dX6_advanceToEvent_50 : decode cX6_advanceToEvent 50 = .ok (.invokevirtual 215, 3) := by decide +kernel
theorem dX6_advanceToEvent_53 : decode cX6_advanceToEvent 53 = .ok (.pop, 1) := by decide +kernel
theorem dX6_advanceToEvent_54 : decode cX6_advanceToEvent 54 = .ok (.iload_n 2, 1) := by decide +kernel
theorem dX6_advanceToEvent_55 : decode cX6_advanceToEvent 55 = .ok (.ireturn, 1) := by decide +kernel
theorem dX6_time_0 : decode cX6_time 0 = .ok (.aload_n 0, 1) := by decide +kernel
theorem dX6_time_1 : decode cX6_time 1 = .ok (.getfield 21, 3) := by decide +kernel
theorem dX6_time_4 : decode cX6_time 4 = .ok (.getfield 130, 3) := by decide +kernel
theorem dX6_time_7 : decode cX6_time 7 = .ok (.getfield 209, 3) := by decide +kernel
theorem dX6_time_10 : decode cX6_time 10 = .ok (.ireturn, 1) := by decide +kernel
theorem dX6_clientState_0 : decode cX6_clientState 0 = .ok (.iload_n 1, 1) := by decide +kernel
theorem dX6_clientState_1 : decode cX6_clientState 1 = .ok (.invokestatic 150, 3) := by decide +kernel
theorem dX6_clientState_4 : decode cX6_clientState 4 = .ok (.aload_n 0, 1) := by decide +kernel
theorem dX6_clientState_5 : decode cX6_clientState 5 = .ok (.getfield 21, 3) := by decide +kernel
theorem dX6_clientState_8 : decode cX6_clientState 8 = .ok (.getfield 153, 3) := by decide +kernel
theorem dX6_clientState_11 : decode cX6_clientState 11 = .ok (.getfield 174, 3) := by decide +kernel
theorem dX6_clientState_14 : decode cX6_clientState 14 = .ok (.iload_n 1, 1) := by decide +kernel
theorem dX6_clientState_15 : decode cX6_clientState 15 = .ok (.iaload, 1) := by decide +kernel
theorem dX6_clientState_16 : decode cX6_clientState 16 = .ok (.ireturn, 1) := by decide +kernel
theorem dX6_addressOf_0 : decode cX6_addressOf 0 = .ok (.iload_n 1, 1) := by decide +kernel
theorem dX6_addressOf_1 : decode cX6_addressOf 1 = .ok (.invokestatic 150, 3) := by decide +kernel
theorem dX6_addressOf_4 : decode cX6_addressOf 4 = .ok (.aload_n 0, 1) := by decide +kernel
theorem dX6_addressOf_5 : decode cX6_addressOf 5 = .ok (.getfield 21, 3) := by decide +kernel
theorem dX6_addressOf_8 : decode cX6_addressOf 8 = .ok (.getfield 153, 3) := by decide +kernel
theorem dX6_addressOf_11 : decode cX6_addressOf 11 = .ok (.getfield 174, 3) := by decide +kernel
theorem dX6_addressOf_14 : decode cX6_addressOf 14 = .ok (.iload_n 1, 1) := by decide +kernel
theorem dX6_addressOf_15 : decode cX6_addressOf 15 = .ok (.iaload, 1) := by decide +kernel
theorem dX6_addressOf_16 : decode cX6_addressOf 16 = .ok (.ifCond .ne 13, 3) := by decide +kernel
theorem dX6_addressOf_19 : decode cX6_addressOf 19 = .ok (.new 169, 3) := by decide +kernel
theorem dX6_addressOf_22 : decode cX6_addressOf 22 = .ok (.dup, 1) := by decide +kernel
theorem dX6_addressOf_23 : decode cX6_addressOf 23 = .ok (.ldc 228, 2) := by decide +kernel
theorem dX6_addressOf_25 : decode cX6_addressOf 25 = .ok (.invokespecial 173, 3) := by decide +kernel
theorem dX6_addressOf_28 : decode cX6_addressOf 28 = .ok (.athrow, 1) := by decide +kernel
theorem dX6_addressOf_29 : decode cX6_addressOf 29 = .ok (.aload_n 0, 1) := by decide +kernel
theorem dX6_addressOf_30 : decode cX6_addressOf 30 = .ok (.getfield 21, 3) := by decide +kernel
theorem dX6_addressOf_33 : decode cX6_addressOf 33 = .ok (.getfield 153, 3) := by decide +kernel
theorem dX6_addressOf_36 : decode cX6_addressOf 36 = .ok (.getfield 184, 3) := by decide +kernel
theorem dX6_addressOf_39 : decode cX6_addressOf 39 = .ok (.iload_n 1, 1) := by decide +kernel
theorem dX6_addressOf_40 : decode cX6_addressOf 40 = .ok (.iaload, 1) := by decide +kernel
theorem dX6_addressOf_41 : decode cX6_addressOf 41 = .ok (.ireturn, 1) := by decide +kernel
theorem dX6_remembered_0 : decode cX6_remembered 0 = .ok (.iload_n 1, 1) := by decide +kernel
theorem dX6_remembered_1 : decode cX6_remembered 1 = .ok (.invokestatic 150, 3) := by decide +kernel
theorem dX6_remembered_4 : decode cX6_remembered 4 = .ok (.aload_n 0, 1) := by decide +kernel
theorem dX6_remembered_5 : decode cX6_remembered 5 = .ok (.getfield 21, 3) := by decide +kernel
theorem dX6_remembered_8 : decode cX6_remembered 8 = .ok (.getfield 153, 3) := by decide +kernel
theorem dX6_remembered_11 : decode cX6_remembered 11 = .ok (.getfield 230, 3) := by decide +kernel
theorem dX6_remembered_14 : decode cX6_remembered 14 = .ok (.iload_n 1, 1) := by decide +kernel
theorem dX6_remembered_15 : decode cX6_remembered 15 = .ok (.iaload, 1) := by decide +kernel
theorem dX6_remembered_16 : decode cX6_remembered 16 = .ok (.iconst (-1), 1) := by decide +kernel
theorem dX6_remembered_17 : decode cX6_remembered 17 = .ok (.if_icmp .ne 13, 3) := by decide +kernel
theorem dX6_remembered_20 : decode cX6_remembered 20 = .ok (.new 169, 3) := by decide +kernel
theorem dX6_remembered_23 : decode cX6_remembered 23 = .ok (.dup, 1) := by decide +kernel
theorem dX6_remembered_24 : decode cX6_remembered 24 = .ok (.ldc 233, 2) := by decide +kernel
theorem dX6_remembered_26 : decode cX6_remembered 26 = .ok (.invokespecial 173, 3) := by decide +kernel
theorem dX6_remembered_29 : decode cX6_remembered 29 = .ok (.athrow, 1) := by decide +kernel
theorem dX6_remembered_30 : decode cX6_remembered 30 = .ok (.aload_n 0, 1) := by decide +kernel
theorem dX6_remembered_31 : decode cX6_remembered 31 = .ok (.getfield 21, 3) := by decide +kernel
theorem dX6_remembered_34 : decode cX6_remembered 34 = .ok (.getfield 153, 3) := by decide +kernel
theorem dX6_remembered_37 : decode cX6_remembered 37 = .ok (.getfield 230, 3) := by decide +kernel
theorem dX6_remembered_40 : decode cX6_remembered 40 = .ok (.iload_n 1, 1) := by decide +kernel
theorem dX6_remembered_41 : decode cX6_remembered 41 = .ok (.iaload, 1) := by decide +kernel
theorem dX6_remembered_42 : decode cX6_remembered 42 = .ok (.ireturn, 1) := by decide +kernel
theorem dX6_timer_0 : decode cX6_timer 0 = .ok (.iload_n 1, 1) := by decide +kernel
theorem dX6_timer_1 : decode cX6_timer 1 = .ok (.invokestatic 150, 3) := by decide +kernel
theorem dX6_timer_4 : decode cX6_timer 4 = .ok (.aload_n 0, 1) := by decide +kernel
theorem dX6_timer_5 : decode cX6_timer 5 = .ok (.iload_n 1, 1) := by decide +kernel
theorem dX6_timer_6 : decode cX6_timer 6 = .ok (.invokevirtual 187, 3) := by decide +kernel
theorem dX6_timer_9 : decode cX6_timer 9 = .ok (.iload_n 2, 1) := by decide +kernel
theorem dX6_timer_10 : decode cX6_timer 10 = .ok (.tableswitch 61 0 2 #[26, 39, 52], 26) := by decide +kernel
theorem dX6_timer_36 : decode cX6_timer 36 = .ok (.aload_n 0, 1) := by decide +kernel
theorem dX6_timer_37 : decode cX6_timer 37 = .ok (.getfield 21, 3) := by decide +kernel
theorem dX6_timer_40 : decode cX6_timer 40 = .ok (.getfield 153, 3) := by decide +kernel
theorem dX6_timer_43 : decode cX6_timer 43 = .ok (.getfield 235, 3) := by decide +kernel
theorem dX6_timer_46 : decode cX6_timer 46 = .ok (.iload_n 1, 1) := by decide +kernel
theorem dX6_timer_47 : decode cX6_timer 47 = .ok (.iaload, 1) := by decide +kernel
theorem dX6_timer_48 : decode cX6_timer 48 = .ok (.ireturn, 1) := by decide +kernel
theorem dX6_timer_49 : decode cX6_timer 49 = .ok (.aload_n 0, 1) := by decide +kernel
theorem dX6_timer_50 : decode cX6_timer 50 = .ok (.getfield 21, 3) := by decide +kernel
theorem dX6_timer_53 : decode cX6_timer 53 = .ok (.getfield 153, 3) := by decide +kernel
theorem dX6_timer_56 : decode cX6_timer 56 = .ok (.getfield 238, 3) := by decide +kernel
theorem dX6_timer_59 : decode cX6_timer 59 = .ok (.iload_n 1, 1) := by decide +kernel
theorem dX6_timer_60 : decode cX6_timer 60 = .ok (.iaload, 1) := by decide +kernel
theorem dX6_timer_61 : decode cX6_timer 61 = .ok (.ireturn, 1) := by decide +kernel
theorem dX6_timer_62 : decode cX6_timer 62 = .ok (.aload_n 0, 1) := by decide +kernel
theorem dX6_timer_63 : decode cX6_timer 63 = .ok (.getfield 21, 3) := by decide +kernel
theorem dX6_timer_66 : decode cX6_timer 66 = .ok (.iload_n 1, 1) := by decide +kernel
theorem dX6_timer_67 : decode cX6_timer 67 = .ok (.invokevirtual 241, 3) := by decide +kernel
theorem dX6_timer_70 : decode cX6_timer 70 = .ok (.ireturn, 1) := by decide +kernel
theorem dX6_timer_71 : decode cX6_timer 71 = .ok (.new 36, 3) := by decide +kernel
theorem dX6_timer_74 : decode cX6_timer 74 = .ok (.dup, 1) := by decide +kernel
theorem dX6_timer_75 : decode cX6_timer 75 = .ok (.ldc 110, 2) := by decide +kernel
theorem dX6_timer_77 : decode cX6_timer 77 = .ok (.invokespecial 40, 3) := by decide +kernel
theorem dX6_timer_80 : decode cX6_timer 80 = .ok (.athrow, 1) := by decide +kernel
theorem dX6_addressState_0 : decode cX6_addressState 0 = .ok (.iload_n 1, 1) := by decide +kernel
theorem dX6_addressState_1 : decode cX6_addressState 1 = .ok (.invokestatic 112, 3) := by decide +kernel
theorem dX6_addressState_4 : decode cX6_addressState 4 = .ok (.aload_n 0, 1) := by decide +kernel
theorem dX6_addressState_5 : decode cX6_addressState 5 = .ok (.iload_n 1, 1) := by decide +kernel
theorem dX6_addressState_6 : decode cX6_addressState 6 = .ok (.invokevirtual 115, 3) := by decide +kernel
theorem dX6_addressState_9 : decode cX6_addressState 9 = .ok (.aload_n 0, 1) := by decide +kernel
theorem dX6_addressState_10 : decode cX6_addressState 10 = .ok (.getfield 21, 3) := by decide +kernel
theorem dX6_addressState_13 : decode cX6_addressState 13 = .ok (.getfield 66, 3) := by decide +kernel
theorem dX6_addressState_16 : decode cX6_addressState 16 = .ok (.getfield 244, 3) := by decide +kernel
theorem dX6_addressState_19 : decode cX6_addressState 19 = .ok (.iload_n 1, 1) := by decide +kernel
theorem dX6_addressState_20 : decode cX6_addressState 20 = .ok (.iaload, 1) := by decide +kernel
theorem dX6_addressState_21 : decode cX6_addressState 21 = .ok (.ireturn, 1) := by decide +kernel
theorem dX6_holder_0 : decode cX6_holder 0 = .ok (.iload_n 1, 1) := by decide +kernel
theorem dX6_holder_1 : decode cX6_holder 1 = .ok (.invokestatic 112, 3) := by decide +kernel
theorem dX6_holder_4 : decode cX6_holder 4 = .ok (.aload_n 0, 1) := by decide +kernel
theorem dX6_holder_5 : decode cX6_holder 5 = .ok (.iload_n 1, 1) := by decide +kernel
theorem dX6_holder_6 : decode cX6_holder 6 = .ok (.invokevirtual 115, 3) := by decide +kernel
theorem dX6_holder_9 : decode cX6_holder 9 = .ok (.aload_n 0, 1) := by decide +kernel
theorem dX6_holder_10 : decode cX6_holder 10 = .ok (.getfield 21, 3) := by decide +kernel
theorem dX6_holder_13 : decode cX6_holder 13 = .ok (.getfield 66, 3) := by decide +kernel
theorem dX6_holder_16 : decode cX6_holder 16 = .ok (.getfield 245, 3) := by decide +kernel
theorem dX6_holder_19 : decode cX6_holder 19 = .ok (.iload_n 1, 1) := by decide +kernel
theorem dX6_holder_20 : decode cX6_holder 20 = .ok (.iaload, 1) := by decide +kernel
theorem dX6_holder_21 : decode cX6_holder 21 = .ok (.iconst (-1), 1) := by decide +kernel
theorem dX6_holder_22 : decode cX6_holder 22 = .ok (.if_icmp .ne 13, 3) := by decide +kernel
theorem dX6_holder_25 : decode cX6_holder 25 = .ok (.new 169, 3) := by decide +kernel
theorem dX6_holder_28 : decode cX6_holder 28 = .ok (.dup, 1) := by decide +kernel
theorem dX6_holder_29 : decode cX6_holder 29 = .ok (.ldc 248, 2) := by decide +kernel
theorem dX6_holder_31 : decode cX6_holder 31 = .ok (.invokespecial 173, 3) := by decide +kernel
theorem dX6_holder_34 : decode cX6_holder 34 = .ok (.athrow, 1) := by decide +kernel
theorem dX6_holder_35 : decode cX6_holder 35 = .ok (.aload_n 0, 1) := by decide +kernel
theorem dX6_holder_36 : decode cX6_holder 36 = .ok (.getfield 21, 3) := by decide +kernel
theorem dX6_holder_39 : decode cX6_holder 39 = .ok (.getfield 66, 3) := by decide +kernel
theorem dX6_holder_42 : decode cX6_holder 42 = .ok (.getfield 245, 3) := by decide +kernel
theorem dX6_holder_45 : decode cX6_holder 45 = .ok (.iload_n 1, 1) := by decide +kernel
theorem dX6_holder_46 : decode cX6_holder 46 = .ok (.iaload, 1) := by decide +kernel
theorem dX6_holder_47 : decode cX6_holder 47 = .ok (.ireturn, 1) := by decide +kernel
theorem dX6_until_0 : decode cX6_until 0 = .ok (.iload_n 1, 1) := by decide +kernel
theorem dX6_until_1 : decode cX6_until 1 = .ok (.invokestatic 112, 3) := by decide +kernel
theorem dX6_until_4 : decode cX6_until 4 = .ok (.aload_n 0, 1) := by decide +kernel
theorem dX6_until_5 : decode cX6_until 5 = .ok (.iload_n 1, 1) := by decide +kernel
theorem dX6_until_6 : decode cX6_until 6 = .ok (.invokevirtual 115, 3) := by decide +kernel
theorem dX6_until_9 : decode cX6_until 9 = .ok (.aload_n 0, 1) := by decide +kernel
theorem dX6_until_10 : decode cX6_until 10 = .ok (.getfield 21, 3) := by decide +kernel
theorem dX6_until_13 : decode cX6_until 13 = .ok (.getfield 66, 3) := by decide +kernel
theorem dX6_until_16 : decode cX6_until 16 = .ok (.getfield 244, 3) := by decide +kernel
theorem dX6_until_19 : decode cX6_until 19 = .ok (.iload_n 1, 1) := by decide +kernel
theorem dX6_until_20 : decode cX6_until 20 = .ok (.iaload, 1) := by decide +kernel
theorem dX6_until_21 : decode cX6_until 21 = .ok (.ifCond .ne 13, 3) := by decide +kernel
theorem dX6_until_24 : decode cX6_until 24 = .ok (.new 169, 3) := by decide +kernel
theorem dX6_until_27 : decode cX6_until 27 = .ok (.dup, 1) := by decide +kernel
theorem dX6_until_28 : decode cX6_until 28 = .ok (.ldc 250, 2) := by decide +kernel
theorem dX6_until_30 : decode cX6_until 30 = .ok (.invokespecial 173, 3) := by decide +kernel
theorem dX6_until_33 : decode cX6_until 33 = .ok (.athrow, 1) := by decide +kernel
theorem dX6_until_34 : decode cX6_until 34 = .ok (.aload_n 0, 1) := by decide +kernel
theorem dX6_until_35 : decode cX6_until 35 = .ok (.getfield 21, 3) := by decide +kernel
theorem dX6_until_38 : decode cX6_until 38 = .ok (.getfield 66, 3) := by decide +kernel
theorem dX6_until_41 : decode cX6_until 41 = .ok (.getfield 252, 3) := by decide +kernel
theorem dX6_until_44 : decode cX6_until 44 = .ok (.iload_n 1, 1) := by decide +kernel
theorem dX6_until_45 : decode cX6_until 45 = .ok (.iaload, 1) := by decide +kernel
theorem dX6_until_46 : decode cX6_until 46 = .ok (.ireturn, 1) := by decide +kernel
theorem dX6_freeSince_0 : decode cX6_freeSince 0 = .ok (.iload_n 1, 1) := by decide +kernel
theorem dX6_freeSince_1 : decode cX6_freeSince 1 = .ok (.invokestatic 112, 3) := by decide +kernel
theorem dX6_freeSince_4 : decode cX6_freeSince 4 = .ok (.aload_n 0, 1) := by decide +kernel
theorem dX6_freeSince_5 : decode cX6_freeSince 5 = .ok (.iload_n 1, 1) := by decide +kernel
theorem dX6_freeSince_6 : decode cX6_freeSince 6 = .ok (.invokevirtual 115, 3) := by decide +kernel
theorem dX6_freeSince_9 : decode cX6_freeSince 9 = .ok (.aload_n 0, 1) := by decide +kernel
theorem dX6_freeSince_10 : decode cX6_freeSince 10 = .ok (.getfield 21, 3) := by decide +kernel
theorem dX6_freeSince_13 : decode cX6_freeSince 13 = .ok (.getfield 66, 3) := by decide +kernel
theorem dX6_freeSince_16 : decode cX6_freeSince 16 = .ok (.getfield 244, 3) := by decide +kernel
theorem dX6_freeSince_19 : decode cX6_freeSince 19 = .ok (.iload_n 1, 1) := by decide +kernel
theorem dX6_freeSince_20 : decode cX6_freeSince 20 = .ok (.iaload, 1) := by decide +kernel
theorem dX6_freeSince_21 : decode cX6_freeSince 21 = .ok (.ifCond .eq 13, 3) := by decide +kernel
theorem dX6_freeSince_24 : decode cX6_freeSince 24 = .ok (.new 169, 3) := by decide +kernel
theorem dX6_freeSince_27 : decode cX6_freeSince 27 = .ok (.dup, 1) := by decide +kernel
theorem dX6_freeSince_28 : decode cX6_freeSince 28 = .ok (.ldc 255, 2) := by decide +kernel
theorem dX6_freeSince_30 : decode cX6_freeSince 30 = .ok (.invokespecial 173, 3) := by decide +kernel
theorem dX6_freeSince_33 : decode cX6_freeSince 33 = .ok (.athrow, 1) := by decide +kernel
theorem dX6_freeSince_34 : decode cX6_freeSince 34 = .ok (.aload_n 0, 1) := by decide +kernel
theorem dX6_freeSince_35 : decode cX6_freeSince 35 = .ok (.getfield 21, 3) := by decide +kernel
theorem dX6_freeSince_38 : decode cX6_freeSince 38 = .ok (.getfield 66, 3) := by decide +kernel
theorem dX6_freeSince_41 : decode cX6_freeSince 41 = .ok (.getfield 257, 3) := by decide +kernel
theorem dX6_freeSince_44 : decode cX6_freeSince 44 = .ok (.iload_n 1, 1) := by decide +kernel
theorem dX6_freeSince_45 : decode cX6_freeSince 45 = .ok (.iaload, 1) := by decide +kernel
theorem dX6_freeSince_46 : decode cX6_freeSince 46 = .ok (.ireturn, 1) := by decide +kernel
theorem dX6_nextCandidate_0 : decode cX6_nextCandidate 0 = .ok (.iload_n 1, 1) := by decide +kernel
theorem dX6_nextCandidate_1 : decode cX6_nextCandidate 1 = .ok (.invokestatic 150, 3) := by decide +kernel
theorem dX6_nextCandidate_4 : decode cX6_nextCandidate 4 = .ok (.iload_n 2, 1) := by decide +kernel
theorem dX6_nextCandidate_5 : decode cX6_nextCandidate 5 = .ok (.invokestatic 28, 3) := by decide +kernel
theorem dX6_nextCandidate_8 : decode cX6_nextCandidate 8 = .ok (.aload_n 0, 1) := by decide +kernel
theorem dX6_nextCandidate_9 : decode cX6_nextCandidate 9 = .ok (.getfield 21, 3) := by decide +kernel
theorem dX6_nextCandidate_12 : decode cX6_nextCandidate 12 = .ok (.iload_n 1, 1) := by decide +kernel
theorem dX6_nextCandidate_13 : decode cX6_nextCandidate 13 = .ok (.iload_n 2, 1) := by decide +kernel
theorem dX6_nextCandidate_14 : decode cX6_nextCandidate 14 = .ok (.iconst (-1), 1) := by decide +kernel
theorem dX6_nextCandidate_15 : decode cX6_nextCandidate 15 = .ok (.invokevirtual 260, 3) := by decide +kernel
theorem dX6_nextCandidate_18 : decode cX6_nextCandidate 18 = .ok (.istore_n 3, 1) := by decide +kernel
theorem dX6_nextCandidate_19 : decode cX6_nextCandidate 19 = .ok (.iload_n 3, 1) := by decide +kernel
theorem dX6_nextCandidate_20 : decode cX6_nextCandidate 20 = .ok (.iconst (-1), 1) := by decide +kernel
theorem dX6_nextCandidate_21 : decode cX6_nextCandidate 21 = .ok (.if_icmp .ne 14, 3) := by decide +kernel
theorem dX6_nextCandidate_24 : decode cX6_nextCandidate 24 = .ok (.new 169, 3) := by decide +kernel
theorem dX6_nextCandidate_27 : decode cX6_nextCandidate 27 = .ok (.dup, 1) := by decide +kernel
theorem dX6_nextCandidate_28 : decode cX6_nextCandidate 28 = .ok (.ldc_w 263, 3) := by decide +kernel
theorem dX6_nextCandidate_31 : decode cX6_nextCandidate 31 = .ok (.invokespecial 173, 3) := by decide +kernel
theorem dX6_nextCandidate_34 : decode cX6_nextCandidate 34 = .ok (.athrow, 1) := by decide +kernel
theorem dX6_nextCandidate_35 : decode cX6_nextCandidate 35 = .ok (.iload_n 3, 1) := by decide +kernel
theorem dX6_nextCandidate_36 : decode cX6_nextCandidate 36 = .ok (.ireturn, 1) := by decide +kernel
theorem dX6_countState_0 : decode cX6_countState 0 = .ok (.iload_n 1, 1) := by decide +kernel
theorem dX6_countState_1 : decode cX6_countState 1 = .ok (.invokestatic 28, 3) := by decide +kernel
theorem dX6_countState_4 : decode cX6_countState 4 = .ok (.iload_n 2, 1) := by decide +kernel
theorem dX6_countState_5 : decode cX6_countState 5 = .ok (.ifCond .lt 8, 3) := by decide +kernel
theorem dX6_countState_8 : decode cX6_countState 8 = .ok (.iload_n 2, 1) := by decide +kernel
theorem dX6_countState_9 : decode cX6_countState 9 = .ok (.iconst 3, 1) := by decide +kernel
theorem dX6_countState_10 : decode cX6_countState 10 = .ok (.if_icmp .le 14, 3) := by decide +kernel
theorem dX6_countState_13 : decode cX6_countState 13 = .ok (.new 36, 3) := by decide +kernel
theorem dX6_countState_16 : decode cX6_countState 16 = .ok (.dup, 1) := by decide +kernel
theorem dX6_countState_17 : decode cX6_countState 17 = .ok (.ldc_w 265, 3) := by decide +kernel
theorem dX6_countState_20 : decode cX6_countState 20 = .ok (.invokespecial 40, 3) := by decide +kernel
theorem dX6_countState_23 : decode cX6_countState 23 = .ok (.athrow, 1) := by decide +kernel
theorem dX6_countState_24 : decode cX6_countState 24 = .ok (.aload_n 0, 1) := by decide +kernel
theorem dX6_countState_25 : decode cX6_countState 25 = .ok (.getfield 21, 3) := by decide +kernel
theorem dX6_countState_28 : decode cX6_countState 28 = .ok (.iload_n 1, 1) := by decide +kernel
theorem dX6_countState_29 : decode cX6_countState 29 = .ok (.iload_n 2, 1) := by decide +kernel
theorem dX6_countState_30 : decode cX6_countState 30 = .ok (.invokevirtual 267, 3) := by decide +kernel
theorem dX6_countState_33 : decode cX6_countState 33 = .ok (.ireturn, 1) := by decide +kernel
theorem dX6_bound_0 : decode cX6_bound 0 = .ok (.aload_n 0, 1) := by decide +kernel
theorem dX6_bound_1 : decode cX6_bound 1 = .ok (.getfield 21, 3) := by decide +kernel
theorem dX6_bound_4 : decode cX6_bound 4 = .ok (.getfield 153, 3) := by decide +kernel
theorem dX6_bound_7 : decode cX6_bound 7 = .ok (.invokevirtual 270, 3) := by decide +kernel
theorem dX6_bound_10 : decode cX6_bound 10 = .ok (.ireturn, 1) := by decide +kernel
theorem dX6_conflicts_0 : decode cX6_conflicts 0 = .ok (.aload_n 0, 1) := by decide +kernel
theorem dX6_conflicts_1 : decode cX6_conflicts 1 = .ok (.getfield 21, 3) := by decide +kernel
theorem dX6_conflicts_4 : decode cX6_conflicts 4 = .ok (.getfield 130, 3) := by decide +kernel
theorem dX6_conflicts_7 : decode cX6_conflicts 7 = .ok (.getfield 273, 3) := by decide +kernel
theorem dX6_conflicts_10 : decode cX6_conflicts 10 = .ok (.ireturn, 1) := by decide +kernel
theorem dX6_logSize_0 : decode cX6_logSize 0 = .ok (.aload_n 0, 1) := by decide +kernel
theorem dX6_logSize_1 : decode cX6_logSize 1 = .ok (.getfield 10, 3) := by decide +kernel
theorem dX6_logSize_4 : decode cX6_logSize 4 = .ok (.getfield 276, 3) := by decide +kernel
theorem dX6_logSize_7 : decode cX6_logSize 7 = .ok (.ireturn, 1) := by decide +kernel
theorem dX6_log_0 : decode cX6_log 0 = .ok (.iload_n 1, 1) := by decide +kernel
theorem dX6_log_1 : decode cX6_log 1 = .ok (.ifCond .lt 14, 3) := by decide +kernel
theorem dX6_log_4 : decode cX6_log 4 = .ok (.iload_n 1, 1) := by decide +kernel
theorem dX6_log_5 : decode cX6_log 5 = .ok (.aload_n 0, 1) := by decide +kernel
theorem dX6_log_6 : decode cX6_log 6 = .ok (.getfield 10, 3) := by decide +kernel
theorem dX6_log_9 : decode cX6_log 9 = .ok (.getfield 276, 3) := by decide +kernel
theorem dX6_log_12 : decode cX6_log 12 = .ok (.if_icmp .lt 14, 3) := by decide +kernel
theorem dX6_log_15 : decode cX6_log 15 = .ok (.new 279, 3) := by decide +kernel
theorem dX6_log_18 : decode cX6_log 18 = .ok (.dup, 1) := by decide +kernel
theorem dX6_log_19 : decode cX6_log 19 = .ok (.ldc_w 281, 3) := by decide +kernel
theorem dX6_log_22 : decode cX6_log 22 = .ok (.invokespecial 283, 3) := by decide +kernel
theorem dX6_log_25 : decode cX6_log 25 = .ok (.athrow, 1) := by decide +kernel
theorem dX6_log_26 : decode cX6_log 26 = .ok (.aload_n 0, 1) := by decide +kernel
theorem dX6_log_27 : decode cX6_log 27 = .ok (.getfield 10, 3) := by decide +kernel
theorem dX6_log_30 : decode cX6_log 30 = .ok (.iload_n 1, 1) := by decide +kernel
theorem dX6_log_31 : decode cX6_log 31 = .ok (.invokevirtual 284, 3) := by decide +kernel
theorem dX6_log_34 : decode cX6_log 34 = .ok (.ireturn, 1) := by decide +kernel
theorem dX6_utilization_0 : decode cX6_utilization 0 = .ok (.iload_n 1, 1) := by decide +kernel
theorem dX6_utilization_1 : decode cX6_utilization 1 = .ok (.invokestatic 28, 3) := by decide +kernel
theorem dX6_utilization_4 : decode cX6_utilization 4 = .ok (.aload_n 0, 1) := by decide +kernel
theorem dX6_utilization_5 : decode cX6_utilization 5 = .ok (.getfield 21, 3) := by decide +kernel
theorem dX6_utilization_8 : decode cX6_utilization 8 = .ok (.getfield 45, 3) := by decide +kernel
theorem dX6_utilization_11 : decode cX6_utilization 11 = .ok (.iload_n 1, 1) := by decide +kernel
theorem dX6_utilization_12 : decode cX6_utilization 12 = .ok (.invokevirtual 287, 3) := by decide +kernel
theorem dX6_utilization_15 : decode cX6_utilization 15 = .ok (.istore_n 2, 1) := by decide +kernel
theorem dX6_utilization_16 : decode cX6_utilization 16 = .ok (.iload_n 2, 1) := by decide +kernel
theorem dX6_utilization_17 : decode cX6_utilization 17 = .ok (.ifCond .ne 14, 3) := by decide +kernel
theorem dX6_utilization_20 : decode cX6_utilization 20 = .ok (.new 290, 3) := by decide +kernel
theorem dX6_utilization_23 : decode cX6_utilization 23 = .ok (.dup, 1) := by decide +kernel
theorem dX6_utilization_24 : decode cX6_utilization 24 = .ok (.ldc_w 292, 3) := by decide +kernel
theorem dX6_utilization_27 : decode cX6_utilization 27 = .ok (.invokespecial 294, 3) := by decide +kernel
theorem dX6_utilization_30 : decode cX6_utilization 30 = .ok (.athrow, 1) := by decide +kernel
theorem dX6_utilization_31 : decode cX6_utilization 31 = .ok (.aload_n 0, 1) := by decide +kernel
theorem dX6_utilization_32 : decode cX6_utilization 32 = .ok (.getfield 21, 3) := by decide +kernel
theorem dX6_utilization_35 : decode cX6_utilization 35 = .ok (.iload_n 1, 1) := by decide +kernel
theorem dX6_utilization_36 : decode cX6_utilization 36 = .ok (.iconst 2, 1) := by decide +kernel
theorem dX6_utilization_37 : decode cX6_utilization 37 = .ok (.invokevirtual 267, 3) := by decide +kernel
theorem dX6_utilization_40 : decode cX6_utilization 40 = .ok (.i2d, 1) := by decide +kernel
theorem dX6_utilization_41 : decode cX6_utilization 41 = .ok (.iload_n 2, 1) := by decide +kernel
theorem dX6_utilization_42 : decode cX6_utilization 42 = .ok (.i2d, 1) := by decide +kernel
theorem dX6_utilization_43 : decode cX6_utilization 43 = .ok (.ddiv, 1) := by decide +kernel
theorem dX6_utilization_44 : decode cX6_utilization 44 = .ok (.dreturn, 1) := by decide +kernel
theorem dX6_averageRest_0 : decode cX6_averageRest 0 = .ok (.aload_n 0, 1) := by decide +kernel
theorem dX6_averageRest_1 : decode cX6_averageRest 1 = .ok (.getfield 21, 3) := by decide +kernel
theorem dX6_averageRest_4 : decode cX6_averageRest 4 = .ok (.getfield 153, 3) := by decide +kernel
theorem dX6_averageRest_7 : decode cX6_averageRest 7 = .ok (.invokevirtual 270, 3) := by decide +kernel
theorem dX6_averageRest_10 : decode cX6_averageRest 10 = .ok (.istore_n 1, 1) := by decide +kernel
theorem dX6_averageRest_11 : decode cX6_averageRest 11 = .ok (.iload_n 1, 1) := by decide +kernel
theorem dX6_averageRest_12 : decode cX6_averageRest 12 = .ok (.ifCond .ne 14, 3) := by decide +kernel
theorem dX6_averageRest_15 : decode cX6_averageRest 15 = .ok (.new 290, 3) := by decide +kernel
theorem dX6_averageRest_18 : decode cX6_averageRest 18 = .ok (.dup, 1) := by decide +kernel
theorem dX6_averageRest_19 : decode cX6_averageRest 19 = .ok (.ldc_w 295, 3) := by decide +kernel
theorem dX6_averageRest_22 : decode cX6_averageRest 22 = .ok (.invokespecial 294, 3) := by decide +kernel
theorem dX6_averageRest_25 : decode cX6_averageRest 25 = .ok (.athrow, 1) := by decide +kernel
theorem dX6_averageRest_26 : decode cX6_averageRest 26 = .ok (.aload_n 0, 1) := by decide +kernel
theorem dX6_averageRest_27 : decode cX6_averageRest 27 = .ok (.getfield 21, 3) := by decide +kernel
theorem dX6_averageRest_30 : decode cX6_averageRest 30 = .ok (.invokevirtual 297, 3) := by decide +kernel
theorem dX6_averageRest_33 : decode cX6_averageRest 33 = .ok (.i2f, 1) := by decide +kernel
theorem dX6_averageRest_34 : decode cX6_averageRest 34 = .ok (.iload_n 1, 1) := by decide +kernel
theorem dX6_averageRest_35 : decode cX6_averageRest 35 = .ok (.i2f, 1) := by decide +kernel
theorem dX6_averageRest_36 : decode cX6_averageRest 36 = .ok (.fdiv, 1) := by decide +kernel
theorem dX6_averageRest_37 : decode cX6_averageRest 37 = .ok (.freturn, 1) := by decide +kernel
theorem dX6_save_0 : decode cX6_save 0 = .ok (.aload_n 0, 1) := by decide +kernel
theorem dX6_save_1 : decode cX6_save 1 = .ok (.getfield 25, 3) := by decide +kernel
theorem dX6_save_4 : decode cX6_save 4 = .ok (.aload_n 0, 1) := by decide +kernel
theorem dX6_save_5 : decode cX6_save 5 = .ok (.getfield 21, 3) := by decide +kernel
theorem dX6_save_8 : decode cX6_save 8 = .ok (.invokevirtual 300, 3) := by decide +kernel
theorem dX6_save_11 : decode cX6_save 11 = .ok (.aload_n 0, 1) := by decide +kernel
theorem dX6_save_12 : decode cX6_save 12 = .ok (.iconst 1, 1) := by decide +kernel
theorem dX6_save_13 : decode cX6_save 13 = .ok (.putfield 304, 3) := by decide +kernel
theorem dX6_save_16 : decode cX6_save 16 = .ok (.aload_n 0, 1) := by decide +kernel
theorem dX6_save_17 : decode cX6_save 17 = .ok (.getfield 21, 3) := by decide +kernel
theorem dX6_save_20 : decode cX6_save 20 = .ok (.getfield 153, 3) := by decide +kernel
theorem dX6_save_23 : decode cX6_save 23 = .ok (.invokevirtual 270, 3) := by decide +kernel
theorem dX6_save_26 : decode cX6_save 26 = .ok (.ireturn, 1) := by decide +kernel
theorem dX6_restore_0 : decode cX6_restore 0 = .ok (.aload_n 0, 1) := by decide +kernel
theorem dX6_restore_1 : decode cX6_restore 1 = .ok (.getfield 304, 3) := by decide +kernel
theorem dX6_restore_4 : decode cX6_restore 4 = .ok (.ifCond .ne 14, 3) := by decide +kernel
theorem dX6_restore_7 : decode cX6_restore 7 = .ok (.new 55, 3) := by decide +kernel
theorem dX6_restore_10 : decode cX6_restore 10 = .ok (.dup, 1) := by decide +kernel
theorem dX6_restore_11 : decode cX6_restore 11 = .ok (.ldc_w 308, 3) := by decide +kernel
theorem dX6_restore_14 : decode cX6_restore 14 = .ok (.invokespecial 59, 3) := by decide +kernel
theorem dX6_restore_17 : decode cX6_restore 17 = .ok (.athrow, 1) := by decide +kernel
theorem dX6_restore_18 : decode cX6_restore 18 = .ok (.aload_n 0, 1) := by decide +kernel
theorem dX6_restore_19 : decode cX6_restore 19 = .ok (.getfield 21, 3) := by decide +kernel
theorem dX6_restore_22 : decode cX6_restore 22 = .ok (.aload_n 0, 1) := by decide +kernel
theorem dX6_restore_23 : decode cX6_restore 23 = .ok (.getfield 25, 3) := by decide +kernel
theorem dX6_restore_26 : decode cX6_restore 26 = .ok (.invokevirtual 300, 3) := by decide +kernel
theorem dX6_restore_29 : decode cX6_restore 29 = .ok (.aload_n 0, 1) := by decide +kernel
theorem dX6_restore_30 : decode cX6_restore 30 = .ok (.getfield 21, 3) := by decide +kernel
theorem dX6_restore_33 : decode cX6_restore 33 = .ok (.getfield 153, 3) := by decide +kernel
theorem dX6_restore_36 : decode cX6_restore 36 = .ok (.invokevirtual 270, 3) := by decide +kernel
theorem dX6_restore_39 : decode cX6_restore 39 = .ok (.ireturn, 1) := by decide +kernel
theorem dX6_isAddress_0 : decode cX6_isAddress 0 = .ok (.iload_n 0, 1) := by decide +kernel
theorem dX6_isAddress_1 : decode cX6_isAddress 1 = .ok (.ifCond .lt 13, 3) := by decide +kernel
theorem dX6_isAddress_4 : decode cX6_isAddress 4 = .ok (.iload_n 0, 1) := by decide +kernel
theorem dX6_isAddress_5 : decode cX6_isAddress 5 = .ok (.bipush 100, 2) := by decide +kernel
theorem dX6_isAddress_7 : decode cX6_isAddress 7 = .ok (.if_icmp .ge 7, 3) := by decide +kernel
theorem dX6_isAddress_10 : decode cX6_isAddress 10 = .ok (.iconst 1, 1) := by decide +kernel
theorem dX6_isAddress_11 : decode cX6_isAddress 11 = .ok (.goto 4, 3) := by decide +kernel
theorem dX6_isAddress_14 : decode cX6_isAddress 14 = .ok (.iconst 0, 1) := by decide +kernel
theorem dX6_isAddress_15 : decode cX6_isAddress 15 = .ok (.ireturn, 1) := by decide +kernel
theorem dX6_isClient_0 : decode cX6_isClient 0 = .ok (.iload_n 0, 1) := by decide +kernel
theorem dX6_isClient_1 : decode cX6_isClient 1 = .ok (.ifCond .lt 13, 3) := by decide +kernel
theorem dX6_isClient_4 : decode cX6_isClient 4 = .ok (.iload_n 0, 1) := by decide +kernel
theorem dX6_isClient_5 : decode cX6_isClient 5 = .ok (.bipush 20, 2) := by decide +kernel
theorem dX6_isClient_7 : decode cX6_isClient 7 = .ok (.if_icmp .ge 7, 3) := by decide +kernel
theorem dX6_isClient_10 : decode cX6_isClient 10 = .ok (.iconst 1, 1) := by decide +kernel
theorem dX6_isClient_11 : decode cX6_isClient 11 = .ok (.goto 4, 3) := by decide +kernel
theorem dX6_isClient_14 : decode cX6_isClient 14 = .ok (.iconst 0, 1) := by decide +kernel
theorem dX6_isClient_15 : decode cX6_isClient 15 = .ok (.ireturn, 1) := by decide +kernel
theorem dX6_isGroup_0 : decode cX6_isGroup 0 = .ok (.iload_n 0, 1) := by decide +kernel
theorem dX6_isGroup_1 : decode cX6_isGroup 1 = .ok (.ifCond .lt 12, 3) := by decide +kernel
theorem dX6_isGroup_4 : decode cX6_isGroup 4 = .ok (.iload_n 0, 1) := by decide +kernel
theorem dX6_isGroup_5 : decode cX6_isGroup 5 = .ok (.iconst 3, 1) := by decide +kernel
theorem dX6_isGroup_6 : decode cX6_isGroup 6 = .ok (.if_icmp .ge 7, 3) := by decide +kernel
theorem dX6_isGroup_9 : decode cX6_isGroup 9 = .ok (.iconst 1, 1) := by decide +kernel
theorem dX6_isGroup_10 : decode cX6_isGroup 10 = .ok (.goto 4, 3) := by decide +kernel
theorem dX6_isGroup_13 : decode cX6_isGroup 13 = .ok (.iconst 0, 1) := by decide +kernel
theorem dX6_isGroup_14 : decode cX6_isGroup 14 = .ok (.ireturn, 1) := by decide +kernel
theorem dX6_requireAddress_0 : decode cX6_requireAddress 0 = .ok (.iload_n 0, 1) := by decide +kernel
theorem dX6_requireAddress_1 : decode cX6_requireAddress 1 = .ok (.invokestatic 32, 3) := by decide +kernel
theorem dX6_requireAddress_4 : decode cX6_requireAddress 4 = .ok (.ifCond .ne 14, 3) := by decide +kernel
theorem dX6_requireAddress_7 : decode cX6_requireAddress 7 = .ok (.new 279, 3) := by decide +kernel
theorem dX6_requireAddress_10 : decode cX6_requireAddress 10 = .ok (.dup, 1) := by decide +kernel
theorem dX6_requireAddress_11 : decode cX6_requireAddress 11 = .ok (.ldc_w 310, 3) := by decide +kernel
theorem dX6_requireAddress_14 : decode cX6_requireAddress 14 = .ok (.invokespecial 283, 3) := by decide +kernel
theorem dX6_requireAddress_17 : decode cX6_requireAddress 17 = .ok (.athrow, 1) := by decide +kernel
theorem dX6_requireAddress_18 : decode cX6_requireAddress 18 = .ok (.return_, 1) := by decide +kernel
theorem dX6_requireClient_0 : decode cX6_requireClient 0 = .ok (.iload_n 0, 1) := by decide +kernel
theorem dX6_requireClient_1 : decode cX6_requireClient 1 = .ok (.invokestatic 312, 3) := by decide +kernel
theorem dX6_requireClient_4 : decode cX6_requireClient 4 = .ok (.ifCond .ne 14, 3) := by decide +kernel
theorem dX6_requireClient_7 : decode cX6_requireClient 7 = .ok (.new 279, 3) := by decide +kernel
theorem dX6_requireClient_10 : decode cX6_requireClient 10 = .ok (.dup, 1) := by decide +kernel
theorem dX6_requireClient_11 : decode cX6_requireClient 11 = .ok (.ldc_w 315, 3) := by decide +kernel
theorem dX6_requireClient_14 : decode cX6_requireClient 14 = .ok (.invokespecial 283, 3) := by decide +kernel
theorem dX6_requireClient_17 : decode cX6_requireClient 17 = .ok (.athrow, 1) := by decide +kernel
theorem dX6_requireClient_18 : decode cX6_requireClient 18 = .ok (.return_, 1) := by decide +kernel
theorem dX6_requireGroup_0 : decode cX6_requireGroup 0 = .ok (.iload_n 0, 1) := by decide +kernel
theorem dX6_requireGroup_1 : decode cX6_requireGroup 1 = .ok (.invokestatic 317, 3) := by decide +kernel
theorem dX6_requireGroup_4 : decode cX6_requireGroup 4 = .ok (.ifCond .ne 14, 3) := by decide +kernel
theorem dX6_requireGroup_7 : decode cX6_requireGroup 7 = .ok (.new 279, 3) := by decide +kernel
theorem dX6_requireGroup_10 : decode cX6_requireGroup 10 = .ok (.dup, 1) := by decide +kernel
theorem dX6_requireGroup_11 : decode cX6_requireGroup 11 = .ok (.ldc_w 320, 3) := by decide +kernel
theorem dX6_requireGroup_14 : decode cX6_requireGroup 14 = .ok (.invokespecial 283, 3) := by decide +kernel
theorem dX6_requireGroup_17 : decode cX6_requireGroup 17 = .ok (.athrow, 1) := by decide +kernel
theorem dX6_requireGroup_18 : decode cX6_requireGroup 18 = .ok (.return_, 1) := by decide +kernel
theorem dX6_requirePool_0 : decode cX6_requirePool 0 = .ok (.aload_n 0, 1) := by decide +kernel
theorem dX6_requirePool_1 : decode cX6_requirePool 1 = .ok (.getfield 21, 3) := by decide +kernel
theorem dX6_requirePool_4 : decode cX6_requirePool 4 = .ok (.getfield 45, 3) := by decide +kernel
theorem dX6_requirePool_7 : decode cX6_requirePool 7 = .ok (.iload_n 1, 1) := by decide +kernel
theorem dX6_requirePool_8 : decode cX6_requirePool 8 = .ok (.invokevirtual 322, 3) := by decide +kernel
theorem dX6_requirePool_11 : decode cX6_requirePool 11 = .ok (.ifCond .ne 14, 3) := by decide +kernel
theorem dX6_requirePool_14 : decode cX6_requirePool 14 = .ok (.new 279, 3) := by decide +kernel
theorem dX6_requirePool_17 : decode cX6_requirePool 17 = .ok (.dup, 1) := by decide +kernel
theorem dX6_requirePool_18 : decode cX6_requirePool 18 = .ok (.ldc_w 325, 3) := by decide +kernel
theorem dX6_requirePool_21 : decode cX6_requirePool 21 = .ok (.invokespecial 283, 3) := by decide +kernel
theorem dX6_requirePool_24 : decode cX6_requirePool 24 = .ok (.athrow, 1) := by decide +kernel
theorem dX6_requirePool_25 : decode cX6_requirePool 25 = .ok (.return_, 1) := by decide +kernel
theorem dX6_requireInPool_0 : decode cX6_requireInPool 0 = .ok (.aload_n 0, 1) := by decide +kernel
theorem dX6_requireInPool_1 : decode cX6_requireInPool 1 = .ok (.getfield 21, 3) := by decide +kernel
theorem dX6_requireInPool_4 : decode cX6_requireInPool 4 = .ok (.getfield 45, 3) := by decide +kernel
theorem dX6_requireInPool_7 : decode cX6_requireInPool 7 = .ok (.iload_n 1, 1) := by decide +kernel
theorem dX6_requireInPool_8 : decode cX6_requireInPool 8 = .ok (.invokevirtual 118, 3) := by decide +kernel
theorem dX6_requireInPool_11 : decode cX6_requireInPool 11 = .ok (.iconst (-1), 1) := by decide +kernel
theorem dX6_requireInPool_12 : decode cX6_requireInPool 12 = .ok (.if_icmp .ne 14, 3) := by decide +kernel
theorem dX6_requireInPool_15 : decode cX6_requireInPool 15 = .ok (.new 169, 3) := by decide +kernel
theorem dX6_requireInPool_18 : decode cX6_requireInPool 18 = .ok (.dup, 1) := by decide +kernel
theorem dX6_requireInPool_19 : decode cX6_requireInPool 19 = .ok (.ldc_w 327, 3) := by decide +kernel
theorem dX6_requireInPool_22 : decode cX6_requireInPool 22 = .ok (.invokespecial 173, 3) := by decide +kernel
theorem dX6_requireInPool_25 : decode cX6_requireInPool 25 = .ok (.athrow, 1) := by decide +kernel
theorem dX6_requireInPool_26 : decode cX6_requireInPool 26 = .ok (.return_, 1) := by decide +kernel
theorem dX6_requireBound_0 : decode cX6_requireBound 0 = .ok (.aload_n 0, 1) := by decide +kernel
theorem dX6_requireBound_1 : decode cX6_requireBound 1 = .ok (.getfield 21, 3) := by decide +kernel
theorem dX6_requireBound_4 : decode cX6_requireBound 4 = .ok (.getfield 153, 3) := by decide +kernel
theorem dX6_requireBound_7 : decode cX6_requireBound 7 = .ok (.iload_n 1, 1) := by decide +kernel
theorem dX6_requireBound_8 : decode cX6_requireBound 8 = .ok (.invokevirtual 157, 3) := by decide +kernel
theorem dX6_requireBound_11 : decode cX6_requireBound 11 = .ok (.ifCond .ne 14, 3) := by decide +kernel
theorem dX6_requireBound_14 : decode cX6_requireBound 14 = .ok (.new 169, 3) := by decide +kernel
theorem dX6_requireBound_17 : decode cX6_requireBound 17 = .ok (.dup, 1) := by decide +kernel
theorem dX6_requireBound_18 : decode cX6_requireBound 18 = .ok (.ldc_w 329, 3) := by decide +kernel
theorem dX6_requireBound_21 : decode cX6_requireBound 21 = .ok (.invokespecial 173, 3) := by decide +kernel
theorem dX6_requireBound_24 : decode cX6_requireBound 24 = .ok (.athrow, 1) := by decide +kernel
theorem dX6_requireBound_25 : decode cX6_requireBound 25 = .ok (.return_, 1) := by decide +kernel
theorem dX6_eventAt_0 : decode cX6_eventAt 0 = .ok (.iload_n 0, 1) := by decide +kernel
theorem dX6_eventAt_1 : decode cX6_eventAt 1 = .ok (.iconst 5, 1) := by decide +kernel
theorem dX6_eventAt_2 : decode cX6_eventAt 2 = .ok (.imul, 1) := by decide +kernel
theorem dX6_eventAt_3 : decode cX6_eventAt 3 = .ok (.iload_n 1, 1) := by decide +kernel
theorem dX6_eventAt_4 : decode cX6_eventAt 4 = .ok (.iadd, 1) := by decide +kernel
theorem dX6_eventAt_5 : decode cX6_eventAt 5 = .ok (.bipush 100, 2) := by decide +kernel
theorem dX6_eventAt_7 : decode cX6_eventAt 7 = .ok (.imul, 1) := by decide +kernel
theorem dX6_eventAt_8 : decode cX6_eventAt 8 = .ok (.iload_n 2, 1) := by decide +kernel
theorem dX6_eventAt_9 : decode cX6_eventAt 9 = .ok (.iadd, 1) := by decide +kernel
theorem dX6_eventAt_10 : decode cX6_eventAt 10 = .ok (.ireturn, 1) := by decide +kernel
theorem dX6_timeOfEvent_0 : decode cX6_timeOfEvent 0 = .ok (.iload_n 0, 1) := by decide +kernel
theorem dX6_timeOfEvent_1 : decode cX6_timeOfEvent 1 = .ok (.bipush 100, 2) := by decide +kernel
theorem dX6_timeOfEvent_3 : decode cX6_timeOfEvent 3 = .ok (.idiv, 1) := by decide +kernel
theorem dX6_timeOfEvent_4 : decode cX6_timeOfEvent 4 = .ok (.iconst 5, 1) := by decide +kernel
theorem dX6_timeOfEvent_5 : decode cX6_timeOfEvent 5 = .ok (.idiv, 1) := by decide +kernel
theorem dX6_timeOfEvent_6 : decode cX6_timeOfEvent 6 = .ok (.ireturn, 1) := by decide +kernel
theorem dX6_kindOfEvent_0 : decode cX6_kindOfEvent 0 = .ok (.iload_n 0, 1) := by decide +kernel
theorem dX6_kindOfEvent_1 : decode cX6_kindOfEvent 1 = .ok (.bipush 100, 2) := by decide +kernel
theorem dX6_kindOfEvent_3 : decode cX6_kindOfEvent 3 = .ok (.idiv, 1) := by decide +kernel
theorem dX6_kindOfEvent_4 : decode cX6_kindOfEvent 4 = .ok (.iconst 5, 1) := by decide +kernel
theorem dX6_kindOfEvent_5 : decode cX6_kindOfEvent 5 = .ok (.irem, 1) := by decide +kernel
theorem dX6_kindOfEvent_6 : decode cX6_kindOfEvent 6 = .ok (.ireturn, 1) := by decide +kernel
theorem dX6_addressOfEvent_0 : decode cX6_addressOfEvent 0 = .ok (.iload_n 0, 1) := by decide +kernel
theorem dX6_addressOfEvent_1 : decode cX6_addressOfEvent 1 = .ok (.bipush 100, 2) := by decide +kernel
theorem dX6_addressOfEvent_3 : decode cX6_addressOfEvent 3 = .ok (.irem, 1) := by decide +kernel
theorem dX6_addressOfEvent_4 : decode cX6_addressOfEvent 4 = .ok (.ireturn, 1) := by decide +kernel
theorem dX6_copyNumbers_0 : decode cX6_copyNumbers 0 = .ok (.aload_n 0, 1) := by decide +kernel
theorem dX6_copyNumbers_1 : decode cX6_copyNumbers 1 = .ok (.iconst 0, 1) := by decide +kernel
theorem dX6_copyNumbers_2 : decode cX6_copyNumbers 2 = .ok (.aload_n 1, 1) := by decide +kernel
theorem dX6_copyNumbers_3 : decode cX6_copyNumbers 3 = .ok (.iconst 0, 1) := by decide +kernel
theorem dX6_copyNumbers_4 : decode cX6_copyNumbers 4 = .ok (.aload_n 0, 1) := by decide +kernel
theorem dX6_copyNumbers_5 : decode cX6_copyNumbers 5 = .ok (.arraylength, 1) := by decide +kernel
theorem dX6_copyNumbers_6 : decode cX6_copyNumbers 6 = .ok (.aload_n 1, 1) := by decide +kernel
theorem dX6_copyNumbers_7 : decode cX6_copyNumbers 7 = .ok (.arraylength, 1) := by decide +kernel
theorem dX6_copyNumbers_8 : decode cX6_copyNumbers 8 = .ok (.invokestatic 331, 3) := by decide +kernel
theorem dX6_copyNumbers_11 : decode cX6_copyNumbers 11 = .ok (.invokestatic 336, 3) := by decide +kernel
theorem dX6_copyNumbers_14 : decode cX6_copyNumbers 14 = .ok (.return_, 1) := by decide +kernel
theorem dX6_copyFlags_0 : decode cX6_copyFlags 0 = .ok (.iconst 0, 1) := by decide +kernel
theorem dX6_copyFlags_1 : decode cX6_copyFlags 1 = .ok (.istore_n 2, 1) := by decide +kernel
theorem dX6_copyFlags_2 : decode cX6_copyFlags 2 = .ok (.iload_n 2, 1) := by decide +kernel
theorem dX6_copyFlags_3 : decode cX6_copyFlags 3 = .ok (.aload_n 0, 1) := by decide +kernel
theorem dX6_copyFlags_4 : decode cX6_copyFlags 4 = .ok (.arraylength, 1) := by decide +kernel
theorem dX6_copyFlags_5 : decode cX6_copyFlags 5 = .ok (.if_icmp .ge 21, 3) := by decide +kernel
theorem dX6_copyFlags_8 : decode cX6_copyFlags 8 = .ok (.iload_n 2, 1) := by decide +kernel
theorem dX6_copyFlags_9 : decode cX6_copyFlags 9 = .ok (.aload_n 1, 1) := by decide +kernel
theorem dX6_copyFlags_10 : decode cX6_copyFlags 10 = .ok (.arraylength, 1) := by decide +kernel
theorem dX6_copyFlags_11 : decode cX6_copyFlags 11 = .ok (.if_icmp .ge 15, 3) := by decide +kernel
theorem dX6_copyFlags_14 : decode cX6_copyFlags 14 = .ok (.aload_n 1, 1) := by decide +kernel
theorem dX6_copyFlags_15 : decode cX6_copyFlags 15 = .ok (.iload_n 2, 1) := by decide +kernel
theorem dX6_copyFlags_16 : decode cX6_copyFlags 16 = .ok (.aload_n 0, 1) := by decide +kernel
theorem dX6_copyFlags_17 : decode cX6_copyFlags 17 = .ok (.iload_n 2, 1) := by decide +kernel
theorem dX6_copyFlags_18 : decode cX6_copyFlags 18 = .ok (.baload, 1) := by decide +kernel
theorem dX6_copyFlags_19 : decode cX6_copyFlags 19 = .ok (.bastore, 1) := by decide +kernel
theorem dX6_copyFlags_20 : decode cX6_copyFlags 20 = .ok (.iinc 2 1, 3) := by decide +kernel
theorem dX6_copyFlags_23 : decode cX6_copyFlags 23 = .ok (.goto (-21), 3) := by decide +kernel
theorem dX6_copyFlags_26 : decode cX6_copyFlags 26 = .ok (.return_, 1) := by decide +kernel
theorem dJx00060_init_a7421_0 : decode cJx00060_init_a7421 0 = .ok (.aload_n 0, 1) := by decide +kernel
theorem dJx00060_init_a7421_1 : decode cJx00060_init_a7421 1 = .ok (.aload_n 1, 1) := by decide +kernel
theorem dJx00060_init_a7421_2 : decode cJx00060_init_a7421 2 = .ok (.invokespecial 7, 3) := by decide +kernel
theorem dJx00060_init_a7421_5 : decode cJx00060_init_a7421 5 = .ok (.return_, 1) := by decide +kernel
theorem dJ9_floorMod_7cf53_0 : decode cJ9_floorMod_7cf53 0 = .ok (.iload_n 0, 1) := by decide +kernel
theorem dJ9_floorMod_7cf53_1 : decode cJ9_floorMod_7cf53 1 = .ok (.iload_n 1, 1) := by decide +kernel
theorem dJ9_floorMod_7cf53_2 : decode cJ9_floorMod_7cf53 2 = .ok (.irem, 1) := by decide +kernel
theorem dJ9_floorMod_7cf53_3 : decode cJ9_floorMod_7cf53 3 = .ok (.istore_n 2, 1) := by decide +kernel
theorem dJ9_floorMod_7cf53_4 : decode cJ9_floorMod_7cf53 4 = .ok (.iload_n 0, 1) := by decide +kernel
theorem dJ9_floorMod_7cf53_5 : decode cJ9_floorMod_7cf53 5 = .ok (.iload_n 1, 1) := by decide +kernel
theorem dJ9_floorMod_7cf53_6 : decode cJ9_floorMod_7cf53 6 = .ok (.ixor, 1) := by decide +kernel
theorem dJ9_floorMod_7cf53_7 : decode cJ9_floorMod_7cf53 7 = .ok (.ifCond .ge 11, 3) := by decide +kernel
theorem dJ9_floorMod_7cf53_10 : decode cJ9_floorMod_7cf53 10 = .ok (.iload_n 2, 1) := by decide +kernel
theorem dJ9_floorMod_7cf53_11 : decode cJ9_floorMod_7cf53 11 = .ok (.ifCond .eq 7, 3) := by decide +kernel
theorem dJ9_floorMod_7cf53_14 : decode cJ9_floorMod_7cf53 14 = .ok (.iload_n 2, 1) := by decide +kernel
theorem dJ9_floorMod_7cf53_15 : decode cJ9_floorMod_7cf53 15 = .ok (.iload_n 1, 1) := by decide +kernel
theorem dJ9_floorMod_7cf53_16 : decode cJ9_floorMod_7cf53 16 = .ok (.iadd, 1) := by decide +kernel
theorem dJ9_floorMod_7cf53_17 : decode cJ9_floorMod_7cf53 17 = .ok (.ireturn, 1) := by decide +kernel
theorem dJ9_floorMod_7cf53_18 : decode cJ9_floorMod_7cf53 18 = .ok (.iload_n 2, 1) := by decide +kernel
theorem dJ9_floorMod_7cf53_19 : decode cJ9_floorMod_7cf53 19 = .ok (.ireturn, 1) := by decide +kernel
theorem dJ9_max_7cf53_0 : decode cJ9_max_7cf53 0 = .ok (.iload_n 0, 1) := by decide +kernel
theorem dJ9_max_7cf53_1 : decode cJ9_max_7cf53 1 = .ok (.iload_n 1, 1) := by decide +kernel
theorem dJ9_max_7cf53_2 : decode cJ9_max_7cf53 2 = .ok (.if_icmp .lt 7, 3) := by decide +kernel
theorem dJ9_max_7cf53_5 : decode cJ9_max_7cf53 5 = .ok (.iload_n 0, 1) := by decide +kernel
theorem dJ9_max_7cf53_6 : decode cJ9_max_7cf53 6 = .ok (.goto 4, 3) := by decide +kernel
theorem dJ9_max_7cf53_9 : decode cJ9_max_7cf53 9 = .ok (.iload_n 1, 1) := by decide +kernel
theorem dJ9_max_7cf53_10 : decode cJ9_max_7cf53 10 = .ok (.ireturn, 1) := by decide +kernel
theorem dJ9_min_7cf53_0 : decode cJ9_min_7cf53 0 = .ok (.iload_n 0, 1) := by decide +kernel
theorem dJ9_min_7cf53_1 : decode cJ9_min_7cf53 1 = .ok (.iload_n 1, 1) := by decide +kernel
theorem dJ9_min_7cf53_2 : decode cJ9_min_7cf53 2 = .ok (.if_icmp .gt 7, 3) := by decide +kernel
theorem dJ9_min_7cf53_5 : decode cJ9_min_7cf53 5 = .ok (.iload_n 0, 1) := by decide +kernel
theorem dJ9_min_7cf53_6 : decode cJ9_min_7cf53 6 = .ok (.goto 4, 3) := by decide +kernel
theorem dJ9_min_7cf53_9 : decode cJ9_min_7cf53 9 = .ok (.iload_n 1, 1) := by decide +kernel
theorem dJ9_min_7cf53_10 : decode cJ9_min_7cf53 10 = .ok (.ireturn, 1) := by decide +kernel
theorem dJ7_fill_53178_0 : decode cJ7_fill_53178 0 = .ok (.iconst 0, 1) := by decide +kernel
theorem dJ7_fill_53178_1 : decode cJ7_fill_53178 1 = .ok (.istore_n 2, 1) := by decide +kernel
theorem dJ7_fill_53178_2 : decode cJ7_fill_53178 2 = .ok (.aload_n 0, 1) := by decide +kernel
theorem dJ7_fill_53178_3 : decode cJ7_fill_53178 3 = .ok (.arraylength, 1) := by decide +kernel
theorem dJ7_fill_53178_4 : decode cJ7_fill_53178 4 = .ok (.istore_n 3, 1) := by decide +kernel
theorem dJ7_fill_53178_5 : decode cJ7_fill_53178 5 = .ok (.iload_n 2, 1) := by decide +kernel
theorem dJ7_fill_53178_6 : decode cJ7_fill_53178 6 = .ok (.iload_n 3, 1) := by decide +kernel
theorem dJ7_fill_53178_7 : decode cJ7_fill_53178 7 = .ok (.if_icmp .ge 13, 3) := by decide +kernel
theorem dJ7_fill_53178_10 : decode cJ7_fill_53178 10 = .ok (.aload_n 0, 1) := by decide +kernel
theorem dJ7_fill_53178_11 : decode cJ7_fill_53178 11 = .ok (.iload_n 2, 1) := by decide +kernel
theorem dJ7_fill_53178_12 : decode cJ7_fill_53178 12 = .ok (.iload_n 1, 1) := by decide +kernel
theorem dJ7_fill_53178_13 : decode cJ7_fill_53178 13 = .ok (.iastore, 1) := by decide +kernel
theorem dJ7_fill_53178_14 : decode cJ7_fill_53178 14 = .ok (.iinc 2 1, 3) := by decide +kernel
theorem dJ7_fill_53178_17 : decode cJ7_fill_53178 17 = .ok (.goto (-12), 3) := by decide +kernel
theorem dJ7_fill_53178_20 : decode cJ7_fill_53178 20 = .ok (.return_, 1) := by decide +kernel
