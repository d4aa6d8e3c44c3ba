theorem dX7_init_0 : decode cX7_init 0 = .ok (.aload_n 0, 1) := by decide +kernel
theorem dX7_init_1 : decode cX7_init 1 = .ok (.invokespecial 3, 3) := by decide +kernel
theorem dX7_init_4 : decode cX7_init 4 = .ok (.aload_n 0, 1) := by decide +kernel
theorem dX7_init_5 : decode cX7_init 5 = .ok (.sipush 731, 3) := by decide +kernel
theorem dX7_init_8 : decode cX7_init 8 = .ok (.newarray .int, 2) := by decide +kernel
theorem dX7_init_10 : decode cX7_init 10 = .ok (.putfield 9, 3) := by decide +kernel
theorem dX7_init_13 : decode cX7_init 13 = .ok (.aload_n 0, 1) := by decide +kernel
theorem dX7_init_14 : decode cX7_init 14 = .ok (.sipush 731, 3) := by decide +kernel
theorem dX7_init_17 : decode cX7_init 17 = .ok (.newarray .int, 2) := by decide +kernel
theorem dX7_init_19 : decode cX7_init 19 = .ok (.putfield 13, 3) := by decide +kernel
theorem dX7_init_22 : decode cX7_init 22 = .ok (.aload_n 0, 1) := by decide +kernel
theorem dX7_init_23 : decode cX7_init 23 = .ok (.bipush 30, 2) := by decide +kernel
theorem dX7_init_25 : decode cX7_init 25 = .ok (.newarray .int, 2) := by decide +kernel
theorem dX7_init_27 : decode cX7_init 27 = .ok (.putfield 16, 3) := by decide +kernel
theorem dX7_init_30 : decode cX7_init 30 = .ok (.aload_n 0, 1) := by decide +kernel
theorem dX7_init_31 : decode cX7_init 31 = .ok (.getfield 9, 3) := by decide +kernel
theorem dX7_init_34 : decode cX7_init 34 = .ok (.iconst 1, 1) := by decide +kernel
theorem dX7_init_35 : decode cX7_init 35 = .ok (.bipush 10, 2) := by decide +kernel
theorem dX7_init_37 : decode cX7_init 37 = .ok (.iastore, 1) := by decide +kernel
theorem dX7_init_38 : decode cX7_init 38 = .ok (.aload_n 0, 1) := by decide +kernel
theorem dX7_init_39 : decode cX7_init 39 = .ok (.getfield 9, 3) := by decide +kernel
theorem dX7_init_42 : decode cX7_init 42 = .ok (.iconst 2, 1) := by decide +kernel
theorem dX7_init_43 : decode cX7_init 43 = .ok (.bipush 100, 2) := by decide +kernel
theorem dX7_init_45 : decode cX7_init 45 = .ok (.iastore, 1) := by decide +kernel
theorem dX7_init_46 : decode cX7_init 46 = .ok (.iconst 0, 1) := by decide +kernel
theorem dX7_init_47 : decode cX7_init 47 = .ok (.istore_n 1, 1) := by decide +kernel
theorem dX7_init_48 : decode cX7_init 48 = .ok (.iload_n 1, 1) := by decide +kernel
theorem dX7_init_49 : decode cX7_init 49 = .ok (.iconst 3, 1) := by decide +kernel
theorem dX7_init_50 : decode cX7_init 50 = .ok (.if_icmp .ge 29, 3) := by decide +kernel
theorem dX7_init_53 : decode cX7_init 53 = .ok (.aload_n 0, 1) := by decide +kernel
theorem dX7_init_54 : decode cX7_init 54 = .ok (.getfield 9, 3) := by decide +kernel
theorem dX7_init_57 : decode cX7_init 57 = .ok (.bipush 25, 2) := by decide +kernel
theorem dX7_init_59 : decode cX7_init 59 = .ok (.iload_n 1, 1) := by decide +kernel
theorem dX7_init_60 : decode cX7_init 60 = .ok (.iadd, 1) := by decide +kernel
theorem dX7_init_61 : decode cX7_init 61 = .ok (.iconst 1, 1) := by decide +kernel
theorem dX7_init_62 : decode cX7_init 62 = .ok (.iastore, 1) := by decide +kernel
theorem dX7_init_63 : decode cX7_init 63 = .ok (.aload_n 0, 1) := by decide +kernel
theorem dX7_init_64 : decode cX7_init 64 = .ok (.getfield 9, 3) := by decide +kernel
theorem dX7_init_67 : decode cX7_init 67 = .ok (.bipush 28, 2) := by decide +kernel
theorem dX7_init_69 : decode cX7_init 69 = .ok (.iload_n 1, 1) := by decide +kernel
theorem dX7_init_70 : decode cX7_init 70 = .ok (.iadd, 1) := by decide +kernel
theorem dX7_init_71 : decode cX7_init 71 = .ok (.iconst 1, 1) := by decide +kernel
theorem dX7_init_72 : decode cX7_init 72 = .ok (.iastore, 1) := by decide +kernel
theorem dX7_init_73 : decode cX7_init 73 = .ok (.iinc 1 1, 3) := by decide +kernel
theorem dX7_init_76 : decode cX7_init 76 = .ok (.goto (-28), 3) := by decide +kernel
theorem dX7_init_79 : decode cX7_init 79 = .ok (.return_, 1) := by decide +kernel
theorem dX7_thrown_0 : decode cX7_thrown 0 = .ok (.aload_n 0, 1) := by decide +kernel
theorem dX7_thrown_1 : decode cX7_thrown 1 = .ok (.getfield 19, 3) := by decide +kernel
theorem dX7_thrown_4 : decode cX7_thrown 4 = .ok (.ireturn, 1) := by decide +kernel
theorem dX7_in_0 : decode cX7_in 0 = .ok (.iload_n 0, 1) := by decide +kernel
theorem dX7_in_1 : decode cX7_in 1 = .ok (.iload_n 1, 1) := by decide +kernel
theorem dX7_in_2 : decode cX7_in 2 = .ok (.if_icmp .lt 12, 3) := by decide +kernel
theorem dX7_in_5 : decode cX7_in 5 = .ok (.iload_n 0, 1) := by decide +kernel
theorem dX7_in_6 : decode cX7_in 6 = .ok (.iload_n 2, 1) := by decide +kernel
theorem dX7_in_7 : decode cX7_in 7 = .ok (.if_icmp .gt 7, 3) := by decide +kernel
theorem dX7_in_10 : decode cX7_in 10 = .ok (.iconst 1, 1) := by decide +kernel
theorem dX7_in_11 : decode cX7_in 11 = .ok (.goto 4, 3) := by decide +kernel
theorem dX7_in_14 : decode cX7_in 14 = .ok (.iconst 0, 1) := by decide +kernel
theorem dX7_in_15 : decode cX7_in 15 = .ok (.ireturn, 1) := by decide +kernel
theorem dX7_raises_0 : decode cX7_raises 0 = .ok (.aload_n 0, 1) := by decide +kernel
theorem dX7_raises_1 : decode cX7_raises 1 = .ok (.iload_n 1, 1) := by decide +kernel
theorem dX7_raises_2 : decode cX7_raises 2 = .ok (.putfield 19, 3) := by decide +kernel
theorem dX7_raises_5 : decode cX7_raises 5 = .ok (.iconst 0, 1) := by decide +kernel
theorem dX7_raises_6 : decode cX7_raises 6 = .ok (.ireturn, 1) := by decide +kernel
theorem dX7_isAddress_0 : decode cX7_isAddress 0 = .ok (.iload_n 0, 1) := by decide +kernel
theorem dX7_isAddress_1 : decode cX7_isAddress 1 = .ok (.iconst 0, 1) := by decide +kernel
theorem dX7_isAddress_2 : decode cX7_isAddress 2 = .ok (.bipush 99, 2) := by decide +kernel
theorem dX7_isAddress_4 : decode cX7_isAddress 4 = .ok (.invokestatic 23, 3) := by decide +kernel
theorem dX7_isAddress_7 : decode cX7_isAddress 7 = .ok (.ireturn, 1) := by decide +kernel
theorem dX7_isClient_0 : decode cX7_isClient 0 = .ok (.iload_n 0, 1) := by decide +kernel
theorem dX7_isClient_1 : decode cX7_isClient 1 = .ok (.iconst 0, 1) := by decide +kernel
theorem dX7_isClient_2 : decode cX7_isClient 2 = .ok (.bipush 19, 2) := by decide +kernel
theorem dX7_isClient_4 : decode cX7_isClient 4 = .ok (.invokestatic 23, 3) := by decide +kernel
theorem dX7_isClient_7 : decode cX7_isClient 7 = .ok (.ireturn, 1) := by decide +kernel
theorem dX7_isGroup_0 : decode cX7_isGroup 0 = .ok (.iload_n 0, 1) := by decide +kernel
theorem dX7_isGroup_1 : decode cX7_isGroup 1 = .ok (.iconst 0, 1) := by decide +kernel
theorem dX7_isGroup_2 : decode cX7_isGroup 2 = .ok (.iconst 2, 1) := by decide +kernel
theorem dX7_isGroup_3 : decode cX7_isGroup 3 = .ok (.invokestatic 23, 3) := by decide +kernel
theorem dX7_isGroup_6 : decode cX7_isGroup 6 = .ok (.ireturn, 1) := by decide +kernel
theorem dX7_sets_0 : decode cX7_sets 0 = .ok (.aload_n 0, 1) := by decide +kernel
theorem dX7_sets_1 : decode cX7_sets 1 = .ok (.getfield 9, 3) := by decide +kernel
theorem dX7_sets_4 : decode cX7_sets 4 = .ok (.iload_n 1, 1) := by decide +kernel
theorem dX7_sets_5 : decode cX7_sets 5 = .ok (.iaload, 1) := by decide +kernel
theorem dX7_sets_6 : decode cX7_sets 6 = .ok (.istore_n 3, 1) := by decide +kernel
theorem dX7_sets_7 : decode cX7_sets 7 = .ok (.aload_n 0, 1) := by decide +kernel
theorem dX7_sets_8 : decode cX7_sets 8 = .ok (.getfield 9, 3) := by decide +kernel
theorem dX7_sets_11 : decode cX7_sets 11 = .ok (.iload_n 1, 1) := by decide +kernel
theorem dX7_sets_12 : decode cX7_sets 12 = .ok (.iload_n 2, 1) := by decide +kernel
theorem dX7_sets_13 : decode cX7_sets 13 = .ok (.iastore, 1) := by decide +kernel
theorem dX7_sets_14 : decode cX7_sets 14 = .ok (.iload_n 3, 1) := by decide +kernel
theorem dX7_sets_15 : decode cX7_sets 15 = .ok (.ireturn, 1) := by decide +kernel
theorem dX7_logs_0 : decode cX7_logs 0 = .ok (.aload_n 0, 1) := by decide +kernel
theorem dX7_logs_1 : decode cX7_logs 1 = .ok (.getfield 27, 3) := by decide +kernel
theorem dX7_logs_4 : decode cX7_logs 4 = .ok (.bipush 30, 2) := by decide +kernel
theorem dX7_logs_6 : decode cX7_logs 6 = .ok (.if_icmp .ge 13, 3) := by decide +kernel
theorem dX7_logs_9 : decode cX7_logs 9 = .ok (.aload_n 0, 1) := by decide +kernel
theorem dX7_logs_10 : decode cX7_logs 10 = .ok (.dup, 1) := by decide +kernel
theorem dX7_logs_11 : decode cX7_logs 11 = .ok (.getfield 27, 3) := by decide +kernel
theorem dX7_logs_14 : decode cX7_logs 14 = .ok (.iconst 1, 1) := by decide +kernel
theorem dX7_logs_15 : decode cX7_logs 15 = .ok (.iadd, 1) := by decide +kernel
theorem dX7_logs_16 : decode cX7_logs 16 = .ok (.putfield 27, 3) := by decide +kernel
theorem dX7_logs_19 : decode cX7_logs 19 = .ok (.aload_n 0, 1) := by decide +kernel
theorem dX7_logs_20 : decode cX7_logs 20 = .ok (.getfield 27, 3) := by decide +kernel
theorem dX7_logs_23 : decode cX7_logs 23 = .ok (.iconst 1, 1) := by decide +kernel
theorem dX7_logs_24 : decode cX7_logs 24 = .ok (.isub, 1) := by decide +kernel
theorem dX7_logs_25 : decode cX7_logs 25 = .ok (.istore_n 3, 1) := by decide +kernel
theorem dX7_logs_26 : decode cX7_logs 26 = .ok (.iload_n 3, 1) := by decide +kernel
theorem dX7_logs_27 : decode cX7_logs 27 = .ok (.ifCond .le 23, 3) := by decide +kernel
theorem dX7_logs_30 : decode cX7_logs 30 = .ok (.aload_n 0, 1) := by decide +kernel
theorem dX7_logs_31 : decode cX7_logs 31 = .ok (.getfield 16, 3) := by decide +kernel
theorem dX7_logs_34 : decode cX7_logs 34 = .ok (.iload_n 3, 1) := by decide +kernel
theorem dX7_logs_35 : decode cX7_logs 35 = .ok (.aload_n 0, 1) := by decide +kernel
theorem dX7_logs_36 : decode cX7_logs 36 = .ok (.getfield 16, 3) := by decide +kernel
theorem dX7_logs_39 : decode cX7_logs 39 = .ok (.iload_n 3, 1) := by decide +kernel
theorem dX7_logs_40 : decode cX7_logs 40 = .ok (.iconst 1, 1) := by decide +kernel
theorem dX7_logs_41 : decode cX7_logs 41 = .ok (.isub, 1) := by decide +kernel
theorem dX7_logs_42 : decode cX7_logs 42 = .ok (.iaload, 1) := by decide +kernel
theorem dX7_logs_43 : decode cX7_logs 43 = .ok (.iastore, 1) := by decide +kernel
theorem dX7_logs_44 : decode cX7_logs 44 = .ok (.iinc 3 (-1), 3) := by decide +kernel
theorem dX7_logs_47 : decode cX7_logs 47 = .ok (.goto (-21), 3) := by decide +kernel
theorem dX7_logs_50 : decode cX7_logs 50 = .ok (.aload_n 0, 1) := by decide +kernel
theorem dX7_logs_51 : decode cX7_logs 51 = .ok (.getfield 16, 3) := by decide +kernel
theorem dX7_logs_54 : decode cX7_logs 54 = .ok (.iconst 0, 1) := by decide +kernel
theorem dX7_logs_55 : decode cX7_logs 55 = .ok (.sipush 1000, 3) := by decide +kernel
theorem dX7_logs_58 : decode cX7_logs 58 = .ok (.iload_n 1, 1) := by decide +kernel
theorem dX7_logs_59 : decode cX7_logs 59 = .ok (.imul, 1) := by decide +kernel
theorem dX7_logs_60 : decode cX7_logs 60 = .ok (.iload_n 2, 1) := by decide +kernel
theorem dX7_logs_61 : decode cX7_logs 61 = .ok (.iadd, 1) := by decide +kernel
theorem dX7_logs_62 : decode cX7_logs 62 = .ok (.iastore, 1) := by decide +kernel
theorem dX7_logs_63 : decode cX7_logs 63 = .ok (.return_, 1) := by decide +kernel
theorem dX7_pool_0 : decode cX7_pool 0 = .ok (.iconst 5, 1) := by decide +kernel
theorem dX7_pool_1 : decode cX7_pool 1 = .ok (.iconst 4, 1) := by decide +kernel
theorem dX7_pool_2 : decode cX7_pool 2 = .ok (.iload_n 1, 1) := by decide +kernel
theorem dX7_pool_3 : decode cX7_pool 3 = .ok (.imul, 1) := by decide +kernel
theorem dX7_pool_4 : decode cX7_pool 4 = .ok (.iadd, 1) := by decide +kernel
theorem dX7_pool_5 : decode cX7_pool 5 = .ok (.ireturn, 1) := by decide +kernel
theorem dX7_owner_0 : decode cX7_owner 0 = .ok (.iconst 0, 1) := by decide +kernel
theorem dX7_owner_1 : decode cX7_owner 1 = .ok (.istore_n 2, 1) := by decide +kernel
theorem dX7_owner_2 : decode cX7_owner 2 = .ok (.iload_n 2, 1) := by decide +kernel
theorem dX7_owner_3 : decode cX7_owner 3 = .ok (.aload_n 0, 1) := by decide +kernel
theorem dX7_owner_4 : decode cX7_owner 4 = .ok (.getfield 9, 3) := by decide +kernel
theorem dX7_owner_7 : decode cX7_owner 7 = .ok (.iconst 4, 1) := by decide +kernel
theorem dX7_owner_8 : decode cX7_owner 8 = .ok (.iaload, 1) := by decide +kernel
theorem dX7_owner_9 : decode cX7_owner 9 = .ok (.if_icmp .ge 42, 3) := by decide +kernel
theorem dX7_owner_12 : decode cX7_owner 12 = .ok (.iload_n 1, 1) := by decide +kernel
theorem dX7_owner_13 : decode cX7_owner 13 = .ok (.aload_n 0, 1) := by decide +kernel
theorem dX7_owner_14 : decode cX7_owner 14 = .ok (.getfield 9, 3) := by decide +kernel
theorem dX7_owner_17 : decode cX7_owner 17 = .ok (.aload_n 0, 1) := by decide +kernel
theorem dX7_owner_18 : decode cX7_owner 18 = .ok (.iload_n 2, 1) := by decide +kernel
theorem dX7_owner_19 : decode cX7_owner 19 = .ok (.invokevirtual 30, 3) := by decide +kernel
theorem dX7_owner_22 : decode cX7_owner 22 = .ok (.iconst 1, 1) := by decide +kernel
theorem dX7_owner_23 : decode cX7_owner 23 = .ok (.iadd, 1) := by decide +kernel
theorem dX7_owner_24 : decode cX7_owner 24 = .ok (.iaload, 1) := by decide +kernel
theorem dX7_owner_25 : decode cX7_owner 25 = .ok (.aload_n 0, 1) := by decide +kernel
theorem dX7_owner_26 : decode cX7_owner 26 = .ok (.getfield 9, 3) := by decide +kernel
theorem dX7_owner_29 : decode cX7_owner 29 = .ok (.aload_n 0, 1) := by decide +kernel
theorem dX7_owner_30 : decode cX7_owner 30 = .ok (.iload_n 2, 1) := by decide +kernel
theorem dX7_owner_31 : decode cX7_owner 31 = .ok (.invokevirtual 30, 3) := by decide +kernel
theorem dX7_owner_34 : decode cX7_owner 34 = .ok (.iconst 2, 1) := by decide +kernel
theorem dX7_owner_35 : decode cX7_owner 35 = .ok (.iadd, 1) := by decide +kernel
theorem dX7_owner_36 : decode cX7_owner 36 = .ok (.iaload, 1) := by decide +kernel
theorem dX7_owner_37 : decode cX7_owner 37 = .ok (.invokestatic 23, 3) := by decide +kernel
theorem dX7_owner_40 : decode cX7_owner 40 = .ok (.ifCond .eq 5, 3) := by decide +kernel
theorem dX7_owner_43 : decode cX7_owner 43 = .ok (.iload_n 2, 1) := by decide +kernel
theorem dX7_owner_44 : decode cX7_owner 44 = .ok (.ireturn, 1) := by decide +kernel
theorem dX7_owner_45 : decode cX7_owner 45 = .ok (.iinc 2 1, 3) := by decide +kernel
theorem dX7_owner_48 : decode cX7_owner 48 = .ok (.goto (-46), 3) := by decide +kernel
theorem dX7_owner_51 : decode cX7_owner 51 = .ok (.iconst (-1), 1) := by decide +kernel
theorem dX7_owner_52 : decode cX7_owner 52 = .ok (.ireturn, 1) := by decide +kernel
theorem dX7_groupOf_0 : decode cX7_groupOf 0 = .ok (.aload_n 0, 1) := by decide +kernel
theorem dX7_groupOf_1 : decode cX7_groupOf 1 = .ok (.iload_n 1, 1) := by decide +kernel
theorem dX7_groupOf_2 : decode cX7_groupOf 2 = .ok (.invokevirtual 34, 3) := by decide +kernel
theorem dX7_groupOf_5 : decode cX7_groupOf 5 = .ok (.istore_n 2, 1) := by decide +kernel
theorem dX7_groupOf_6 : decode cX7_groupOf 6 = .ok (.iload_n 2, 1) := by decide +kernel
theorem dX7_groupOf_7 : decode cX7_groupOf 7 = .ok (.ifCond .ge 7, 3) := by decide +kernel
theorem dX7_groupOf_10 : decode cX7_groupOf 10 = .ok (.iconst (-1), 1) := by decide +kernel
theorem dX7_groupOf_11 : decode cX7_groupOf 11 = .ok (.goto 13, 3) := by decide +kernel
theorem dX7_groupOf_14 : decode cX7_groupOf 14 = .ok (.aload_n 0, 1) := by decide +kernel
theorem dX7_groupOf_15 : decode cX7_groupOf 15 = .ok (.getfield 9, 3) := by decide +kernel
theorem dX7_groupOf_18 : decode cX7_groupOf 18 = .ok (.aload_n 0, 1) := by decide +kernel
theorem dX7_groupOf_19 : decode cX7_groupOf 19 = .ok (.iload_n 2, 1) := by decide +kernel
theorem dX7_groupOf_20 : decode cX7_groupOf 20 = .ok (.invokevirtual 30, 3) := by decide +kernel
theorem dX7_groupOf_23 : decode cX7_groupOf 23 = .ok (.iaload, 1) := by decide +kernel
theorem dX7_groupOf_24 : decode cX7_groupOf 24 = .ok (.ireturn, 1) := by decide +kernel
theorem dX7_addPool_0 : decode cX7_addPool 0 = .ok (.aload_n 0, 1) := by decide +kernel
theorem dX7_addPool_1 : decode cX7_addPool 1 = .ok (.iconst 0, 1) := by decide +kernel
theorem dX7_addPool_2 : decode cX7_addPool 2 = .ok (.putfield 19, 3) := by decide +kernel
theorem dX7_addPool_5 : decode cX7_addPool 5 = .ok (.iload_n 1, 1) := by decide +kernel
theorem dX7_addPool_6 : decode cX7_addPool 6 = .ok (.invokestatic 37, 3) := by decide +kernel
theorem dX7_addPool_9 : decode cX7_addPool 9 = .ok (.ifCond .ne 9, 3) := by decide +kernel
theorem dX7_addPool_12 : decode cX7_addPool 12 = .ok (.aload_n 0, 1) := by decide +kernel
theorem dX7_addPool_13 : decode cX7_addPool 13 = .ok (.iconst 1, 1) := by decide +kernel
theorem dX7_addPool_14 : decode cX7_addPool 14 = .ok (.invokevirtual 41, 3) := by decide +kernel
theorem dX7_addPool_17 : decode cX7_addPool 17 = .ok (.ireturn, 1) := by decide +kernel
theorem dX7_addPool_18 : decode cX7_addPool 18 = .ok (.iload_n 2, 1) := by decide +kernel
theorem dX7_addPool_19 : decode cX7_addPool 19 = .ok (.invokestatic 44, 3) := by decide +kernel
theorem dX7_addPool_22 : decode cX7_addPool 22 = .ok (.ifCond .eq 28, 3) := by decide +kernel
theorem dX7_addPool_25 : decode cX7_addPool 25 = .ok (.iload_n 3, 1) := by decide +kernel
theorem dX7_addPool_26 : decode cX7_addPool 26 = .ok (.invokestatic 44, 3) := by decide +kernel
theorem dX7_addPool_29 : decode cX7_addPool 29 = .ok (.ifCond .eq 21, 3) := by decide +kernel
theorem dX7_addPool_32 : decode cX7_addPool 32 = .ok (.iload 4, 2) := by decide +kernel
theorem dX7_addPool_34 : decode cX7_addPool 34 = .ok (.bipush 8, 2) := by decide +kernel
theorem dX7_addPool_36 : decode cX7_addPool 36 = .ok (.sipush 800, 3) := by decide +kernel
theorem dX7_addPool_39 : decode cX7_addPool 39 = .ok (.invokestatic 23, 3) := by decide +kernel
theorem dX7_addPool_42 : decode cX7_addPool 42 = .ok (.ifCond .eq 8, 3) := by decide +kernel
theorem dX7_addPool_45 : decode cX7_addPool 45 = .ok (.iload_n 2, 1) := by decide +kernel
theorem dX7_addPool_46 : decode cX7_addPool 46 = .ok (.iload_n 3, 1) := by decide +kernel
theorem dX7_addPool_47 : decode cX7_addPool 47 = .ok (.if_icmp .le 9, 3) := by decide +kernel
theorem dX7_addPool_50 : decode cX7_addPool 50 = .ok (.aload_n 0, 1) := by decide +kernel
theorem dX7_addPool_51 : decode cX7_addPool 51 = .ok (.iconst 2, 1) := by decide +kernel
theorem dX7_addPool_52 : decode cX7_addPool 52 = .ok (.invokevirtual 41, 3) := by decide +kernel
theorem dX7_addPool_55 : decode cX7_addPool 55 = .ok (.ireturn, 1) := by decide +kernel
theorem dX7_addPool_56 : decode cX7_addPool 56 = .ok (.aload_n 0, 1) := by decide +kernel
theorem dX7_addPool_57 : decode cX7_addPool 57 = .ok (.getfield 9, 3) := by decide +kernel
theorem dX7_addPool_60 : decode cX7_addPool 60 = .ok (.iconst 4, 1) := by decide +kernel
theorem dX7_addPool_61 : decode cX7_addPool 61 = .ok (.iaload, 1) := by decide +kernel
theorem dX7_addPool_62 : decode cX7_addPool 62 = .ok (.iconst 5, 1) := by decide +kernel
theorem dX7_addPool_63 : decode cX7_addPool 63 = .ok (.if_icmp .ne 9, 3) := by decide +kernel
theorem dX7_addPool_66 : decode cX7_addPool 66 = .ok (.aload_n 0, 1) := by decide +kernel
theorem dX7_addPool_67 : decode cX7_addPool 67 = .ok (.iconst 3, 1) := by decide +kernel
theorem dX7_addPool_68 : decode cX7_addPool 68 = .ok (.invokevirtual 41, 3) := by decide +kernel
theorem dX7_addPool_71 : decode cX7_addPool 71 = .ok (.ireturn, 1) := by decide +kernel
theorem dX7_addPool_72 : decode cX7_addPool 72 = .ok (.iload_n 2, 1) := by decide +kernel
theorem dX7_addPool_73 : decode cX7_addPool 73 = .ok (.istore 5, 2) := by decide +kernel
theorem dX7_addPool_75 : decode cX7_addPool 75 = .ok (.iload 5, 2) := by decide +kernel
theorem dX7_addPool_77 : decode cX7_addPool 77 = .ok (.iload_n 3, 1) := by decide +kernel
theorem dX7_addPool_78 : decode cX7_addPool 78 = .ok (.if_icmp .gt 24, 3) := by decide +kernel
theorem dX7_addPool_81 : decode cX7_addPool 81 = .ok (.aload_n 0, 1) := by decide +kernel
theorem dX7_addPool_82 : decode cX7_addPool 82 = .ok (.iload 5, 2) := by decide +kernel
theorem dX7_addPool_84 : decode cX7_addPool 84 = .ok (.invokevirtual 34, 3) := by decide +kernel
theorem dX7_addPool_87 : decode cX7_addPool 87 = .ok (.ifCond .lt 9, 3) := by decide +kernel
theorem dX7_addPool_90 : decode cX7_addPool 90 = .ok (.aload_n 0, 1) := by decide +kernel
theorem dX7_addPool_91 : decode cX7_addPool 91 = .ok (.iconst 3, 1) := by decide +kernel
theorem dX7_addPool_92 : decode cX7_addPool 92 = .ok (.invokevirtual 41, 3) := by decide +kernel
theorem dX7_addPool_95 : decode cX7_addPool 95 = .ok (.ireturn, 1) := by decide +kernel
theorem dX7_addPool_96 : decode cX7_addPool 96 = .ok (.iinc 5 1, 3) := by decide +kernel
theorem dX7_addPool_99 : decode cX7_addPool 99 = .ok (.goto (-24), 3) := by decide +kernel
theorem dX7_addPool_102 : decode cX7_addPool 102 = .ok (.aload_n 0, 1) := by decide +kernel
theorem dX7_addPool_103 : decode cX7_addPool 103 = .ok (.aload_n 0, 1) := by decide +kernel
theorem dX7_addPool_104 : decode cX7_addPool 104 = .ok (.getfield 9, 3) := by decide +kernel
theorem dX7_addPool_107 : decode cX7_addPool 107 = .ok (.iconst 4, 1) := by decide +kernel
theorem dX7_addPool_108 : decode cX7_addPool 108 = .ok (.iaload, 1) := by decide +kernel
theorem dX7_addPool_109 : decode cX7_addPool 109 = .ok (.invokevirtual 30, 3) := by decide +kernel
theorem dX7_addPool_112 : decode cX7_addPool 112 = .ok (.istore 5, 2) := by decide +kernel
theorem dX7_addPool_114 : decode cX7_addPool 114 = .ok (.aload_n 0, 1) := by decide +kernel
theorem dX7_addPool_115 : decode cX7_addPool 115 = .ok (.getfield 9, 3) := by decide +kernel
theorem dX7_addPool_118 : decode cX7_addPool 118 = .ok (.iload 5, 2) := by decide +kernel
theorem dX7_addPool_120 : decode cX7_addPool 120 = .ok (.iload_n 1, 1) := by decide +kernel
theorem dX7_addPool_121 : decode cX7_addPool 121 = .ok (.iastore, 1) := by decide +kernel
theorem dX7_addPool_122 : decode cX7_addPool 122 = .ok (.aload_n 0, 1) := by decide +kernel
theorem dX7_addPool_123 : decode cX7_addPool 123 = .ok (.getfield 9, 3) := by decide +kernel
theorem dX7_addPool_126 : decode cX7_addPool 126 = .ok (.iload 5, 2) := by decide +kernel
theorem dX7_addPool_128 : decode cX7_addPool 128 = .ok (.iconst 1, 1) := by decide +kernel
theorem dX7_addPool_129 : decode cX7_addPool 129 = .ok (.iadd, 1) := by decide +kernel
theorem dX7_addPool_130 : decode cX7_addPool 130 = .ok (.iload_n 2, 1) := by decide +kernel
theorem dX7_addPool_131 : decode cX7_addPool 131 = .ok (.iastore, 1) := by decide +kernel
theorem dX7_addPool_132 : decode cX7_addPool 132 = .ok (.aload_n 0, 1) := by decide +kernel
theorem dX7_addPool_133 : decode cX7_addPool 133 = .ok (.getfield 9, 3) := by decide +kernel
theorem dX7_addPool_136 : decode cX7_addPool 136 = .ok (.iload 5, 2) := by decide +kernel
theorem dX7_addPool_138 : decode cX7_addPool 138 = .ok (.iconst 2, 1) := by decide +kernel
theorem dX7_addPool_139 : decode cX7_addPool 139 = .ok (.iadd, 1) := by decide +kernel
theorem dX7_addPool_140 : decode cX7_addPool 140 = .ok (.iload_n 3, 1) := by decide +kernel
theorem dX7_addPool_141 : decode cX7_addPool 141 = .ok (.iastore, 1) := by decide +kernel
theorem dX7_addPool_142 : decode cX7_addPool 142 = .ok (.aload_n 0, 1) := by decide +kernel
theorem dX7_addPool_143 : decode cX7_addPool 143 = .ok (.getfield 9, 3) := by decide +kernel
theorem dX7_addPool_146 : decode cX7_addPool 146 = .ok (.iload 5, 2) := by decide +kernel
theorem dX7_addPool_148 : decode cX7_addPool 148 = .ok (.iconst 3, 1) := by decide +kernel
theorem dX7_addPool_149 : decode cX7_addPool 149 = .ok (.iadd, 1) := by decide +kernel
theorem dX7_addPool_150 : decode cX7_addPool 150 = .ok (.iload 4, 2) := by decide +kernel
theorem dX7_addPool_152 : decode cX7_addPool 152 = .ok (.iastore, 1) := by decide +kernel
theorem dX7_addPool_153 : decode cX7_addPool 153 = .ok (.iload_n 2, 1) := by decide +kernel
theorem dX7_addPool_154 : decode cX7_addPool 154 = .ok (.istore 6, 2) := by decide +kernel
theorem dX7_addPool_156 : decode cX7_addPool 156 = .ok (.iload 6, 2) := by decide +kernel
theorem dX7_addPool_158 : decode cX7_addPool 158 = .ok (.iload_n 3, 1) := by decide +kernel
theorem dX7_addPool_159 : decode cX7_addPool 159 = .ok (.if_icmp .gt 33, 3) := by decide +kernel
theorem dX7_addPool_162 : decode cX7_addPool 162 = .ok (.aload_n 0, 1) := by decide +kernel
theorem dX7_addPool_163 : decode cX7_addPool 163 = .ok (.getfield 9, 3) := by decide +kernel
theorem dX7_addPool_166 : decode cX7_addPool 166 = .ok (.sipush 231, 3) := by decide +kernel
theorem dX7_addPool_169 : decode cX7_addPool 169 = .ok (.iload 6, 2) := by decide +kernel
theorem dX7_addPool_171 : decode cX7_addPool 171 = .ok (.iadd, 1) := by decide +kernel
theorem dX7_addPool_172 : decode cX7_addPool 172 = .ok (.iconst 0, 1) := by decide +kernel
theorem dX7_addPool_173 : decode cX7_addPool 173 = .ok (.iastore, 1) := by decide +kernel
theorem dX7_addPool_174 : decode cX7_addPool 174 = .ok (.aload_n 0, 1) := by decide +kernel
theorem dX7_addPool_175 : decode cX7_addPool 175 = .ok (.getfield 9, 3) := by decide +kernel
theorem dX7_addPool_178 : decode cX7_addPool 178 = .ok (.sipush 531, 3) := by decide +kernel
theorem dX7_addPool_181 : decode cX7_addPool 181 = .ok (.iload 6, 2) := by decide +kernel
theorem dX7_addPool_183 : decode cX7_addPool 183 = .ok (.iadd, 1) := by decide +kernel
theorem dX7_addPool_184 : decode cX7_addPool 184 = .ok (.iconst (-1), 1) := by decide +kernel
theorem dX7_addPool_185 : decode cX7_addPool 185 = .ok (.iastore, 1) := by decide +kernel
theorem dX7_addPool_186 : decode cX7_addPool 186 = .ok (.iinc 6 1, 3) := by decide +kernel
theorem dX7_addPool_189 : decode cX7_addPool 189 = .ok (.goto (-33), 3) := by decide +kernel
theorem dX7_addPool_192 : decode cX7_addPool 192 = .ok (.aload_n 0, 1) := by decide +kernel
theorem dX7_addPool_193 : decode cX7_addPool 193 = .ok (.getfield 9, 3) := by decide +kernel
theorem dX7_addPool_196 : decode cX7_addPool 196 = .ok (.iconst 4, 1) := by decide +kernel
theorem dX7_addPool_197 : decode cX7_addPool 197 = .ok (.dup2, 1) := by decide +kernel
theorem dX7_addPool_198 : decode cX7_addPool 198 = .ok (.iaload, 1) := by decide +kernel
theorem dX7_addPool_199 : decode cX7_addPool 199 = .ok (.dup_x2, 1) := by decide +kernel
theorem dX7_addPool_200 : decode cX7_addPool 200 = .ok (.iconst 1, 1) := by decide +kernel
theorem dX7_addPool_201 : decode cX7_addPool 201 = .ok (.iadd, 1) := by decide +kernel
theorem dX7_addPool_202 : decode cX7_addPool 202 = .ok (.iastore, 1) := by decide +kernel
theorem dX7_addPool_203 : decode cX7_addPool 203 = .ok (.ireturn, 1) := by decide +kernel
theorem dX7_isPool_0 : decode cX7_isPool 0 = .ok (.iload_n 1, 1) := by decide +kernel
theorem dX7_isPool_1 : decode cX7_isPool 1 = .ok (.iconst 0, 1) := by decide +kernel
theorem dX7_isPool_2 : decode cX7_isPool 2 = .ok (.aload_n 0, 1) := by decide +kernel
theorem dX7_isPool_3 : decode cX7_isPool 3 = .ok (.getfield 9, 3) := by decide +kernel
theorem dX7_isPool_6 : decode cX7_isPool 6 = .ok (.iconst 4, 1) := by decide +kernel
theorem dX7_isPool_7 : decode cX7_isPool 7 = .ok (.iaload, 1) := by decide +kernel
theorem dX7_isPool_8 : decode cX7_isPool 8 = .ok (.iconst 1, 1) := by decide +kernel
theorem dX7_isPool_9 : decode cX7_isPool 9 = .ok (.isub, 1) := by decide +kernel
theorem dX7_isPool_10 : decode cX7_isPool 10 = .ok (.invokestatic 23, 3) := by decide +kernel
theorem dX7_isPool_13 : decode cX7_isPool 13 = .ok (.ireturn, 1) := by decide +kernel
theorem dX7_removePool_0 : decode cX7_removePool 0 = .ok (.aload_n 0, 1) := by decide +kernel
theorem dX7_removePool_1 : decode cX7_removePool 1 = .ok (.iconst 0, 1) := by decide +kernel
theorem dX7_removePool_2 : decode cX7_removePool 2 = .ok (.putfield 19, 3) := by decide +kernel
theorem dX7_removePool_5 : decode cX7_removePool 5 = .ok (.aload_n 0, 1) := by decide +kernel
theorem dX7_removePool_6 : decode cX7_removePool 6 = .ok (.iload_n 1, 1) := by decide +kernel
theorem dX7_removePool_7 : decode cX7_removePool 7 = .ok (.invokevirtual 47, 3) := by decide +kernel
theorem dX7_removePool_10 : decode cX7_removePool 10 = .ok (.ifCond .ne 9, 3) := by decide +kernel
theorem dX7_removePool_13 : decode cX7_removePool 13 = .ok (.aload_n 0, 1) := by decide +kernel
theorem dX7_removePool_14 : decode cX7_removePool 14 = .ok (.iconst 1, 1) := by decide +kernel
theorem dX7_removePool_15 : decode cX7_removePool 15 = .ok (.invokevirtual 41, 3) := by decide +kernel
theorem dX7_removePool_18 : decode cX7_removePool 18 = .ok (.ireturn, 1) := by decide +kernel
theorem dX7_removePool_19 : decode cX7_removePool 19 = .ok (.aload_n 0, 1) := by decide +kernel
theorem dX7_removePool_20 : decode cX7_removePool 20 = .ok (.getfield 9, 3) := by decide +kernel
theorem dX7_removePool_23 : decode cX7_removePool 23 = .ok (.aload_n 0, 1) := by decide +kernel
theorem dX7_removePool_24 : decode cX7_removePool 24 = .ok (.iload_n 1, 1) := by decide +kernel
theorem dX7_removePool_25 : decode cX7_removePool 25 = .ok (.invokevirtual 30, 3) := by decide +kernel
theorem dX7_removePool_28 : decode cX7_removePool 28 = .ok (.iconst 1, 1) := by decide +kernel
theorem dX7_removePool_29 : decode cX7_removePool 29 = .ok (.iadd, 1) := by decide +kernel
theorem dX7_removePool_30 : decode cX7_removePool 30 = .ok (.iaload, 1) := by decide +kernel
theorem dX7_removePool_31 : decode cX7_removePool 31 = .ok (.istore_n 2, 1) := by decide +kernel
theorem dX7_removePool_32 : decode cX7_removePool 32 = .ok (.iload_n 2, 1) := by decide +kernel
theorem dX7_removePool_33 : decode cX7_removePool 33 = .ok (.aload_n 0, 1) := by decide +kernel
theorem dX7_removePool_34 : decode cX7_removePool 34 = .ok (.getfield 9, 3) := by decide +kernel
theorem dX7_removePool_37 : decode cX7_removePool 37 = .ok (.aload_n 0, 1) := by decide +kernel
theorem dX7_removePool_38 : decode cX7_removePool 38 = .ok (.iload_n 1, 1) := by decide +kernel
theorem dX7_removePool_39 : decode cX7_removePool 39 = .ok (.invokevirtual 30, 3) := by decide +kernel
theorem dX7_removePool_42 : decode cX7_removePool 42 = .ok (.iconst 2, 1) := by decide +kernel
theorem dX7_removePool_43 : decode cX7_removePool 43 = .ok (.iadd, 1) := by decide +kernel
theorem dX7_removePool_44 : decode cX7_removePool 44 = .ok (.iaload, 1) := by decide +kernel
theorem dX7_removePool_45 : decode cX7_removePool 45 = .ok (.if_icmp .gt 28, 3) := by decide +kernel
theorem dX7_removePool_48 : decode cX7_removePool 48 = .ok (.aload_n 0, 1) := by decide +kernel
theorem dX7_removePool_49 : decode cX7_removePool 49 = .ok (.getfield 9, 3) := by decide +kernel
theorem dX7_removePool_52 : decode cX7_removePool 52 = .ok (.sipush 231, 3) := by decide +kernel
theorem dX7_removePool_55 : decode cX7_removePool 55 = .ok (.iload_n 2, 1) := by decide +kernel
theorem dX7_removePool_56 : decode cX7_removePool 56 = .ok (.iadd, 1) := by decide +kernel
theorem dX7_removePool_57 : decode cX7_removePool 57 = .ok (.iaload, 1) := by decide +kernel
theorem dX7_removePool_58 : decode cX7_removePool 58 = .ok (.ifCond .eq 9, 3) := by decide +kernel
theorem dX7_removePool_61 : decode cX7_removePool 61 = .ok (.aload_n 0, 1) := by decide +kernel
theorem dX7_removePool_62 : decode cX7_removePool 62 = .ok (.iconst 2, 1) := by decide +kernel
theorem dX7_removePool_63 : decode cX7_removePool 63 = .ok (.invokevirtual 41, 3) := by decide +kernel
theorem dX7_removePool_66 : decode cX7_removePool 66 = .ok (.ireturn, 1) := by decide +kernel
theorem dX7_removePool_67 : decode cX7_removePool 67 = .ok (.iinc 2 1, 3) := by decide +kernel
theorem dX7_removePool_70 : decode cX7_removePool 70 = .ok (.goto (-38), 3) := by decide +kernel
theorem dX7_removePool_73 : decode cX7_removePool 73 = .ok (.aload_n 0, 1) := by decide +kernel
theorem dX7_removePool_74 : decode cX7_removePool 74 = .ok (.getfield 9, 3) := by decide +kernel
theorem dX7_removePool_77 : decode cX7_removePool 77 = .ok (.iconst 4, 1) := by decide +kernel
theorem dX7_removePool_78 : decode cX7_removePool 78 = .ok (.dup2, 1) := by decide +kernel
theorem dX7_removePool_79 : decode cX7_removePool 79 = .ok (.iaload, 1) := by decide +kernel
theorem dX7_removePool_80 : decode cX7_removePool 80 = .ok (.iconst 1, 1) := by decide +kernel
theorem dX7_removePool_81 : decode cX7_removePool 81 = .ok (.isub, 1) := by decide +kernel
theorem dX7_removePool_82 : decode cX7_removePool 82 = .ok (.iastore, 1) := by decide +kernel
theorem dX7_removePool_83 : decode cX7_removePool 83 = .ok (.aload_n 0, 1) := by decide +kernel
theorem dX7_removePool_84 : decode cX7_removePool 84 = .ok (.iload_n 1, 1) := by decide +kernel
theorem dX7_removePool_85 : decode cX7_removePool 85 = .ok (.invokevirtual 30, 3) := by decide +kernel
theorem dX7_removePool_88 : decode cX7_removePool 88 = .ok (.istore_n 2, 1) := by decide +kernel
theorem dX7_removePool_89 : decode cX7_removePool 89 = .ok (.iload_n 2, 1) := by decide +kernel
theorem dX7_removePool_90 : decode cX7_removePool 90 = .ok (.aload_n 0, 1) := by decide +kernel
theorem dX7_removePool_91 : decode cX7_removePool 91 = .ok (.aload_n 0, 1) := by decide +kernel
theorem dX7_removePool_92 : decode cX7_removePool 92 = .ok (.getfield 9, 3) := by decide +kernel
theorem dX7_removePool_95 : decode cX7_removePool 95 = .ok (.iconst 4, 1) := by decide +kernel
theorem dX7_removePool_96 : decode cX7_removePool 96 = .ok (.iaload, 1) := by decide +kernel
theorem dX7_removePool_97 : decode cX7_removePool 97 = .ok (.invokevirtual 30, 3) := by decide +kernel
theorem dX7_removePool_100 : decode cX7_removePool 100 = .ok (.if_icmp .ge 23, 3) := by decide +kernel
theorem dX7_removePool_103 : decode cX7_removePool 103 = .ok (.aload_n 0, 1) := by decide +kernel
theorem dX7_removePool_104 : decode cX7_removePool 104 = .ok (.getfield 9, 3) := by decide +kernel
theorem dX7_removePool_107 : decode cX7_removePool 107 = .ok (.iload_n 2, 1) := by decide +kernel
theorem dX7_removePool_108 : decode cX7_removePool 108 = .ok (.aload_n 0, 1) := by decide +kernel
theorem dX7_removePool_109 : decode cX7_removePool 109 = .ok (.getfield 9, 3) := by decide +kernel
theorem dX7_removePool_112 : decode cX7_removePool 112 = .ok (.iload_n 2, 1) := by decide +kernel
theorem dX7_removePool_113 : decode cX7_removePool 113 = .ok (.iconst 4, 1) := by decide +kernel
theorem dX7_removePool_114 : decode cX7_removePool 114 = .ok (.iadd, 1) := by decide +kernel
theorem dX7_removePool_115 : decode cX7_removePool 115 = .ok (.iaload, 1) := by decide +kernel
theorem dX7_removePool_116 : decode cX7_removePool 116 = .ok (.iastore, 1) := by decide +kernel
theorem dX7_removePool_117 : decode cX7_removePool 117 = .ok (.iinc 2 1, 3) := by decide +kernel
theorem dX7_removePool_120 : decode cX7_removePool 120 = .ok (.goto (-31), 3) := by decide +kernel
theorem dX7_removePool_123 : decode cX7_removePool 123 = .ok (.aload_n 0, 1) := by decide +kernel
theorem dX7_removePool_124 : decode cX7_removePool 124 = .ok (.getfield 9, 3) := by decide +kernel
theorem dX7_removePool_127 : decode cX7_removePool 127 = .ok (.iconst 4, 1) := by decide +kernel
theorem dX7_removePool_128 : decode cX7_removePool 128 = .ok (.iaload, 1) := by decide +kernel
theorem dX7_removePool_129 : decode cX7_removePool 129 = .ok (.ireturn, 1) := by decide +kernel
theorem dX7_poolCount_0 : decode cX7_poolCount 0 = .ok (.aload_n 0, 1) := by decide +kernel
theorem dX7_poolCount_1 : decode cX7_poolCount 1 = .ok (.iconst 0, 1) := by decide +kernel
theorem dX7_poolCount_2 : decode cX7_poolCount 2 = .ok (.putfield 19, 3) := by decide +kernel
theorem dX7_poolCount_5 : decode cX7_poolCount 5 = .ok (.aload_n 0, 1) := by decide +kernel
theorem dX7_poolCount_6 : decode cX7_poolCount 6 = .ok (.getfield 9, 3) := by decide +kernel
theorem dX7_poolCount_9 : decode cX7_poolCount 9 = .ok (.iconst 4, 1) := by decide +kernel
theorem dX7_poolCount_10 : decode cX7_poolCount 10 = .ok (.iaload, 1) := by decide +kernel
theorem dX7_poolCount_11 : decode cX7_poolCount 11 = .ok (.ireturn, 1) := by decide +kernel
theorem dX7_isCandidate_0 : decode cX7_isCandidate 0 = .ok (.aload_n 0, 1) := by decide +kernel
theorem dX7_isCandidate_1 : decode cX7_isCandidate 1 = .ok (.iload_n 1, 1) := by decide +kernel
theorem dX7_isCandidate_2 : decode cX7_isCandidate 2 = .ok (.invokevirtual 50, 3) := by decide +kernel
theorem dX7_isCandidate_5 : decode cX7_isCandidate 5 = .ok (.iload_n 2, 1) := by decide +kernel
theorem dX7_isCandidate_6 : decode cX7_isCandidate 6 = .ok (.if_icmp .ne 32, 3) := by decide +kernel
theorem dX7_isCandidate_9 : decode cX7_isCandidate 9 = .ok (.aload_n 0, 1) := by decide +kernel
theorem dX7_isCandidate_10 : decode cX7_isCandidate 10 = .ok (.getfield 9, 3) := by decide +kernel
theorem dX7_isCandidate_13 : decode cX7_isCandidate 13 = .ok (.sipush 231, 3) := by decide +kernel
theorem dX7_isCandidate_16 : decode cX7_isCandidate 16 = .ok (.iload_n 1, 1) := by decide +kernel
theorem dX7_isCandidate_17 : decode cX7_isCandidate 17 = .ok (.iadd, 1) := by decide +kernel
theorem dX7_isCandidate_18 : decode cX7_isCandidate 18 = .ok (.iaload, 1) := by decide +kernel
theorem dX7_isCandidate_19 : decode cX7_isCandidate 19 = .ok (.ifCond .ne 19, 3) := by decide +kernel
theorem dX7_isCandidate_22 : decode cX7_isCandidate 22 = .ok (.aload_n 0, 1) := by decide +kernel
theorem dX7_isCandidate_23 : decode cX7_isCandidate 23 = .ok (.getfield 9, 3) := by decide +kernel
theorem dX7_isCandidate_26 : decode cX7_isCandidate 26 = .ok (.bipush 31, 2) := by decide +kernel
theorem dX7_isCandidate_28 : decode cX7_isCandidate 28 = .ok (.iload_n 1, 1) := by decide +kernel
theorem dX7_isCandidate_29 : decode cX7_isCandidate 29 = .ok (.iadd, 1) := by decide +kernel
theorem dX7_isCandidate_30 : decode cX7_isCandidate 30 = .ok (.iaload, 1) := by decide +kernel
theorem dX7_isCandidate_31 : decode cX7_isCandidate 31 = .ok (.ifCond .ne 7, 3) := by decide +kernel
theorem dX7_isCandidate_34 : decode cX7_isCandidate 34 = .ok (.iconst 1, 1) := by decide +kernel
theorem dX7_isCandidate_35 : decode cX7_isCandidate 35 = .ok (.goto 4, 3) := by decide +kernel
theorem dX7_isCandidate_38 : decode cX7_isCandidate 38 = .ok (.iconst 0, 1) := by decide +kernel
theorem dX7_isCandidate_39 : decode cX7_isCandidate 39 = .ok (.ireturn, 1) := by decide +kernel
theorem dX7_pool__0 : decode cX7_pool_ 0 = .ok (.aload_n 0, 1) := by decide +kernel
theorem dX7_pool__1 : decode cX7_pool_ 1 = .ok (.iconst 0, 1) := by decide +kernel
theorem dX7_pool__2 : decode cX7_pool_ 2 = .ok (.putfield 19, 3) := by decide +kernel
theorem dX7_pool__5 : decode cX7_pool_ 5 = .ok (.aload_n 0, 1) := by decide +kernel
theorem dX7_pool__6 : decode cX7_pool_ 6 = .ok (.iload_n 1, 1) := by decide +kernel
theorem dX7_pool__7 : decode cX7_pool_ 7 = .ok (.invokevirtual 47, 3) := by decide +kernel
theorem dX7_pool__10 : decode cX7_pool_ 10 = .ok (.ifCond .ne 9, 3) := by decide +kernel
theorem dX7_pool__13 : decode cX7_pool_ 13 = .ok (.aload_n 0, 1) := by decide +kernel
theorem dX7_pool__14 : decode cX7_pool_ 14 = .ok (.iconst 1, 1) := by decide +kernel
theorem dX7_pool__15 : decode cX7_pool_ 15 = .ok (.invokevirtual 41, 3) := by decide +kernel
theorem dX7_pool__18 : decode cX7_pool_ 18 = .ok (.ireturn, 1) := by decide +kernel
theorem dX7_pool__19 : decode cX7_pool_ 19 = .ok (.iload_n 2, 1) := by decide +kernel
theorem dX7_pool__20 : decode cX7_pool_ 20 = .ok (.iconst 0, 1) := by decide +kernel
theorem dX7_pool__21 : decode cX7_pool_ 21 = .ok (.iconst 4, 1) := by decide +kernel
theorem dX7_pool__22 : decode cX7_pool_ 22 = .ok (.invokestatic 23, 3) := by decide +kernel
theorem dX7_pool__25 : decode cX7_pool_ 25 = .ok (.ifCond .ne 9, 3) := by decide +kernel
theorem dX7_pool__28 : decode cX7_pool_ 28 = .ok (.aload_n 0, 1) := by decide +kernel
theorem dX7_pool__29 : decode cX7_pool_ 29 = .ok (.iconst 2, 1) := by decide +kernel
theorem dX7_pool__30 : decode cX7_pool_ 30 = .ok (.invokevirtual 41, 3) := by decide +kernel
theorem dX7_pool__33 : decode cX7_pool_ 33 = .ok (.ireturn, 1) := by decide +kernel
theorem dX7_pool__34 : decode cX7_pool_ 34 = .ok (.iload_n 2, 1) := by decide +kernel
theorem dX7_pool__35 : decode cX7_pool_ 35 = .ok (.iconst 4, 1) := by decide +kernel
theorem dX7_pool__36 : decode cX7_pool_ 36 = .ok (.if_icmp .ge 16, 3) := by decide +kernel
theorem dX7_pool__39 : decode cX7_pool_ 39 = .ok (.aload_n 0, 1) := by decide +kernel
theorem dX7_pool__40 : decode cX7_pool_ 40 = .ok (.getfield 9, 3) := by decide +kernel
theorem dX7_pool__43 : decode cX7_pool_ 43 = .ok (.aload_n 0, 1) := by decide +kernel
theorem dX7_pool__44 : decode cX7_pool_ 44 = .ok (.iload_n 1, 1) := by decide +kernel
theorem dX7_pool__45 : decode cX7_pool_ 45 = .ok (.invokevirtual 30, 3) := by decide +kernel
theorem dX7_pool__48 : decode cX7_pool_ 48 = .ok (.iload_n 2, 1) := by decide +kernel
theorem dX7_pool__49 : decode cX7_pool_ 49 = .ok (.iadd, 1) := by decide +kernel
theorem dX7_pool__50 : decode cX7_pool_ 50 = .ok (.iaload, 1) := by decide +kernel
theorem dX7_pool__51 : decode cX7_pool_ 51 = .ok (.ireturn, 1) := by decide +kernel
theorem dX7_pool__52 : decode cX7_pool_ 52 = .ok (.iconst 0, 1) := by decide +kernel
theorem dX7_pool__53 : decode cX7_pool_ 53 = .ok (.istore_n 3, 1) := by decide +kernel
theorem dX7_pool__54 : decode cX7_pool_ 54 = .ok (.aload_n 0, 1) := by decide +kernel
theorem dX7_pool__55 : decode cX7_pool_ 55 = .ok (.getfield 9, 3) := by decide +kernel
theorem dX7_pool__58 : decode cX7_pool_ 58 = .ok (.aload_n 0, 1) := by decide +kernel
theorem dX7_pool__59 : decode cX7_pool_ 59 = .ok (.iload_n 1, 1) := by decide +kernel
theorem dX7_pool__60 : decode cX7_pool_ 60 = .ok (.invokevirtual 30, 3) := by decide +kernel
theorem dX7_pool__63 : decode cX7_pool_ 63 = .ok (.iconst 1, 1) := by decide +kernel
theorem dX7_pool__64 : decode cX7_pool_ 64 = .ok (.iadd, 1) := by decide +kernel
theorem dX7_pool__65 : decode cX7_pool_ 65 = .ok (.iaload, 1) := by decide +kernel
theorem dX7_pool__66 : decode cX7_pool_ 66 = .ok (.istore 4, 2) := by decide +kernel
theorem dX7_pool__68 : decode cX7_pool_ 68 = .ok (.iload 4, 2) := by decide +kernel
theorem dX7_pool__70 : decode cX7_pool_ 70 = .ok (.aload_n 0, 1) := by decide +kernel
theorem dX7_pool__71 : decode cX7_pool_ 71 = .ok (.getfield 9, 3) := by decide +kernel
theorem dX7_pool__74 : decode cX7_pool_ 74 = .ok (.aload_n 0, 1) := by decide +kernel
theorem dX7_pool__75 : decode cX7_pool_ 75 = .ok (.iload_n 1, 1) := by decide +kernel
theorem dX7_pool__76 : decode cX7_pool_ 76 = .ok (.invokevirtual 30, 3) := by decide +kernel
theorem dX7_pool__79 : decode cX7_pool_ 79 = .ok (.iconst 2, 1) := by decide +kernel
theorem dX7_pool__80 : decode cX7_pool_ 80 = .ok (.iadd, 1) := by decide +kernel
theorem dX7_pool__81 : decode cX7_pool_ 81 = .ok (.iaload, 1) := by decide +kernel
theorem dX7_pool__82 : decode cX7_pool_ 82 = .ok (.if_icmp .gt 31, 3) := by decide +kernel
theorem dX7_pool__85 : decode cX7_pool_ 85 = .ok (.aload_n 0, 1) := by decide +kernel
theorem dX7_pool__86 : decode cX7_pool_ 86 = .ok (.iload 4, 2) := by decide +kernel
theorem dX7_pool__88 : decode cX7_pool_ 88 = .ok (.aload_n 0, 1) := by decide +kernel
theorem dX7_pool__89 : decode cX7_pool_ 89 = .ok (.getfield 9, 3) := by decide +kernel
theorem dX7_pool__92 : decode cX7_pool_ 92 = .ok (.aload_n 0, 1) := by decide +kernel
theorem dX7_pool__93 : decode cX7_pool_ 93 = .ok (.iload_n 1, 1) := by decide +kernel
theorem dX7_pool__94 : decode cX7_pool_ 94 = .ok (.invokevirtual 30, 3) := by decide +kernel
theorem dX7_pool__97 : decode cX7_pool_ 97 = .ok (.iaload, 1) := by decide +kernel
theorem dX7_pool__98 : decode cX7_pool_ 98 = .ok (.invokevirtual 53, 3) := by decide +kernel
theorem dX7_pool__101 : decode cX7_pool_ 101 = .ok (.ifCond .eq 6, 3) := by decide +kernel
theorem dX7_pool__104 : decode cX7_pool_ 104 = .ok (.iinc 3 1, 3) := by decide +kernel
theorem dX7_pool__107 : decode cX7_pool_ 107 = .ok (.iinc 4 1, 3) := by decide +kernel
theorem dX7_pool__110 : decode cX7_pool_ 110 = .ok (.goto (-42), 3) := by decide +kernel
theorem dX7_pool__113 : decode cX7_pool_ 113 = .ok (.iload_n 3, 1) := by decide +kernel
theorem dX7_pool__114 : decode cX7_pool_ 114 = .ok (.ireturn, 1) := by decide +kernel
theorem dX7_poolOf_0 : decode cX7_poolOf 0 = .ok (.aload_n 0, 1) := by decide +kernel
theorem dX7_poolOf_1 : decode cX7_poolOf 1 = .ok (.iconst 0, 1) := by decide +kernel
theorem dX7_poolOf_2 : decode cX7_poolOf 2 = .ok (.putfield 19, 3) := by decide +kernel
theorem dX7_poolOf_5 : decode cX7_poolOf 5 = .ok (.iload_n 1, 1) := by decide +kernel
theorem dX7_poolOf_6 : decode cX7_poolOf 6 = .ok (.invokestatic 44, 3) := by decide +kernel
theorem dX7_poolOf_9 : decode cX7_poolOf 9 = .ok (.ifCond .ne 9, 3) := by decide +kernel
theorem dX7_poolOf_12 : decode cX7_poolOf 12 = .ok (.aload_n 0, 1) := by decide +kernel
theorem dX7_poolOf_13 : decode cX7_poolOf 13 = .ok (.iconst 1, 1) := by decide +kernel
theorem dX7_poolOf_14 : decode cX7_poolOf 14 = .ok (.invokevirtual 41, 3) := by decide +kernel
theorem dX7_poolOf_17 : decode cX7_poolOf 17 = .ok (.ireturn, 1) := by decide +kernel
theorem dX7_poolOf_18 : decode cX7_poolOf 18 = .ok (.aload_n 0, 1) := by decide +kernel
theorem dX7_poolOf_19 : decode cX7_poolOf 19 = .ok (.iload_n 1, 1) := by decide +kernel
theorem dX7_poolOf_20 : decode cX7_poolOf 20 = .ok (.invokevirtual 34, 3) := by decide +kernel
theorem dX7_poolOf_23 : decode cX7_poolOf 23 = .ok (.ifCond .ge 11, 3) := by decide +kernel
theorem dX7_poolOf_26 : decode cX7_poolOf 26 = .ok (.aload_n 0, 1) := by decide +kernel
theorem dX7_poolOf_27 : decode cX7_poolOf 27 = .ok (.iconst 2, 1) := by decide +kernel
theorem dX7_poolOf_28 : decode cX7_poolOf 28 = .ok (.invokevirtual 41, 3) := by decide +kernel
theorem dX7_poolOf_31 : decode cX7_poolOf 31 = .ok (.goto 8, 3) := by decide +kernel
theorem dX7_poolOf_34 : decode cX7_poolOf 34 = .ok (.aload_n 0, 1) := by decide +kernel
theorem dX7_poolOf_35 : decode cX7_poolOf 35 = .ok (.iload_n 1, 1) := by decide +kernel
theorem dX7_poolOf_36 : decode cX7_poolOf 36 = .ok (.invokevirtual 34, 3) := by decide +kernel
theorem dX7_poolOf_39 : decode cX7_poolOf 39 = .ok (.ireturn, 1) := by decide +kernel
theorem dX7_flips_0 : decode cX7_flips 0 = .ok (.aload_n 0, 1) := by decide +kernel
theorem dX7_flips_1 : decode cX7_flips 1 = .ok (.iload_n 1, 1) := by decide +kernel
theorem dX7_flips_2 : decode cX7_flips 2 = .ok (.ifCond .eq 7, 3) := by decide +kernel
theorem dX7_flips_5 : decode cX7_flips 5 = .ok (.iconst 0, 1) := by decide +kernel
theorem dX7_flips_6 : decode cX7_flips 6 = .ok (.goto 4, 3) := by decide +kernel
theorem dX7_flips_9 : decode cX7_flips 9 = .ok (.iconst 1, 1) := by decide +kernel
theorem dX7_flips_10 : decode cX7_flips 10 = .ok (.putfield 19, 3) := by decide +kernel
theorem dX7_flips_13 : decode cX7_flips 13 = .ok (.iload_n 1, 1) := by decide +kernel
theorem dX7_flips_14 : decode cX7_flips 14 = .ok (.ifCond .eq 25, 3) := by decide +kernel
theorem dX7_flips_17 : decode cX7_flips 17 = .ok (.aload_n 0, 1) := by decide +kernel
theorem dX7_flips_18 : decode cX7_flips 18 = .ok (.iload_n 2, 1) := by decide +kernel
theorem dX7_flips_19 : decode cX7_flips 19 = .ok (.iload_n 3, 1) := by decide +kernel
theorem dX7_flips_20 : decode cX7_flips 20 = .ok (.ifCond .eq 7, 3) := by decide +kernel
theorem dX7_flips_23 : decode cX7_flips 23 = .ok (.iconst 1, 1) := by decide +kernel
theorem dX7_flips_24 : decode cX7_flips 24 = .ok (.goto 4, 3) := by decide +kernel
theorem dX7_flips_27 : decode cX7_flips 27 = .ok (.iconst 0, 1) := by decide +kernel
theorem dX7_flips_28 : decode cX7_flips 28 = .ok (.invokevirtual 57, 3) := by decide +kernel
theorem dX7_flips_31 : decode cX7_flips 31 = .ok (.iconst 1, 1) := by decide +kernel
theorem dX7_flips_32 : decode cX7_flips 32 = .ok (.if_icmp .ne 7, 3) := by decide +kernel
theorem dX7_flips_35 : decode cX7_flips 35 = .ok (.iconst 1, 1) := by decide +kernel
theorem dX7_flips_36 : decode cX7_flips 36 = .ok (.goto 4, 3) := by decide +kernel
theorem dX7_flips_39 : decode cX7_flips 39 = .ok (.iconst 0, 1) := by decide +kernel
theorem dX7_flips_40 : decode cX7_flips 40 = .ok (.ireturn, 1) := by decide +kernel
theorem dX7_exclude_0 : decode cX7_exclude 0 = .ok (.aload_n 0, 1) := by decide +kernel
theorem dX7_exclude_1 : decode cX7_exclude 1 = .ok (.iload_n 1, 1) := by decide +kernel
theorem dX7_exclude_2 : decode cX7_exclude 2 = .ok (.invokestatic 44, 3) := by decide +kernel
theorem dX7_exclude_5 : decode cX7_exclude 5 = .ok (.bipush 31, 2) := by decide +kernel
theorem dX7_exclude_7 : decode cX7_exclude 7 = .ok (.iload_n 1, 1) := by decide +kernel
theorem dX7_exclude_8 : decode cX7_exclude 8 = .ok (.iadd, 1) := by decide +kernel
theorem dX7_exclude_9 : decode cX7_exclude 9 = .ok (.iload_n 2, 1) := by decide +kernel
theorem dX7_exclude_10 : decode cX7_exclude 10 = .ok (.invokevirtual 61, 3) := by decide +kernel
theorem dX7_exclude_13 : decode cX7_exclude 13 = .ok (.ireturn, 1) := by decide +kernel
theorem dX7_setStranger_0 : decode cX7_setStranger 0 = .ok (.aload_n 0, 1) := by decide +kernel
theorem dX7_setStranger_1 : decode cX7_setStranger 1 = .ok (.iload_n 1, 1) := by decide +kernel
theorem dX7_setStranger_2 : decode cX7_setStranger 2 = .ok (.invokestatic 44, 3) := by decide +kernel
theorem dX7_setStranger_5 : decode cX7_setStranger 5 = .ok (.sipush 131, 3) := by decide +kernel
theorem dX7_setStranger_8 : decode cX7_setStranger 8 = .ok (.iload_n 1, 1) := by decide +kernel
theorem dX7_setStranger_9 : decode cX7_setStranger 9 = .ok (.iadd, 1) := by decide +kernel
theorem dX7_setStranger_10 : decode cX7_setStranger 10 = .ok (.iload_n 2, 1) := by decide +kernel
theorem dX7_setStranger_11 : decode cX7_setStranger 11 = .ok (.invokevirtual 61, 3) := by decide +kernel
theorem dX7_setStranger_14 : decode cX7_setStranger 14 = .ok (.ireturn, 1) := by decide +kernel
theorem dX7_setHold_0 : decode cX7_setHold 0 = .ok (.aload_n 0, 1) := by decide +kernel
theorem dX7_setHold_1 : decode cX7_setHold 1 = .ok (.iconst 0, 1) := by decide +kernel
theorem dX7_setHold_2 : decode cX7_setHold 2 = .ok (.putfield 19, 3) := by decide +kernel
theorem dX7_setHold_5 : decode cX7_setHold 5 = .ok (.iload_n 1, 1) := by decide +kernel
theorem dX7_setHold_6 : decode cX7_setHold 6 = .ok (.iconst 1, 1) := by decide +kernel
theorem dX7_setHold_7 : decode cX7_setHold 7 = .ok (.bipush 50, 2) := by decide +kernel
theorem dX7_setHold_9 : decode cX7_setHold 9 = .ok (.invokestatic 23, 3) := by decide +kernel
theorem dX7_setHold_12 : decode cX7_setHold 12 = .ok (.ifCond .eq 12, 3) := by decide +kernel
theorem dX7_setHold_15 : decode cX7_setHold 15 = .ok (.aload_n 0, 1) := by decide +kernel
theorem dX7_setHold_16 : decode cX7_setHold 16 = .ok (.iconst 1, 1) := by decide +kernel
theorem dX7_setHold_17 : decode cX7_setHold 17 = .ok (.iload_n 1, 1) := by decide +kernel
theorem dX7_setHold_18 : decode cX7_setHold 18 = .ok (.invokevirtual 57, 3) := by decide +kernel
theorem dX7_setHold_21 : decode cX7_setHold 21 = .ok (.goto 8, 3) := by decide +kernel
theorem dX7_setHold_24 : decode cX7_setHold 24 = .ok (.aload_n 0, 1) := by decide +kernel
theorem dX7_setHold_25 : decode cX7_setHold 25 = .ok (.iconst 1, 1) := by decide +kernel
theorem dX7_setHold_26 : decode cX7_setHold 26 = .ok (.invokevirtual 41, 3) := by decide +kernel
theorem dX7_setHold_29 : decode cX7_setHold 29 = .ok (.ireturn, 1) := by decide +kernel
theorem dX7_setQuarantine_0 : decode cX7_setQuarantine 0 = .ok (.aload_n 0, 1) := by decide +kernel
theorem dX7_setQuarantine_1 : decode cX7_setQuarantine 1 = .ok (.iconst 0, 1) := by decide +kernel
theorem dX7_setQuarantine_2 : decode cX7_setQuarantine 2 = .ok (.putfield 19, 3) := by decide +kernel
theorem dX7_setQuarantine_5 : decode cX7_setQuarantine 5 = .ok (.iload_n 1, 1) := by decide +kernel
theorem dX7_setQuarantine_6 : decode cX7_setQuarantine 6 = .ok (.iconst 1, 1) := by decide +kernel
theorem dX7_setQuarantine_7 : decode cX7_setQuarantine 7 = .ok (.sipush 500, 3) := by decide +kernel
theorem dX7_setQuarantine_10 : decode cX7_setQuarantine 10 = .ok (.invokestatic 23, 3) := by decide +kernel
theorem dX7_setQuarantine_13 : decode cX7_setQuarantine 13 = .ok (.ifCond .eq 12, 3) := by decide +kernel
theorem dX7_setQuarantine_16 : decode cX7_setQuarantine 16 = .ok (.aload_n 0, 1) := by decide +kernel
theorem dX7_setQuarantine_17 : decode cX7_setQuarantine 17 = .ok (.iconst 2, 1) := by decide +kernel
theorem dX7_setQuarantine_18 : decode cX7_setQuarantine 18 = .ok (.iload_n 1, 1) := by decide +kernel
theorem dX7_setQuarantine_19 : decode cX7_setQuarantine 19 = .ok (.invokevirtual 57, 3) := by decide +kernel
theorem dX7_setQuarantine_22 : decode cX7_setQuarantine 22 = .ok (.goto 8, 3) := by decide +kernel
theorem dX7_setQuarantine_25 : decode cX7_setQuarantine 25 = .ok (.aload_n 0, 1) := by decide +kernel
theorem dX7_setQuarantine_26 : decode cX7_setQuarantine 26 = .ok (.iconst 1, 1) := by decide +kernel
theorem dX7_setQuarantine_27 : decode cX7_setQuarantine 27 = .ok (.invokevirtual 41, 3) := by decide +kernel
theorem dX7_setQuarantine_30 : decode cX7_setQuarantine 30 = .ok (.ireturn, 1) := by decide +kernel
theorem dX7_setDirect_0 : decode cX7_setDirect 0 = .ok (.aload_n 0, 1) := by decide +kernel
theorem dX7_setDirect_1 : decode cX7_setDirect 1 = .ok (.iload_n 1, 1) := by decide +kernel
theorem dX7_setDirect_2 : decode cX7_setDirect 2 = .ok (.invokestatic 37, 3) := by decide +kernel
theorem dX7_setDirect_5 : decode cX7_setDirect 5 = .ok (.bipush 25, 2) := by decide +kernel
theorem dX7_setDirect_7 : decode cX7_setDirect 7 = .ok (.iload_n 1, 1) := by decide +kernel
theorem dX7_setDirect_8 : decode cX7_setDirect 8 = .ok (.iadd, 1) := by decide +kernel
theorem dX7_setDirect_9 : decode cX7_setDirect 9 = .ok (.iload_n 2, 1) := by decide +kernel
theorem dX7_setDirect_10 : decode cX7_setDirect 10 = .ok (.invokevirtual 61, 3) := by decide +kernel
theorem dX7_setDirect_13 : decode cX7_setDirect 13 = .ok (.ireturn, 1) := by decide +kernel
theorem dX7_setRelay_0 : decode cX7_setRelay 0 = .ok (.aload_n 0, 1) := by decide +kernel
theorem dX7_setRelay_1 : decode cX7_setRelay 1 = .ok (.iload_n 1, 1) := by decide +kernel
theorem dX7_setRelay_2 : decode cX7_setRelay 2 = .ok (.invokestatic 37, 3) := by decide +kernel
theorem dX7_setRelay_5 : decode cX7_setRelay 5 = .ok (.bipush 28, 2) := by decide +kernel
theorem dX7_setRelay_7 : decode cX7_setRelay 7 = .ok (.iload_n 1, 1) := by decide +kernel
theorem dX7_setRelay_8 : decode cX7_setRelay 8 = .ok (.iadd, 1) := by decide +kernel
theorem dX7_setRelay_9 : decode cX7_setRelay 9 = .ok (.iload_n 2, 1) := by decide +kernel
theorem dX7_setRelay_10 : decode cX7_setRelay 10 = .ok (.invokevirtual 61, 3) := by decide +kernel
theorem dX7_setRelay_13 : decode cX7_setRelay 13 = .ok (.ireturn, 1) := by decide +kernel
theorem dX7_frees_0 : decode cX7_frees 0 = .ok (.aload_n 0, 1) := by decide +kernel
theorem dX7_frees_1 : decode cX7_frees 1 = .ok (.getfield 9, 3) := by decide +kernel
theorem dX7_frees_4 : decode cX7_frees 4 = .ok (.sipush 231, 3) := by decide +kernel
theorem dX7_frees_7 : decode cX7_frees 7 = .ok (.iload_n 1, 1) := by decide +kernel
theorem dX7_frees_8 : decode cX7_frees 8 = .ok (.iadd, 1) := by decide +kernel
theorem dX7_frees_9 : decode cX7_frees 9 = .ok (.iconst 0, 1) := by decide +kernel
theorem dX7_frees_10 : decode cX7_frees 10 = .ok (.iastore, 1) := by decide +kernel
theorem dX7_frees_11 : decode cX7_frees 11 = .ok (.aload_n 0, 1) := by decide +kernel
theorem dX7_frees_12 : decode cX7_frees 12 = .ok (.getfield 9, 3) := by decide +kernel
theorem dX7_frees_15 : decode cX7_frees 15 = .ok (.sipush 531, 3) := by decide +kernel
theorem dX7_frees_18 : decode cX7_frees 18 = .ok (.iload_n 1, 1) := by decide +kernel
theorem dX7_frees_19 : decode cX7_frees 19 = .ok (.iadd, 1) := by decide +kernel
theorem dX7_frees_20 : decode cX7_frees 20 = .ok (.iload_n 2, 1) := by decide +kernel
theorem dX7_frees_21 : decode cX7_frees 21 = .ok (.iastore, 1) := by decide +kernel
theorem dX7_frees_22 : decode cX7_frees 22 = .ok (.return_, 1) := by decide +kernel
theorem dX7_declines_0 : decode cX7_declines 0 = .ok (.aload_n 0, 1) := by decide +kernel
theorem dX7_declines_1 : decode cX7_declines 1 = .ok (.getfield 9, 3) := by decide +kernel
theorem dX7_declines_4 : decode cX7_declines 4 = .ok (.sipush 231, 3) := by decide +kernel
theorem dX7_declines_7 : decode cX7_declines 7 = .ok (.iload_n 1, 1) := by decide +kernel
theorem dX7_declines_8 : decode cX7_declines 8 = .ok (.iadd, 1) := by decide +kernel
theorem dX7_declines_9 : decode cX7_declines 9 = .ok (.iconst 3, 1) := by decide +kernel
theorem dX7_declines_10 : decode cX7_declines 10 = .ok (.iastore, 1) := by decide +kernel
theorem dX7_declines_11 : decode cX7_declines 11 = .ok (.aload_n 0, 1) := by decide +kernel
theorem dX7_declines_12 : decode cX7_declines 12 = .ok (.getfield 9, 3) := by decide +kernel
theorem dX7_declines_15 : decode cX7_declines 15 = .ok (.sipush 431, 3) := by decide +kernel
theorem dX7_declines_18 : decode cX7_declines 18 = .ok (.iload_n 1, 1) := by decide +kernel
theorem dX7_declines_19 : decode cX7_declines 19 = .ok (.iadd, 1) := by decide +kernel
theorem dX7_declines_20 : decode cX7_declines 20 = .ok (.aload_n 0, 1) := by decide +kernel
theorem dX7_declines_21 : decode cX7_declines 21 = .ok (.getfield 9, 3) := by decide +kernel
theorem dX7_declines_24 : decode cX7_declines 24 = .ok (.iconst 0, 1) := by decide +kernel
theorem dX7_declines_25 : decode cX7_declines 25 = .ok (.iaload, 1) := by decide +kernel
theorem dX7_declines_26 : decode cX7_declines 26 = .ok (.aload_n 0, 1) := by decide +kernel
theorem dX7_declines_27 : decode cX7_declines 27 = .ok (.getfield 9, 3) := by decide +kernel
theorem dX7_declines_30 : decode cX7_declines 30 = .ok (.iconst 2, 1) := by decide +kernel
theorem dX7_declines_31 : decode cX7_declines 31 = .ok (.iaload, 1) := by decide +kernel
theorem dX7_declines_32 : decode cX7_declines 32 = .ok (.iadd, 1) := by decide +kernel
theorem dX7_declines_33 : decode cX7_declines 33 = .ok (.iastore, 1) := by decide +kernel
theorem dX7_declines_34 : decode cX7_declines 34 = .ok (.return_, 1) := by decide +kernel
theorem dX7_isBound_0 : decode cX7_isBound 0 = .ok (.aload_n 0, 1) := by decide +kernel
theorem dX7_isBound_1 : decode cX7_isBound 1 = .ok (.getfield 9, 3) := by decide +kernel
theorem dX7_isBound_4 : decode cX7_isBound 4 = .ok (.sipush 631, 3) := by decide +kernel
theorem dX7_isBound_7 : decode cX7_isBound 7 = .ok (.iload_n 1, 1) := by decide +kernel
theorem dX7_isBound_8 : decode cX7_isBound 8 = .ok (.iadd, 1) := by decide +kernel
theorem dX7_isBound_9 : decode cX7_isBound 9 = .ok (.iaload, 1) := by decide +kernel
theorem dX7_isBound_10 : decode cX7_isBound 10 = .ok (.iconst 1, 1) := by decide +kernel
theorem dX7_isBound_11 : decode cX7_isBound 11 = .ok (.if_icmp .le 7, 3) := by decide +kernel
theorem dX7_isBound_14 : decode cX7_isBound 14 = .ok (.iconst 1, 1) := by decide +kernel
theorem dX7_isBound_15 : decode cX7_isBound 15 = .ok (.goto 4, 3) := by decide +kernel
theorem dX7_isBound_18 : decode cX7_isBound 18 = .ok (.iconst 0, 1) := by decide +kernel
theorem dX7_isBound_19 : decode cX7_isBound 19 = .ok (.ireturn, 1) := by decide +kernel
theorem dX7_candidate_0 : decode cX7_candidate 0 = .ok (.aload_n 0, 1) := by decide +kernel
theorem dX7_candidate_1 : decode cX7_candidate 1 = .ok (.getfield 9, 3) := by decide +kernel
theorem dX7_candidate_4 : decode cX7_candidate 4 = .ok (.sipush 711, 3) := by decide +kernel
theorem dX7_candidate_7 : decode cX7_candidate 7 = .ok (.iload_n 1, 1) := by decide +kernel
theorem dX7_candidate_8 : decode cX7_candidate 8 = .ok (.iadd, 1) := by decide +kernel
theorem dX7_candidate_9 : decode cX7_candidate 9 = .ok (.iaload, 1) := by decide +kernel
theorem dX7_candidate_10 : decode cX7_candidate 10 = .ok (.iconst 1, 1) := by decide +kernel
theorem dX7_candidate_11 : decode cX7_candidate 11 = .ok (.isub, 1) := by decide +kernel
theorem dX7_candidate_12 : decode cX7_candidate 12 = .ok (.istore 4, 2) := by decide +kernel
theorem dX7_candidate_14 : decode cX7_candidate 14 = .ok (.iload 4, 2) := by decide +kernel
theorem dX7_candidate_16 : decode cX7_candidate 16 = .ok (.ifCond .lt 16, 3) := by decide +kernel
theorem dX7_candidate_19 : decode cX7_candidate 19 = .ok (.aload_n 0, 1) := by decide +kernel
theorem dX7_candidate_20 : decode cX7_candidate 20 = .ok (.iload 4, 2) := by decide +kernel
theorem dX7_candidate_22 : decode cX7_candidate 22 = .ok (.iload_n 2, 1) := by decide +kernel
theorem dX7_candidate_23 : decode cX7_candidate 23 = .ok (.invokevirtual 53, 3) := by decide +kernel
theorem dX7_candidate_26 : decode cX7_candidate 26 = .ok (.ifCond .eq 6, 3) := by decide +kernel
theorem dX7_candidate_29 : decode cX7_candidate 29 = .ok (.iload 4, 2) := by decide +kernel
theorem dX7_candidate_31 : decode cX7_candidate 31 = .ok (.ireturn, 1) := by decide +kernel
theorem dX7_candidate_32 : decode cX7_candidate 32 = .ok (.iload_n 3, 1) := by decide +kernel
theorem dX7_candidate_33 : decode cX7_candidate 33 = .ok (.invokestatic 44, 3) := by decide +kernel
theorem dX7_candidate_36 : decode cX7_candidate 36 = .ok (.ifCond .eq 14, 3) := by decide +kernel
theorem dX7_candidate_39 : decode cX7_candidate 39 = .ok (.aload_n 0, 1) := by decide +kernel
theorem dX7_candidate_40 : decode cX7_candidate 40 = .ok (.iload_n 3, 1) := by decide +kernel
theorem dX7_candidate_41 : decode cX7_candidate 41 = .ok (.iload_n 2, 1) := by decide +kernel
theorem dX7_candidate_42 : decode cX7_candidate 42 = .ok (.invokevirtual 53, 3) := by decide +kernel
theorem dX7_candidate_45 : decode cX7_candidate 45 = .ok (.ifCond .eq 5, 3) := by decide +kernel
theorem dX7_candidate_48 : decode cX7_candidate 48 = .ok (.iload_n 3, 1) := by decide +kernel
theorem dX7_candidate_49 : decode cX7_candidate 49 = .ok (.ireturn, 1) := by decide +kernel
theorem dX7_candidate_50 : decode cX7_candidate 50 = .ok (.iconst (-1), 1) := by decide +kernel
theorem dX7_candidate_51 : decode cX7_candidate 51 = .ok (.istore 5, 2) := by decide +kernel
theorem dX7_candidate_53 : decode cX7_candidate 53 = .ok (.iconst 0, 1) := by decide +kernel
theorem dX7_candidate_54 : decode cX7_candidate 54 = .ok (.istore 6, 2) := by decide +kernel
theorem dX7_candidate_56 : decode cX7_candidate 56 = .ok (.iload 6, 2) := by decide +kernel
theorem dX7_candidate_58 : decode cX7_candidate 58 = .ok (.bipush 100, 2) := by decide +kernel
theorem dX7_candidate_60 : decode cX7_candidate 60 = .ok (.if_icmp .ge 53, 3) := by decide +kernel
theorem dX7_candidate_63 : decode cX7_candidate 63 = .ok (.aload_n 0, 1) := by decide +kernel
theorem dX7_candidate_64 : decode cX7_candidate 64 = .ok (.iload 6, 2) := by decide +kernel
theorem dX7_candidate_66 : decode cX7_candidate 66 = .ok (.iload_n 2, 1) := by decide +kernel
theorem dX7_candidate_67 : decode cX7_candidate 67 = .ok (.invokevirtual 53, 3) := by decide +kernel
theorem dX7_candidate_70 : decode cX7_candidate 70 = .ok (.ifCond .eq 37, 3) := by decide +kernel
theorem dX7_candidate_73 : decode cX7_candidate 73 = .ok (.iload 5, 2) := by decide +kernel
theorem dX7_candidate_75 : decode cX7_candidate 75 = .ok (.ifCond .lt 28, 3) := by decide +kernel
theorem dX7_candidate_78 : decode cX7_candidate 78 = .ok (.aload_n 0, 1) := by decide +kernel
theorem dX7_candidate_79 : decode cX7_candidate 79 = .ok (.getfield 9, 3) := by decide +kernel
theorem dX7_candidate_82 : decode cX7_candidate 82 = .ok (.sipush 531, 3) := by decide +kernel
theorem dX7_candidate_85 : decode cX7_candidate 85 = .ok (.iload 6, 2) := by decide +kernel
theorem dX7_candidate_87 : decode cX7_candidate 87 = .ok (.iadd, 1) := by decide +kernel
theorem dX7_candidate_88 : decode cX7_candidate 88 = .ok (.iaload, 1) := by decide +kernel
theorem dX7_candidate_89 : decode cX7_candidate 89 = .ok (.aload_n 0, 1) := by decide +kernel
theorem dX7_candidate_90 : decode cX7_candidate 90 = .ok (.getfield 9, 3) := by decide +kernel
theorem dX7_candidate_93 : decode cX7_candidate 93 = .ok (.sipush 531, 3) := by decide +kernel
theorem dX7_candidate_96 : decode cX7_candidate 96 = .ok (.iload 5, 2) := by decide +kernel
theorem dX7_candidate_98 : decode cX7_candidate 98 = .ok (.iadd, 1) := by decide +kernel
theorem dX7_candidate_99 : decode cX7_candidate 99 = .ok (.iaload, 1) := by decide +kernel
theorem dX7_candidate_100 : decode cX7_candidate 100 = .ok (.if_icmp .ge 7, 3) := by decide +kernel
theorem dX7_candidate_103 : decode cX7_candidate 103 = .ok (.iload 6, 2) := by decide +kernel
theorem dX7_candidate_105 : decode cX7_candidate 105 = .ok (.istore 5, 2) := by decide +kernel
theorem dX7_candidate_107 : decode cX7_candidate 107 = .ok (.iinc 6 1, 3) := by decide +kernel
theorem dX7_candidate_110 : decode cX7_candidate 110 = .ok (.goto (-54), 3) := by decide +kernel
theorem dX7_candidate_113 : decode cX7_candidate 113 = .ok (.iload 5, 2) := by decide +kernel
theorem dX7_candidate_115 : decode cX7_candidate 115 = .ok (.ireturn, 1) := by decide +kernel
theorem dX7_discover_0 : decode cX7_discover 0 = .ok (.aload_n 0, 1) := by decide +kernel
theorem dX7_discover_1 : decode cX7_discover 1 = .ok (.iconst 0, 1) := by decide +kernel
theorem dX7_discover_2 : decode cX7_discover 2 = .ok (.putfield 19, 3) := by decide +kernel
theorem dX7_discover_5 : decode cX7_discover 5 = .ok (.iload_n 1, 1) := by decide +kernel
theorem dX7_discover_6 : decode cX7_discover 6 = .ok (.invokestatic 65, 3) := by decide +kernel
theorem dX7_discover_9 : decode cX7_discover 9 = .ok (.ifCond .eq 10, 3) := by decide +kernel
theorem dX7_discover_12 : decode cX7_discover 12 = .ok (.iload_n 2, 1) := by decide +kernel
theorem dX7_discover_13 : decode cX7_discover 13 = .ok (.invokestatic 37, 3) := by decide +kernel
theorem dX7_discover_16 : decode cX7_discover 16 = .ok (.ifCond .ne 9, 3) := by decide +kernel
theorem dX7_discover_19 : decode cX7_discover 19 = .ok (.aload_n 0, 1) := by decide +kernel
theorem dX7_discover_20 : decode cX7_discover 20 = .ok (.iconst 1, 1) := by decide +kernel
theorem dX7_discover_21 : decode cX7_discover 21 = .ok (.invokevirtual 41, 3) := by decide +kernel
theorem dX7_discover_24 : decode cX7_discover 24 = .ok (.ireturn, 1) := by decide +kernel
theorem dX7_discover_25 : decode cX7_discover 25 = .ok (.aload_n 0, 1) := by decide +kernel
theorem dX7_discover_26 : decode cX7_discover 26 = .ok (.iload_n 1, 1) := by decide +kernel
theorem dX7_discover_27 : decode cX7_discover 27 = .ok (.invokevirtual 68, 3) := by decide +kernel
theorem dX7_discover_30 : decode cX7_discover 30 = .ok (.ifCond .ne 15, 3) := by decide +kernel
theorem dX7_discover_33 : decode cX7_discover 33 = .ok (.aload_n 0, 1) := by decide +kernel
theorem dX7_discover_34 : decode cX7_discover 34 = .ok (.getfield 9, 3) := by decide +kernel
theorem dX7_discover_37 : decode cX7_discover 37 = .ok (.bipush 28, 2) := by decide +kernel
theorem dX7_discover_39 : decode cX7_discover 39 = .ok (.iload_n 2, 1) := by decide +kernel
theorem dX7_discover_40 : decode cX7_discover 40 = .ok (.iadd, 1) := by decide +kernel
theorem dX7_discover_41 : decode cX7_discover 41 = .ok (.iaload, 1) := by decide +kernel
theorem dX7_discover_42 : decode cX7_discover 42 = .ok (.ifCond .ne 9, 3) := by decide +kernel
theorem dX7_discover_45 : decode cX7_discover 45 = .ok (.aload_n 0, 1) := by decide +kernel
theorem dX7_discover_46 : decode cX7_discover 46 = .ok (.iconst 2, 1) := by decide +kernel
theorem dX7_discover_47 : decode cX7_discover 47 = .ok (.invokevirtual 41, 3) := by decide +kernel
theorem dX7_discover_50 : decode cX7_discover 50 = .ok (.ireturn, 1) := by decide +kernel
theorem dX7_discover_51 : decode cX7_discover 51 = .ok (.aload_n 0, 1) := by decide +kernel
theorem dX7_discover_52 : decode cX7_discover 52 = .ok (.getfield 9, 3) := by decide +kernel
theorem dX7_discover_55 : decode cX7_discover 55 = .ok (.sipush 631, 3) := by decide +kernel
theorem dX7_discover_58 : decode cX7_discover 58 = .ok (.iload_n 1, 1) := by decide +kernel
theorem dX7_discover_59 : decode cX7_discover 59 = .ok (.iadd, 1) := by decide +kernel
theorem dX7_discover_60 : decode cX7_discover 60 = .ok (.iaload, 1) := by decide +kernel
theorem dX7_discover_61 : decode cX7_discover 61 = .ok (.iconst 1, 1) := by decide +kernel
theorem dX7_discover_62 : decode cX7_discover 62 = .ok (.if_icmp .ne 23, 3) := by decide +kernel
theorem dX7_discover_65 : decode cX7_discover 65 = .ok (.aload_n 0, 1) := by decide +kernel
theorem dX7_discover_66 : decode cX7_discover 66 = .ok (.aload_n 0, 1) := by decide +kernel
theorem dX7_discover_67 : decode cX7_discover 67 = .ok (.getfield 9, 3) := by decide +kernel
theorem dX7_discover_70 : decode cX7_discover 70 = .ok (.sipush 651, 3) := by decide +kernel
theorem dX7_discover_73 : decode cX7_discover 73 = .ok (.iload_n 1, 1) := by decide +kernel
theorem dX7_discover_74 : decode cX7_discover 74 = .ok (.iadd, 1) := by decide +kernel
theorem dX7_discover_75 : decode cX7_discover 75 = .ok (.iaload, 1) := by decide +kernel
theorem dX7_discover_76 : decode cX7_discover 76 = .ok (.aload_n 0, 1) := by decide +kernel
theorem dX7_discover_77 : decode cX7_discover 77 = .ok (.getfield 9, 3) := by decide +kernel
theorem dX7_discover_80 : decode cX7_discover 80 = .ok (.iconst 0, 1) := by decide +kernel
theorem dX7_discover_81 : decode cX7_discover 81 = .ok (.iaload, 1) := by decide +kernel
theorem dX7_discover_82 : decode cX7_discover 82 = .ok (.invokevirtual 71, 3) := by decide +kernel
theorem dX7_discover_85 : decode cX7_discover 85 = .ok (.aload_n 0, 1) := by decide +kernel
theorem dX7_discover_86 : decode cX7_discover 86 = .ok (.getfield 9, 3) := by decide +kernel
theorem dX7_discover_89 : decode cX7_discover 89 = .ok (.sipush 631, 3) := by decide +kernel
theorem dX7_discover_92 : decode cX7_discover 92 = .ok (.iload_n 1, 1) := by decide +kernel
theorem dX7_discover_93 : decode cX7_discover 93 = .ok (.iadd, 1) := by decide +kernel
theorem dX7_discover_94 : decode cX7_discover 94 = .ok (.iconst 0, 1) := by decide +kernel
theorem dX7_discover_95 : decode cX7_discover 95 = .ok (.iastore, 1) := by decide +kernel
theorem dX7_discover_96 : decode cX7_discover 96 = .ok (.aload_n 0, 1) := by decide +kernel
theorem dX7_discover_97 : decode cX7_discover 97 = .ok (.iload_n 1, 1) := by decide +kernel
theorem dX7_discover_98 : decode cX7_discover 98 = .ok (.iload_n 2, 1) := by decide +kernel
theorem dX7_discover_99 : decode cX7_discover 99 = .ok (.iload_n 3, 1) := by decide +kernel
theorem dX7_discover_100 : decode cX7_discover 100 = .ok (.invokevirtual 75, 3) := by decide +kernel
theorem dX7_discover_103 : decode cX7_discover 103 = .ok (.istore 4, 2) := by decide +kernel
theorem dX7_discover_105 : decode cX7_discover 105 = .ok (.iload 4, 2) := by decide +kernel
theorem dX7_discover_107 : decode cX7_discover 107 = .ok (.ifCond .lt 54, 3) := by decide +kernel
theorem dX7_discover_110 : decode cX7_discover 110 = .ok (.aload_n 0, 1) := by decide +kernel
theorem dX7_discover_111 : decode cX7_discover 111 = .ok (.getfield 9, 3) := by decide +kernel
theorem dX7_discover_114 : decode cX7_discover 114 = .ok (.sipush 131, 3) := by decide +kernel
theorem dX7_discover_117 : decode cX7_discover 117 = .ok (.iload 4, 2) := by decide +kernel
theorem dX7_discover_119 : decode cX7_discover 119 = .ok (.iadd, 1) := by decide +kernel
theorem dX7_discover_120 : decode cX7_discover 120 = .ok (.iaload, 1) := by decide +kernel
theorem dX7_discover_121 : decode cX7_discover 121 = .ok (.iconst 1, 1) := by decide +kernel
theorem dX7_discover_122 : decode cX7_discover 122 = .ok (.if_icmp .ne 39, 3) := by decide +kernel
theorem dX7_discover_125 : decode cX7_discover 125 = .ok (.aload_n 0, 1) := by decide +kernel
theorem dX7_discover_126 : decode cX7_discover 126 = .ok (.iload 4, 2) := by decide +kernel
theorem dX7_discover_128 : decode cX7_discover 128 = .ok (.invokevirtual 79, 3) := by decide +kernel
theorem dX7_discover_131 : decode cX7_discover 131 = .ok (.aload_n 0, 1) := by decide +kernel
theorem dX7_discover_132 : decode cX7_discover 132 = .ok (.getfield 9, 3) := by decide +kernel
theorem dX7_discover_135 : decode cX7_discover 135 = .ok (.iconst 3, 1) := by decide +kernel
theorem dX7_discover_136 : decode cX7_discover 136 = .ok (.dup2, 1) := by decide +kernel
theorem dX7_discover_137 : decode cX7_discover 137 = .ok (.iaload, 1) := by decide +kernel
theorem dX7_discover_138 : decode cX7_discover 138 = .ok (.iconst 1, 1) := by decide +kernel
theorem dX7_discover_139 : decode cX7_discover 139 = .ok (.iadd, 1) := by decide +kernel
theorem dX7_discover_140 : decode cX7_discover 140 = .ok (.iastore, 1) := by decide +kernel
theorem dX7_discover_141 : decode cX7_discover 141 = .ok (.aload_n 0, 1) := by decide +kernel
theorem dX7_discover_142 : decode cX7_discover 142 = .ok (.bipush 8, 2) := by decide +kernel
theorem dX7_discover_144 : decode cX7_discover 144 = .ok (.iload 4, 2) := by decide +kernel
theorem dX7_discover_146 : decode cX7_discover 146 = .ok (.invokevirtual 83, 3) := by decide +kernel
theorem dX7_discover_149 : decode cX7_discover 149 = .ok (.aload_n 0, 1) := by decide +kernel
theorem dX7_discover_150 : decode cX7_discover 150 = .ok (.iload_n 1, 1) := by decide +kernel
theorem dX7_discover_151 : decode cX7_discover 151 = .ok (.iload_n 2, 1) := by decide +kernel
theorem dX7_discover_152 : decode cX7_discover 152 = .ok (.iload_n 3, 1) := by decide +kernel
theorem dX7_discover_153 : decode cX7_discover 153 = .ok (.invokevirtual 75, 3) := by decide +kernel
theorem dX7_discover_156 : decode cX7_discover 156 = .ok (.istore 4, 2) := by decide +kernel
theorem dX7_discover_158 : decode cX7_discover 158 = .ok (.goto (-53), 3) := by decide +kernel
theorem dX7_discover_161 : decode cX7_discover 161 = .ok (.iload 4, 2) := by decide +kernel
theorem dX7_discover_163 : decode cX7_discover 163 = .ok (.ifCond .ge 9, 3) := by decide +kernel
theorem dX7_discover_166 : decode cX7_discover 166 = .ok (.aload_n 0, 1) := by decide +kernel
theorem dX7_discover_167 : decode cX7_discover 167 = .ok (.iconst 3, 1) := by decide +kernel
theorem dX7_discover_168 : decode cX7_discover 168 = .ok (.invokevirtual 41, 3) := by decide +kernel
theorem dX7_discover_171 : decode cX7_discover 171 = .ok (.ireturn, 1) := by decide +kernel
theorem dX7_discover_172 : decode cX7_discover 172 = .ok (.aload_n 0, 1) := by decide +kernel
theorem dX7_discover_173 : decode cX7_discover 173 = .ok (.getfield 9, 3) := by decide +kernel
theorem dX7_discover_176 : decode cX7_discover 176 = .ok (.sipush 231, 3) := by decide +kernel
theorem dX7_discover_179 : decode cX7_discover 179 = .ok (.iload 4, 2) := by decide +kernel
theorem dX7_discover_181 : decode cX7_discover 181 = .ok (.iadd, 1) := by decide +kernel
theorem dX7_discover_182 : decode cX7_discover 182 = .ok (.iconst 1, 1) := by decide +kernel
theorem dX7_discover_183 : decode cX7_discover 183 = .ok (.iastore, 1) := by decide +kernel
theorem dX7_discover_184 : decode cX7_discover 184 = .ok (.aload_n 0, 1) := by decide +kernel
theorem dX7_discover_185 : decode cX7_discover 185 = .ok (.getfield 9, 3) := by decide +kernel
theorem dX7_discover_188 : decode cX7_discover 188 = .ok (.sipush 331, 3) := by decide +kernel
theorem dX7_discover_191 : decode cX7_discover 191 = .ok (.iload 4, 2) := by decide +kernel
theorem dX7_discover_193 : decode cX7_discover 193 = .ok (.iadd, 1) := by decide +kernel
theorem dX7_discover_194 : decode cX7_discover 194 = .ok (.iload_n 1, 1) := by decide +kernel
theorem dX7_discover_195 : decode cX7_discover 195 = .ok (.iastore, 1) := by decide +kernel
theorem dX7_discover_196 : decode cX7_discover 196 = .ok (.aload_n 0, 1) := by decide +kernel
theorem dX7_discover_197 : decode cX7_discover 197 = .ok (.getfield 9, 3) := by decide +kernel
theorem dX7_discover_200 : decode cX7_discover 200 = .ok (.sipush 431, 3) := by decide +kernel
theorem dX7_discover_203 : decode cX7_discover 203 = .ok (.iload 4, 2) := by decide +kernel
theorem dX7_discover_205 : decode cX7_discover 205 = .ok (.iadd, 1) := by decide +kernel
theorem dX7_discover_206 : decode cX7_discover 206 = .ok (.aload_n 0, 1) := by decide +kernel
theorem dX7_discover_207 : decode cX7_discover 207 = .ok (.getfield 9, 3) := by decide +kernel
theorem dX7_discover_210 : decode cX7_discover 210 = .ok (.iconst 0, 1) := by decide +kernel
theorem dX7_discover_211 : decode cX7_discover 211 = .ok (.iaload, 1) := by decide +kernel
theorem dX7_discover_212 : decode cX7_discover 212 = .ok (.aload_n 0, 1) := by decide +kernel
theorem dX7_discover_213 : decode cX7_discover 213 = .ok (.getfield 9, 3) := by decide +kernel
theorem dX7_discover_216 : decode cX7_discover 216 = .ok (.iconst 1, 1) := by decide +kernel
theorem dX7_discover_217 : decode cX7_discover 217 = .ok (.iaload, 1) := by decide +kernel
theorem dX7_discover_218 : decode cX7_discover 218 = .ok (.iadd, 1) := by decide +kernel
theorem dX7_discover_219 : decode cX7_discover 219 = .ok (.iastore, 1) := by decide +kernel
theorem dX7_discover_220 : decode cX7_discover 220 = .ok (.aload_n 0, 1) := by decide +kernel
theorem dX7_discover_221 : decode cX7_discover 221 = .ok (.getfield 9, 3) := by decide +kernel
theorem dX7_discover_224 : decode cX7_discover 224 = .ok (.sipush 631, 3) := by decide +kernel
theorem dX7_discover_227 : decode cX7_discover 227 = .ok (.iload_n 1, 1) := by decide +kernel
theorem dX7_discover_228 : decode cX7_discover 228 = .ok (.iadd, 1) := by decide +kernel
theorem dX7_discover_229 : decode cX7_discover 229 = .ok (.iconst 1, 1) := by decide +kernel
theorem dX7_discover_230 : decode cX7_discover 230 = .ok (.iastore, 1) := by decide +kernel
theorem dX7_discover_231 : decode cX7_discover 231 = .ok (.aload_n 0, 1) := by decide +kernel
theorem dX7_discover_232 : decode cX7_discover 232 = .ok (.getfield 9, 3) := by decide +kernel
theorem dX7_discover_235 : decode cX7_discover 235 = .ok (.sipush 651, 3) := by decide +kernel
theorem dX7_discover_238 : decode cX7_discover 238 = .ok (.iload_n 1, 1) := by decide +kernel
theorem dX7_discover_239 : decode cX7_discover 239 = .ok (.iadd, 1) := by decide +kernel
theorem dX7_discover_240 : decode cX7_discover 240 = .ok (.iload 4, 2) := by decide +kernel
theorem dX7_discover_242 : decode cX7_discover 242 = .ok (.iastore, 1) := by decide +kernel
theorem dX7_discover_243 : decode cX7_discover 243 = .ok (.aload_n 0, 1) := by decide +kernel
theorem dX7_discover_244 : decode cX7_discover 244 = .ok (.iconst 1, 1) := by decide +kernel
theorem dX7_discover_245 : decode cX7_discover 245 = .ok (.iload 4, 2) := by decide +kernel
theorem dX7_discover_247 : decode cX7_discover 247 = .ok (.invokevirtual 83, 3) := by decide +kernel
theorem dX7_discover_250 : decode cX7_discover 250 = .ok (.iload 4, 2) := by decide +kernel
theorem dX7_discover_252 : decode cX7_discover 252 = .ok (.ireturn, 1) := by decide +kernel
theorem dX7_lasts_0 : decode cX7_lasts 0 = .ok (.aload_n 0, 1) := by decide +kernel
theorem dX7_lasts_1 : decode cX7_lasts 1 = .ok (.getfield 9, 3) := by decide +kernel
theorem dX7_lasts_4 : decode cX7_lasts 4 = .ok (.sipush 651, 3) := by decide +kernel
theorem dX7_lasts_7 : decode cX7_lasts 7 = .ok (.iload_n 1, 1) := by decide +kernel
theorem dX7_lasts_8 : decode cX7_lasts 8 = .ok (.iadd, 1) := by decide +kernel
theorem dX7_lasts_9 : decode cX7_lasts 9 = .ok (.iaload, 1) := by decide +kernel
theorem dX7_lasts_10 : decode cX7_lasts 10 = .ok (.istore_n 3, 1) := by decide +kernel
theorem dX7_lasts_11 : decode cX7_lasts 11 = .ok (.aload_n 0, 1) := by decide +kernel
theorem dX7_lasts_12 : decode cX7_lasts 12 = .ok (.getfield 9, 3) := by decide +kernel
theorem dX7_lasts_15 : decode cX7_lasts 15 = .ok (.aload_n 0, 1) := by decide +kernel
theorem dX7_lasts_16 : decode cX7_lasts 16 = .ok (.aload_n 0, 1) := by decide +kernel
theorem dX7_lasts_17 : decode cX7_lasts 17 = .ok (.iload_n 3, 1) := by decide +kernel
theorem dX7_lasts_18 : decode cX7_lasts 18 = .ok (.invokevirtual 34, 3) := by decide +kernel
theorem dX7_lasts_21 : decode cX7_lasts 21 = .ok (.invokevirtual 30, 3) := by decide +kernel
theorem dX7_lasts_24 : decode cX7_lasts 24 = .ok (.iconst 3, 1) := by decide +kernel
theorem dX7_lasts_25 : decode cX7_lasts 25 = .ok (.iadd, 1) := by decide +kernel
theorem dX7_lasts_26 : decode cX7_lasts 26 = .ok (.iaload, 1) := by decide +kernel
theorem dX7_lasts_27 : decode cX7_lasts 27 = .ok (.istore 4, 2) := by decide +kernel
theorem dX7_lasts_29 : decode cX7_lasts 29 = .ok (.aload_n 0, 1) := by decide +kernel
theorem dX7_lasts_30 : decode cX7_lasts 30 = .ok (.getfield 9, 3) := by decide +kernel
theorem dX7_lasts_33 : decode cX7_lasts 33 = .ok (.sipush 631, 3) := by decide +kernel
theorem dX7_lasts_36 : decode cX7_lasts 36 = .ok (.iload_n 1, 1) := by decide +kernel
theorem dX7_lasts_37 : decode cX7_lasts 37 = .ok (.iadd, 1) := by decide +kernel
theorem dX7_lasts_38 : decode cX7_lasts 38 = .ok (.iconst 2, 1) := by decide +kernel
theorem dX7_lasts_39 : decode cX7_lasts 39 = .ok (.iastore, 1) := by decide +kernel
theorem dX7_lasts_40 : decode cX7_lasts 40 = .ok (.aload_n 0, 1) := by decide +kernel
theorem dX7_lasts_41 : decode cX7_lasts 41 = .ok (.getfield 9, 3) := by decide +kernel
theorem dX7_lasts_44 : decode cX7_lasts 44 = .ok (.sipush 671, 3) := by decide +kernel
theorem dX7_lasts_47 : decode cX7_lasts 47 = .ok (.iload_n 1, 1) := by decide +kernel
theorem dX7_lasts_48 : decode cX7_lasts 48 = .ok (.iadd, 1) := by decide +kernel
theorem dX7_lasts_49 : decode cX7_lasts 49 = .ok (.iload_n 2, 1) := by decide +kernel
theorem dX7_lasts_50 : decode cX7_lasts 50 = .ok (.iload 4, 2) := by decide +kernel
theorem dX7_lasts_52 : decode cX7_lasts 52 = .ok (.iconst 2, 1) := by decide +kernel
theorem dX7_lasts_53 : decode cX7_lasts 53 = .ok (.idiv, 1) := by decide +kernel
theorem dX7_lasts_54 : decode cX7_lasts 54 = .ok (.iadd, 1) := by decide +kernel
theorem dX7_lasts_55 : decode cX7_lasts 55 = .ok (.iastore, 1) := by decide +kernel
theorem dX7_lasts_56 : decode cX7_lasts 56 = .ok (.aload_n 0, 1) := by decide +kernel
theorem dX7_lasts_57 : decode cX7_lasts 57 = .ok (.getfield 9, 3) := by decide +kernel
theorem dX7_lasts_60 : decode cX7_lasts 60 = .ok (.sipush 691, 3) := by decide +kernel
theorem dX7_lasts_63 : decode cX7_lasts 63 = .ok (.iload_n 1, 1) := by decide +kernel
theorem dX7_lasts_64 : decode cX7_lasts 64 = .ok (.iadd, 1) := by decide +kernel
theorem dX7_lasts_65 : decode cX7_lasts 65 = .ok (.iload_n 2, 1) := by decide +kernel
theorem dX7_lasts_66 : decode cX7_lasts 66 = .ok (.bipush 7, 2) := by decide +kernel
theorem dX7_lasts_68 : decode cX7_lasts 68 = .ok (.iload 4, 2) := by decide +kernel
theorem dX7_lasts_70 : decode cX7_lasts 70 = .ok (.imul, 1) := by decide +kernel
theorem dX7_lasts_71 : decode cX7_lasts 71 = .ok (.bipush 8, 2) := by decide +kernel
theorem dX7_lasts_73 : decode cX7_lasts 73 = .ok (.idiv, 1) := by decide +kernel
theorem dX7_lasts_74 : decode cX7_lasts 74 = .ok (.iadd, 1) := by decide +kernel
theorem dX7_lasts_75 : decode cX7_lasts 75 = .ok (.iastore, 1) := by decide +kernel
theorem dX7_lasts_76 : decode cX7_lasts 76 = .ok (.aload_n 0, 1) := by decide +kernel
theorem dX7_lasts_77 : decode cX7_lasts 77 = .ok (.getfield 9, 3) := by decide +kernel
theorem dX7_lasts_80 : decode cX7_lasts 80 = .ok (.sipush 431, 3) := by decide +kernel
theorem dX7_lasts_83 : decode cX7_lasts 83 = .ok (.iload_n 3, 1) := by decide +kernel
theorem dX7_lasts_84 : decode cX7_lasts 84 = .ok (.iadd, 1) := by decide +kernel
theorem dX7_lasts_85 : decode cX7_lasts 85 = .ok (.iload_n 2, 1) := by decide +kernel
theorem dX7_lasts_86 : decode cX7_lasts 86 = .ok (.iload 4, 2) := by decide +kernel
theorem dX7_lasts_88 : decode cX7_lasts 88 = .ok (.iadd, 1) := by decide +kernel
theorem dX7_lasts_89 : decode cX7_lasts 89 = .ok (.iastore, 1) := by decide +kernel
theorem dX7_lasts_90 : decode cX7_lasts 90 = .ok (.return_, 1) := by decide +kernel
theorem dX7_accept_0 : decode cX7_accept 0 = .ok (.aload_n 0, 1) := by decide +kernel
theorem dX7_accept_1 : decode cX7_accept 1 = .ok (.iconst 0, 1) := by decide +kernel
theorem dX7_accept_2 : decode cX7_accept 2 = .ok (.putfield 19, 3) := by decide +kernel
theorem dX7_accept_5 : decode cX7_accept 5 = .ok (.iload_n 1, 1) := by decide +kernel
theorem dX7_accept_6 : decode cX7_accept 6 = .ok (.invokestatic 65, 3) := by decide +kernel
theorem dX7_accept_9 : decode cX7_accept 9 = .ok (.ifCond .ne 9, 3) := by decide +kernel
theorem dX7_accept_12 : decode cX7_accept 12 = .ok (.aload_n 0, 1) := by decide +kernel
theorem dX7_accept_13 : decode cX7_accept 13 = .ok (.iconst 1, 1) := by decide +kernel
theorem dX7_accept_14 : decode cX7_accept 14 = .ok (.invokevirtual 41, 3) := by decide +kernel
theorem dX7_accept_17 : decode cX7_accept 17 = .ok (.ireturn, 1) := by decide +kernel
theorem dX7_accept_18 : decode cX7_accept 18 = .ok (.aload_n 0, 1) := by decide +kernel
theorem dX7_accept_19 : decode cX7_accept 19 = .ok (.getfield 9, 3) := by decide +kernel
theorem dX7_accept_22 : decode cX7_accept 22 = .ok (.sipush 631, 3) := by decide +kernel
theorem dX7_accept_25 : decode cX7_accept 25 = .ok (.iload_n 1, 1) := by decide +kernel
theorem dX7_accept_26 : decode cX7_accept 26 = .ok (.iadd, 1) := by decide +kernel
theorem dX7_accept_27 : decode cX7_accept 27 = .ok (.iaload, 1) := by decide +kernel
theorem dX7_accept_28 : decode cX7_accept 28 = .ok (.iconst 1, 1) := by decide +kernel
theorem dX7_accept_29 : decode cX7_accept 29 = .ok (.if_icmp .eq 9, 3) := by decide +kernel
theorem dX7_accept_32 : decode cX7_accept 32 = .ok (.aload_n 0, 1) := by decide +kernel
theorem dX7_accept_33 : decode cX7_accept 33 = .ok (.iconst 2, 1) := by decide +kernel
theorem dX7_accept_34 : decode cX7_accept 34 = .ok (.invokevirtual 41, 3) := by decide +kernel
theorem dX7_accept_37 : decode cX7_accept 37 = .ok (.ireturn, 1) := by decide +kernel
theorem dX7_accept_38 : decode cX7_accept 38 = .ok (.aload_n 0, 1) := by decide +kernel
theorem dX7_accept_39 : decode cX7_accept 39 = .ok (.getfield 9, 3) := by decide +kernel
theorem dX7_accept_42 : decode cX7_accept 42 = .ok (.sipush 651, 3) := by decide +kernel
theorem dX7_accept_45 : decode cX7_accept 45 = .ok (.iload_n 1, 1) := by decide +kernel
theorem dX7_accept_46 : decode cX7_accept 46 = .ok (.iadd, 1) := by decide +kernel
theorem dX7_accept_47 : decode cX7_accept 47 = .ok (.iaload, 1) := by decide +kernel
theorem dX7_accept_48 : decode cX7_accept 48 = .ok (.istore_n 2, 1) := by decide +kernel
theorem dX7_accept_49 : decode cX7_accept 49 = .ok (.aload_n 0, 1) := by decide +kernel
theorem dX7_accept_50 : decode cX7_accept 50 = .ok (.getfield 9, 3) := by decide +kernel
theorem dX7_accept_53 : decode cX7_accept 53 = .ok (.bipush 28, 2) := by decide +kernel
theorem dX7_accept_55 : decode cX7_accept 55 = .ok (.aload_n 0, 1) := by decide +kernel
theorem dX7_accept_56 : decode cX7_accept 56 = .ok (.iload_n 2, 1) := by decide +kernel
theorem dX7_accept_57 : decode cX7_accept 57 = .ok (.invokevirtual 50, 3) := by decide +kernel
theorem dX7_accept_60 : decode cX7_accept 60 = .ok (.iadd, 1) := by decide +kernel
theorem dX7_accept_61 : decode cX7_accept 61 = .ok (.iaload, 1) := by decide +kernel
theorem dX7_accept_62 : decode cX7_accept 62 = .ok (.ifCond .ne 9, 3) := by decide +kernel
theorem dX7_accept_65 : decode cX7_accept 65 = .ok (.aload_n 0, 1) := by decide +kernel
theorem dX7_accept_66 : decode cX7_accept 66 = .ok (.iconst 3, 1) := by decide +kernel
theorem dX7_accept_67 : decode cX7_accept 67 = .ok (.invokevirtual 41, 3) := by decide +kernel
theorem dX7_accept_70 : decode cX7_accept 70 = .ok (.ireturn, 1) := by decide +kernel
theorem dX7_accept_71 : decode cX7_accept 71 = .ok (.aload_n 0, 1) := by decide +kernel
theorem dX7_accept_72 : decode cX7_accept 72 = .ok (.getfield 9, 3) := by decide +kernel
theorem dX7_accept_75 : decode cX7_accept 75 = .ok (.sipush 231, 3) := by decide +kernel
theorem dX7_accept_78 : decode cX7_accept 78 = .ok (.iload_n 2, 1) := by decide +kernel
theorem dX7_accept_79 : decode cX7_accept 79 = .ok (.iadd, 1) := by decide +kernel
theorem dX7_accept_80 : decode cX7_accept 80 = .ok (.iconst 2, 1) := by decide +kernel
theorem dX7_accept_81 : decode cX7_accept 81 = .ok (.iastore, 1) := by decide +kernel
theorem dX7_accept_82 : decode cX7_accept 82 = .ok (.aload_n 0, 1) := by decide +kernel
theorem dX7_accept_83 : decode cX7_accept 83 = .ok (.getfield 9, 3) := by decide +kernel
theorem dX7_accept_86 : decode cX7_accept 86 = .ok (.sipush 711, 3) := by decide +kernel
theorem dX7_accept_89 : decode cX7_accept 89 = .ok (.iload_n 1, 1) := by decide +kernel
theorem dX7_accept_90 : decode cX7_accept 90 = .ok (.iadd, 1) := by decide +kernel
theorem dX7_accept_91 : decode cX7_accept 91 = .ok (.iload_n 2, 1) := by decide +kernel
theorem dX7_accept_92 : decode cX7_accept 92 = .ok (.iconst 1, 1) := by decide +kernel
theorem dX7_accept_93 : decode cX7_accept 93 = .ok (.iadd, 1) := by decide +kernel
theorem dX7_accept_94 : decode cX7_accept 94 = .ok (.iastore, 1) := by decide +kernel
theorem dX7_accept_95 : decode cX7_accept 95 = .ok (.aload_n 0, 1) := by decide +kernel
theorem dX7_accept_96 : decode cX7_accept 96 = .ok (.iload_n 1, 1) := by decide +kernel
theorem dX7_accept_97 : decode cX7_accept 97 = .ok (.aload_n 0, 1) := by decide +kernel
theorem dX7_accept_98 : decode cX7_accept 98 = .ok (.getfield 9, 3) := by decide +kernel
theorem dX7_accept_101 : decode cX7_accept 101 = .ok (.iconst 0, 1) := by decide +kernel
theorem dX7_accept_102 : decode cX7_accept 102 = .ok (.iaload, 1) := by decide +kernel
theorem dX7_accept_103 : decode cX7_accept 103 = .ok (.invokevirtual 86, 3) := by decide +kernel
theorem dX7_accept_106 : decode cX7_accept 106 = .ok (.aload_n 0, 1) := by decide +kernel
theorem dX7_accept_107 : decode cX7_accept 107 = .ok (.iconst 2, 1) := by decide +kernel
theorem dX7_accept_108 : decode cX7_accept 108 = .ok (.iload_n 2, 1) := by decide +kernel
theorem dX7_accept_109 : decode cX7_accept 109 = .ok (.invokevirtual 83, 3) := by decide +kernel
theorem dX7_accept_112 : decode cX7_accept 112 = .ok (.iload_n 2, 1) := by decide +kernel
theorem dX7_accept_113 : decode cX7_accept 113 = .ok (.ireturn, 1) := by decide +kernel
theorem dX7_lacksLease_0 : decode cX7_lacksLease 0 = .ok (.iload_n 1, 1) := by decide +kernel
theorem dX7_lacksLease_1 : decode cX7_lacksLease 1 = .ok (.invokestatic 65, 3) := by decide +kernel
theorem dX7_lacksLease_4 : decode cX7_lacksLease 4 = .ok (.ifCond .ne 7, 3) := by decide +kernel
theorem dX7_lacksLease_7 : decode cX7_lacksLease 7 = .ok (.iconst 1, 1) := by decide +kernel
theorem dX7_lacksLease_8 : decode cX7_lacksLease 8 = .ok (.goto 16, 3) := by decide +kernel
theorem dX7_lacksLease_11 : decode cX7_lacksLease 11 = .ok (.aload_n 0, 1) := by decide +kernel
theorem dX7_lacksLease_12 : decode cX7_lacksLease 12 = .ok (.iload_n 1, 1) := by decide +kernel
theorem dX7_lacksLease_13 : decode cX7_lacksLease 13 = .ok (.invokevirtual 68, 3) := by decide +kernel
theorem dX7_lacksLease_16 : decode cX7_lacksLease 16 = .ok (.ifCond .eq 7, 3) := by decide +kernel
theorem dX7_lacksLease_19 : decode cX7_lacksLease 19 = .ok (.iconst 0, 1) := by decide +kernel
theorem dX7_lacksLease_20 : decode cX7_lacksLease 20 = .ok (.goto 4, 3) := by decide +kernel
theorem dX7_lacksLease_23 : decode cX7_lacksLease 23 = .ok (.iconst 2, 1) := by decide +kernel
theorem dX7_lacksLease_24 : decode cX7_lacksLease 24 = .ok (.ireturn, 1) := by decide +kernel
theorem dX7_release_0 : decode cX7_release 0 = .ok (.aload_n 0, 1) := by decide +kernel
theorem dX7_release_1 : decode cX7_release 1 = .ok (.aload_n 0, 1) := by decide +kernel
theorem dX7_release_2 : decode cX7_release 2 = .ok (.iload_n 1, 1) := by decide +kernel
theorem dX7_release_3 : decode cX7_release 3 = .ok (.invokevirtual 89, 3) := by decide +kernel
theorem dX7_release_6 : decode cX7_release 6 = .ok (.putfield 19, 3) := by decide +kernel
theorem dX7_release_9 : decode cX7_release 9 = .ok (.aload_n 0, 1) := by decide +kernel
theorem dX7_release_10 : decode cX7_release 10 = .ok (.getfield 19, 3) := by decide +kernel
theorem dX7_release_13 : decode cX7_release 13 = .ok (.ifCond .le 5, 3) := by decide +kernel
theorem dX7_release_16 : decode cX7_release 16 = .ok (.iconst 0, 1) := by decide +kernel
theorem dX7_release_17 : decode cX7_release 17 = .ok (.ireturn, 1) := by decide +kernel
theorem dX7_release_18 : decode cX7_release 18 = .ok (.aload_n 0, 1) := by decide +kernel
theorem dX7_release_19 : decode cX7_release 19 = .ok (.getfield 9, 3) := by decide +kernel
theorem dX7_release_22 : decode cX7_release 22 = .ok (.sipush 651, 3) := by decide +kernel
theorem dX7_release_25 : decode cX7_release 25 = .ok (.iload_n 1, 1) := by decide +kernel
theorem dX7_release_26 : decode cX7_release 26 = .ok (.iadd, 1) := by decide +kernel
theorem dX7_release_27 : decode cX7_release 27 = .ok (.iaload, 1) := by decide +kernel
theorem dX7_release_28 : decode cX7_release 28 = .ok (.istore_n 2, 1) := by decide +kernel
theorem dX7_release_29 : decode cX7_release 29 = .ok (.aload_n 0, 1) := by decide +kernel
theorem dX7_release_30 : decode cX7_release 30 = .ok (.iload_n 2, 1) := by decide +kernel
theorem dX7_release_31 : decode cX7_release 31 = .ok (.aload_n 0, 1) := by decide +kernel
theorem dX7_release_32 : decode cX7_release 32 = .ok (.getfield 9, 3) := by decide +kernel
theorem dX7_release_35 : decode cX7_release 35 = .ok (.iconst 0, 1) := by decide +kernel
theorem dX7_release_36 : decode cX7_release 36 = .ok (.iaload, 1) := by decide +kernel
theorem dX7_release_37 : decode cX7_release 37 = .ok (.invokevirtual 71, 3) := by decide +kernel
theorem dX7_release_40 : decode cX7_release 40 = .ok (.aload_n 0, 1) := by decide +kernel
theorem dX7_release_41 : decode cX7_release 41 = .ok (.getfield 9, 3) := by decide +kernel
theorem dX7_release_44 : decode cX7_release 44 = .ok (.sipush 631, 3) := by decide +kernel
theorem dX7_release_47 : decode cX7_release 47 = .ok (.iload_n 1, 1) := by decide +kernel
theorem dX7_release_48 : decode cX7_release 48 = .ok (.iadd, 1) := by decide +kernel
theorem dX7_release_49 : decode cX7_release 49 = .ok (.iconst 0, 1) := by decide +kernel
theorem dX7_release_50 : decode cX7_release 50 = .ok (.iastore, 1) := by decide +kernel
theorem dX7_release_51 : decode cX7_release 51 = .ok (.aload_n 0, 1) := by decide +kernel
theorem dX7_release_52 : decode cX7_release 52 = .ok (.bipush 6, 2) := by decide +kernel
theorem dX7_release_54 : decode cX7_release 54 = .ok (.iload_n 2, 1) := by decide +kernel
theorem dX7_release_55 : decode cX7_release 55 = .ok (.invokevirtual 83, 3) := by decide +kernel
theorem dX7_release_58 : decode cX7_release 58 = .ok (.iload_n 2, 1) := by decide +kernel
theorem dX7_release_59 : decode cX7_release 59 = .ok (.ireturn, 1) := by decide +kernel
theorem dX7_decline_0 : decode cX7_decline 0 = .ok (.aload_n 0, 1) := by decide +kernel
theorem dX7_decline_1 : decode cX7_decline 1 = .ok (.aload_n 0, 1) := by decide +kernel
theorem dX7_decline_2 : decode cX7_decline 2 = .ok (.iload_n 1, 1) := by decide +kernel
theorem dX7_decline_3 : decode cX7_decline 3 = .ok (.invokevirtual 89, 3) := by decide +kernel
theorem dX7_decline_6 : decode cX7_decline 6 = .ok (.putfield 19, 3) := by decide +kernel
theorem dX7_decline_9 : decode cX7_decline 9 = .ok (.aload_n 0, 1) := by decide +kernel
theorem dX7_decline_10 : decode cX7_decline 10 = .ok (.getfield 19, 3) := by decide +kernel
theorem dX7_decline_13 : decode cX7_decline 13 = .ok (.ifCond .le 5, 3) := by decide +kernel
theorem dX7_decline_16 : decode cX7_decline 16 = .ok (.iconst 0, 1) := by decide +kernel
theorem dX7_decline_17 : decode cX7_decline 17 = .ok (.ireturn, 1) := by decide +kernel
theorem dX7_decline_18 : decode cX7_decline 18 = .ok (.aload_n 0, 1) := by decide +kernel
theorem dX7_decline_19 : decode cX7_decline 19 = .ok (.getfield 9, 3) := by decide +kernel
theorem dX7_decline_22 : decode cX7_decline 22 = .ok (.sipush 651, 3) := by decide +kernel
theorem dX7_decline_25 : decode cX7_decline 25 = .ok (.iload_n 1, 1) := by decide +kernel
theorem dX7_decline_26 : decode cX7_decline 26 = .ok (.iadd, 1) := by decide +kernel
theorem dX7_decline_27 : decode cX7_decline 27 = .ok (.iaload, 1) := by decide +kernel
theorem dX7_decline_28 : decode cX7_decline 28 = .ok (.istore_n 2, 1) := by decide +kernel
theorem dX7_decline_29 : decode cX7_decline 29 = .ok (.aload_n 0, 1) := by decide +kernel
theorem dX7_decline_30 : decode cX7_decline 30 = .ok (.iload_n 2, 1) := by decide +kernel
theorem dX7_decline_31 : decode cX7_decline 31 = .ok (.invokevirtual 79, 3) := by decide +kernel
theorem dX7_decline_34 : decode cX7_decline 34 = .ok (.aload_n 0, 1) := by decide +kernel
theorem dX7_decline_35 : decode cX7_decline 35 = .ok (.getfield 9, 3) := by decide +kernel
theorem dX7_decline_38 : decode cX7_decline 38 = .ok (.sipush 631, 3) := by decide +kernel
theorem dX7_decline_41 : decode cX7_decline 41 = .ok (.iload_n 1, 1) := by decide +kernel
theorem dX7_decline_42 : decode cX7_decline 42 = .ok (.iadd, 1) := by decide +kernel
theorem dX7_decline_43 : decode cX7_decline 43 = .ok (.iconst 0, 1) := by decide +kernel
theorem dX7_decline_44 : decode cX7_decline 44 = .ok (.iastore, 1) := by decide +kernel
theorem dX7_decline_45 : decode cX7_decline 45 = .ok (.aload_n 0, 1) := by decide +kernel
theorem dX7_decline_46 : decode cX7_decline 46 = .ok (.getfield 9, 3) := by decide +kernel
theorem dX7_decline_49 : decode cX7_decline 49 = .ok (.sipush 711, 3) := by decide +kernel
theorem dX7_decline_52 : decode cX7_decline 52 = .ok (.iload_n 1, 1) := by decide +kernel
theorem dX7_decline_53 : decode cX7_decline 53 = .ok (.iadd, 1) := by decide +kernel
theorem dX7_decline_54 : decode cX7_decline 54 = .ok (.iconst 0, 1) := by decide +kernel
theorem dX7_decline_55 : decode cX7_decline 55 = .ok (.iastore, 1) := by decide +kernel
theorem dX7_decline_56 : decode cX7_decline 56 = .ok (.aload_n 0, 1) := by decide +kernel
theorem dX7_decline_57 : decode cX7_decline 57 = .ok (.bipush 7, 2) := by decide +kernel
theorem dX7_decline_59 : decode cX7_decline 59 = .ok (.iload_n 2, 1) := by decide +kernel
theorem dX7_decline_60 : decode cX7_decline 60 = .ok (.invokevirtual 83, 3) := by decide +kernel
theorem dX7_decline_63 : decode cX7_decline 63 = .ok (.iload_n 2, 1) := by decide +kernel
theorem dX7_decline_64 : decode cX7_decline 64 = .ok (.ireturn, 1) := by decide +kernel
theorem dX7_renews_0 : decode cX7_renews 0 = .ok (.aload_n 0, 1) := by decide +kernel
theorem dX7_renews_1 : decode cX7_renews 1 = .ok (.getfield 9, 3) := by decide +kernel
theorem dX7_renews_4 : decode cX7_renews 4 = .ok (.sipush 651, 3) := by decide +kernel
theorem dX7_renews_7 : decode cX7_renews 7 = .ok (.iload_n 1, 1) := by decide +kernel
theorem dX7_renews_8 : decode cX7_renews 8 = .ok (.iadd, 1) := by decide +kernel
theorem dX7_renews_9 : decode cX7_renews 9 = .ok (.iaload, 1) := by decide +kernel
theorem dX7_renews_10 : decode cX7_renews 10 = .ok (.istore_n 3, 1) := by decide +kernel
theorem dX7_renews_11 : decode cX7_renews 11 = .ok (.aload_n 0, 1) := by decide +kernel
theorem dX7_renews_12 : decode cX7_renews 12 = .ok (.getfield 9, 3) := by decide +kernel
theorem dX7_renews_15 : decode cX7_renews 15 = .ok (.bipush 31, 2) := by decide +kernel
theorem dX7_renews_17 : decode cX7_renews 17 = .ok (.iload_n 3, 1) := by decide +kernel
theorem dX7_renews_18 : decode cX7_renews 18 = .ok (.iadd, 1) := by decide +kernel
theorem dX7_renews_19 : decode cX7_renews 19 = .ok (.iaload, 1) := by decide +kernel
theorem dX7_renews_20 : decode cX7_renews 20 = .ok (.iconst 1, 1) := by decide +kernel
theorem dX7_renews_21 : decode cX7_renews 21 = .ok (.if_icmp .ne 28, 3) := by decide +kernel
theorem dX7_renews_24 : decode cX7_renews 24 = .ok (.aload_n 0, 1) := by decide +kernel
theorem dX7_renews_25 : decode cX7_renews 25 = .ok (.iload_n 3, 1) := by decide +kernel
theorem dX7_renews_26 : decode cX7_renews 26 = .ok (.iload_n 2, 1) := by decide +kernel
theorem dX7_renews_27 : decode cX7_renews 27 = .ok (.invokevirtual 71, 3) := by decide +kernel
theorem dX7_renews_30 : decode cX7_renews 30 = .ok (.aload_n 0, 1) := by decide +kernel
theorem dX7_renews_31 : decode cX7_renews 31 = .ok (.getfield 9, 3) := by decide +kernel
theorem dX7_renews_34 : decode cX7_renews 34 = .ok (.sipush 631, 3) := by decide +kernel
theorem dX7_renews_37 : decode cX7_renews 37 = .ok (.iload_n 1, 1) := by decide +kernel
theorem dX7_renews_38 : decode cX7_renews 38 = .ok (.iadd, 1) := by decide +kernel
theorem dX7_renews_39 : decode cX7_renews 39 = .ok (.iconst 0, 1) := by decide +kernel
theorem dX7_renews_40 : decode cX7_renews 40 = .ok (.iastore, 1) := by decide +kernel
theorem dX7_renews_41 : decode cX7_renews 41 = .ok (.aload_n 0, 1) := by decide +kernel
theorem dX7_renews_42 : decode cX7_renews 42 = .ok (.iconst 4, 1) := by decide +kernel
theorem dX7_renews_43 : decode cX7_renews 43 = .ok (.iload_n 3, 1) := by decide +kernel
theorem dX7_renews_44 : decode cX7_renews 44 = .ok (.invokevirtual 83, 3) := by decide +kernel
theorem dX7_renews_47 : decode cX7_renews 47 = .ok (.iconst 0, 1) := by decide +kernel
theorem dX7_renews_48 : decode cX7_renews 48 = .ok (.ireturn, 1) := by decide +kernel
theorem dX7_renews_49 : decode cX7_renews 49 = .ok (.aload_n 0, 1) := by decide +kernel
theorem dX7_renews_50 : decode cX7_renews 50 = .ok (.iload_n 1, 1) := by decide +kernel
theorem dX7_renews_51 : decode cX7_renews 51 = .ok (.iload_n 2, 1) := by decide +kernel
theorem dX7_renews_52 : decode cX7_renews 52 = .ok (.invokevirtual 86, 3) := by decide +kernel
theorem dX7_renews_55 : decode cX7_renews 55 = .ok (.aload_n 0, 1) := by decide +kernel
theorem dX7_renews_56 : decode cX7_renews 56 = .ok (.iconst 3, 1) := by decide +kernel
theorem dX7_renews_57 : decode cX7_renews 57 = .ok (.iload_n 3, 1) := by decide +kernel
theorem dX7_renews_58 : decode cX7_renews 58 = .ok (.invokevirtual 83, 3) := by decide +kernel
theorem dX7_renews_61 : decode cX7_renews 61 = .ok (.iconst 1, 1) := by decide +kernel
theorem dX7_renews_62 : decode cX7_renews 62 = .ok (.ireturn, 1) := by decide +kernel
theorem dX7_renew_0 : decode cX7_renew 0 = .ok (.aload_n 0, 1) := by decide +kernel
theorem dX7_renew_1 : decode cX7_renew 1 = .ok (.aload_n 0, 1) := by decide +kernel
theorem dX7_renew_2 : decode cX7_renew 2 = .ok (.iload_n 1, 1) := by decide +kernel
theorem dX7_renew_3 : decode cX7_renew 3 = .ok (.invokevirtual 89, 3) := by decide +kernel
theorem dX7_renew_6 : decode cX7_renew 6 = .ok (.putfield 19, 3) := by decide +kernel
theorem dX7_renew_9 : decode cX7_renew 9 = .ok (.aload_n 0, 1) := by decide +kernel
theorem dX7_renew_10 : decode cX7_renew 10 = .ok (.getfield 19, 3) := by decide +kernel
theorem dX7_renew_13 : decode cX7_renew 13 = .ok (.ifCond .le 5, 3) := by decide +kernel
theorem dX7_renew_16 : decode cX7_renew 16 = .ok (.iconst 0, 1) := by decide +kernel
theorem dX7_renew_17 : decode cX7_renew 17 = .ok (.ireturn, 1) := by decide +kernel
theorem dX7_renew_18 : decode cX7_renew 18 = .ok (.aload_n 0, 1) := by decide +kernel
theorem dX7_renew_19 : decode cX7_renew 19 = .ok (.getfield 9, 3) := by decide +kernel
theorem dX7_renew_22 : decode cX7_renew 22 = .ok (.bipush 25, 2) := by decide +kernel
theorem dX7_renew_24 : decode cX7_renew 24 = .ok (.aload_n 0, 1) := by decide +kernel
theorem dX7_renew_25 : decode cX7_renew 25 = .ok (.aload_n 0, 1) := by decide +kernel
theorem dX7_renew_26 : decode cX7_renew 26 = .ok (.getfield 9, 3) := by decide +kernel
theorem dX7_renew_29 : decode cX7_renew 29 = .ok (.sipush 651, 3) := by decide +kernel
theorem dX7_renew_32 : decode cX7_renew 32 = .ok (.iload_n 1, 1) := by decide +kernel
theorem dX7_renew_33 : decode cX7_renew 33 = .ok (.iadd, 1) := by decide +kernel
theorem dX7_renew_34 : decode cX7_renew 34 = .ok (.iaload, 1) := by decide +kernel
theorem dX7_renew_35 : decode cX7_renew 35 = .ok (.invokevirtual 50, 3) := by decide +kernel
theorem dX7_renew_38 : decode cX7_renew 38 = .ok (.iadd, 1) := by decide +kernel
theorem dX7_renew_39 : decode cX7_renew 39 = .ok (.iaload, 1) := by decide +kernel
theorem dX7_renew_40 : decode cX7_renew 40 = .ok (.ifCond .ne 8, 3) := by decide +kernel
theorem dX7_renew_43 : decode cX7_renew 43 = .ok (.aload_n 0, 1) := by decide +kernel
theorem dX7_renew_44 : decode cX7_renew 44 = .ok (.iconst 3, 1) := by decide +kernel
theorem dX7_renew_45 : decode cX7_renew 45 = .ok (.putfield 19, 3) := by decide +kernel
theorem dX7_renew_48 : decode cX7_renew 48 = .ok (.aload_n 0, 1) := by decide +kernel
theorem dX7_renew_49 : decode cX7_renew 49 = .ok (.getfield 19, 3) := by decide +kernel
theorem dX7_renew_52 : decode cX7_renew 52 = .ok (.ifCond .ne 21, 3) := by decide +kernel
theorem dX7_renew_55 : decode cX7_renew 55 = .ok (.aload_n 0, 1) := by decide +kernel
theorem dX7_renew_56 : decode cX7_renew 56 = .ok (.iload_n 1, 1) := by decide +kernel
theorem dX7_renew_57 : decode cX7_renew 57 = .ok (.aload_n 0, 1) := by decide +kernel
theorem dX7_renew_58 : decode cX7_renew 58 = .ok (.getfield 9, 3) := by decide +kernel
theorem dX7_renew_61 : decode cX7_renew 61 = .ok (.iconst 0, 1) := by decide +kernel
theorem dX7_renew_62 : decode cX7_renew 62 = .ok (.iaload, 1) := by decide +kernel
theorem dX7_renew_63 : decode cX7_renew 63 = .ok (.invokevirtual 92, 3) := by decide +kernel
theorem dX7_renew_66 : decode cX7_renew 66 = .ok (.ifCond .eq 7, 3) := by decide +kernel
theorem dX7_renew_69 : decode cX7_renew 69 = .ok (.iconst 1, 1) := by decide +kernel
theorem dX7_renew_70 : decode cX7_renew 70 = .ok (.goto 4, 3) := by decide +kernel
theorem dX7_renew_73 : decode cX7_renew 73 = .ok (.iconst 0, 1) := by decide +kernel
theorem dX7_renew_74 : decode cX7_renew 74 = .ok (.ireturn, 1) := by decide +kernel
theorem dX7_stateOf_0 : decode cX7_stateOf 0 = .ok (.aload_n 0, 1) := by decide +kernel
theorem dX7_stateOf_1 : decode cX7_stateOf 1 = .ok (.iload_n 1, 1) := by decide +kernel
theorem dX7_stateOf_2 : decode cX7_stateOf 2 = .ok (.invokevirtual 34, 3) := by decide +kernel
theorem dX7_stateOf_5 : decode cX7_stateOf 5 = .ok (.ifCond .ge 7, 3) := by decide +kernel
theorem dX7_stateOf_8 : decode cX7_stateOf 8 = .ok (.iconst 0, 1) := by decide +kernel
theorem dX7_stateOf_9 : decode cX7_stateOf 9 = .ok (.goto 13, 3) := by decide +kernel
theorem dX7_stateOf_12 : decode cX7_stateOf 12 = .ok (.aload_n 0, 1) := by decide +kernel
theorem dX7_stateOf_13 : decode cX7_stateOf 13 = .ok (.getfield 9, 3) := by decide +kernel
theorem dX7_stateOf_16 : decode cX7_stateOf 16 = .ok (.sipush 231, 3) := by decide +kernel
theorem dX7_stateOf_19 : decode cX7_stateOf 19 = .ok (.iload_n 1, 1) := by decide +kernel
theorem dX7_stateOf_20 : decode cX7_stateOf 20 = .ok (.iadd, 1) := by decide +kernel
theorem dX7_stateOf_21 : decode cX7_stateOf 21 = .ok (.iaload, 1) := by decide +kernel
theorem dX7_stateOf_22 : decode cX7_stateOf 22 = .ok (.ireturn, 1) := by decide +kernel
theorem dX7_due_0 : decode cX7_due 0 = .ok (.aload_n 0, 1) := by decide +kernel
theorem dX7_due_1 : decode cX7_due 1 = .ok (.iload_n 1, 1) := by decide +kernel
theorem dX7_due_2 : decode cX7_due 2 = .ok (.invokevirtual 95, 3) := by decide +kernel
theorem dX7_due_5 : decode cX7_due 5 = .ok (.istore_n 2, 1) := by decide +kernel
theorem dX7_due_6 : decode cX7_due 6 = .ok (.iload_n 2, 1) := by decide +kernel
theorem dX7_due_7 : decode cX7_due 7 = .ok (.ifCond .ne 5, 3) := by decide +kernel
theorem dX7_due_10 : decode cX7_due 10 = .ok (.iconst (-1), 1) := by decide +kernel
theorem dX7_due_11 : decode cX7_due 11 = .ok (.ireturn, 1) := by decide +kernel
theorem dX7_due_12 : decode cX7_due 12 = .ok (.iload_n 2, 1) := by decide +kernel
theorem dX7_due_13 : decode cX7_due 13 = .ok (.iconst 2, 1) := by decide +kernel
theorem dX7_due_14 : decode cX7_due 14 = .ok (.if_icmp .eq 14, 3) := by decide +kernel
theorem dX7_due_17 : decode cX7_due 17 = .ok (.aload_n 0, 1) := by decide +kernel
theorem dX7_due_18 : decode cX7_due 18 = .ok (.getfield 9, 3) := by decide +kernel
theorem dX7_due_21 : decode cX7_due 21 = .ok (.sipush 431, 3) := by decide +kernel
theorem dX7_due_24 : decode cX7_due 24 = .ok (.iload_n 1, 1) := by decide +kernel
theorem dX7_due_25 : decode cX7_due 25 = .ok (.iadd, 1) := by decide +kernel
theorem dX7_due_26 : decode cX7_due 26 = .ok (.iaload, 1) := by decide +kernel
theorem dX7_due_27 : decode cX7_due 27 = .ok (.ireturn, 1) := by decide +kernel
theorem dX7_due_28 : decode cX7_due 28 = .ok (.aload_n 0, 1) := by decide +kernel
theorem dX7_due_29 : decode cX7_due 29 = .ok (.getfield 9, 3) := by decide +kernel
theorem dX7_due_32 : decode cX7_due 32 = .ok (.sipush 331, 3) := by decide +kernel
theorem dX7_due_35 : decode cX7_due 35 = .ok (.iload_n 1, 1) := by decide +kernel
theorem dX7_due_36 : decode cX7_due 36 = .ok (.iadd, 1) := by decide +kernel
theorem dX7_due_37 : decode cX7_due 37 = .ok (.iaload, 1) := by decide +kernel
theorem dX7_due_38 : decode cX7_due 38 = .ok (.istore_n 3, 1) := by decide +kernel
theorem dX7_due_39 : decode cX7_due 39 = .ok (.aload_n 0, 1) := by decide +kernel
theorem dX7_due_40 : decode cX7_due 40 = .ok (.getfield 9, 3) := by decide +kernel
theorem dX7_due_43 : decode cX7_due 43 = .ok (.sipush 631, 3) := by decide +kernel
theorem dX7_due_46 : decode cX7_due 46 = .ok (.iload_n 3, 1) := by decide +kernel
theorem dX7_due_47 : decode cX7_due 47 = .ok (.iadd, 1) := by decide +kernel
theorem dX7_due_48 : decode cX7_due 48 = .ok (.iaload, 1) := by decide +kernel
theorem dX7_due_49 : decode cX7_due 49 = .ok (.iconst 2, 1) := by decide +kernel
theorem dX7_due_50 : decode cX7_due 50 = .ok (.if_icmp .ne 16, 3) := by decide +kernel
theorem dX7_due_53 : decode cX7_due 53 = .ok (.aload_n 0, 1) := by decide +kernel
theorem dX7_due_54 : decode cX7_due 54 = .ok (.getfield 9, 3) := by decide +kernel
theorem dX7_due_57 : decode cX7_due 57 = .ok (.sipush 671, 3) := by decide +kernel
theorem dX7_due_60 : decode cX7_due 60 = .ok (.iload_n 3, 1) := by decide +kernel
theorem dX7_due_61 : decode cX7_due 61 = .ok (.iadd, 1) := by decide +kernel
theorem dX7_due_62 : decode cX7_due 62 = .ok (.iaload, 1) := by decide +kernel
theorem dX7_due_63 : decode cX7_due 63 = .ok (.goto 40, 3) := by decide +kernel
theorem dX7_due_66 : decode cX7_due 66 = .ok (.aload_n 0, 1) := by decide +kernel
theorem dX7_due_67 : decode cX7_due 67 = .ok (.getfield 9, 3) := by decide +kernel
theorem dX7_due_70 : decode cX7_due 70 = .ok (.sipush 631, 3) := by decide +kernel
theorem dX7_due_73 : decode cX7_due 73 = .ok (.iload_n 3, 1) := by decide +kernel
theorem dX7_due_74 : decode cX7_due 74 = .ok (.iadd, 1) := by decide +kernel
theorem dX7_due_75 : decode cX7_due 75 = .ok (.iaload, 1) := by decide +kernel
theorem dX7_due_76 : decode cX7_due 76 = .ok (.iconst 3, 1) := by decide +kernel
theorem dX7_due_77 : decode cX7_due 77 = .ok (.if_icmp .ne 16, 3) := by decide +kernel
theorem dX7_due_80 : decode cX7_due 80 = .ok (.aload_n 0, 1) := by decide +kernel
theorem dX7_due_81 : decode cX7_due 81 = .ok (.getfield 9, 3) := by decide +kernel
theorem dX7_due_84 : decode cX7_due 84 = .ok (.sipush 691, 3) := by decide +kernel
theorem dX7_due_87 : decode cX7_due 87 = .ok (.iload_n 3, 1) := by decide +kernel
theorem dX7_due_88 : decode cX7_due 88 = .ok (.iadd, 1) := by decide +kernel
theorem dX7_due_89 : decode cX7_due 89 = .ok (.iaload, 1) := by decide +kernel
theorem dX7_due_90 : decode cX7_due 90 = .ok (.goto 13, 3) := by decide +kernel
theorem dX7_due_93 : decode cX7_due 93 = .ok (.aload_n 0, 1) := by decide +kernel
theorem dX7_due_94 : decode cX7_due 94 = .ok (.getfield 9, 3) := by decide +kernel
theorem dX7_due_97 : decode cX7_due 97 = .ok (.sipush 431, 3) := by decide +kernel
theorem dX7_due_100 : decode cX7_due 100 = .ok (.iload_n 1, 1) := by decide +kernel
theorem dX7_due_101 : decode cX7_due 101 = .ok (.iadd, 1) := by decide +kernel
theorem dX7_due_102 : decode cX7_due 102 = .ok (.iaload, 1) := by decide +kernel
theorem dX7_due_103 : decode cX7_due 103 = .ok (.ireturn, 1) := by decide +kernel
theorem dX7_kind_0 : decode cX7_kind 0 = .ok (.aload_n 0, 1) := by decide +kernel
theorem dX7_kind_1 : decode cX7_kind 1 = .ok (.iload_n 1, 1) := by decide +kernel
theorem dX7_kind_2 : decode cX7_kind 2 = .ok (.invokevirtual 95, 3) := by decide +kernel
theorem dX7_kind_5 : decode cX7_kind 5 = .ok (.istore_n 2, 1) := by decide +kernel
theorem dX7_kind_6 : decode cX7_kind 6 = .ok (.iload_n 2, 1) := by decide +kernel
theorem dX7_kind_7 : decode cX7_kind 7 = .ok (.iconst 1, 1) := by decide +kernel
theorem dX7_kind_8 : decode cX7_kind 8 = .ok (.if_icmp .ne 7, 3) := by decide +kernel
theorem dX7_kind_11 : decode cX7_kind 11 = .ok (.iconst 0, 1) := by decide +kernel
theorem dX7_kind_12 : decode cX7_kind 12 = .ok (.goto 31, 3) := by decide +kernel
theorem dX7_kind_15 : decode cX7_kind 15 = .ok (.iload_n 2, 1) := by decide +kernel
theorem dX7_kind_16 : decode cX7_kind 16 = .ok (.iconst 3, 1) := by decide +kernel
theorem dX7_kind_17 : decode cX7_kind 17 = .ok (.if_icmp .ne 7, 3) := by decide +kernel
theorem dX7_kind_20 : decode cX7_kind 20 = .ok (.iconst 1, 1) := by decide +kernel
theorem dX7_kind_21 : decode cX7_kind 21 = .ok (.goto 22, 3) := by decide +kernel
theorem dX7_kind_24 : decode cX7_kind 24 = .ok (.aload_n 0, 1) := by decide +kernel
theorem dX7_kind_25 : decode cX7_kind 25 = .ok (.getfield 9, 3) := by decide +kernel
theorem dX7_kind_28 : decode cX7_kind 28 = .ok (.sipush 631, 3) := by decide +kernel
theorem dX7_kind_31 : decode cX7_kind 31 = .ok (.aload_n 0, 1) := by decide +kernel
theorem dX7_kind_32 : decode cX7_kind 32 = .ok (.getfield 9, 3) := by decide +kernel
theorem dX7_kind_35 : decode cX7_kind 35 = .ok (.sipush 331, 3) := by decide +kernel
theorem dX7_kind_38 : decode cX7_kind 38 = .ok (.iload_n 1, 1) := by decide +kernel
theorem dX7_kind_39 : decode cX7_kind 39 = .ok (.iadd, 1) := by decide +kernel
theorem dX7_kind_40 : decode cX7_kind 40 = .ok (.iaload, 1) := by decide +kernel
theorem dX7_kind_41 : decode cX7_kind 41 = .ok (.iadd, 1) := by decide +kernel
theorem dX7_kind_42 : decode cX7_kind 42 = .ok (.iaload, 1) := by decide +kernel
theorem dX7_kind_43 : decode cX7_kind 43 = .ok (.ireturn, 1) := by decide +kernel
theorem dX7_earliest_0 : decode cX7_earliest 0 = .ok (.iconst (-1), 1) := by decide +kernel
theorem dX7_earliest_1 : decode cX7_earliest 1 = .ok (.istore_n 1, 1) := by decide +kernel
theorem dX7_earliest_2 : decode cX7_earliest 2 = .ok (.iconst 0, 1) := by decide +kernel
theorem dX7_earliest_3 : decode cX7_earliest 3 = .ok (.istore_n 2, 1) := by decide +kernel
theorem dX7_earliest_4 : decode cX7_earliest 4 = .ok (.iload_n 2, 1) := by decide +kernel
theorem dX7_earliest_5 : decode cX7_earliest 5 = .ok (.bipush 100, 2) := by decide +kernel
theorem dX7_earliest_7 : decode cX7_earliest 7 = .ok (.if_icmp .ge 36, 3) := by decide +kernel
theorem dX7_earliest_10 : decode cX7_earliest 10 = .ok (.aload_n 0, 1) := by decide +kernel
theorem dX7_earliest_11 : decode cX7_earliest 11 = .ok (.iload_n 2, 1) := by decide +kernel
theorem dX7_earliest_12 : decode cX7_earliest 12 = .ok (.invokevirtual 98, 3) := by decide +kernel
theorem dX7_earliest_15 : decode cX7_earliest 15 = .ok (.ifCond .lt 22, 3) := by decide +kernel
theorem dX7_earliest_18 : decode cX7_earliest 18 = .ok (.iload_n 1, 1) := by decide +kernel
theorem dX7_earliest_19 : decode cX7_earliest 19 = .ok (.ifCond .lt 12, 3) := by decide +kernel
theorem dX7_earliest_22 : decode cX7_earliest 22 = .ok (.aload_n 0, 1) := by decide +kernel
theorem dX7_earliest_23 : decode cX7_earliest 23 = .ok (.iload_n 2, 1) := by decide +kernel
theorem dX7_earliest_24 : decode cX7_earliest 24 = .ok (.invokevirtual 98, 3) := by decide +kernel
theorem dX7_earliest_27 : decode cX7_earliest 27 = .ok (.iload_n 1, 1) := by decide +kernel
theorem dX7_earliest_28 : decode cX7_earliest 28 = .ok (.if_icmp .ge 9, 3) := by decide +kernel
theorem dX7_earliest_31 : decode cX7_earliest 31 = .ok (.aload_n 0, 1) := by decide +kernel
theorem dX7_earliest_32 : decode cX7_earliest 32 = .ok (.iload_n 2, 1) := by decide +kernel
theorem dX7_earliest_33 : decode cX7_earliest 33 = .ok (.invokevirtual 98, 3) := by decide +kernel
theorem dX7_earliest_36 : decode cX7_earliest 36 = .ok (.istore_n 1, 1) := by decide +kernel
theorem dX7_earliest_37 : decode cX7_earliest 37 = .ok (.iinc 2 1, 3) := by decide +kernel
theorem dX7_earliest_40 : decode cX7_earliest 40 = .ok (.goto (-36), 3) := by decide +kernel
theorem dX7_earliest_43 : decode cX7_earliest 43 = .ok (.iload_n 1, 1) := by decide +kernel
theorem dX7_earliest_44 : decode cX7_earliest 44 = .ok (.ireturn, 1) := by decide +kernel
theorem dX7_happens_0 : decode cX7_happens 0 = .ok (.aload_n 0, 1) := by decide +kernel
theorem dX7_happens_1 : decode cX7_happens 1 = .ok (.getfield 9, 3) := by decide +kernel
theorem dX7_happens_4 : decode cX7_happens 4 = .ok (.sipush 331, 3) := by decide +kernel
theorem dX7_happens_7 : decode cX7_happens 7 = .ok (.iload_n 1, 1) := by decide +kernel
theorem dX7_happens_8 : decode cX7_happens 8 = .ok (.iadd, 1) := by decide +kernel
theorem dX7_happens_9 : decode cX7_happens 9 = .ok (.iaload, 1) := by decide +kernel
theorem dX7_happens_10 : decode cX7_happens 10 = .ok (.istore_n 3, 1) := by decide +kernel
theorem dX7_happens_11 : decode cX7_happens 11 = .ok (.aload_n 0, 1) := by decide +kernel
theorem dX7_happens_12 : decode cX7_happens 12 = .ok (.iload_n 1, 1) := by decide +kernel
theorem dX7_happens_13 : decode cX7_happens 13 = .ok (.invokevirtual 101, 3) := by decide +kernel
theorem dX7_happens_16 : decode cX7_happens 16 = .ok (.tableswitch 150 0 3 #[32, 59, 68, 109], 32) := by decide +kernel
theorem dX7_happens_48 : decode cX7_happens 48 = .ok (.aload_n 0, 1) := by decide +kernel
theorem dX7_happens_49 : decode cX7_happens 49 = .ok (.iload_n 1, 1) := by decide +kernel
theorem dX7_happens_50 : decode cX7_happens 50 = .ok (.iload_n 2, 1) := by decide +kernel
theorem dX7_happens_51 : decode cX7_happens 51 = .ok (.invokevirtual 71, 3) := by decide +kernel
theorem dX7_happens_54 : decode cX7_happens 54 = .ok (.aload_n 0, 1) := by decide +kernel
theorem dX7_happens_55 : decode cX7_happens 55 = .ok (.getfield 9, 3) := by decide +kernel
theorem dX7_happens_58 : decode cX7_happens 58 = .ok (.sipush 631, 3) := by decide +kernel
theorem dX7_happens_61 : decode cX7_happens 61 = .ok (.iload_n 3, 1) := by decide +kernel
theorem dX7_happens_62 : decode cX7_happens 62 = .ok (.iadd, 1) := by decide +kernel
theorem dX7_happens_63 : decode cX7_happens 63 = .ok (.iconst 0, 1) := by decide +kernel
theorem dX7_happens_64 : decode cX7_happens 64 = .ok (.iastore, 1) := by decide +kernel
theorem dX7_happens_65 : decode cX7_happens 65 = .ok (.aload_n 0, 1) := by decide +kernel
theorem dX7_happens_66 : decode cX7_happens 66 = .ok (.bipush 9, 2) := by decide +kernel
theorem dX7_happens_68 : decode cX7_happens 68 = .ok (.iload_n 1, 1) := by decide +kernel
theorem dX7_happens_69 : decode cX7_happens 69 = .ok (.invokevirtual 83, 3) := by decide +kernel
theorem dX7_happens_72 : decode cX7_happens 72 = .ok (.goto 117, 3) := by decide +kernel
theorem dX7_happens_75 : decode cX7_happens 75 = .ok (.aload_n 0, 1) := by decide +kernel
theorem dX7_happens_76 : decode cX7_happens 76 = .ok (.iload_n 1, 1) := by decide +kernel
theorem dX7_happens_77 : decode cX7_happens 77 = .ok (.iload_n 2, 1) := by decide +kernel
theorem dX7_happens_78 : decode cX7_happens 78 = .ok (.invokevirtual 71, 3) := by decide +kernel
theorem dX7_happens_81 : decode cX7_happens 81 = .ok (.goto 108, 3) := by decide +kernel
theorem dX7_happens_84 : decode cX7_happens 84 = .ok (.aload_n 0, 1) := by decide +kernel
theorem dX7_happens_85 : decode cX7_happens 85 = .ok (.getfield 9, 3) := by decide +kernel
theorem dX7_happens_88 : decode cX7_happens 88 = .ok (.bipush 25, 2) := by decide +kernel
theorem dX7_happens_90 : decode cX7_happens 90 = .ok (.aload_n 0, 1) := by decide +kernel
theorem dX7_happens_91 : decode cX7_happens 91 = .ok (.iload_n 1, 1) := by decide +kernel
theorem dX7_happens_92 : decode cX7_happens 92 = .ok (.invokevirtual 50, 3) := by decide +kernel
theorem dX7_happens_95 : decode cX7_happens 95 = .ok (.iadd, 1) := by decide +kernel
theorem dX7_happens_96 : decode cX7_happens 96 = .ok (.iaload, 1) := by decide +kernel
theorem dX7_happens_97 : decode cX7_happens 97 = .ok (.iconst 1, 1) := by decide +kernel
theorem dX7_happens_98 : decode cX7_happens 98 = .ok (.if_icmp .ne 13, 3) := by decide +kernel
theorem dX7_happens_101 : decode cX7_happens 101 = .ok (.aload_n 0, 1) := by decide +kernel
theorem dX7_happens_102 : decode cX7_happens 102 = .ok (.iload_n 3, 1) := by decide +kernel
theorem dX7_happens_103 : decode cX7_happens 103 = .ok (.iload_n 2, 1) := by decide +kernel
theorem dX7_happens_104 : decode cX7_happens 104 = .ok (.invokevirtual 92, 3) := by decide +kernel
theorem dX7_happens_107 : decode cX7_happens 107 = .ok (.pop, 1) := by decide +kernel
theorem dX7_happens_108 : decode cX7_happens 108 = .ok (.goto 81, 3) := by decide +kernel
theorem dX7_happens_111 : decode cX7_happens 111 = .ok (.aload_n 0, 1) := by decide +kernel
theorem dX7_happens_112 : decode cX7_happens 112 = .ok (.getfield 9, 3) := by decide +kernel
theorem dX7_happens_115 : decode cX7_happens 115 = .ok (.sipush 631, 3) := by decide +kernel
theorem dX7_happens_118 : decode cX7_happens 118 = .ok (.iload_n 3, 1) := by decide +kernel
theorem dX7_happens_119 : decode cX7_happens 119 = .ok (.iadd, 1) := by decide +kernel
theorem dX7_happens_120 : decode cX7_happens 120 = .ok (.iconst 3, 1) := by decide +kernel
theorem dX7_happens_121 : decode cX7_happens 121 = .ok (.iastore, 1) := by decide +kernel
theorem dX7_happens_122 : decode cX7_happens 122 = .ok (.goto 67, 3) := by decide +kernel
theorem dX7_happens_125 : decode cX7_happens 125 = .ok (.aload_n 0, 1) := by decide +kernel
theorem dX7_happens_126 : decode cX7_happens 126 = .ok (.getfield 9, 3) := by decide +kernel
theorem dX7_happens_129 : decode cX7_happens 129 = .ok (.bipush 28, 2) := by decide +kernel
theorem dX7_happens_131 : decode cX7_happens 131 = .ok (.aload_n 0, 1) := by decide +kernel
theorem dX7_happens_132 : decode cX7_happens 132 = .ok (.iload_n 1, 1) := by decide +kernel
theorem dX7_happens_133 : decode cX7_happens 133 = .ok (.invokevirtual 50, 3) := by decide +kernel
theorem dX7_happens_136 : decode cX7_happens 136 = .ok (.iadd, 1) := by decide +kernel
theorem dX7_happens_137 : decode cX7_happens 137 = .ok (.iaload, 1) := by decide +kernel
theorem dX7_happens_138 : decode cX7_happens 138 = .ok (.iconst 1, 1) := by decide +kernel
theorem dX7_happens_139 : decode cX7_happens 139 = .ok (.if_icmp .ne 13, 3) := by decide +kernel
theorem dX7_happens_142 : decode cX7_happens 142 = .ok (.aload_n 0, 1) := by decide +kernel
theorem dX7_happens_143 : decode cX7_happens 143 = .ok (.iload_n 3, 1) := by decide +kernel
theorem dX7_happens_144 : decode cX7_happens 144 = .ok (.iload_n 2, 1) := by decide +kernel
theorem dX7_happens_145 : decode cX7_happens 145 = .ok (.invokevirtual 92, 3) := by decide +kernel
theorem dX7_happens_148 : decode cX7_happens 148 = .ok (.pop, 1) := by decide +kernel
theorem dX7_happens_149 : decode cX7_happens 149 = .ok (.goto 40, 3) := by decide +kernel
theorem dX7_happens_152 : decode cX7_happens 152 = .ok (.aload_n 0, 1) := by decide +kernel
theorem dX7_happens_153 : decode cX7_happens 153 = .ok (.getfield 9, 3) := by decide +kernel
theorem dX7_happens_156 : decode cX7_happens 156 = .ok (.sipush 631, 3) := by decide +kernel
theorem dX7_happens_159 : decode cX7_happens 159 = .ok (.iload_n 3, 1) := by decide +kernel
theorem dX7_happens_160 : decode cX7_happens 160 = .ok (.iadd, 1) := by decide +kernel
theorem dX7_happens_161 : decode cX7_happens 161 = .ok (.iconst 4, 1) := by decide +kernel
theorem dX7_happens_162 : decode cX7_happens 162 = .ok (.iastore, 1) := by decide +kernel
theorem dX7_happens_163 : decode cX7_happens 163 = .ok (.goto 26, 3) := by decide +kernel
theorem dX7_happens_166 : decode cX7_happens 166 = .ok (.aload_n 0, 1) := by decide +kernel
theorem dX7_happens_167 : decode cX7_happens 167 = .ok (.iload_n 1, 1) := by decide +kernel
theorem dX7_happens_168 : decode cX7_happens 168 = .ok (.iload_n 2, 1) := by decide +kernel
theorem dX7_happens_169 : decode cX7_happens 169 = .ok (.invokevirtual 71, 3) := by decide +kernel
theorem dX7_happens_172 : decode cX7_happens 172 = .ok (.aload_n 0, 1) := by decide +kernel
theorem dX7_happens_173 : decode cX7_happens 173 = .ok (.getfield 9, 3) := by decide +kernel
theorem dX7_happens_176 : decode cX7_happens 176 = .ok (.sipush 631, 3) := by decide +kernel
theorem dX7_happens_179 : decode cX7_happens 179 = .ok (.iload_n 3, 1) := by decide +kernel
theorem dX7_happens_180 : decode cX7_happens 180 = .ok (.iadd, 1) := by decide +kernel
theorem dX7_happens_181 : decode cX7_happens 181 = .ok (.iconst 0, 1) := by decide +kernel
theorem dX7_happens_182 : decode cX7_happens 182 = .ok (.iastore, 1) := by decide +kernel
theorem dX7_happens_183 : decode cX7_happens 183 = .ok (.aload_n 0, 1) := by decide +kernel
theorem dX7_happens_184 : decode cX7_happens 184 = .ok (.iconst 5, 1) := by decide +kernel
theorem dX7_happens_185 : decode cX7_happens 185 = .ok (.iload_n 1, 1) := by decide +kernel
theorem dX7_happens_186 : decode cX7_happens 186 = .ok (.invokevirtual 83, 3) := by decide +kernel
theorem dX7_happens_189 : decode cX7_happens 189 = .ok (.return_, 1) := by decide +kernel
theorem dX7_happen_0 : decode cX7_happen 0 = .ok (.iconst 0, 1) := by decide +kernel
theorem dX7_happen_1 : decode cX7_happen 1 = .ok (.istore_n 2, 1) := by decide +kernel
theorem dX7_happen_2 : decode cX7_happen 2 = .ok (.aload_n 0, 1) := by decide +kernel
theorem dX7_happen_3 : decode cX7_happen 3 = .ok (.getfield 9, 3) := by decide +kernel
theorem dX7_happen_6 : decode cX7_happen 6 = .ok (.iconst 0, 1) := by decide +kernel
theorem dX7_happen_7 : decode cX7_happen 7 = .ok (.iload_n 1, 1) := by decide +kernel
theorem dX7_happen_8 : decode cX7_happen 8 = .ok (.iastore, 1) := by decide +kernel
theorem dX7_happen_9 : decode cX7_happen 9 = .ok (.iconst 0, 1) := by decide +kernel
theorem dX7_happen_10 : decode cX7_happen 10 = .ok (.istore_n 3, 1) := by decide +kernel
theorem dX7_happen_11 : decode cX7_happen 11 = .ok (.iload_n 3, 1) := by decide +kernel
theorem dX7_happen_12 : decode cX7_happen 12 = .ok (.iconst 5, 1) := by decide +kernel
theorem dX7_happen_13 : decode cX7_happen 13 = .ok (.if_icmp .ge 58, 3) := by decide +kernel
theorem dX7_happen_16 : decode cX7_happen 16 = .ok (.iconst 0, 1) := by decide +kernel
theorem dX7_happen_17 : decode cX7_happen 17 = .ok (.istore 4, 2) := by decide +kernel
theorem dX7_happen_19 : decode cX7_happen 19 = .ok (.iload 4, 2) := by decide +kernel
theorem dX7_happen_21 : decode cX7_happen 21 = .ok (.bipush 100, 2) := by decide +kernel
theorem dX7_happen_23 : decode cX7_happen 23 = .ok (.if_icmp .ge 42, 3) := by decide +kernel
theorem dX7_happen_26 : decode cX7_happen 26 = .ok (.aload_n 0, 1) := by decide +kernel
theorem dX7_happen_27 : decode cX7_happen 27 = .ok (.iload 4, 2) := by decide +kernel
theorem dX7_happen_29 : decode cX7_happen 29 = .ok (.invokevirtual 98, 3) := by decide +kernel
theorem dX7_happen_32 : decode cX7_happen 32 = .ok (.iload_n 1, 1) := by decide +kernel
theorem dX7_happen_33 : decode cX7_happen 33 = .ok (.if_icmp .ne 26, 3) := by decide +kernel
theorem dX7_happen_36 : decode cX7_happen 36 = .ok (.aload_n 0, 1) := by decide +kernel
theorem dX7_happen_37 : decode cX7_happen 37 = .ok (.iload 4, 2) := by decide +kernel
theorem dX7_happen_39 : decode cX7_happen 39 = .ok (.invokevirtual 101, 3) := by decide +kernel
theorem dX7_happen_42 : decode cX7_happen 42 = .ok (.iload_n 3, 1) := by decide +kernel
theorem dX7_happen_43 : decode cX7_happen 43 = .ok (.if_icmp .eq 6, 3) := by decide +kernel
theorem dX7_happen_46 : decode cX7_happen 46 = .ok (.goto 13, 3) := by decide +kernel
theorem dX7_happen_49 : decode cX7_happen 49 = .ok (.aload_n 0, 1) := by decide +kernel
theorem dX7_happen_50 : decode cX7_happen 50 = .ok (.iload 4, 2) := by decide +kernel
theorem dX7_happen_52 : decode cX7_happen 52 = .ok (.iload_n 1, 1) := by decide +kernel
theorem dX7_happen_53 : decode cX7_happen 53 = .ok (.invokevirtual 104, 3) := by decide +kernel
theorem dX7_happen_56 : decode cX7_happen 56 = .ok (.iinc 2 1, 3) := by decide +kernel
theorem dX7_happen_59 : decode cX7_happen 59 = .ok (.iinc 4 1, 3) := by decide +kernel
theorem dX7_happen_62 : decode cX7_happen 62 = .ok (.goto (-43), 3) := by decide +kernel
theorem dX7_happen_65 : decode cX7_happen 65 = .ok (.iinc 3 1, 3) := by decide +kernel
theorem dX7_happen_68 : decode cX7_happen 68 = .ok (.goto (-57), 3) := by decide +kernel
theorem dX7_happen_71 : decode cX7_happen 71 = .ok (.iload_n 2, 1) := by decide +kernel
theorem dX7_happen_72 : decode cX7_happen 72 = .ok (.ireturn, 1) := by decide +kernel
theorem dX7_advance_0 : decode cX7_advance 0 = .ok (.aload_n 0, 1) := by decide +kernel
theorem dX7_advance_1 : decode cX7_advance 1 = .ok (.iconst 0, 1) := by decide +kernel
theorem dX7_advance_2 : decode cX7_advance 2 = .ok (.putfield 19, 3) := by decide +kernel
theorem dX7_advance_5 : decode cX7_advance 5 = .ok (.iload_n 1, 1) := by decide +kernel
theorem dX7_advance_6 : decode cX7_advance 6 = .ok (.iconst 1, 1) := by decide +kernel
theorem dX7_advance_7 : decode cX7_advance 7 = .ok (.sipush 2000, 3) := by decide +kernel
theorem dX7_advance_10 : decode cX7_advance 10 = .ok (.invokestatic 23, 3) := by decide +kernel
theorem dX7_advance_13 : decode cX7_advance 13 = .ok (.ifCond .ne 9, 3) := by decide +kernel
theorem dX7_advance_16 : decode cX7_advance 16 = .ok (.aload_n 0, 1) := by decide +kernel
theorem dX7_advance_17 : decode cX7_advance 17 = .ok (.iconst 1, 1) := by decide +kernel
theorem dX7_advance_18 : decode cX7_advance 18 = .ok (.invokevirtual 41, 3) := by decide +kernel
theorem dX7_advance_21 : decode cX7_advance 21 = .ok (.ireturn, 1) := by decide +kernel
theorem dX7_advance_22 : decode cX7_advance 22 = .ok (.aload_n 0, 1) := by decide +kernel
theorem dX7_advance_23 : decode cX7_advance 23 = .ok (.getfield 9, 3) := by decide +kernel
theorem dX7_advance_26 : decode cX7_advance 26 = .ok (.iconst 0, 1) := by decide +kernel
theorem dX7_advance_27 : decode cX7_advance 27 = .ok (.iaload, 1) := by decide +kernel
theorem dX7_advance_28 : decode cX7_advance 28 = .ok (.iload_n 1, 1) := by decide +kernel
theorem dX7_advance_29 : decode cX7_advance 29 = .ok (.iadd, 1) := by decide +kernel
theorem dX7_advance_30 : decode cX7_advance 30 = .ok (.ldc 107, 2) := by decide +kernel
theorem dX7_advance_32 : decode cX7_advance 32 = .ok (.if_icmp .le 9, 3) := by decide +kernel
theorem dX7_advance_35 : decode cX7_advance 35 = .ok (.aload_n 0, 1) := by decide +kernel
theorem dX7_advance_36 : decode cX7_advance 36 = .ok (.iconst 2, 1) := by decide +kernel
theorem dX7_advance_37 : decode cX7_advance 37 = .ok (.invokevirtual 41, 3) := by decide +kernel
theorem dX7_advance_40 : decode cX7_advance 40 = .ok (.ireturn, 1) := by decide +kernel
theorem dX7_advance_41 : decode cX7_advance 41 = .ok (.aload_n 0, 1) := by decide +kernel
theorem dX7_advance_42 : decode cX7_advance 42 = .ok (.getfield 9, 3) := by decide +kernel
theorem dX7_advance_45 : decode cX7_advance 45 = .ok (.iconst 0, 1) := by decide +kernel
theorem dX7_advance_46 : decode cX7_advance 46 = .ok (.iaload, 1) := by decide +kernel
theorem dX7_advance_47 : decode cX7_advance 47 = .ok (.iload_n 1, 1) := by decide +kernel
theorem dX7_advance_48 : decode cX7_advance 48 = .ok (.iadd, 1) := by decide +kernel
theorem dX7_advance_49 : decode cX7_advance 49 = .ok (.istore_n 2, 1) := by decide +kernel
theorem dX7_advance_50 : decode cX7_advance 50 = .ok (.iconst 0, 1) := by decide +kernel
theorem dX7_advance_51 : decode cX7_advance 51 = .ok (.istore_n 3, 1) := by decide +kernel
theorem dX7_advance_52 : decode cX7_advance 52 = .ok (.aload_n 0, 1) := by decide +kernel
theorem dX7_advance_53 : decode cX7_advance 53 = .ok (.invokevirtual 108, 3) := by decide +kernel
theorem dX7_advance_56 : decode cX7_advance 56 = .ok (.ifCond .lt 25, 3) := by decide +kernel
theorem dX7_advance_59 : decode cX7_advance 59 = .ok (.aload_n 0, 1) := by decide +kernel
theorem dX7_advance_60 : decode cX7_advance 60 = .ok (.invokevirtual 108, 3) := by decide +kernel
theorem dX7_advance_63 : decode cX7_advance 63 = .ok (.iload_n 2, 1) := by decide +kernel
theorem dX7_advance_64 : decode cX7_advance 64 = .ok (.if_icmp .gt 17, 3) := by decide +kernel
theorem dX7_advance_67 : decode cX7_advance 67 = .ok (.iload_n 3, 1) := by decide +kernel
theorem dX7_advance_68 : decode cX7_advance 68 = .ok (.aload_n 0, 1) := by decide +kernel
theorem dX7_advance_69 : decode cX7_advance 69 = .ok (.aload_n 0, 1) := by decide +kernel
theorem dX7_advance_70 : decode cX7_advance 70 = .ok (.invokevirtual 108, 3) := by decide +kernel
theorem dX7_advance_73 : decode cX7_advance 73 = .ok (.invokevirtual 112, 3) := by decide +kernel
theorem dX7_advance_76 : decode cX7_advance 76 = .ok (.iadd, 1) := by decide +kernel
theorem dX7_advance_77 : decode cX7_advance 77 = .ok (.istore_n 3, 1) := by decide +kernel
theorem dX7_advance_78 : decode cX7_advance 78 = .ok (.goto (-26), 3) := by decide +kernel
theorem dX7_advance_81 : decode cX7_advance 81 = .ok (.aload_n 0, 1) := by decide +kernel
theorem dX7_advance_82 : decode cX7_advance 82 = .ok (.getfield 9, 3) := by decide +kernel
theorem dX7_advance_85 : decode cX7_advance 85 = .ok (.iconst 0, 1) := by decide +kernel
theorem dX7_advance_86 : decode cX7_advance 86 = .ok (.iload_n 2, 1) := by decide +kernel
theorem dX7_advance_87 : decode cX7_advance 87 = .ok (.iastore, 1) := by decide +kernel
theorem dX7_advance_88 : decode cX7_advance 88 = .ok (.iload_n 3, 1) := by decide +kernel
theorem dX7_advance_89 : decode cX7_advance 89 = .ok (.ireturn, 1) := by decide +kernel
theorem dX7_advanceToEvent_0 : decode cX7_advanceToEvent 0 = .ok (.aload_n 0, 1) := by decide +kernel
theorem dX7_advanceToEvent_1 : decode cX7_advanceToEvent 1 = .ok (.iconst 0, 1) := by decide +kernel
theorem dX7_advanceToEvent_2 : decode cX7_advanceToEvent 2 = .ok (.putfield 19, 3) := by decide +kernel
theorem dX7_advanceToEvent_5 : decode cX7_advanceToEvent 5 = .ok (.aload_n 0, 1) := by decide +kernel
theorem dX7_advanceToEvent_6 : decode cX7_advanceToEvent 6 = .ok (.invokevirtual 108, 3) := by decide +kernel
theorem dX7_advanceToEvent_9 : decode cX7_advanceToEvent 9 = .ok (.istore_n 1, 1) := by decide +kernel
theorem dX7_advanceToEvent_10 : decode cX7_advanceToEvent 10 = .ok (.iload_n 1, 1) := by decide +kernel
theorem dX7_advanceToEvent_11 : decode cX7_advanceToEvent 11 = .ok (.ifCond .ge 9, 3) := by decide +kernel
theorem dX7_advanceToEvent_14 : decode cX7_advanceToEvent 14 = .ok (.aload_n 0, 1) := by decide +kernel
theorem dX7_advanceToEvent_15 : decode cX7_advanceToEvent 15 = .ok (.iconst 1, 1) := by decide +kernel
theorem dX7_advanceToEvent_16 : decode cX7_advanceToEvent 16 = .ok (.invokevirtual 41, 3) := by decide +kernel
theorem dX7_advanceToEvent_19 : decode cX7_advanceToEvent 19 = .ok (.ireturn, 1) := by decide +kernel
theorem dX7_advanceToEvent_20 : decode cX7_advanceToEvent 20 = .ok (.iload_n 1, 1) := by decide +kernel
theorem dX7_advanceToEvent_21 : decode cX7_advanceToEvent 21 = .ok (.ldc 107, 2) := by decide +kernel
theorem dX7_advanceToEvent_23 : decode cX7_advanceToEvent 23 = .ok (.if_icmp .le 9, 3) := by decide +kernel
theorem dX7_advanceToEvent_26 : decode cX7_advanceToEvent 26 = .ok (.aload_n 0, 1) := by decide +kernel
theorem dX7_advanceToEvent_27 : decode cX7_advanceToEvent 27 = .ok (.iconst 2, 1) := by decide +kernel
theorem dX7_advanceToEvent_28 : decode cX7_advanceToEvent 28 = .ok (.invokevirtual 41, 3) := by decide +kernel
theorem dX7_advanceToEvent_31 : decode cX7_advanceToEvent 31 = .ok (.ireturn, 1) := by decide +kernel
theorem dX7_advanceToEvent_32 : decode cX7_advanceToEvent 32 = .ok (.aload_n 0, 1) := by decide +kernel
theorem dX7_advanceToEvent_33 : decode cX7_advanceToEvent 33 = .ok (.iload_n 1, 1) := by decide +kernel
theorem dX7_advanceToEvent_34 : decode cX7_advanceToEvent 34 = .ok (.invokevirtual 112, 3) := by decide +kernel
theorem dX7_advanceToEvent_37 : decode cX7_advanceToEvent 37 = .ok (.pop, 1) := by decide +kernel
theorem dX7_advanceToEvent_38 : decode cX7_advanceToEvent 38 = .ok (.iload_n 1, 1) := by decide +kernel
theorem dX7_advanceToEvent_39 : decode cX7_advanceToEvent 39 = .ok (.ireturn, 1) := by decide +kernel
theorem dX7_time_0 : decode cX7_time 0 = .ok (.aload_n 0, 1) := by decide +kernel
theorem dX7_time_1 : decode cX7_time 1 = .ok (.iconst 0, 1) := by decide +kernel
theorem dX7_time_2 : decode cX7_time 2 = .ok (.putfield 19, 3) := by decide +kernel
theorem dX7_time_5 : decode cX7_time 5 = .ok (.aload_n 0, 1) := by decide +kernel
theorem dX7_time_6 : decode cX7_time 6 = .ok (.getfield 9, 3) := by decide +kernel
theorem dX7_time_9 : decode cX7_time 9 = .ok (.iconst 0, 1) := by decide +kernel
theorem dX7_time_10 : decode cX7_time 10 = .ok (.iaload, 1) := by decide +kernel
theorem dX7_time_11 : decode cX7_time 11 = .ok (.ireturn, 1) := by decide +kernel
theorem dX7_clientState_0 : decode cX7_clientState 0 = .ok (.aload_n 0, 1) := by decide +kernel
theorem dX7_clientState_1 : decode cX7_clientState 1 = .ok (.iconst 0, 1) := by decide +kernel
theorem dX7_clientState_2 : decode cX7_clientState 2 = .ok (.putfield 19, 3) := by decide +kernel
theorem dX7_clientState_5 : decode cX7_clientState 5 = .ok (.iload_n 1, 1) := by decide +kernel
theorem dX7_clientState_6 : decode cX7_clientState 6 = .ok (.invokestatic 65, 3) := by decide +kernel
theorem dX7_clientState_9 : decode cX7_clientState 9 = .ok (.ifCond .eq 16, 3) := by decide +kernel
theorem dX7_clientState_12 : decode cX7_clientState 12 = .ok (.aload_n 0, 1) := by decide +kernel
theorem dX7_clientState_13 : decode cX7_clientState 13 = .ok (.getfield 9, 3) := by decide +kernel
theorem dX7_clientState_16 : decode cX7_clientState 16 = .ok (.sipush 631, 3) := by decide +kernel
theorem dX7_clientState_19 : decode cX7_clientState 19 = .ok (.iload_n 1, 1) := by decide +kernel
theorem dX7_clientState_20 : decode cX7_clientState 20 = .ok (.iadd, 1) := by decide +kernel
theorem dX7_clientState_21 : decode cX7_clientState 21 = .ok (.iaload, 1) := by decide +kernel
theorem dX7_clientState_22 : decode cX7_clientState 22 = .ok (.goto 8, 3) := by decide +kernel
theorem dX7_clientState_25 : decode cX7_clientState 25 = .ok (.aload_n 0, 1) := by decide +kernel
theorem dX7_clientState_26 : decode cX7_clientState 26 = .ok (.iconst 1, 1) := by decide +kernel
theorem dX7_clientState_27 : decode cX7_clientState 27 = .ok (.invokevirtual 41, 3) := by decide +kernel
theorem dX7_clientState_30 : decode cX7_clientState 30 = .ok (.ireturn, 1) := by decide +kernel
theorem dX7_addressOf_0 : decode cX7_addressOf 0 = .ok (.aload_n 0, 1) := by decide +kernel
theorem dX7_addressOf_1 : decode cX7_addressOf 1 = .ok (.iconst 0, 1) := by decide +kernel
theorem dX7_addressOf_2 : decode cX7_addressOf 2 = .ok (.putfield 19, 3) := by decide +kernel
theorem dX7_addressOf_5 : decode cX7_addressOf 5 = .ok (.iload_n 1, 1) := by decide +kernel
theorem dX7_addressOf_6 : decode cX7_addressOf 6 = .ok (.invokestatic 65, 3) := by decide +kernel
theorem dX7_addressOf_9 : decode cX7_addressOf 9 = .ok (.ifCond .ne 9, 3) := by decide +kernel
theorem dX7_addressOf_12 : decode cX7_addressOf 12 = .ok (.aload_n 0, 1) := by decide +kernel
theorem dX7_addressOf_13 : decode cX7_addressOf 13 = .ok (.iconst 1, 1) := by decide +kernel
theorem dX7_addressOf_14 : decode cX7_addressOf 14 = .ok (.invokevirtual 41, 3) := by decide +kernel
theorem dX7_addressOf_17 : decode cX7_addressOf 17 = .ok (.ireturn, 1) := by decide +kernel
theorem dX7_addressOf_18 : decode cX7_addressOf 18 = .ok (.aload_n 0, 1) := by decide +kernel
theorem dX7_addressOf_19 : decode cX7_addressOf 19 = .ok (.getfield 9, 3) := by decide +kernel
theorem dX7_addressOf_22 : decode cX7_addressOf 22 = .ok (.sipush 631, 3) := by decide +kernel
theorem dX7_addressOf_25 : decode cX7_addressOf 25 = .ok (.iload_n 1, 1) := by decide +kernel
theorem dX7_addressOf_26 : decode cX7_addressOf 26 = .ok (.iadd, 1) := by decide +kernel
theorem dX7_addressOf_27 : decode cX7_addressOf 27 = .ok (.iaload, 1) := by decide +kernel
theorem dX7_addressOf_28 : decode cX7_addressOf 28 = .ok (.ifCond .ne 11, 3) := by decide +kernel
theorem dX7_addressOf_31 : decode cX7_addressOf 31 = .ok (.aload_n 0, 1) := by decide +kernel
theorem dX7_addressOf_32 : decode cX7_addressOf 32 = .ok (.iconst 2, 1) := by decide +kernel
theorem dX7_addressOf_33 : decode cX7_addressOf 33 = .ok (.invokevirtual 41, 3) := by decide +kernel
theorem dX7_addressOf_36 : decode cX7_addressOf 36 = .ok (.goto 13, 3) := by decide +kernel
theorem dX7_addressOf_39 : decode cX7_addressOf 39 = .ok (.aload_n 0, 1) := by decide +kernel
theorem dX7_addressOf_40 : decode cX7_addressOf 40 = .ok (.getfield 9, 3) := by decide +kernel
theorem dX7_addressOf_43 : decode cX7_addressOf 43 = .ok (.sipush 651, 3) := by decide +kernel
theorem dX7_addressOf_46 : decode cX7_addressOf 46 = .ok (.iload_n 1, 1) := by decide +kernel
theorem dX7_addressOf_47 : decode cX7_addressOf 47 = .ok (.iadd, 1) := by decide +kernel
theorem dX7_addressOf_48 : decode cX7_addressOf 48 = .ok (.iaload, 1) := by decide +kernel
theorem dX7_addressOf_49 : decode cX7_addressOf 49 = .ok (.ireturn, 1) := by decide +kernel
theorem dX7_remembered_0 : decode cX7_remembered 0 = .ok (.aload_n 0, 1) := by decide +kernel
theorem dX7_remembered_1 : decode cX7_remembered 1 = .ok (.iconst 0, 1) := by decide +kernel
theorem dX7_remembered_2 : decode cX7_remembered 2 = .ok (.putfield 19, 3) := by decide +kernel
theorem dX7_remembered_5 : decode cX7_remembered 5 = .ok (.iload_n 1, 1) := by decide +kernel
theorem dX7_remembered_6 : decode cX7_remembered 6 = .ok (.invokestatic 65, 3) := by decide +kernel
theorem dX7_remembered_9 : decode cX7_remembered 9 = .ok (.ifCond .ne 9, 3) := by decide +kernel
theorem dX7_remembered_12 : decode cX7_remembered 12 = .ok (.aload_n 0, 1) := by decide +kernel
theorem dX7_remembered_13 : decode cX7_remembered 13 = .ok (.iconst 1, 1) := by decide +kernel
theorem dX7_remembered_14 : decode cX7_remembered 14 = .ok (.invokevirtual 41, 3) := by decide +kernel
theorem dX7_remembered_17 : decode cX7_remembered 17 = .ok (.ireturn, 1) := by decide +kernel
theorem dX7_remembered_18 : decode cX7_remembered 18 = .ok (.aload_n 0, 1) := by decide +kernel
theorem dX7_remembered_19 : decode cX7_remembered 19 = .ok (.getfield 9, 3) := by decide +kernel
theorem dX7_remembered_22 : decode cX7_remembered 22 = .ok (.sipush 711, 3) := by decide +kernel
theorem dX7_remembered_25 : decode cX7_remembered 25 = .ok (.iload_n 1, 1) := by decide +kernel
theorem dX7_remembered_26 : decode cX7_remembered 26 = .ok (.iadd, 1) := by decide +kernel
theorem dX7_remembered_27 : decode cX7_remembered 27 = .ok (.iaload, 1) := by decide +kernel
theorem dX7_remembered_28 : decode cX7_remembered 28 = .ok (.ifCond .ne 11, 3) := by decide +kernel
theorem dX7_remembered_31 : decode cX7_remembered 31 = .ok (.aload_n 0, 1) := by decide +kernel
theorem dX7_remembered_32 : decode cX7_remembered 32 = .ok (.iconst 2, 1) := by decide +kernel
theorem dX7_remembered_33 : decode cX7_remembered 33 = .ok (.invokevirtual 41, 3) := by decide +kernel
theorem dX7_remembered_36 : decode cX7_remembered 36 = .ok (.goto 15, 3) := by decide +kernel
theorem dX7_remembered_39 : decode cX7_remembered 39 = .ok (.aload_n 0, 1) := by decide +kernel
theorem dX7_remembered_40 : decode cX7_remembered 40 = .ok (.getfield 9, 3) := by decide +kernel
theorem dX7_remembered_43 : decode cX7_remembered 43 = .ok (.sipush 711, 3) := by decide +kernel
theorem dX7_remembered_46 : decode cX7_remembered 46 = .ok (.iload_n 1, 1) := by decide +kernel
theorem dX7_remembered_47 : decode cX7_remembered 47 = .ok (.iadd, 1) := by decide +kernel
theorem dX7_remembered_48 : decode cX7_remembered 48 = .ok (.iaload, 1) := by decide +kernel
theorem dX7_remembered_49 : decode cX7_remembered 49 = .ok (.iconst 1, 1) := by decide +kernel
theorem dX7_remembered_50 : decode cX7_remembered 50 = .ok (.isub, 1) := by decide +kernel
theorem dX7_remembered_51 : decode cX7_remembered 51 = .ok (.ireturn, 1) := by decide +kernel
theorem dX7_timer_0 : decode cX7_timer 0 = .ok (.aload_n 0, 1) := by decide +kernel
theorem dX7_timer_1 : decode cX7_timer 1 = .ok (.aload_n 0, 1) := by decide +kernel
theorem dX7_timer_2 : decode cX7_timer 2 = .ok (.iload_n 1, 1) := by decide +kernel
theorem dX7_timer_3 : decode cX7_timer 3 = .ok (.invokevirtual 89, 3) := by decide +kernel
theorem dX7_timer_6 : decode cX7_timer 6 = .ok (.putfield 19, 3) := by decide +kernel
theorem dX7_timer_9 : decode cX7_timer 9 = .ok (.aload_n 0, 1) := by decide +kernel
theorem dX7_timer_10 : decode cX7_timer 10 = .ok (.getfield 19, 3) := by decide +kernel
theorem dX7_timer_13 : decode cX7_timer 13 = .ok (.ifCond .le 5, 3) := by decide +kernel
theorem dX7_timer_16 : decode cX7_timer 16 = .ok (.iconst 0, 1) := by decide +kernel
theorem dX7_timer_17 : decode cX7_timer 17 = .ok (.ireturn, 1) := by decide +kernel
theorem dX7_timer_18 : decode cX7_timer 18 = .ok (.iload_n 2, 1) := by decide +kernel
theorem dX7_timer_19 : decode cX7_timer 19 = .ok (.iconst 0, 1) := by decide +kernel
theorem dX7_timer_20 : decode cX7_timer 20 = .ok (.iconst 2, 1) := by decide +kernel
theorem dX7_timer_21 : decode cX7_timer 21 = .ok (.invokestatic 23, 3) := by decide +kernel
theorem dX7_timer_24 : decode cX7_timer 24 = .ok (.ifCond .ne 9, 3) := by decide +kernel
theorem dX7_timer_27 : decode cX7_timer 27 = .ok (.aload_n 0, 1) := by decide +kernel
theorem dX7_timer_28 : decode cX7_timer 28 = .ok (.iconst 3, 1) := by decide +kernel
theorem dX7_timer_29 : decode cX7_timer 29 = .ok (.invokevirtual 41, 3) := by decide +kernel
theorem dX7_timer_32 : decode cX7_timer 32 = .ok (.ireturn, 1) := by decide +kernel
theorem dX7_timer_33 : decode cX7_timer 33 = .ok (.iload_n 2, 1) := by decide +kernel
theorem dX7_timer_34 : decode cX7_timer 34 = .ok (.ifCond .ne 16, 3) := by decide +kernel
theorem dX7_timer_37 : decode cX7_timer 37 = .ok (.aload_n 0, 1) := by decide +kernel
theorem dX7_timer_38 : decode cX7_timer 38 = .ok (.getfield 9, 3) := by decide +kernel
theorem dX7_timer_41 : decode cX7_timer 41 = .ok (.sipush 671, 3) := by decide +kernel
theorem dX7_timer_44 : decode cX7_timer 44 = .ok (.iload_n 1, 1) := by decide +kernel
theorem dX7_timer_45 : decode cX7_timer 45 = .ok (.iadd, 1) := by decide +kernel
theorem dX7_timer_46 : decode cX7_timer 46 = .ok (.iaload, 1) := by decide +kernel
theorem dX7_timer_47 : decode cX7_timer 47 = .ok (.goto 40, 3) := by decide +kernel
theorem dX7_timer_50 : decode cX7_timer 50 = .ok (.iload_n 2, 1) := by decide +kernel
theorem dX7_timer_51 : decode cX7_timer 51 = .ok (.iconst 1, 1) := by decide +kernel
theorem dX7_timer_52 : decode cX7_timer 52 = .ok (.if_icmp .ne 16, 3) := by decide +kernel
theorem dX7_timer_55 : decode cX7_timer 55 = .ok (.aload_n 0, 1) := by decide +kernel
theorem dX7_timer_56 : decode cX7_timer 56 = .ok (.getfield 9, 3) := by decide +kernel
theorem dX7_timer_59 : decode cX7_timer 59 = .ok (.sipush 691, 3) := by decide +kernel
theorem dX7_timer_62 : decode cX7_timer 62 = .ok (.iload_n 1, 1) := by decide +kernel
theorem dX7_timer_63 : decode cX7_timer 63 = .ok (.iadd, 1) := by decide +kernel
theorem dX7_timer_64 : decode cX7_timer 64 = .ok (.iaload, 1) := by decide +kernel
theorem dX7_timer_65 : decode cX7_timer 65 = .ok (.goto 22, 3) := by decide +kernel
theorem dX7_timer_68 : decode cX7_timer 68 = .ok (.aload_n 0, 1) := by decide +kernel
theorem dX7_timer_69 : decode cX7_timer 69 = .ok (.getfield 9, 3) := by decide +kernel
theorem dX7_timer_72 : decode cX7_timer 72 = .ok (.sipush 431, 3) := by decide +kernel
theorem dX7_timer_75 : decode cX7_timer 75 = .ok (.aload_n 0, 1) := by decide +kernel
theorem dX7_timer_76 : decode cX7_timer 76 = .ok (.getfield 9, 3) := by decide +kernel
theorem dX7_timer_79 : decode cX7_timer 79 = .ok (.sipush 651, 3) := by decide +kernel
theorem dX7_timer_82 : decode cX7_timer 82 = .ok (.iload_n 1, 1) := by decide +kernel
theorem dX7_timer_83 : decode cX7_timer 83 = .ok (.iadd, 1) := by decide +kernel
theorem dX7_timer_84 : decode cX7_timer 84 = .ok (.iaload, 1) := by decide +kernel
theorem dX7_timer_85 : decode cX7_timer 85 = .ok (.iadd, 1) := by decide +kernel
theorem dX7_timer_86 : decode cX7_timer 86 = .ok (.iaload, 1) := by decide +kernel
theorem dX7_timer_87 : decode cX7_timer 87 = .ok (.ireturn, 1) := by decide +kernel
theorem dX7_lacks_0 : decode cX7_lacks 0 = .ok (.iload_n 1, 1) := by decide +kernel
theorem dX7_lacks_1 : decode cX7_lacks 1 = .ok (.invokestatic 44, 3) := by decide +kernel
theorem dX7_lacks_4 : decode cX7_lacks 4 = .ok (.ifCond .ne 7, 3) := by decide +kernel
theorem dX7_lacks_7 : decode cX7_lacks 7 = .ok (.iconst 1, 1) := by decide +kernel
theorem dX7_lacks_8 : decode cX7_lacks 8 = .ok (.goto 16, 3) := by decide +kernel
theorem dX7_lacks_11 : decode cX7_lacks 11 = .ok (.aload_n 0, 1) := by decide +kernel
theorem dX7_lacks_12 : decode cX7_lacks 12 = .ok (.iload_n 1, 1) := by decide +kernel
theorem dX7_lacks_13 : decode cX7_lacks 13 = .ok (.invokevirtual 34, 3) := by decide +kernel
theorem dX7_lacks_16 : decode cX7_lacks 16 = .ok (.ifCond .ge 7, 3) := by decide +kernel
theorem dX7_lacks_19 : decode cX7_lacks 19 = .ok (.iconst 2, 1) := by decide +kernel
theorem dX7_lacks_20 : decode cX7_lacks 20 = .ok (.goto 4, 3) := by decide +kernel
theorem dX7_lacks_23 : decode cX7_lacks 23 = .ok (.iconst 0, 1) := by decide +kernel
theorem dX7_lacks_24 : decode cX7_lacks 24 = .ok (.ireturn, 1) := by decide +kernel
theorem dX7_addressState_0 : decode cX7_addressState 0 = .ok (.aload_n 0, 1) := by decide +kernel
theorem dX7_addressState_1 : decode cX7_addressState 1 = .ok (.aload_n 0, 1) := by decide +kernel
theorem dX7_addressState_2 : decode cX7_addressState 2 = .ok (.iload_n 1, 1) := by decide +kernel
theorem dX7_addressState_3 : decode cX7_addressState 3 = .ok (.invokevirtual 115, 3) := by decide +kernel
theorem dX7_addressState_6 : decode cX7_addressState 6 = .ok (.putfield 19, 3) := by decide +kernel
theorem dX7_addressState_9 : decode cX7_addressState 9 = .ok (.aload_n 0, 1) := by decide +kernel
theorem dX7_addressState_10 : decode cX7_addressState 10 = .ok (.getfield 19, 3) := by decide +kernel
theorem dX7_addressState_13 : decode cX7_addressState 13 = .ok (.ifCond .le 7, 3) := by decide +kernel
theorem dX7_addressState_16 : decode cX7_addressState 16 = .ok (.iconst 0, 1) := by decide +kernel
theorem dX7_addressState_17 : decode cX7_addressState 17 = .ok (.goto 13, 3) := by decide +kernel
theorem dX7_addressState_20 : decode cX7_addressState 20 = .ok (.aload_n 0, 1) := by decide +kernel
theorem dX7_addressState_21 : decode cX7_addressState 21 = .ok (.getfield 9, 3) := by decide +kernel
theorem dX7_addressState_24 : decode cX7_addressState 24 = .ok (.sipush 231, 3) := by decide +kernel
theorem dX7_addressState_27 : decode cX7_addressState 27 = .ok (.iload_n 1, 1) := by decide +kernel
theorem dX7_addressState_28 : decode cX7_addressState 28 = .ok (.iadd, 1) := by decide +kernel
theorem dX7_addressState_29 : decode cX7_addressState 29 = .ok (.iaload, 1) := by decide +kernel
theorem dX7_addressState_30 : decode cX7_addressState 30 = .ok (.ireturn, 1) := by decide +kernel
theorem dX7_holder_0 : decode cX7_holder 0 = .ok (.aload_n 0, 1) := by decide +kernel
theorem dX7_holder_1 : decode cX7_holder 1 = .ok (.aload_n 0, 1) := by decide +kernel
theorem dX7_holder_2 : decode cX7_holder 2 = .ok (.iload_n 1, 1) := by decide +kernel
theorem dX7_holder_3 : decode cX7_holder 3 = .ok (.invokevirtual 115, 3) := by decide +kernel
theorem dX7_holder_6 : decode cX7_holder 6 = .ok (.putfield 19, 3) := by decide +kernel
theorem dX7_holder_9 : decode cX7_holder 9 = .ok (.aload_n 0, 1) := by decide +kernel
theorem dX7_holder_10 : decode cX7_holder 10 = .ok (.getfield 19, 3) := by decide +kernel
theorem dX7_holder_13 : decode cX7_holder 13 = .ok (.ifCond .le 5, 3) := by decide +kernel
theorem dX7_holder_16 : decode cX7_holder 16 = .ok (.iconst 0, 1) := by decide +kernel
theorem dX7_holder_17 : decode cX7_holder 17 = .ok (.ireturn, 1) := by decide +kernel
theorem dX7_holder_18 : decode cX7_holder 18 = .ok (.aload_n 0, 1) := by decide +kernel
theorem dX7_holder_19 : decode cX7_holder 19 = .ok (.getfield 9, 3) := by decide +kernel
theorem dX7_holder_22 : decode cX7_holder 22 = .ok (.sipush 231, 3) := by decide +kernel
theorem dX7_holder_25 : decode cX7_holder 25 = .ok (.iload_n 1, 1) := by decide +kernel
theorem dX7_holder_26 : decode cX7_holder 26 = .ok (.iadd, 1) := by decide +kernel
theorem dX7_holder_27 : decode cX7_holder 27 = .ok (.iaload, 1) := by decide +kernel
theorem dX7_holder_28 : decode cX7_holder 28 = .ok (.iconst 1, 1) := by decide +kernel
theorem dX7_holder_29 : decode cX7_holder 29 = .ok (.iconst 2, 1) := by decide +kernel
theorem dX7_holder_30 : decode cX7_holder 30 = .ok (.invokestatic 23, 3) := by decide +kernel
theorem dX7_holder_33 : decode cX7_holder 33 = .ok (.ifCond .eq 16, 3) := by decide +kernel
theorem dX7_holder_36 : decode cX7_holder 36 = .ok (.aload_n 0, 1) := by decide +kernel
theorem dX7_holder_37 : decode cX7_holder 37 = .ok (.getfield 9, 3) := by decide +kernel
theorem dX7_holder_40 : decode cX7_holder 40 = .ok (.sipush 331, 3) := by decide +kernel
theorem dX7_holder_43 : decode cX7_holder 43 = .ok (.iload_n 1, 1) := by decide +kernel
theorem dX7_holder_44 : decode cX7_holder 44 = .ok (.iadd, 1) := by decide +kernel
theorem dX7_holder_45 : decode cX7_holder 45 = .ok (.iaload, 1) := by decide +kernel
theorem dX7_holder_46 : decode cX7_holder 46 = .ok (.goto 8, 3) := by decide +kernel
theorem dX7_holder_49 : decode cX7_holder 49 = .ok (.aload_n 0, 1) := by decide +kernel
theorem dX7_holder_50 : decode cX7_holder 50 = .ok (.iconst 2, 1) := by decide +kernel
theorem dX7_holder_51 : decode cX7_holder 51 = .ok (.invokevirtual 41, 3) := by decide +kernel
theorem dX7_holder_54 : decode cX7_holder 54 = .ok (.ireturn, 1) := by decide +kernel
theorem dX7_until_0 : decode cX7_until 0 = .ok (.aload_n 0, 1) := by decide +kernel
theorem dX7_until_1 : decode cX7_until 1 = .ok (.aload_n 0, 1) := by decide +kernel
theorem dX7_until_2 : decode cX7_until 2 = .ok (.iload_n 1, 1) := by decide +kernel
theorem dX7_until_3 : decode cX7_until 3 = .ok (.invokevirtual 115, 3) := by decide +kernel
theorem dX7_until_6 : decode cX7_until 6 = .ok (.putfield 19, 3) := by decide +kernel
theorem dX7_until_9 : decode cX7_until 9 = .ok (.aload_n 0, 1) := by decide +kernel
theorem dX7_until_10 : decode cX7_until 10 = .ok (.getfield 19, 3) := by decide +kernel
theorem dX7_until_13 : decode cX7_until 13 = .ok (.ifCond .le 5, 3) := by decide +kernel
theorem dX7_until_16 : decode cX7_until 16 = .ok (.iconst 0, 1) := by decide +kernel
theorem dX7_until_17 : decode cX7_until 17 = .ok (.ireturn, 1) := by decide +kernel
theorem dX7_until_18 : decode cX7_until 18 = .ok (.aload_n 0, 1) := by decide +kernel
theorem dX7_until_19 : decode cX7_until 19 = .ok (.getfield 9, 3) := by decide +kernel
theorem dX7_until_22 : decode cX7_until 22 = .ok (.sipush 231, 3) := by decide +kernel
theorem dX7_until_25 : decode cX7_until 25 = .ok (.iload_n 1, 1) := by decide +kernel
theorem dX7_until_26 : decode cX7_until 26 = .ok (.iadd, 1) := by decide +kernel
theorem dX7_until_27 : decode cX7_until 27 = .ok (.iaload, 1) := by decide +kernel
theorem dX7_until_28 : decode cX7_until 28 = .ok (.ifCond .ne 11, 3) := by decide +kernel
theorem dX7_until_31 : decode cX7_until 31 = .ok (.aload_n 0, 1) := by decide +kernel
theorem dX7_until_32 : decode cX7_until 32 = .ok (.iconst 2, 1) := by decide +kernel
theorem dX7_until_33 : decode cX7_until 33 = .ok (.invokevirtual 41, 3) := by decide +kernel
theorem dX7_until_36 : decode cX7_until 36 = .ok (.goto 13, 3) := by decide +kernel
theorem dX7_until_39 : decode cX7_until 39 = .ok (.aload_n 0, 1) := by decide +kernel
theorem dX7_until_40 : decode cX7_until 40 = .ok (.getfield 9, 3) := by decide +kernel
theorem dX7_until_43 : decode cX7_until 43 = .ok (.sipush 431, 3) := by decide +kernel
theorem dX7_until_46 : decode cX7_until 46 = .ok (.iload_n 1, 1) := by decide +kernel
theorem dX7_until_47 : decode cX7_until 47 = .ok (.iadd, 1) := by decide +kernel
theorem dX7_until_48 : decode cX7_until 48 = .ok (.iaload, 1) := by decide +kernel
theorem dX7_until_49 : decode cX7_until 49 = .ok (.ireturn, 1) := by decide +kernel
theorem dX7_freeSince_0 : decode cX7_freeSince 0 = .ok (.aload_n 0, 1) := by decide +kernel
theorem dX7_freeSince_1 : decode cX7_freeSince 1 = .ok (.aload_n 0, 1) := by decide +kernel
theorem dX7_freeSince_2 : decode cX7_freeSince 2 = .ok (.iload_n 1, 1) := by decide +kernel
theorem dX7_freeSince_3 : decode cX7_freeSince 3 = .ok (.invokevirtual 115, 3) := by decide +kernel
theorem dX7_freeSince_6 : decode cX7_freeSince 6 = .ok (.putfield 19, 3) := by decide +kernel
theorem dX7_freeSince_9 : decode cX7_freeSince 9 = .ok (.aload_n 0, 1) := by decide +kernel
theorem dX7_freeSince_10 : decode cX7_freeSince 10 = .ok (.getfield 19, 3) := by decide +kernel
theorem dX7_freeSince_13 : decode cX7_freeSince 13 = .ok (.ifCond .le 5, 3) := by decide +kernel
theorem dX7_freeSince_16 : decode cX7_freeSince 16 = .ok (.iconst 0, 1) := by decide +kernel
theorem dX7_freeSince_17 : decode cX7_freeSince 17 = .ok (.ireturn, 1) := by decide +kernel
theorem dX7_freeSince_18 : decode cX7_freeSince 18 = .ok (.aload_n 0, 1) := by decide +kernel
theorem dX7_freeSince_19 : decode cX7_freeSince 19 = .ok (.getfield 9, 3) := by decide +kernel
theorem dX7_freeSince_22 : decode cX7_freeSince 22 = .ok (.sipush 231, 3) := by decide +kernel
theorem dX7_freeSince_25 : decode cX7_freeSince 25 = .ok (.iload_n 1, 1) := by decide +kernel
theorem dX7_freeSince_26 : decode cX7_freeSince 26 = .ok (.iadd, 1) := by decide +kernel
theorem dX7_freeSince_27 : decode cX7_freeSince 27 = .ok (.iaload, 1) := by decide +kernel
theorem dX7_freeSince_28 : decode cX7_freeSince 28 = .ok (.ifCond .ne 16, 3) := by decide +kernel
theorem dX7_freeSince_31 : decode cX7_freeSince 31 = .ok (.aload_n 0, 1) := by decide +kernel
theorem dX7_freeSince_32 : decode cX7_freeSince 32 = .ok (.getfield 9, 3) := by decide +kernel
theorem dX7_freeSince_35 : decode cX7_freeSince 35 = .ok (.sipush 531, 3) := by decide +kernel
theorem dX7_freeSince_38 : decode cX7_freeSince 38 = .ok (.iload_n 1, 1) := by decide +kernel
theorem dX7_freeSince_39 : decode cX7_freeSince 39 = .ok (.iadd, 1) := by decide +kernel
theorem dX7_freeSince_40 : decode cX7_freeSince 40 = .ok (.iaload, 1) := by decide +kernel
theorem dX7_freeSince_41 : decode cX7_freeSince 41 = .ok (.goto 8, 3) := by decide +kernel
theorem dX7_freeSince_44 : decode cX7_freeSince 44 = .ok (.aload_n 0, 1) := by decide +kernel
theorem dX7_freeSince_45 : decode cX7_freeSince 45 = .ok (.iconst 2, 1) := by decide +kernel
theorem dX7_freeSince_46 : decode cX7_freeSince 46 = .ok (.invokevirtual 41, 3) := by decide +kernel
theorem dX7_freeSince_49 : decode cX7_freeSince 49 = .ok (.ireturn, 1) := by decide +kernel
theorem dX7_nextCandidate_0 : decode cX7_nextCandidate 0 = .ok (.aload_n 0, 1) := by decide +kernel
theorem dX7_nextCandidate_1 : decode cX7_nextCandidate 1 = .ok (.iconst 0, 1) := by decide +kernel
theorem dX7_nextCandidate_2 : decode cX7_nextCandidate 2 = .ok (.putfield 19, 3) := by decide +kernel
theorem dX7_nextCandidate_5 : decode cX7_nextCandidate 5 = .ok (.iload_n 1, 1) := by decide +kernel
theorem dX7_nextCandidate_6 : decode cX7_nextCandidate 6 = .ok (.invokestatic 65, 3) := by decide +kernel
theorem dX7_nextCandidate_9 : decode cX7_nextCandidate 9 = .ok (.ifCond .eq 10, 3) := by decide +kernel
theorem dX7_nextCandidate_12 : decode cX7_nextCandidate 12 = .ok (.iload_n 2, 1) := by decide +kernel
theorem dX7_nextCandidate_13 : decode cX7_nextCandidate 13 = .ok (.invokestatic 37, 3) := by decide +kernel
theorem dX7_nextCandidate_16 : decode cX7_nextCandidate 16 = .ok (.ifCond .ne 9, 3) := by decide +kernel
theorem dX7_nextCandidate_19 : decode cX7_nextCandidate 19 = .ok (.aload_n 0, 1) := by decide +kernel
theorem dX7_nextCandidate_20 : decode cX7_nextCandidate 20 = .ok (.iconst 1, 1) := by decide +kernel
theorem dX7_nextCandidate_21 : decode cX7_nextCandidate 21 = .ok (.invokevirtual 41, 3) := by decide +kernel
theorem dX7_nextCandidate_24 : decode cX7_nextCandidate 24 = .ok (.ireturn, 1) := by decide +kernel
theorem dX7_nextCandidate_25 : decode cX7_nextCandidate 25 = .ok (.aload_n 0, 1) := by decide +kernel
theorem dX7_nextCandidate_26 : decode cX7_nextCandidate 26 = .ok (.iload_n 1, 1) := by decide +kernel
theorem dX7_nextCandidate_27 : decode cX7_nextCandidate 27 = .ok (.iload_n 2, 1) := by decide +kernel
theorem dX7_nextCandidate_28 : decode cX7_nextCandidate 28 = .ok (.iconst (-1), 1) := by decide +kernel
theorem dX7_nextCandidate_29 : decode cX7_nextCandidate 29 = .ok (.invokevirtual 75, 3) := by decide +kernel
theorem dX7_nextCandidate_32 : decode cX7_nextCandidate 32 = .ok (.istore_n 3, 1) := by decide +kernel
theorem dX7_nextCandidate_33 : decode cX7_nextCandidate 33 = .ok (.iload_n 3, 1) := by decide +kernel
theorem dX7_nextCandidate_34 : decode cX7_nextCandidate 34 = .ok (.ifCond .ge 11, 3) := by decide +kernel
theorem dX7_nextCandidate_37 : decode cX7_nextCandidate 37 = .ok (.aload_n 0, 1) := by decide +kernel
theorem dX7_nextCandidate_38 : decode cX7_nextCandidate 38 = .ok (.iconst 2, 1) := by decide +kernel
theorem dX7_nextCandidate_39 : decode cX7_nextCandidate 39 = .ok (.invokevirtual 41, 3) := by decide +kernel
theorem dX7_nextCandidate_42 : decode cX7_nextCandidate 42 = .ok (.goto 4, 3) := by decide +kernel
theorem dX7_nextCandidate_45 : decode cX7_nextCandidate 45 = .ok (.iload_n 3, 1) := by decide +kernel
theorem dX7_nextCandidate_46 : decode cX7_nextCandidate 46 = .ok (.ireturn, 1) := by decide +kernel
theorem dX7_count_0 : decode cX7_count 0 = .ok (.iconst 0, 1) := by decide +kernel
theorem dX7_count_1 : decode cX7_count 1 = .ok (.istore_n 3, 1) := by decide +kernel
theorem dX7_count_2 : decode cX7_count 2 = .ok (.iconst 0, 1) := by decide +kernel
theorem dX7_count_3 : decode cX7_count 3 = .ok (.istore 4, 2) := by decide +kernel
theorem dX7_count_5 : decode cX7_count 5 = .ok (.iload 4, 2) := by decide +kernel
theorem dX7_count_7 : decode cX7_count 7 = .ok (.bipush 100, 2) := by decide +kernel
theorem dX7_count_9 : decode cX7_count 9 = .ok (.if_icmp .ge 41, 3) := by decide +kernel
theorem dX7_count_12 : decode cX7_count 12 = .ok (.aload_n 0, 1) := by decide +kernel
theorem dX7_count_13 : decode cX7_count 13 = .ok (.iload 4, 2) := by decide +kernel
theorem dX7_count_15 : decode cX7_count 15 = .ok (.invokevirtual 50, 3) := by decide +kernel
theorem dX7_count_18 : decode cX7_count 18 = .ok (.iload_n 1, 1) := by decide +kernel
theorem dX7_count_19 : decode cX7_count 19 = .ok (.if_icmp .ne 25, 3) := by decide +kernel
theorem dX7_count_22 : decode cX7_count 22 = .ok (.iload_n 2, 1) := by decide +kernel
theorem dX7_count_23 : decode cX7_count 23 = .ok (.ifCond .lt 18, 3) := by decide +kernel
theorem dX7_count_26 : decode cX7_count 26 = .ok (.aload_n 0, 1) := by decide +kernel
theorem dX7_count_27 : decode cX7_count 27 = .ok (.getfield 9, 3) := by decide +kernel
theorem dX7_count_30 : decode cX7_count 30 = .ok (.sipush 231, 3) := by decide +kernel
theorem dX7_count_33 : decode cX7_count 33 = .ok (.iload 4, 2) := by decide +kernel
theorem dX7_count_35 : decode cX7_count 35 = .ok (.iadd, 1) := by decide +kernel
theorem dX7_count_36 : decode cX7_count 36 = .ok (.iaload, 1) := by decide +kernel
theorem dX7_count_37 : decode cX7_count 37 = .ok (.iload_n 2, 1) := by decide +kernel
theorem dX7_count_38 : decode cX7_count 38 = .ok (.if_icmp .ne 6, 3) := by decide +kernel
theorem dX7_count_41 : decode cX7_count 41 = .ok (.iinc 3 1, 3) := by decide +kernel
theorem dX7_count_44 : decode cX7_count 44 = .ok (.iinc 4 1, 3) := by decide +kernel
theorem dX7_count_47 : decode cX7_count 47 = .ok (.goto (-42), 3) := by decide +kernel
theorem dX7_count_50 : decode cX7_count 50 = .ok (.iload_n 3, 1) := by decide +kernel
theorem dX7_count_51 : decode cX7_count 51 = .ok (.ireturn, 1) := by decide +kernel
theorem dX7_countState_0 : decode cX7_countState 0 = .ok (.aload_n 0, 1) := by decide +kernel
theorem dX7_countState_1 : decode cX7_countState 1 = .ok (.iconst 0, 1) := by decide +kernel
theorem dX7_countState_2 : decode cX7_countState 2 = .ok (.putfield 19, 3) := by decide +kernel
theorem dX7_countState_5 : decode cX7_countState 5 = .ok (.iload_n 1, 1) := by decide +kernel
theorem dX7_countState_6 : decode cX7_countState 6 = .ok (.invokestatic 37, 3) := by decide +kernel
theorem dX7_countState_9 : decode cX7_countState 9 = .ok (.ifCond .ne 9, 3) := by decide +kernel
theorem dX7_countState_12 : decode cX7_countState 12 = .ok (.aload_n 0, 1) := by decide +kernel
theorem dX7_countState_13 : decode cX7_countState 13 = .ok (.iconst 1, 1) := by decide +kernel
theorem dX7_countState_14 : decode cX7_countState 14 = .ok (.invokevirtual 41, 3) := by decide +kernel
theorem dX7_countState_17 : decode cX7_countState 17 = .ok (.ireturn, 1) := by decide +kernel
theorem dX7_countState_18 : decode cX7_countState 18 = .ok (.iload_n 2, 1) := by decide +kernel
theorem dX7_countState_19 : decode cX7_countState 19 = .ok (.iconst 0, 1) := by decide +kernel
theorem dX7_countState_20 : decode cX7_countState 20 = .ok (.iconst 3, 1) := by decide +kernel
theorem dX7_countState_21 : decode cX7_countState 21 = .ok (.invokestatic 23, 3) := by decide +kernel
theorem dX7_countState_24 : decode cX7_countState 24 = .ok (.ifCond .eq 12, 3) := by decide +kernel
theorem dX7_countState_27 : decode cX7_countState 27 = .ok (.aload_n 0, 1) := by decide +kernel
theorem dX7_countState_28 : decode cX7_countState 28 = .ok (.iload_n 1, 1) := by decide +kernel
theorem dX7_countState_29 : decode cX7_countState 29 = .ok (.iload_n 2, 1) := by decide +kernel
theorem dX7_countState_30 : decode cX7_countState 30 = .ok (.invokevirtual 118, 3) := by decide +kernel
theorem dX7_countState_33 : decode cX7_countState 33 = .ok (.goto 8, 3) := by decide +kernel
theorem dX7_countState_36 : decode cX7_countState 36 = .ok (.aload_n 0, 1) := by decide +kernel
theorem dX7_countState_37 : decode cX7_countState 37 = .ok (.iconst 2, 1) := by decide +kernel
theorem dX7_countState_38 : decode cX7_countState 38 = .ok (.invokevirtual 41, 3) := by decide +kernel
theorem dX7_countState_41 : decode cX7_countState 41 = .ok (.ireturn, 1) := by decide +kernel
theorem dX7_boundOnes_0 : decode cX7_boundOnes 0 = .ok (.iconst 0, 1) := by decide +kernel
theorem dX7_boundOnes_1 : decode cX7_boundOnes 1 = .ok (.istore_n 1, 1) := by decide +kernel
theorem dX7_boundOnes_2 : decode cX7_boundOnes 2 = .ok (.iconst 0, 1) := by decide +kernel
theorem dX7_boundOnes_3 : decode cX7_boundOnes 3 = .ok (.istore_n 2, 1) := by decide +kernel
theorem dX7_boundOnes_4 : decode cX7_boundOnes 4 = .ok (.iload_n 2, 1) := by decide +kernel
theorem dX7_boundOnes_5 : decode cX7_boundOnes 5 = .ok (.bipush 20, 2) := by decide +kernel
theorem dX7_boundOnes_7 : decode cX7_boundOnes 7 = .ok (.if_icmp .ge 20, 3) := by decide +kernel
theorem dX7_boundOnes_10 : decode cX7_boundOnes 10 = .ok (.aload_n 0, 1) := by decide +kernel
theorem dX7_boundOnes_11 : decode cX7_boundOnes 11 = .ok (.iload_n 2, 1) := by decide +kernel
theorem dX7_boundOnes_12 : decode cX7_boundOnes 12 = .ok (.invokevirtual 68, 3) := by decide +kernel
theorem dX7_boundOnes_15 : decode cX7_boundOnes 15 = .ok (.ifCond .eq 6, 3) := by decide +kernel
theorem dX7_boundOnes_18 : decode cX7_boundOnes 18 = .ok (.iinc 1 1, 3) := by decide +kernel
theorem dX7_boundOnes_21 : decode cX7_boundOnes 21 = .ok (.iinc 2 1, 3) := by decide +kernel
theorem dX7_boundOnes_24 : decode cX7_boundOnes 24 = .ok (.goto (-20), 3) := by decide +kernel
theorem dX7_boundOnes_27 : decode cX7_boundOnes 27 = .ok (.iload_n 1, 1) := by decide +kernel
theorem dX7_boundOnes_28 : decode cX7_boundOnes 28 = .ok (.ireturn, 1) := by decide +kernel
theorem dX7_bound_0 : decode cX7_bound 0 = .ok (.aload_n 0, 1) := by decide +kernel
theorem dX7_bound_1 : decode cX7_bound 1 = .ok (.iconst 0, 1) := by decide +kernel
theorem dX7_bound_2 : decode cX7_bound 2 = .ok (.putfield 19, 3) := by decide +kernel
theorem dX7_bound_5 : decode cX7_bound 5 = .ok (.aload_n 0, 1) := by decide +kernel
theorem dX7_bound_6 : decode cX7_bound 6 = .ok (.invokevirtual 121, 3) := by decide +kernel
theorem dX7_bound_9 : decode cX7_bound 9 = .ok (.ireturn, 1) := by decide +kernel
theorem dX7_conflicts_0 : decode cX7_conflicts 0 = .ok (.aload_n 0, 1) := by decide +kernel
theorem dX7_conflicts_1 : decode cX7_conflicts 1 = .ok (.iconst 0, 1) := by decide +kernel
theorem dX7_conflicts_2 : decode cX7_conflicts 2 = .ok (.putfield 19, 3) := by decide +kernel
theorem dX7_conflicts_5 : decode cX7_conflicts 5 = .ok (.aload_n 0, 1) := by decide +kernel
theorem dX7_conflicts_6 : decode cX7_conflicts 6 = .ok (.getfield 9, 3) := by decide +kernel
theorem dX7_conflicts_9 : decode cX7_conflicts 9 = .ok (.iconst 3, 1) := by decide +kernel
theorem dX7_conflicts_10 : decode cX7_conflicts 10 = .ok (.iaload, 1) := by decide +kernel
theorem dX7_conflicts_11 : decode cX7_conflicts 11 = .ok (.ireturn, 1) := by decide +kernel
theorem dX7_logSize_0 : decode cX7_logSize 0 = .ok (.aload_n 0, 1) := by decide +kernel
theorem dX7_logSize_1 : decode cX7_logSize 1 = .ok (.iconst 0, 1) := by decide +kernel
theorem dX7_logSize_2 : decode cX7_logSize 2 = .ok (.putfield 19, 3) := by decide +kernel
theorem dX7_logSize_5 : decode cX7_logSize 5 = .ok (.aload_n 0, 1) := by decide +kernel
theorem dX7_logSize_6 : decode cX7_logSize 6 = .ok (.getfield 27, 3) := by decide +kernel
theorem dX7_logSize_9 : decode cX7_logSize 9 = .ok (.ireturn, 1) := by decide +kernel
theorem dX7_log_0 : decode cX7_log 0 = .ok (.aload_n 0, 1) := by decide +kernel
theorem dX7_log_1 : decode cX7_log 1 = .ok (.iconst 0, 1) := by decide +kernel
theorem dX7_log_2 : decode cX7_log 2 = .ok (.putfield 19, 3) := by decide +kernel
theorem dX7_log_5 : decode cX7_log 5 = .ok (.iload_n 1, 1) := by decide +kernel
theorem dX7_log_6 : decode cX7_log 6 = .ok (.iconst 0, 1) := by decide +kernel
theorem dX7_log_7 : decode cX7_log 7 = .ok (.aload_n 0, 1) := by decide +kernel
theorem dX7_log_8 : decode cX7_log 8 = .ok (.getfield 27, 3) := by decide +kernel
theorem dX7_log_11 : decode cX7_log 11 = .ok (.iconst 1, 1) := by decide +kernel
theorem dX7_log_12 : decode cX7_log 12 = .ok (.isub, 1) := by decide +kernel
theorem dX7_log_13 : decode cX7_log 13 = .ok (.invokestatic 23, 3) := by decide +kernel
theorem dX7_log_16 : decode cX7_log 16 = .ok (.ifCond .eq 12, 3) := by decide +kernel
theorem dX7_log_19 : decode cX7_log 19 = .ok (.aload_n 0, 1) := by decide +kernel
theorem dX7_log_20 : decode cX7_log 20 = .ok (.getfield 16, 3) := by decide +kernel
theorem dX7_log_23 : decode cX7_log 23 = .ok (.iload_n 1, 1) := by decide +kernel
theorem dX7_log_24 : decode cX7_log 24 = .ok (.iaload, 1) := by decide +kernel
theorem dX7_log_25 : decode cX7_log 25 = .ok (.goto 8, 3) := by decide +kernel
theorem dX7_log_28 : decode cX7_log 28 = .ok (.aload_n 0, 1) := by decide +kernel
theorem dX7_log_29 : decode cX7_log 29 = .ok (.iconst 1, 1) := by decide +kernel
theorem dX7_log_30 : decode cX7_log 30 = .ok (.invokevirtual 41, 3) := by decide +kernel
theorem dX7_log_33 : decode cX7_log 33 = .ok (.ireturn, 1) := by decide +kernel
theorem dX7_utilization_0 : decode cX7_utilization 0 = .ok (.aload_n 0, 1) := by decide +kernel
theorem dX7_utilization_1 : decode cX7_utilization 1 = .ok (.iconst 0, 1) := by decide +kernel
theorem dX7_utilization_2 : decode cX7_utilization 2 = .ok (.putfield 19, 3) := by decide +kernel
theorem dX7_utilization_5 : decode cX7_utilization 5 = .ok (.iload_n 1, 1) := by decide +kernel
theorem dX7_utilization_6 : decode cX7_utilization 6 = .ok (.invokestatic 37, 3) := by decide +kernel
theorem dX7_utilization_9 : decode cX7_utilization 9 = .ok (.ifCond .ne 10, 3) := by decide +kernel
theorem dX7_utilization_12 : decode cX7_utilization 12 = .ok (.aload_n 0, 1) := by decide +kernel
theorem dX7_utilization_13 : decode cX7_utilization 13 = .ok (.iconst 1, 1) := by decide +kernel
theorem dX7_utilization_14 : decode cX7_utilization 14 = .ok (.invokevirtual 41, 3) := by decide +kernel
theorem dX7_utilization_17 : decode cX7_utilization 17 = .ok (.i2d, 1) := by decide +kernel
theorem dX7_utilization_18 : decode cX7_utilization 18 = .ok (.dreturn, 1) := by decide +kernel
theorem dX7_utilization_19 : decode cX7_utilization 19 = .ok (.aload_n 0, 1) := by decide +kernel
theorem dX7_utilization_20 : decode cX7_utilization 20 = .ok (.iload_n 1, 1) := by decide +kernel
theorem dX7_utilization_21 : decode cX7_utilization 21 = .ok (.iconst (-1), 1) := by decide +kernel
theorem dX7_utilization_22 : decode cX7_utilization 22 = .ok (.invokevirtual 118, 3) := by decide +kernel
theorem dX7_utilization_25 : decode cX7_utilization 25 = .ok (.istore_n 2, 1) := by decide +kernel
theorem dX7_utilization_26 : decode cX7_utilization 26 = .ok (.iload_n 2, 1) := by decide +kernel
theorem dX7_utilization_27 : decode cX7_utilization 27 = .ok (.ifCond .ne 12, 3) := by decide +kernel
theorem dX7_utilization_30 : decode cX7_utilization 30 = .ok (.aload_n 0, 1) := by decide +kernel
theorem dX7_utilization_31 : decode cX7_utilization 31 = .ok (.iconst 2, 1) := by decide +kernel
theorem dX7_utilization_32 : decode cX7_utilization 32 = .ok (.invokevirtual 41, 3) := by decide +kernel
theorem dX7_utilization_35 : decode cX7_utilization 35 = .ok (.i2d, 1) := by decide +kernel
theorem dX7_utilization_36 : decode cX7_utilization 36 = .ok (.goto 13, 3) := by decide +kernel
theorem dX7_utilization_39 : decode cX7_utilization 39 = .ok (.aload_n 0, 1) := by decide +kernel
theorem dX7_utilization_40 : decode cX7_utilization 40 = .ok (.iload_n 1, 1) := by decide +kernel
theorem dX7_utilization_41 : decode cX7_utilization 41 = .ok (.iconst 2, 1) := by decide +kernel
theorem dX7_utilization_42 : decode cX7_utilization 42 = .ok (.invokevirtual 118, 3) := by decide +kernel
theorem dX7_utilization_45 : decode cX7_utilization 45 = .ok (.i2d, 1) := by decide +kernel
theorem dX7_utilization_46 : decode cX7_utilization 46 = .ok (.iload_n 2, 1) := by decide +kernel
theorem dX7_utilization_47 : decode cX7_utilization 47 = .ok (.i2d, 1) := by decide +kernel
theorem dX7_utilization_48 : decode cX7_utilization 48 = .ok (.ddiv, 1) := by decide +kernel
theorem dX7_utilization_49 : decode cX7_utilization 49 = .ok (.dreturn, 1) := by decide +kernel
theorem dX7_averageRest_0 : decode cX7_averageRest 0 = .ok (.aload_n 0, 1) := by decide +kernel
theorem dX7_averageRest_1 : decode cX7_averageRest 1 = .ok (.iconst 0, 1) := by decide +kernel
theorem dX7_averageRest_2 : decode cX7_averageRest 2 = .ok (.putfield 19, 3) := by decide +kernel
theorem dX7_averageRest_5 : decode cX7_averageRest 5 = .ok (.iconst 0, 1) := by decide +kernel
theorem dX7_averageRest_6 : decode cX7_averageRest 6 = .ok (.istore_n 1, 1) := by decide +kernel
theorem dX7_averageRest_7 : decode cX7_averageRest 7 = .ok (.iconst 0, 1) := by decide +kernel
theorem dX7_averageRest_8 : decode cX7_averageRest 8 = .ok (.istore_n 2, 1) := by decide +kernel
theorem dX7_averageRest_9 : decode cX7_averageRest 9 = .ok (.iload_n 2, 1) := by decide +kernel
theorem dX7_averageRest_10 : decode cX7_averageRest 10 = .ok (.bipush 20, 2) := by decide +kernel
theorem dX7_averageRest_12 : decode cX7_averageRest 12 = .ok (.if_icmp .ge 46, 3) := by decide +kernel
theorem dX7_averageRest_15 : decode cX7_averageRest 15 = .ok (.aload_n 0, 1) := by decide +kernel
theorem dX7_averageRest_16 : decode cX7_averageRest 16 = .ok (.iload_n 2, 1) := by decide +kernel
theorem dX7_averageRest_17 : decode cX7_averageRest 17 = .ok (.invokevirtual 68, 3) := by decide +kernel
theorem dX7_averageRest_20 : decode cX7_averageRest 20 = .ok (.ifCond .eq 32, 3) := by decide +kernel
theorem dX7_averageRest_23 : decode cX7_averageRest 23 = .ok (.iload_n 1, 1) := by decide +kernel
theorem dX7_averageRest_24 : decode cX7_averageRest 24 = .ok (.aload_n 0, 1) := by decide +kernel
theorem dX7_averageRest_25 : decode cX7_averageRest 25 = .ok (.getfield 9, 3) := by decide +kernel
theorem dX7_averageRest_28 : decode cX7_averageRest 28 = .ok (.sipush 431, 3) := by decide +kernel
theorem dX7_averageRest_31 : decode cX7_averageRest 31 = .ok (.aload_n 0, 1) := by decide +kernel
theorem dX7_averageRest_32 : decode cX7_averageRest 32 = .ok (.getfield 9, 3) := by decide +kernel
theorem dX7_averageRest_35 : decode cX7_averageRest 35 = .ok (.sipush 651, 3) := by decide +kernel
theorem dX7_averageRest_38 : decode cX7_averageRest 38 = .ok (.iload_n 2, 1) := by decide +kernel
theorem dX7_averageRest_39 : decode cX7_averageRest 39 = .ok (.iadd, 1) := by decide +kernel
theorem dX7_averageRest_40 : decode cX7_averageRest 40 = .ok (.iaload, 1) := by decide +kernel
theorem dX7_averageRest_41 : decode cX7_averageRest 41 = .ok (.iadd, 1) := by decide +kernel
theorem dX7_averageRest_42 : decode cX7_averageRest 42 = .ok (.iaload, 1) := by decide +kernel
theorem dX7_averageRest_43 : decode cX7_averageRest 43 = .ok (.aload_n 0, 1) := by decide +kernel
theorem dX7_averageRest_44 : decode cX7_averageRest 44 = .ok (.getfield 9, 3) := by decide +kernel
theorem dX7_averageRest_47 : decode cX7_averageRest 47 = .ok (.iconst 0, 1) := by decide +kernel
theorem dX7_averageRest_48 : decode cX7_averageRest 48 = .ok (.iaload, 1) := by decide +kernel
theorem dX7_averageRest_49 : decode cX7_averageRest 49 = .ok (.isub, 1) := by decide +kernel
theorem dX7_averageRest_50 : decode cX7_averageRest 50 = .ok (.iadd, 1) := by decide +kernel
theorem dX7_averageRest_51 : decode cX7_averageRest 51 = .ok (.istore_n 1, 1) := by decide +kernel
theorem dX7_averageRest_52 : decode cX7_averageRest 52 = .ok (.iinc 2 1, 3) := by decide +kernel
theorem dX7_averageRest_55 : decode cX7_averageRest 55 = .ok (.goto (-46), 3) := by decide +kernel
theorem dX7_averageRest_58 : decode cX7_averageRest 58 = .ok (.aload_n 0, 1) := by decide +kernel
theorem dX7_averageRest_59 : decode cX7_averageRest 59 = .ok (.invokevirtual 121, 3) := by decide +kernel
theorem dX7_averageRest_62 : decode cX7_averageRest 62 = .ok (.ifCond .ne 12, 3) := by decide +kernel
theorem dX7_averageRest_65 : decode cX7_averageRest 65 = .ok (.aload_n 0, 1) := by decide +kernel
theorem dX7_averageRest_66 : decode cX7_averageRest 66 = .ok (.iconst 1, 1) := by decide +kernel
theorem dX7_averageRest_67 : decode cX7_averageRest 67 = .ok (.invokevirtual 41, 3) := by decide +kernel
theorem dX7_averageRest_70 : decode cX7_averageRest 70 = .ok (.i2f, 1) := by decide +kernel
theorem dX7_averageRest_71 : decode cX7_averageRest 71 = .ok (.goto 11, 3) := by decide +kernel
theorem dX7_averageRest_74 : decode cX7_averageRest 74 = .ok (.iload_n 1, 1) := by decide +kernel
theorem dX7_averageRest_75 : decode cX7_averageRest 75 = .ok (.i2f, 1) := by decide +kernel
theorem dX7_averageRest_76 : decode cX7_averageRest 76 = .ok (.aload_n 0, 1) := by decide +kernel
theorem dX7_averageRest_77 : decode cX7_averageRest 77 = .ok (.invokevirtual 121, 3) := by decide +kernel
theorem dX7_averageRest_80 : decode cX7_averageRest 80 = .ok (.i2f, 1) := by decide +kernel
theorem dX7_averageRest_81 : decode cX7_averageRest 81 = .ok (.fdiv, 1) := by decide +kernel
theorem dX7_averageRest_82 : decode cX7_averageRest 82 = .ok (.freturn, 1) := by decide +kernel
theorem dX7_save_0 : decode cX7_save 0 = .ok (.aload_n 0, 1) := by decide +kernel
theorem dX7_save_1 : decode cX7_save 1 = .ok (.iconst 0, 1) := by decide +kernel
theorem dX7_save_2 : decode cX7_save 2 = .ok (.putfield 19, 3) := by decide +kernel
theorem dX7_save_5 : decode cX7_save 5 = .ok (.aload_n 0, 1) := by decide +kernel
theorem dX7_save_6 : decode cX7_save 6 = .ok (.iconst 1, 1) := by decide +kernel
theorem dX7_save_7 : decode cX7_save 7 = .ok (.putfield 124, 3) := by decide +kernel
theorem dX7_save_10 : decode cX7_save 10 = .ok (.iconst 0, 1) := by decide +kernel
theorem dX7_save_11 : decode cX7_save 11 = .ok (.istore_n 1, 1) := by decide +kernel
theorem dX7_save_12 : decode cX7_save 12 = .ok (.iload_n 1, 1) := by decide +kernel
theorem dX7_save_13 : decode cX7_save 13 = .ok (.sipush 731, 3) := by decide +kernel
theorem dX7_save_16 : decode cX7_save 16 = .ok (.if_icmp .ge 21, 3) := by decide +kernel
theorem dX7_save_19 : decode cX7_save 19 = .ok (.aload_n 0, 1) := by decide +kernel
theorem dX7_save_20 : decode cX7_save 20 = .ok (.getfield 13, 3) := by decide +kernel
theorem dX7_save_23 : decode cX7_save 23 = .ok (.iload_n 1, 1) := by decide +kernel
theorem dX7_save_24 : decode cX7_save 24 = .ok (.aload_n 0, 1) := by decide +kernel
theorem dX7_save_25 : decode cX7_save 25 = .ok (.getfield 9, 3) := by decide +kernel
theorem dX7_save_28 : decode cX7_save 28 = .ok (.iload_n 1, 1) := by decide +kernel
theorem dX7_save_29 : decode cX7_save 29 = .ok (.iaload, 1) := by decide +kernel
theorem dX7_save_30 : decode cX7_save 30 = .ok (.iastore, 1) := by decide +kernel
theorem dX7_save_31 : decode cX7_save 31 = .ok (.iinc 1 1, 3) := by decide +kernel
theorem dX7_save_34 : decode cX7_save 34 = .ok (.goto (-22), 3) := by decide +kernel
theorem dX7_save_37 : decode cX7_save 37 = .ok (.aload_n 0, 1) := by decide +kernel
theorem dX7_save_38 : decode cX7_save 38 = .ok (.invokevirtual 121, 3) := by decide +kernel
theorem dX7_save_41 : decode cX7_save 41 = .ok (.ireturn, 1) := by decide +kernel
theorem dX7_restore_0 : decode cX7_restore 0 = .ok (.aload_n 0, 1) := by decide +kernel
theorem dX7_restore_1 : decode cX7_restore 1 = .ok (.iconst 0, 1) := by decide +kernel
theorem dX7_restore_2 : decode cX7_restore 2 = .ok (.putfield 19, 3) := by decide +kernel
theorem dX7_restore_5 : decode cX7_restore 5 = .ok (.aload_n 0, 1) := by decide +kernel
theorem dX7_restore_6 : decode cX7_restore 6 = .ok (.getfield 124, 3) := by decide +kernel
theorem dX7_restore_9 : decode cX7_restore 9 = .ok (.ifCond .ne 9, 3) := by decide +kernel
theorem dX7_restore_12 : decode cX7_restore 12 = .ok (.aload_n 0, 1) := by decide +kernel
theorem dX7_restore_13 : decode cX7_restore 13 = .ok (.iconst 1, 1) := by decide +kernel
theorem dX7_restore_14 : decode cX7_restore 14 = .ok (.invokevirtual 41, 3) := by decide +kernel
theorem dX7_restore_17 : decode cX7_restore 17 = .ok (.ireturn, 1) := by decide +kernel
theorem dX7_restore_18 : decode cX7_restore 18 = .ok (.iconst 0, 1) := by decide +kernel
theorem dX7_restore_19 : decode cX7_restore 19 = .ok (.istore_n 1, 1) := by decide +kernel
theorem dX7_restore_20 : decode cX7_restore 20 = .ok (.iload_n 1, 1) := by decide +kernel
theorem dX7_restore_21 : decode cX7_restore 21 = .ok (.sipush 731, 3) := by decide +kernel
theorem dX7_restore_24 : decode cX7_restore 24 = .ok (.if_icmp .ge 21, 3) := by decide +kernel
theorem dX7_restore_27 : decode cX7_restore 27 = .ok (.aload_n 0, 1) := by decide +kernel
theorem dX7_restore_28 : decode cX7_restore 28 = .ok (.getfield 9, 3) := by decide +kernel
theorem dX7_restore_31 : decode cX7_restore 31 = .ok (.iload_n 1, 1) := by decide +kernel
theorem dX7_restore_32 : decode cX7_restore 32 = .ok (.aload_n 0, 1) := by decide +kernel
theorem dX7_restore_33 : decode cX7_restore 33 = .ok (.getfield 13, 3) := by decide +kernel
theorem dX7_restore_36 : decode cX7_restore 36 = .ok (.iload_n 1, 1) := by decide +kernel
theorem dX7_restore_37 : decode cX7_restore 37 = .ok (.iaload, 1) := by decide +kernel
theorem dX7_restore_38 : decode cX7_restore 38 = .ok (.iastore, 1) := by decide +kernel
theorem dX7_restore_39 : decode cX7_restore 39 = .ok (.iinc 1 1, 3) := by decide +kernel
theorem dX7_restore_42 : decode cX7_restore 42 = .ok (.goto (-22), 3) := by decide +kernel
theorem dX7_restore_45 : decode cX7_restore 45 = .ok (.aload_n 0, 1) := by decide +kernel
theorem dX7_restore_46 : decode cX7_restore 46 = .ok (.invokevirtual 121, 3) := by decide +kernel
theorem dX7_restore_49 : decode cX7_restore 49 = .ok (.ireturn, 1) := by decide +kernel
