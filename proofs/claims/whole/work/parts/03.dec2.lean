theorem dX6_busy_6 : decode cX6_busy 6 = .ok (.iconst 1, 1) := by decide +kernel
theorem dX6_busy_7 : decode cX6_busy 7 = .ok (.if_icmp .eq 13, 3) := by decide +kernel
theorem dX6_busy_10 : decode cX6_busy 10 = .ok (.aload_n 0, 1) := by decide +kernel
theorem dX6_busy_11 : decode cX6_busy 11 = .ok (.getfield 22, 3) := by decide +kernel
theorem dX6_busy_14 : decode cX6_busy 14 = .ok (.iload_n 1, 1) := by decide +kernel
theorem dX6_busy_15 : decode cX6_busy 15 = .ok (.iaload, 1) := by decide +kernel
theorem dX6_busy_16 : decode cX6_busy 16 = .ok (.iconst 2, 1) := by decide +kernel
theorem dX6_busy_17 : decode cX6_busy 17 = .ok (.if_icmp .ne 7, 3) := by decide +kernel
theorem dX6_busy_20 : decode cX6_busy 20 = .ok (.iconst 1, 1) := by decide +kernel
theorem dX6_busy_21 : decode cX6_busy 21 = .ok (.goto 4, 3) := by decide +kernel
theorem dX6_busy_24 : decode cX6_busy 24 = .ok (.iconst 0, 1) := by decide +kernel
theorem dX6_busy_25 : decode cX6_busy 25 = .ok (.ireturn, 1) := by decide +kernel
theorem dX6_opens_0 : decode cX6_opens 0 = .ok (.iload_n 0, 1) := by decide +kernel
theorem dX6_opens_1 : decode cX6_opens 1 = .ok (.bipush 6, 2) := by decide +kernel
theorem dX6_opens_3 : decode cX6_opens 3 = .ok (.if_icmp .eq 27, 3) := by decide +kernel
theorem dX6_opens_6 : decode cX6_opens 6 = .ok (.iload_n 0, 1) := by decide +kernel
theorem dX6_opens_7 : decode cX6_opens 7 = .ok (.bipush 9, 2) := by decide +kernel
theorem dX6_opens_9 : decode cX6_opens 9 = .ok (.if_icmp .eq 21, 3) := by decide +kernel
theorem dX6_opens_12 : decode cX6_opens 12 = .ok (.iload_n 0, 1) := by decide +kernel
theorem dX6_opens_13 : decode cX6_opens 13 = .ok (.bipush 11, 2) := by decide +kernel
theorem dX6_opens_15 : decode cX6_opens 15 = .ok (.if_icmp .eq 15, 3) := by decide +kernel
theorem dX6_opens_18 : decode cX6_opens 18 = .ok (.iload_n 0, 1) := by decide +kernel
theorem dX6_opens_19 : decode cX6_opens 19 = .ok (.bipush 13, 2) := by decide +kernel
theorem dX6_opens_21 : decode cX6_opens 21 = .ok (.if_icmp .eq 9, 3) := by decide +kernel
theorem dX6_opens_24 : decode cX6_opens 24 = .ok (.iload_n 0, 1) := by decide +kernel
theorem dX6_opens_25 : decode cX6_opens 25 = .ok (.bipush 15, 2) := by decide +kernel
theorem dX6_opens_27 : decode cX6_opens 27 = .ok (.if_icmp .ne 7, 3) := by decide +kernel
theorem dX6_opens_30 : decode cX6_opens 30 = .ok (.iconst 1, 1) := by decide +kernel
theorem dX6_opens_31 : decode cX6_opens 31 = .ok (.goto 4, 3) := by decide +kernel
theorem dX6_opens_34 : decode cX6_opens 34 = .ok (.iconst 0, 1) := by decide +kernel
theorem dX6_opens_35 : decode cX6_opens 35 = .ok (.ireturn, 1) := by decide +kernel
theorem dX6_named_0 : decode cX6_named 0 = .ok (.iload_n 0, 1) := by decide +kernel
theorem dX6_named_1 : decode cX6_named 1 = .ok (.iconst 3, 1) := by decide +kernel
theorem dX6_named_2 : decode cX6_named 2 = .ok (.if_icmp .le 32, 3) := by decide +kernel
theorem dX6_named_5 : decode cX6_named 5 = .ok (.iload_n 0, 1) := by decide +kernel
theorem dX6_named_6 : decode cX6_named 6 = .ok (.iconst 5, 1) := by decide +kernel
theorem dX6_named_7 : decode cX6_named 7 = .ok (.if_icmp .eq 27, 3) := by decide +kernel
theorem dX6_named_10 : decode cX6_named 10 = .ok (.iload_n 0, 1) := by decide +kernel
theorem dX6_named_11 : decode cX6_named 11 = .ok (.bipush 11, 2) := by decide +kernel
theorem dX6_named_13 : decode cX6_named 13 = .ok (.if_icmp .eq 21, 3) := by decide +kernel
theorem dX6_named_16 : decode cX6_named 16 = .ok (.iload_n 0, 1) := by decide +kernel
theorem dX6_named_17 : decode cX6_named 17 = .ok (.bipush 13, 2) := by decide +kernel
theorem dX6_named_19 : decode cX6_named 19 = .ok (.if_icmp .eq 15, 3) := by decide +kernel
theorem dX6_named_22 : decode cX6_named 22 = .ok (.iload_n 0, 1) := by decide +kernel
theorem dX6_named_23 : decode cX6_named 23 = .ok (.bipush 14, 2) := by decide +kernel
theorem dX6_named_25 : decode cX6_named 25 = .ok (.if_icmp .eq 9, 3) := by decide +kernel
theorem dX6_named_28 : decode cX6_named 28 = .ok (.iload_n 0, 1) := by decide +kernel
theorem dX6_named_29 : decode cX6_named 29 = .ok (.bipush 16, 2) := by decide +kernel
theorem dX6_named_31 : decode cX6_named 31 = .ok (.if_icmp .ne 7, 3) := by decide +kernel
theorem dX6_named_34 : decode cX6_named 34 = .ok (.iconst 1, 1) := by decide +kernel
theorem dX6_named_35 : decode cX6_named 35 = .ok (.goto 4, 3) := by decide +kernel
theorem dX6_named_38 : decode cX6_named 38 = .ok (.iconst 0, 1) := by decide +kernel
theorem dX6_named_39 : decode cX6_named 39 = .ok (.istore_n 3, 1) := by decide +kernel
theorem dX6_named_40 : decode cX6_named 40 = .ok (.iload_n 3, 1) := by decide +kernel
theorem dX6_named_41 : decode cX6_named 41 = .ok (.ifCond .eq 13, 3) := by decide +kernel
theorem dX6_named_44 : decode cX6_named 44 = .ok (.iload_n 1, 1) := by decide +kernel
theorem dX6_named_45 : decode cX6_named 45 = .ok (.iconst 4, 1) := by decide +kernel
theorem dX6_named_46 : decode cX6_named 46 = .ok (.invokestatic 89, 3) := by decide +kernel
theorem dX6_named_49 : decode cX6_named 49 = .ok (.ifCond .eq 5, 3) := by decide +kernel
theorem dX6_named_52 : decode cX6_named 52 = .ok (.iconst 0, 1) := by decide +kernel
theorem dX6_named_53 : decode cX6_named 53 = .ok (.ireturn, 1) := by decide +kernel
theorem dX6_named_54 : decode cX6_named 54 = .ok (.iload_n 0, 1) := by decide +kernel
theorem dX6_named_55 : decode cX6_named 55 = .ok (.iconst 1, 1) := by decide +kernel
theorem dX6_named_56 : decode cX6_named 56 = .ok (.if_icmp .eq 8, 3) := by decide +kernel
theorem dX6_named_59 : decode cX6_named 59 = .ok (.iload_n 0, 1) := by decide +kernel
theorem dX6_named_60 : decode cX6_named 60 = .ok (.iconst 2, 1) := by decide +kernel
theorem dX6_named_61 : decode cX6_named 61 = .ok (.if_icmp .ne 13, 3) := by decide +kernel
theorem dX6_named_64 : decode cX6_named 64 = .ok (.iload_n 2, 1) := by decide +kernel
theorem dX6_named_65 : decode cX6_named 65 = .ok (.iconst 4, 1) := by decide +kernel
theorem dX6_named_66 : decode cX6_named 66 = .ok (.invokestatic 89, 3) := by decide +kernel
theorem dX6_named_69 : decode cX6_named 69 = .ok (.ifCond .eq 5, 3) := by decide +kernel
theorem dX6_named_72 : decode cX6_named 72 = .ok (.iconst 0, 1) := by decide +kernel
theorem dX6_named_73 : decode cX6_named 73 = .ok (.ireturn, 1) := by decide +kernel
theorem dX6_named_74 : decode cX6_named 74 = .ok (.iload_n 0, 1) := by decide +kernel
theorem dX6_named_75 : decode cX6_named 75 = .ok (.iconst 3, 1) := by decide +kernel
theorem dX6_named_76 : decode cX6_named 76 = .ok (.if_icmp .ne 14, 3) := by decide +kernel
theorem dX6_named_79 : decode cX6_named 79 = .ok (.iload_n 2, 1) := by decide +kernel
theorem dX6_named_80 : decode cX6_named 80 = .ok (.bipush 8, 2) := by decide +kernel
theorem dX6_named_82 : decode cX6_named 82 = .ok (.invokestatic 89, 3) := by decide +kernel
theorem dX6_named_85 : decode cX6_named 85 = .ok (.ifCond .eq 5, 3) := by decide +kernel
theorem dX6_named_88 : decode cX6_named 88 = .ok (.iconst 0, 1) := by decide +kernel
theorem dX6_named_89 : decode cX6_named 89 = .ok (.ireturn, 1) := by decide +kernel
theorem dX6_named_90 : decode cX6_named 90 = .ok (.iload_n 0, 1) := by decide +kernel
theorem dX6_named_91 : decode cX6_named 91 = .ok (.iconst 4, 1) := by decide +kernel
theorem dX6_named_92 : decode cX6_named 92 = .ok (.if_icmp .ne 20, 3) := by decide +kernel
theorem dX6_named_95 : decode cX6_named 95 = .ok (.iload_n 1, 1) := by decide +kernel
theorem dX6_named_96 : decode cX6_named 96 = .ok (.bipush 8, 2) := by decide +kernel
theorem dX6_named_98 : decode cX6_named 98 = .ok (.invokestatic 89, 3) := by decide +kernel
theorem dX6_named_101 : decode cX6_named 101 = .ok (.ifCond .ne 15, 3) := by decide +kernel
theorem dX6_named_104 : decode cX6_named 104 = .ok (.iload_n 2, 1) := by decide +kernel
theorem dX6_named_105 : decode cX6_named 105 = .ok (.iconst 4, 1) := by decide +kernel
theorem dX6_named_106 : decode cX6_named 106 = .ok (.invokestatic 89, 3) := by decide +kernel
theorem dX6_named_109 : decode cX6_named 109 = .ok (.ifCond .ne 7, 3) := by decide +kernel
theorem dX6_named_112 : decode cX6_named 112 = .ok (.iconst 1, 1) := by decide +kernel
theorem dX6_named_113 : decode cX6_named 113 = .ok (.goto 4, 3) := by decide +kernel
theorem dX6_named_116 : decode cX6_named 116 = .ok (.iconst 0, 1) := by decide +kernel
theorem dX6_named_117 : decode cX6_named 117 = .ok (.ireturn, 1) := by decide +kernel
theorem dX6_add_0 : decode cX6_add 0 = .ok (.iload_n 1, 1) := by decide +kernel
theorem dX6_add_1 : decode cX6_add 1 = .ok (.iconst 4, 1) := by decide +kernel
theorem dX6_add_2 : decode cX6_add 2 = .ok (.invokestatic 89, 3) := by decide +kernel
theorem dX6_add_5 : decode cX6_add 5 = .ok (.ifCond .ne 12, 3) := by decide +kernel
theorem dX6_add_8 : decode cX6_add 8 = .ok (.iload_n 2, 1) := by decide +kernel
theorem dX6_add_9 : decode cX6_add 9 = .ok (.bipush 17, 2) := by decide +kernel
theorem dX6_add_11 : decode cX6_add 11 = .ok (.invokestatic 89, 3) := by decide +kernel
theorem dX6_add_14 : decode cX6_add 14 = .ok (.ifCond .eq 5, 3) := by decide +kernel
theorem dX6_add_17 : decode cX6_add 17 = .ok (.iconst 0, 1) := by decide +kernel
theorem dX6_add_18 : decode cX6_add 18 = .ok (.ireturn, 1) := by decide +kernel
theorem dX6_add_19 : decode cX6_add 19 = .ok (.aload_n 0, 1) := by decide +kernel
theorem dX6_add_20 : decode cX6_add 20 = .ok (.iload_n 1, 1) := by decide +kernel
theorem dX6_add_21 : decode cX6_add 21 = .ok (.invokevirtual 93, 3) := by decide +kernel
theorem dX6_add_24 : decode cX6_add 24 = .ok (.ifCond .ne 24, 3) := by decide +kernel
theorem dX6_add_27 : decode cX6_add 27 = .ok (.aload_n 0, 1) := by decide +kernel
theorem dX6_add_28 : decode cX6_add 28 = .ok (.getfield 19, 3) := by decide +kernel
theorem dX6_add_31 : decode cX6_add 31 = .ok (.iload_n 1, 1) := by decide +kernel
theorem dX6_add_32 : decode cX6_add 32 = .ok (.iaload, 1) := by decide +kernel
theorem dX6_add_33 : decode cX6_add 33 = .ok (.bipush 30, 2) := by decide +kernel
theorem dX6_add_35 : decode cX6_add 35 = .ok (.if_icmp .eq 13, 3) := by decide +kernel
theorem dX6_add_38 : decode cX6_add 38 = .ok (.iload_n 2, 1) := by decide +kernel
theorem dX6_add_39 : decode cX6_add 39 = .ok (.iload_n 3, 1) := by decide +kernel
theorem dX6_add_40 : decode cX6_add 40 = .ok (.iload 4, 2) := by decide +kernel
theorem dX6_add_42 : decode cX6_add 42 = .ok (.invokestatic 97, 3) := by decide +kernel
theorem dX6_add_45 : decode cX6_add 45 = .ok (.ifCond .ne 5, 3) := by decide +kernel
theorem dX6_add_48 : decode cX6_add 48 = .ok (.iconst 0, 1) := by decide +kernel
theorem dX6_add_49 : decode cX6_add 49 = .ok (.ireturn, 1) := by decide +kernel
theorem dX6_add_50 : decode cX6_add 50 = .ok (.bipush 30, 2) := by decide +kernel
theorem dX6_add_52 : decode cX6_add 52 = .ok (.iload_n 1, 1) := by decide +kernel
theorem dX6_add_53 : decode cX6_add 53 = .ok (.imul, 1) := by decide +kernel
theorem dX6_add_54 : decode cX6_add 54 = .ok (.aload_n 0, 1) := by decide +kernel
theorem dX6_add_55 : decode cX6_add 55 = .ok (.getfield 19, 3) := by decide +kernel
theorem dX6_add_58 : decode cX6_add 58 = .ok (.iload_n 1, 1) := by decide +kernel
theorem dX6_add_59 : decode cX6_add 59 = .ok (.iaload, 1) := by decide +kernel
theorem dX6_add_60 : decode cX6_add 60 = .ok (.iadd, 1) := by decide +kernel
theorem dX6_add_61 : decode cX6_add 61 = .ok (.istore 5, 2) := by decide +kernel
theorem dX6_add_63 : decode cX6_add 63 = .ok (.aload_n 0, 1) := by decide +kernel
theorem dX6_add_64 : decode cX6_add 64 = .ok (.getfield 7, 3) := by decide +kernel
theorem dX6_add_67 : decode cX6_add 67 = .ok (.iload 5, 2) := by decide +kernel
theorem dX6_add_69 : decode cX6_add 69 = .ok (.iload_n 2, 1) := by decide +kernel
theorem dX6_add_70 : decode cX6_add 70 = .ok (.iastore, 1) := by decide +kernel
theorem dX6_add_71 : decode cX6_add 71 = .ok (.aload_n 0, 1) := by decide +kernel
theorem dX6_add_72 : decode cX6_add 72 = .ok (.getfield 13, 3) := by decide +kernel
theorem dX6_add_75 : decode cX6_add 75 = .ok (.iload 5, 2) := by decide +kernel
theorem dX6_add_77 : decode cX6_add 77 = .ok (.iload_n 3, 1) := by decide +kernel
theorem dX6_add_78 : decode cX6_add 78 = .ok (.iastore, 1) := by decide +kernel
theorem dX6_add_79 : decode cX6_add 79 = .ok (.aload_n 0, 1) := by decide +kernel
theorem dX6_add_80 : decode cX6_add 80 = .ok (.getfield 16, 3) := by decide +kernel
theorem dX6_add_83 : decode cX6_add 83 = .ok (.iload 5, 2) := by decide +kernel
theorem dX6_add_85 : decode cX6_add 85 = .ok (.iload 4, 2) := by decide +kernel
theorem dX6_add_87 : decode cX6_add 87 = .ok (.iastore, 1) := by decide +kernel
theorem dX6_add_88 : decode cX6_add 88 = .ok (.aload_n 0, 1) := by decide +kernel
theorem dX6_add_89 : decode cX6_add 89 = .ok (.getfield 19, 3) := by decide +kernel
theorem dX6_add_92 : decode cX6_add 92 = .ok (.iload_n 1, 1) := by decide +kernel
theorem dX6_add_93 : decode cX6_add 93 = .ok (.dup2, 1) := by decide +kernel
theorem dX6_add_94 : decode cX6_add 94 = .ok (.iaload, 1) := by decide +kernel
theorem dX6_add_95 : decode cX6_add 95 = .ok (.iconst 1, 1) := by decide +kernel
theorem dX6_add_96 : decode cX6_add 96 = .ok (.iadd, 1) := by decide +kernel
theorem dX6_add_97 : decode cX6_add 97 = .ok (.iastore, 1) := by decide +kernel
theorem dX6_add_98 : decode cX6_add 98 = .ok (.aload_n 0, 1) := by decide +kernel
theorem dX6_add_99 : decode cX6_add 99 = .ok (.getfield 22, 3) := by decide +kernel
theorem dX6_add_102 : decode cX6_add 102 = .ok (.iload_n 1, 1) := by decide +kernel
theorem dX6_add_103 : decode cX6_add 103 = .ok (.iconst 0, 1) := by decide +kernel
theorem dX6_add_104 : decode cX6_add 104 = .ok (.iastore, 1) := by decide +kernel
theorem dX6_add_105 : decode cX6_add 105 = .ok (.iconst 1, 1) := by decide +kernel
theorem dX6_add_106 : decode cX6_add 106 = .ok (.ireturn, 1) := by decide +kernel
theorem dX6_cut_0 : decode cX6_cut 0 = .ok (.iload_n 1, 1) := by decide +kernel
theorem dX6_cut_1 : decode cX6_cut 1 = .ok (.iconst 4, 1) := by decide +kernel
theorem dX6_cut_2 : decode cX6_cut 2 = .ok (.invokestatic 89, 3) := by decide +kernel
theorem dX6_cut_5 : decode cX6_cut 5 = .ok (.ifCond .eq 5, 3) := by decide +kernel
theorem dX6_cut_8 : decode cX6_cut 8 = .ok (.iconst 0, 1) := by decide +kernel
theorem dX6_cut_9 : decode cX6_cut 9 = .ok (.ireturn, 1) := by decide +kernel
theorem dX6_cut_10 : decode cX6_cut 10 = .ok (.aload_n 0, 1) := by decide +kernel
theorem dX6_cut_11 : decode cX6_cut 11 = .ok (.iload_n 1, 1) := by decide +kernel
theorem dX6_cut_12 : decode cX6_cut 12 = .ok (.invokevirtual 93, 3) := by decide +kernel
theorem dX6_cut_15 : decode cX6_cut 15 = .ok (.ifCond .ne 17, 3) := by decide +kernel
theorem dX6_cut_18 : decode cX6_cut 18 = .ok (.iload_n 2, 1) := by decide +kernel
theorem dX6_cut_19 : decode cX6_cut 19 = .ok (.ifCond .lt 13, 3) := by decide +kernel
theorem dX6_cut_22 : decode cX6_cut 22 = .ok (.iload_n 2, 1) := by decide +kernel
theorem dX6_cut_23 : decode cX6_cut 23 = .ok (.aload_n 0, 1) := by decide +kernel
theorem dX6_cut_24 : decode cX6_cut 24 = .ok (.getfield 19, 3) := by decide +kernel
theorem dX6_cut_27 : decode cX6_cut 27 = .ok (.iload_n 1, 1) := by decide +kernel
theorem dX6_cut_28 : decode cX6_cut 28 = .ok (.iaload, 1) := by decide +kernel
theorem dX6_cut_29 : decode cX6_cut 29 = .ok (.if_icmp .le 5, 3) := by decide +kernel
theorem dX6_cut_32 : decode cX6_cut 32 = .ok (.iconst 0, 1) := by decide +kernel
theorem dX6_cut_33 : decode cX6_cut 33 = .ok (.ireturn, 1) := by decide +kernel
theorem dX6_cut_34 : decode cX6_cut 34 = .ok (.aload_n 0, 1) := by decide +kernel
theorem dX6_cut_35 : decode cX6_cut 35 = .ok (.getfield 19, 3) := by decide +kernel
theorem dX6_cut_38 : decode cX6_cut 38 = .ok (.iload_n 1, 1) := by decide +kernel
theorem dX6_cut_39 : decode cX6_cut 39 = .ok (.iload_n 2, 1) := by decide +kernel
theorem dX6_cut_40 : decode cX6_cut 40 = .ok (.iastore, 1) := by decide +kernel
theorem dX6_cut_41 : decode cX6_cut 41 = .ok (.aload_n 0, 1) := by decide +kernel
theorem dX6_cut_42 : decode cX6_cut 42 = .ok (.getfield 22, 3) := by decide +kernel
theorem dX6_cut_45 : decode cX6_cut 45 = .ok (.iload_n 1, 1) := by decide +kernel
theorem dX6_cut_46 : decode cX6_cut 46 = .ok (.iconst 0, 1) := by decide +kernel
theorem dX6_cut_47 : decode cX6_cut 47 = .ok (.iastore, 1) := by decide +kernel
theorem dX6_cut_48 : decode cX6_cut 48 = .ok (.iconst 1, 1) := by decide +kernel
theorem dX6_cut_49 : decode cX6_cut 49 = .ok (.ireturn, 1) := by decide +kernel
theorem dX6_halfway_0 : decode cX6_halfway 0 = .ok (.iload_n 1, 1) := by decide +kernel
theorem dX6_halfway_1 : decode cX6_halfway 1 = .ok (.ifCond .le 30, 3) := by decide +kernel
theorem dX6_halfway_4 : decode cX6_halfway 4 = .ok (.aload_n 0, 1) := by decide +kernel
theorem dX6_halfway_5 : decode cX6_halfway 5 = .ok (.getfield 83, 3) := by decide +kernel
theorem dX6_halfway_8 : decode cX6_halfway 8 = .ok (.iload_n 1, 1) := by decide +kernel
theorem dX6_halfway_9 : decode cX6_halfway 9 = .ok (.iconst 1, 1) := by decide +kernel
theorem dX6_halfway_10 : decode cX6_halfway 10 = .ok (.isub, 1) := by decide +kernel
theorem dX6_halfway_11 : decode cX6_halfway 11 = .ok (.iaload, 1) := by decide +kernel
theorem dX6_halfway_12 : decode cX6_halfway 12 = .ok (.iload_n 2, 1) := by decide +kernel
theorem dX6_halfway_13 : decode cX6_halfway 13 = .ok (.if_icmp .ne 18, 3) := by decide +kernel
theorem dX6_halfway_16 : decode cX6_halfway 16 = .ok (.aload_n 0, 1) := by decide +kernel
theorem dX6_halfway_17 : decode cX6_halfway 17 = .ok (.getfield 86, 3) := by decide +kernel
theorem dX6_halfway_20 : decode cX6_halfway 20 = .ok (.iload_n 1, 1) := by decide +kernel
theorem dX6_halfway_21 : decode cX6_halfway 21 = .ok (.iconst 1, 1) := by decide +kernel
theorem dX6_halfway_22 : decode cX6_halfway 22 = .ok (.isub, 1) := by decide +kernel
theorem dX6_halfway_23 : decode cX6_halfway 23 = .ok (.baload, 1) := by decide +kernel
theorem dX6_halfway_24 : decode cX6_halfway 24 = .ok (.ifCond .ne 7, 3) := by decide +kernel
theorem dX6_halfway_27 : decode cX6_halfway 27 = .ok (.iconst 1, 1) := by decide +kernel
theorem dX6_halfway_28 : decode cX6_halfway 28 = .ok (.goto 4, 3) := by decide +kernel
theorem dX6_halfway_31 : decode cX6_halfway 31 = .ok (.iconst 0, 1) := by decide +kernel
theorem dX6_halfway_32 : decode cX6_halfway 32 = .ok (.ireturn, 1) := by decide +kernel
theorem dX6_wrong_0 : decode cX6_wrong 0 = .ok (.iload_n 1, 1) := by decide +kernel
theorem dX6_wrong_1 : decode cX6_wrong 1 = .ok (.tableswitch 211 3 16 #[149, 159, 194, 196, 71, 169, 179, 101, 211, 117, 211, 211, 211, 133], 71) := by decide +kernel
theorem dX6_wrong_72 : decode cX6_wrong 72 = .ok (.iload_n 2, 1) := by decide +kernel
theorem dX6_wrong_73 : decode cX6_wrong 73 = .ok (.ifCond .eq 23, 3) := by decide +kernel
theorem dX6_wrong_76 : decode cX6_wrong 76 = .ok (.aload_n 0, 1) := by decide +kernel
theorem dX6_wrong_77 : decode cX6_wrong 77 = .ok (.iload_n 2, 1) := by decide +kernel
theorem dX6_wrong_78 : decode cX6_wrong 78 = .ok (.bipush 9, 2) := by decide +kernel
theorem dX6_wrong_80 : decode cX6_wrong 80 = .ok (.invokevirtual 101, 3) := by decide +kernel
theorem dX6_wrong_83 : decode cX6_wrong 83 = .ok (.ifCond .ne 13, 3) := by decide +kernel
theorem dX6_wrong_86 : decode cX6_wrong 86 = .ok (.aload_n 0, 1) := by decide +kernel
theorem dX6_wrong_87 : decode cX6_wrong 87 = .ok (.iload_n 2, 1) := by decide +kernel
theorem dX6_wrong_88 : decode cX6_wrong 88 = .ok (.bipush 15, 2) := by decide +kernel
theorem dX6_wrong_90 : decode cX6_wrong 90 = .ok (.invokevirtual 101, 3) := by decide +kernel
theorem dX6_wrong_93 : decode cX6_wrong 93 = .ok (.ifCond .eq 7, 3) := by decide +kernel
theorem dX6_wrong_96 : decode cX6_wrong 96 = .ok (.iconst 1, 1) := by decide +kernel
theorem dX6_wrong_97 : decode cX6_wrong 97 = .ok (.goto 4, 3) := by decide +kernel
theorem dX6_wrong_100 : decode cX6_wrong 100 = .ok (.iconst 0, 1) := by decide +kernel
theorem dX6_wrong_101 : decode cX6_wrong 101 = .ok (.ireturn, 1) := by decide +kernel
theorem dX6_wrong_102 : decode cX6_wrong 102 = .ok (.aload_n 0, 1) := by decide +kernel
theorem dX6_wrong_103 : decode cX6_wrong 103 = .ok (.iload_n 2, 1) := by decide +kernel
theorem dX6_wrong_104 : decode cX6_wrong 104 = .ok (.bipush 9, 2) := by decide +kernel
theorem dX6_wrong_106 : decode cX6_wrong 106 = .ok (.invokevirtual 101, 3) := by decide +kernel
theorem dX6_wrong_109 : decode cX6_wrong 109 = .ok (.ifCond .ne 7, 3) := by decide +kernel
theorem dX6_wrong_112 : decode cX6_wrong 112 = .ok (.iconst 1, 1) := by decide +kernel
theorem dX6_wrong_113 : decode cX6_wrong 113 = .ok (.goto 4, 3) := by decide +kernel
theorem dX6_wrong_116 : decode cX6_wrong 116 = .ok (.iconst 0, 1) := by decide +kernel
theorem dX6_wrong_117 : decode cX6_wrong 117 = .ok (.ireturn, 1) := by decide +kernel
theorem dX6_wrong_118 : decode cX6_wrong 118 = .ok (.aload_n 0, 1) := by decide +kernel
theorem dX6_wrong_119 : decode cX6_wrong 119 = .ok (.iload_n 2, 1) := by decide +kernel
theorem dX6_wrong_120 : decode cX6_wrong 120 = .ok (.bipush 11, 2) := by decide +kernel
theorem dX6_wrong_122 : decode cX6_wrong 122 = .ok (.invokevirtual 101, 3) := by decide +kernel
theorem dX6_wrong_125 : decode cX6_wrong 125 = .ok (.ifCond .ne 7, 3) := by decide +kernel
theorem dX6_wrong_128 : decode cX6_wrong 128 = .ok (.iconst 1, 1) := by decide +kernel
theorem dX6_wrong_129 : decode cX6_wrong 129 = .ok (.goto 4, 3) := by decide +kernel
theorem dX6_wrong_132 : decode cX6_wrong 132 = .ok (.iconst 0, 1) := by decide +kernel
theorem dX6_wrong_133 : decode cX6_wrong 133 = .ok (.ireturn, 1) := by decide +kernel
theorem dX6_wrong_134 : decode cX6_wrong 134 = .ok (.aload_n 0, 1) := by decide +kernel
theorem dX6_wrong_135 : decode cX6_wrong 135 = .ok (.iload_n 2, 1) := by decide +kernel
theorem dX6_wrong_136 : decode cX6_wrong 136 = .ok (.bipush 15, 2) := by decide +kernel
theorem dX6_wrong_138 : decode cX6_wrong 138 = .ok (.invokevirtual 101, 3) := by decide +kernel
theorem dX6_wrong_141 : decode cX6_wrong 141 = .ok (.ifCond .ne 7, 3) := by decide +kernel
theorem dX6_wrong_144 : decode cX6_wrong 144 = .ok (.iconst 1, 1) := by decide +kernel
theorem dX6_wrong_145 : decode cX6_wrong 145 = .ok (.goto 4, 3) := by decide +kernel
theorem dX6_wrong_148 : decode cX6_wrong 148 = .ok (.iconst 0, 1) := by decide +kernel
theorem dX6_wrong_149 : decode cX6_wrong 149 = .ok (.ireturn, 1) := by decide +kernel
theorem dX6_wrong_150 : decode cX6_wrong 150 = .ok (.iload_n 3, 1) := by decide +kernel
theorem dX6_wrong_151 : decode cX6_wrong 151 = .ok (.ifCond .ne 7, 3) := by decide +kernel
theorem dX6_wrong_154 : decode cX6_wrong 154 = .ok (.iconst 1, 1) := by decide +kernel
theorem dX6_wrong_155 : decode cX6_wrong 155 = .ok (.goto 4, 3) := by decide +kernel
theorem dX6_wrong_158 : decode cX6_wrong 158 = .ok (.iconst 0, 1) := by decide +kernel
theorem dX6_wrong_159 : decode cX6_wrong 159 = .ok (.ireturn, 1) := by decide +kernel
theorem dX6_wrong_160 : decode cX6_wrong 160 = .ok (.iload_n 3, 1) := by decide +kernel
theorem dX6_wrong_161 : decode cX6_wrong 161 = .ok (.ifCond .ne 7, 3) := by decide +kernel
theorem dX6_wrong_164 : decode cX6_wrong 164 = .ok (.iconst 1, 1) := by decide +kernel
theorem dX6_wrong_165 : decode cX6_wrong 165 = .ok (.goto 4, 3) := by decide +kernel
theorem dX6_wrong_168 : decode cX6_wrong 168 = .ok (.iconst 0, 1) := by decide +kernel
theorem dX6_wrong_169 : decode cX6_wrong 169 = .ok (.ireturn, 1) := by decide +kernel
theorem dX6_wrong_170 : decode cX6_wrong 170 = .ok (.iload_n 3, 1) := by decide +kernel
theorem dX6_wrong_171 : decode cX6_wrong 171 = .ok (.ifCond .ne 7, 3) := by decide +kernel
theorem dX6_wrong_174 : decode cX6_wrong 174 = .ok (.iconst 1, 1) := by decide +kernel
theorem dX6_wrong_175 : decode cX6_wrong 175 = .ok (.goto 4, 3) := by decide +kernel
theorem dX6_wrong_178 : decode cX6_wrong 178 = .ok (.iconst 0, 1) := by decide +kernel
theorem dX6_wrong_179 : decode cX6_wrong 179 = .ok (.ireturn, 1) := by decide +kernel
theorem dX6_wrong_180 : decode cX6_wrong 180 = .ok (.iload_n 3, 1) := by decide +kernel
theorem dX6_wrong_181 : decode cX6_wrong 181 = .ok (.ifCond .eq 8, 3) := by decide +kernel
theorem dX6_wrong_184 : decode cX6_wrong 184 = .ok (.iload_n 2, 1) := by decide +kernel
theorem dX6_wrong_185 : decode cX6_wrong 185 = .ok (.iconst 5, 1) := by decide +kernel
theorem dX6_wrong_186 : decode cX6_wrong 186 = .ok (.if_icmp .ne 7, 3) := by decide +kernel
theorem dX6_wrong_189 : decode cX6_wrong 189 = .ok (.iconst 1, 1) := by decide +kernel
theorem dX6_wrong_190 : decode cX6_wrong 190 = .ok (.goto 4, 3) := by decide +kernel
theorem dX6_wrong_193 : decode cX6_wrong 193 = .ok (.iconst 0, 1) := by decide +kernel
theorem dX6_wrong_194 : decode cX6_wrong 194 = .ok (.ireturn, 1) := by decide +kernel
theorem dX6_wrong_195 : decode cX6_wrong 195 = .ok (.iload_n 3, 1) := by decide +kernel
theorem dX6_wrong_196 : decode cX6_wrong 196 = .ok (.ireturn, 1) := by decide +kernel
theorem dX6_wrong_197 : decode cX6_wrong 197 = .ok (.iload_n 3, 1) := by decide +kernel
theorem dX6_wrong_198 : decode cX6_wrong 198 = .ok (.ifCond .ne 8, 3) := by decide +kernel
theorem dX6_wrong_201 : decode cX6_wrong 201 = .ok (.iload_n 2, 1) := by decide +kernel
theorem dX6_wrong_202 : decode cX6_wrong 202 = .ok (.iconst 5, 1) := by decide +kernel
theorem dX6_wrong_203 : decode cX6_wrong 203 = .ok (.if_icmp .ne 7, 3) := by decide +kernel
theorem dX6_wrong_206 : decode cX6_wrong 206 = .ok (.iconst 1, 1) := by decide +kernel
theorem dX6_wrong_207 : decode cX6_wrong 207 = .ok (.goto 4, 3) := by decide +kernel
theorem dX6_wrong_210 : decode cX6_wrong 210 = .ok (.iconst 0, 1) := by decide +kernel
theorem dX6_wrong_211 : decode cX6_wrong 211 = .ok (.ireturn, 1) := by decide +kernel
theorem dX6_wrong_212 : decode cX6_wrong 212 = .ok (.iload_n 1, 1) := by decide +kernel
theorem dX6_wrong_213 : decode cX6_wrong 213 = .ok (.invokestatic 104, 3) := by decide +kernel
theorem dX6_wrong_216 : decode cX6_wrong 216 = .ok (.ifCond .eq 12, 3) := by decide +kernel
theorem dX6_wrong_219 : decode cX6_wrong 219 = .ok (.iload_n 2, 1) := by decide +kernel
theorem dX6_wrong_220 : decode cX6_wrong 220 = .ok (.iconst 5, 1) := by decide +kernel
theorem dX6_wrong_221 : decode cX6_wrong 221 = .ok (.if_icmp .ne 7, 3) := by decide +kernel
theorem dX6_wrong_224 : decode cX6_wrong 224 = .ok (.iconst 1, 1) := by decide +kernel
theorem dX6_wrong_225 : decode cX6_wrong 225 = .ok (.goto 4, 3) := by decide +kernel
theorem dX6_wrong_228 : decode cX6_wrong 228 = .ok (.iconst 0, 1) := by decide +kernel
theorem dX6_wrong_229 : decode cX6_wrong 229 = .ok (.ireturn, 1) := by decide +kernel
theorem dX6_check_0 : decode cX6_check 0 = .ok (.iload_n 1, 1) := by decide +kernel
theorem dX6_check_1 : decode cX6_check 1 = .ok (.iconst 4, 1) := by decide +kernel
theorem dX6_check_2 : decode cX6_check 2 = .ok (.invokestatic 89, 3) := by decide +kernel
theorem dX6_check_5 : decode cX6_check 5 = .ok (.ifCond .eq 6, 3) := by decide +kernel
theorem dX6_check_8 : decode cX6_check 8 = .ok (.bipush (-2), 2) := by decide +kernel
theorem dX6_check_10 : decode cX6_check 10 = .ok (.ireturn, 1) := by decide +kernel
theorem dX6_check_11 : decode cX6_check 11 = .ok (.iconst 0, 1) := by decide +kernel
theorem dX6_check_12 : decode cX6_check 12 = .ok (.istore_n 2, 1) := by decide +kernel
theorem dX6_check_13 : decode cX6_check 13 = .ok (.iconst 0, 1) := by decide +kernel
theorem dX6_check_14 : decode cX6_check 14 = .ok (.istore_n 3, 1) := by decide +kernel
theorem dX6_check_15 : decode cX6_check 15 = .ok (.iload_n 3, 1) := by decide +kernel
theorem dX6_check_16 : decode cX6_check 16 = .ok (.aload_n 0, 1) := by decide +kernel
theorem dX6_check_17 : decode cX6_check 17 = .ok (.getfield 19, 3) := by decide +kernel
theorem dX6_check_20 : decode cX6_check 20 = .ok (.iload_n 1, 1) := by decide +kernel
theorem dX6_check_21 : decode cX6_check 21 = .ok (.iaload, 1) := by decide +kernel
theorem dX6_check_22 : decode cX6_check 22 = .ok (.if_icmp .ge 150, 3) := by decide +kernel
theorem dX6_check_25 : decode cX6_check 25 = .ok (.aload_n 0, 1) := by decide +kernel
theorem dX6_check_26 : decode cX6_check 26 = .ok (.getfield 7, 3) := by decide +kernel
theorem dX6_check_29 : decode cX6_check 29 = .ok (.bipush 30, 2) := by decide +kernel
theorem dX6_check_31 : decode cX6_check 31 = .ok (.iload_n 1, 1) := by decide +kernel
theorem dX6_check_32 : decode cX6_check 32 = .ok (.imul, 1) := by decide +kernel
theorem dX6_check_33 : decode cX6_check 33 = .ok (.iload_n 3, 1) := by decide +kernel
theorem dX6_check_34 : decode cX6_check 34 = .ok (.iadd, 1) := by decide +kernel
theorem dX6_check_35 : decode cX6_check 35 = .ok (.iaload, 1) := by decide +kernel
theorem dX6_check_36 : decode cX6_check 36 = .ok (.istore 4, 2) := by decide +kernel
theorem dX6_check_38 : decode cX6_check 38 = .ok (.iconst 0, 1) := by decide +kernel
theorem dX6_check_39 : decode cX6_check 39 = .ok (.istore 5, 2) := by decide +kernel
theorem dX6_check_41 : decode cX6_check 41 = .ok (.iconst 0, 1) := by decide +kernel
theorem dX6_check_42 : decode cX6_check 42 = .ok (.istore 6, 2) := by decide +kernel
theorem dX6_check_44 : decode cX6_check 44 = .ok (.iload 6, 2) := by decide +kernel
theorem dX6_check_46 : decode cX6_check 46 = .ok (.iload_n 2, 1) := by decide +kernel
theorem dX6_check_47 : decode cX6_check 47 = .ok (.if_icmp .ge 33, 3) := by decide +kernel
theorem dX6_check_50 : decode cX6_check 50 = .ok (.iload 5, 2) := by decide +kernel
theorem dX6_check_52 : decode cX6_check 52 = .ok (.ifCond .ne 15, 3) := by decide +kernel
theorem dX6_check_55 : decode cX6_check 55 = .ok (.aload_n 0, 1) := by decide +kernel
theorem dX6_check_56 : decode cX6_check 56 = .ok (.getfield 83, 3) := by decide +kernel
theorem dX6_check_59 : decode cX6_check 59 = .ok (.iload 6, 2) := by decide +kernel
theorem dX6_check_61 : decode cX6_check 61 = .ok (.iaload, 1) := by decide +kernel
theorem dX6_check_62 : decode cX6_check 62 = .ok (.bipush 6, 2) := by decide +kernel
theorem dX6_check_64 : decode cX6_check 64 = .ok (.if_icmp .ne 7, 3) := by decide +kernel
theorem dX6_check_67 : decode cX6_check 67 = .ok (.iconst 1, 1) := by decide +kernel
theorem dX6_check_68 : decode cX6_check 68 = .ok (.goto 4, 3) := by decide +kernel
theorem dX6_check_71 : decode cX6_check 71 = .ok (.iconst 0, 1) := by decide +kernel
theorem dX6_check_72 : decode cX6_check 72 = .ok (.istore 5, 2) := by decide +kernel
theorem dX6_check_74 : decode cX6_check 74 = .ok (.iinc 6 1, 3) := by decide +kernel
theorem dX6_check_77 : decode cX6_check 77 = .ok (.goto (-33), 3) := by decide +kernel
theorem dX6_check_80 : decode cX6_check 80 = .ok (.aload_n 0, 1) := by decide +kernel
theorem dX6_check_81 : decode cX6_check 81 = .ok (.iload 4, 2) := by decide +kernel
theorem dX6_check_83 : decode cX6_check 83 = .ok (.iload_n 2, 1) := by decide +kernel
theorem dX6_check_84 : decode cX6_check 84 = .ok (.iload 5, 2) := by decide +kernel
theorem dX6_check_86 : decode cX6_check 86 = .ok (.invokevirtual 107, 3) := by decide +kernel
theorem dX6_check_89 : decode cX6_check 89 = .ok (.ifCond .eq 5, 3) := by decide +kernel
theorem dX6_check_92 : decode cX6_check 92 = .ok (.iload_n 3, 1) := by decide +kernel
theorem dX6_check_93 : decode cX6_check 93 = .ok (.ireturn, 1) := by decide +kernel
theorem dX6_check_94 : decode cX6_check 94 = .ok (.iload 4, 2) := by decide +kernel
theorem dX6_check_96 : decode cX6_check 96 = .ok (.invokestatic 104, 3) := by decide +kernel
theorem dX6_check_99 : decode cX6_check 99 = .ok (.ifCond .eq 24, 3) := by decide +kernel
theorem dX6_check_102 : decode cX6_check 102 = .ok (.aload_n 0, 1) := by decide +kernel
theorem dX6_check_103 : decode cX6_check 103 = .ok (.getfield 83, 3) := by decide +kernel
theorem dX6_check_106 : decode cX6_check 106 = .ok (.iload_n 2, 1) := by decide +kernel
theorem dX6_check_107 : decode cX6_check 107 = .ok (.iload 4, 2) := by decide +kernel
theorem dX6_check_109 : decode cX6_check 109 = .ok (.iastore, 1) := by decide +kernel
theorem dX6_check_110 : decode cX6_check 110 = .ok (.aload_n 0, 1) := by decide +kernel
theorem dX6_check_111 : decode cX6_check 111 = .ok (.getfield 86, 3) := by decide +kernel
theorem dX6_check_114 : decode cX6_check 114 = .ok (.iload_n 2, 1) := by decide +kernel
theorem dX6_check_115 : decode cX6_check 115 = .ok (.iconst 0, 1) := by decide +kernel
theorem dX6_check_116 : decode cX6_check 116 = .ok (.bastore, 1) := by decide +kernel
theorem dX6_check_117 : decode cX6_check 117 = .ok (.iinc 2 1, 3) := by decide +kernel
theorem dX6_check_120 : decode cX6_check 120 = .ok (.goto 46, 3) := by decide +kernel
theorem dX6_check_123 : decode cX6_check 123 = .ok (.iload 4, 2) := by decide +kernel
theorem dX6_check_125 : decode cX6_check 125 = .ok (.bipush 7, 2) := by decide +kernel
theorem dX6_check_127 : decode cX6_check 127 = .ok (.if_icmp .ne 9, 3) := by decide +kernel
theorem dX6_check_130 : decode cX6_check 130 = .ok (.iinc 2 (-1), 3) := by decide +kernel
theorem dX6_check_133 : decode cX6_check 133 = .ok (.goto 33, 3) := by decide +kernel
theorem dX6_check_136 : decode cX6_check 136 = .ok (.iload 4, 2) := by decide +kernel
theorem dX6_check_138 : decode cX6_check 138 = .ok (.bipush 10, 2) := by decide +kernel
theorem dX6_check_140 : decode cX6_check 140 = .ok (.if_icmp .eq 17, 3) := by decide +kernel
theorem dX6_check_143 : decode cX6_check 143 = .ok (.iload 4, 2) := by decide +kernel
theorem dX6_check_145 : decode cX6_check 145 = .ok (.bipush 12, 2) := by decide +kernel
theorem dX6_check_147 : decode cX6_check 147 = .ok (.if_icmp .eq 10, 3) := by decide +kernel
theorem dX6_check_150 : decode cX6_check 150 = .ok (.iload 4, 2) := by decide +kernel
theorem dX6_check_152 : decode cX6_check 152 = .ok (.bipush 16, 2) := by decide +kernel
theorem dX6_check_154 : decode cX6_check 154 = .ok (.if_icmp .ne 12, 3) := by decide +kernel
theorem dX6_check_157 : decode cX6_check 157 = .ok (.aload_n 0, 1) := by decide +kernel
theorem dX6_check_158 : decode cX6_check 158 = .ok (.getfield 86, 3) := by decide +kernel
theorem dX6_check_161 : decode cX6_check 161 = .ok (.iload_n 2, 1) := by decide +kernel
theorem dX6_check_162 : decode cX6_check 162 = .ok (.iconst 1, 1) := by decide +kernel
theorem dX6_check_163 : decode cX6_check 163 = .ok (.isub, 1) := by decide +kernel
theorem dX6_check_164 : decode cX6_check 164 = .ok (.iconst 1, 1) := by decide +kernel
theorem dX6_check_165 : decode cX6_check 165 = .ok (.bastore, 1) := by decide +kernel
theorem dX6_check_166 : decode cX6_check 166 = .ok (.iinc 3 1, 3) := by decide +kernel
theorem dX6_check_169 : decode cX6_check 169 = .ok (.goto (-154), 3) := by decide +kernel
theorem dX6_check_172 : decode cX6_check 172 = .ok (.iload_n 2, 1) := by decide +kernel
theorem dX6_check_173 : decode cX6_check 173 = .ok (.ifCond .le 12, 3) := by decide +kernel
theorem dX6_check_176 : decode cX6_check 176 = .ok (.aload_n 0, 1) := by decide +kernel
theorem dX6_check_177 : decode cX6_check 177 = .ok (.getfield 19, 3) := by decide +kernel
theorem dX6_check_180 : decode cX6_check 180 = .ok (.iload_n 1, 1) := by decide +kernel
theorem dX6_check_181 : decode cX6_check 181 = .ok (.iaload, 1) := by decide +kernel
theorem dX6_check_182 : decode cX6_check 182 = .ok (.goto 4, 3) := by decide +kernel
theorem dX6_check_185 : decode cX6_check 185 = .ok (.iconst (-1), 1) := by decide +kernel
theorem dX6_check_186 : decode cX6_check 186 = .ok (.ireturn, 1) := by decide +kernel
theorem dX6_partner_0 : decode cX6_partner 0 = .ok (.iconst 0, 1) := by decide +kernel
theorem dX6_partner_1 : decode cX6_partner 1 = .ok (.istore 4, 2) := by decide +kernel
theorem dX6_partner_3 : decode cX6_partner 3 = .ok (.iload_n 2, 1) := by decide +kernel
theorem dX6_partner_4 : decode cX6_partner 4 = .ok (.iconst 1, 1) := by decide +kernel
theorem dX6_partner_5 : decode cX6_partner 5 = .ok (.iadd, 1) := by decide +kernel
theorem dX6_partner_6 : decode cX6_partner 6 = .ok (.istore 5, 2) := by decide +kernel
theorem dX6_partner_8 : decode cX6_partner 8 = .ok (.iload 5, 2) := by decide +kernel
theorem dX6_partner_10 : decode cX6_partner 10 = .ok (.aload_n 0, 1) := by decide +kernel
theorem dX6_partner_11 : decode cX6_partner 11 = .ok (.getfield 19, 3) := by decide +kernel
theorem dX6_partner_14 : decode cX6_partner 14 = .ok (.iload_n 1, 1) := by decide +kernel
theorem dX6_partner_15 : decode cX6_partner 15 = .ok (.iaload, 1) := by decide +kernel
theorem dX6_partner_16 : decode cX6_partner 16 = .ok (.if_icmp .ge 96, 3) := by decide +kernel
theorem dX6_partner_19 : decode cX6_partner 19 = .ok (.aload_n 0, 1) := by decide +kernel
theorem dX6_partner_20 : decode cX6_partner 20 = .ok (.getfield 7, 3) := by decide +kernel
theorem dX6_partner_23 : decode cX6_partner 23 = .ok (.bipush 30, 2) := by decide +kernel
theorem dX6_partner_25 : decode cX6_partner 25 = .ok (.iload_n 1, 1) := by decide +kernel
theorem dX6_partner_26 : decode cX6_partner 26 = .ok (.imul, 1) := by decide +kernel
theorem dX6_partner_27 : decode cX6_partner 27 = .ok (.iload 5, 2) := by decide +kernel
theorem dX6_partner_29 : decode cX6_partner 29 = .ok (.iadd, 1) := by decide +kernel
theorem dX6_partner_30 : decode cX6_partner 30 = .ok (.iaload, 1) := by decide +kernel
theorem dX6_partner_31 : decode cX6_partner 31 = .ok (.istore 6, 2) := by decide +kernel
theorem dX6_partner_33 : decode cX6_partner 33 = .ok (.iload 4, 2) := by decide +kernel
theorem dX6_partner_35 : decode cX6_partner 35 = .ok (.ifCond .ne 38, 3) := by decide +kernel
theorem dX6_partner_38 : decode cX6_partner 38 = .ok (.iload 6, 2) := by decide +kernel
theorem dX6_partner_40 : decode cX6_partner 40 = .ok (.bipush 7, 2) := by decide +kernel
theorem dX6_partner_42 : decode cX6_partner 42 = .ok (.if_icmp .eq 28, 3) := by decide +kernel
theorem dX6_partner_45 : decode cX6_partner 45 = .ok (.iload_n 3, 1) := by decide +kernel
theorem dX6_partner_46 : decode cX6_partner 46 = .ok (.ifCond .eq 27, 3) := by decide +kernel
theorem dX6_partner_49 : decode cX6_partner 49 = .ok (.iload 6, 2) := by decide +kernel
theorem dX6_partner_51 : decode cX6_partner 51 = .ok (.bipush 10, 2) := by decide +kernel
theorem dX6_partner_53 : decode cX6_partner 53 = .ok (.if_icmp .eq 17, 3) := by decide +kernel
theorem dX6_partner_56 : decode cX6_partner 56 = .ok (.iload 6, 2) := by decide +kernel
theorem dX6_partner_58 : decode cX6_partner 58 = .ok (.bipush 12, 2) := by decide +kernel
theorem dX6_partner_60 : decode cX6_partner 60 = .ok (.if_icmp .eq 10, 3) := by decide +kernel
theorem dX6_partner_63 : decode cX6_partner 63 = .ok (.iload 6, 2) := by decide +kernel
theorem dX6_partner_65 : decode cX6_partner 65 = .ok (.bipush 16, 2) := by decide +kernel
theorem dX6_partner_67 : decode cX6_partner 67 = .ok (.if_icmp .ne 6, 3) := by decide +kernel
theorem dX6_partner_70 : decode cX6_partner 70 = .ok (.iload 5, 2) := by decide +kernel
theorem dX6_partner_72 : decode cX6_partner 72 = .ok (.ireturn, 1) := by decide +kernel
theorem dX6_partner_73 : decode cX6_partner 73 = .ok (.iload 6, 2) := by decide +kernel
theorem dX6_partner_75 : decode cX6_partner 75 = .ok (.invokestatic 104, 3) := by decide +kernel
theorem dX6_partner_78 : decode cX6_partner 78 = .ok (.ifCond .eq 10, 3) := by decide +kernel
theorem dX6_partner_81 : decode cX6_partner 81 = .ok (.iload 4, 2) := by decide +kernel
theorem dX6_partner_83 : decode cX6_partner 83 = .ok (.iconst 1, 1) := by decide +kernel
theorem dX6_partner_84 : decode cX6_partner 84 = .ok (.iadd, 1) := by decide +kernel
theorem dX6_partner_85 : decode cX6_partner 85 = .ok (.goto 19, 3) := by decide +kernel
theorem dX6_partner_88 : decode cX6_partner 88 = .ok (.iload 6, 2) := by decide +kernel
theorem dX6_partner_90 : decode cX6_partner 90 = .ok (.bipush 7, 2) := by decide +kernel
theorem dX6_partner_92 : decode cX6_partner 92 = .ok (.if_icmp .ne 10, 3) := by decide +kernel
theorem dX6_partner_95 : decode cX6_partner 95 = .ok (.iload 4, 2) := by decide +kernel
theorem dX6_partner_97 : decode cX6_partner 97 = .ok (.iconst 1, 1) := by decide +kernel
theorem dX6_partner_98 : decode cX6_partner 98 = .ok (.isub, 1) := by decide +kernel
theorem dX6_partner_99 : decode cX6_partner 99 = .ok (.goto 5, 3) := by decide +kernel
theorem dX6_partner_102 : decode cX6_partner 102 = .ok (.iload 4, 2) := by decide +kernel
theorem dX6_partner_104 : decode cX6_partner 104 = .ok (.istore 4, 2) := by decide +kernel
theorem dX6_partner_106 : decode cX6_partner 106 = .ok (.iinc 5 1, 3) := by decide +kernel
theorem dX6_partner_109 : decode cX6_partner 109 = .ok (.goto (-101), 3) := by decide +kernel
theorem dX6_partner_112 : decode cX6_partner 112 = .ok (.aload_n 0, 1) := by decide +kernel
theorem dX6_partner_113 : decode cX6_partner 113 = .ok (.getfield 19, 3) := by decide +kernel
theorem dX6_partner_116 : decode cX6_partner 116 = .ok (.iload_n 1, 1) := by decide +kernel
theorem dX6_partner_117 : decode cX6_partner 117 = .ok (.iaload, 1) := by decide +kernel
theorem dX6_partner_118 : decode cX6_partner 118 = .ok (.iconst 1, 1) := by decide +kernel
theorem dX6_partner_119 : decode cX6_partner 119 = .ok (.isub, 1) := by decide +kernel
theorem dX6_partner_120 : decode cX6_partner 120 = .ok (.ireturn, 1) := by decide +kernel
theorem dX6_origin_0 : decode cX6_origin 0 = .ok (.iconst 0, 1) := by decide +kernel
theorem dX6_origin_1 : decode cX6_origin 1 = .ok (.istore_n 3, 1) := by decide +kernel
theorem dX6_origin_2 : decode cX6_origin 2 = .ok (.iload_n 2, 1) := by decide +kernel
theorem dX6_origin_3 : decode cX6_origin 3 = .ok (.iconst 1, 1) := by decide +kernel
theorem dX6_origin_4 : decode cX6_origin 4 = .ok (.isub, 1) := by decide +kernel
theorem dX6_origin_5 : decode cX6_origin 5 = .ok (.istore 4, 2) := by decide +kernel
theorem dX6_origin_7 : decode cX6_origin 7 = .ok (.iload 4, 2) := by decide +kernel
theorem dX6_origin_9 : decode cX6_origin 9 = .ok (.ifCond .le 67, 3) := by decide +kernel
theorem dX6_origin_12 : decode cX6_origin 12 = .ok (.aload_n 0, 1) := by decide +kernel
theorem dX6_origin_13 : decode cX6_origin 13 = .ok (.getfield 7, 3) := by decide +kernel
theorem dX6_origin_16 : decode cX6_origin 16 = .ok (.bipush 30, 2) := by decide +kernel
theorem dX6_origin_18 : decode cX6_origin 18 = .ok (.iload_n 1, 1) := by decide +kernel
theorem dX6_origin_19 : decode cX6_origin 19 = .ok (.imul, 1) := by decide +kernel
theorem dX6_origin_20 : decode cX6_origin 20 = .ok (.iload 4, 2) := by decide +kernel
theorem dX6_origin_22 : decode cX6_origin 22 = .ok (.iadd, 1) := by decide +kernel
theorem dX6_origin_23 : decode cX6_origin 23 = .ok (.iaload, 1) := by decide +kernel
theorem dX6_origin_24 : decode cX6_origin 24 = .ok (.istore 5, 2) := by decide +kernel
theorem dX6_origin_26 : decode cX6_origin 26 = .ok (.iload_n 3, 1) := by decide +kernel
theorem dX6_origin_27 : decode cX6_origin 27 = .ok (.ifCond .ne 14, 3) := by decide +kernel
theorem dX6_origin_30 : decode cX6_origin 30 = .ok (.iload 5, 2) := by decide +kernel
theorem dX6_origin_32 : decode cX6_origin 32 = .ok (.invokestatic 104, 3) := by decide +kernel
theorem dX6_origin_35 : decode cX6_origin 35 = .ok (.ifCond .eq 6, 3) := by decide +kernel
theorem dX6_origin_38 : decode cX6_origin 38 = .ok (.iload 4, 2) := by decide +kernel
theorem dX6_origin_40 : decode cX6_origin 40 = .ok (.ireturn, 1) := by decide +kernel
theorem dX6_origin_41 : decode cX6_origin 41 = .ok (.iload 5, 2) := by decide +kernel
theorem dX6_origin_43 : decode cX6_origin 43 = .ok (.invokestatic 104, 3) := by decide +kernel
theorem dX6_origin_46 : decode cX6_origin 46 = .ok (.ifCond .eq 9, 3) := by decide +kernel
theorem dX6_origin_49 : decode cX6_origin 49 = .ok (.iload_n 3, 1) := by decide +kernel
theorem dX6_origin_50 : decode cX6_origin 50 = .ok (.iconst 1, 1) := by decide +kernel
theorem dX6_origin_51 : decode cX6_origin 51 = .ok (.isub, 1) := by decide +kernel
theorem dX6_origin_52 : decode cX6_origin 52 = .ok (.goto 17, 3) := by decide +kernel
theorem dX6_origin_55 : decode cX6_origin 55 = .ok (.iload 5, 2) := by decide +kernel
theorem dX6_origin_57 : decode cX6_origin 57 = .ok (.bipush 7, 2) := by decide +kernel
theorem dX6_origin_59 : decode cX6_origin 59 = .ok (.if_icmp .ne 9, 3) := by decide +kernel
theorem dX6_origin_62 : decode cX6_origin 62 = .ok (.iload_n 3, 1) := by decide +kernel
theorem dX6_origin_63 : decode cX6_origin 63 = .ok (.iconst 1, 1) := by decide +kernel
theorem dX6_origin_64 : decode cX6_origin 64 = .ok (.iadd, 1) := by decide +kernel
theorem dX6_origin_65 : decode cX6_origin 65 = .ok (.goto 4, 3) := by decide +kernel
theorem dX6_origin_68 : decode cX6_origin 68 = .ok (.iload_n 3, 1) := by decide +kernel
theorem dX6_origin_69 : decode cX6_origin 69 = .ok (.istore_n 3, 1) := by decide +kernel
theorem dX6_origin_70 : decode cX6_origin 70 = .ok (.iinc 4 (-1), 3) := by decide +kernel
theorem dX6_origin_73 : decode cX6_origin 73 = .ok (.goto (-66), 3) := by decide +kernel
theorem dX6_origin_76 : decode cX6_origin 76 = .ok (.iconst 0, 1) := by decide +kernel
theorem dX6_origin_77 : decode cX6_origin 77 = .ok (.ireturn, 1) := by decide +kernel
theorem dX6_start_0 : decode cX6_start 0 = .ok (.iload_n 1, 1) := by decide +kernel
theorem dX6_start_1 : decode cX6_start 1 = .ok (.iconst 4, 1) := by decide +kernel
theorem dX6_start_2 : decode cX6_start 2 = .ok (.invokestatic 89, 3) := by decide +kernel
theorem dX6_start_5 : decode cX6_start 5 = .ok (.ifCond .eq 5, 3) := by decide +kernel
theorem dX6_start_8 : decode cX6_start 8 = .ok (.iconst 0, 1) := by decide +kernel
theorem dX6_start_9 : decode cX6_start 9 = .ok (.ireturn, 1) := by decide +kernel
theorem dX6_start_10 : decode cX6_start 10 = .ok (.aload_n 0, 1) := by decide +kernel
theorem dX6_start_11 : decode cX6_start 11 = .ok (.iload_n 1, 1) := by decide +kernel
theorem dX6_start_12 : decode cX6_start 12 = .ok (.invokevirtual 93, 3) := by decide +kernel
theorem dX6_start_15 : decode cX6_start 15 = .ok (.ifCond .ne 12, 3) := by decide +kernel
theorem dX6_start_18 : decode cX6_start 18 = .ok (.aload_n 0, 1) := by decide +kernel
theorem dX6_start_19 : decode cX6_start 19 = .ok (.iload_n 1, 1) := by decide +kernel
theorem dX6_start_20 : decode cX6_start 20 = .ok (.invokevirtual 111, 3) := by decide +kernel
theorem dX6_start_23 : decode cX6_start 23 = .ok (.iconst (-1), 1) := by decide +kernel
theorem dX6_start_24 : decode cX6_start 24 = .ok (.if_icmp .eq 5, 3) := by decide +kernel
theorem dX6_start_27 : decode cX6_start 27 = .ok (.iconst 0, 1) := by decide +kernel
theorem dX6_start_28 : decode cX6_start 28 = .ok (.ireturn, 1) := by decide +kernel
theorem dX6_start_29 : decode cX6_start 29 = .ok (.iconst 0, 1) := by decide +kernel
theorem dX6_start_30 : decode cX6_start 30 = .ok (.istore_n 2, 1) := by decide +kernel
theorem dX6_start_31 : decode cX6_start 31 = .ok (.iload_n 2, 1) := by decide +kernel
theorem dX6_start_32 : decode cX6_start 32 = .ok (.iconst 4, 1) := by decide +kernel
theorem dX6_start_33 : decode cX6_start 33 = .ok (.if_icmp .ge 20, 3) := by decide +kernel
theorem dX6_start_36 : decode cX6_start 36 = .ok (.aload_n 0, 1) := by decide +kernel
theorem dX6_start_37 : decode cX6_start 37 = .ok (.getfield 31, 3) := by decide +kernel
theorem dX6_start_40 : decode cX6_start 40 = .ok (.iconst 4, 1) := by decide +kernel
theorem dX6_start_41 : decode cX6_start 41 = .ok (.iload_n 1, 1) := by decide +kernel
theorem dX6_start_42 : decode cX6_start 42 = .ok (.imul, 1) := by decide +kernel
theorem dX6_start_43 : decode cX6_start 43 = .ok (.iload_n 2, 1) := by decide +kernel
theorem dX6_start_44 : decode cX6_start 44 = .ok (.iadd, 1) := by decide +kernel
theorem dX6_start_45 : decode cX6_start 45 = .ok (.iconst 0, 1) := by decide +kernel
theorem dX6_start_46 : decode cX6_start 46 = .ok (.iastore, 1) := by decide +kernel
theorem dX6_start_47 : decode cX6_start 47 = .ok (.iinc 2 1, 3) := by decide +kernel
theorem dX6_start_50 : decode cX6_start 50 = .ok (.goto (-19), 3) := by decide +kernel
theorem dX6_start_53 : decode cX6_start 53 = .ok (.aload_n 0, 1) := by decide +kernel
theorem dX6_start_54 : decode cX6_start 54 = .ok (.getfield 28, 3) := by decide +kernel
theorem dX6_start_57 : decode cX6_start 57 = .ok (.iload_n 1, 1) := by decide +kernel
theorem dX6_start_58 : decode cX6_start 58 = .ok (.iconst 0, 1) := by decide +kernel
theorem dX6_start_59 : decode cX6_start 59 = .ok (.iastore, 1) := by decide +kernel
theorem dX6_start_60 : decode cX6_start 60 = .ok (.aload_n 0, 1) := by decide +kernel
theorem dX6_start_61 : decode cX6_start 61 = .ok (.getfield 65, 3) := by decide +kernel
theorem dX6_start_64 : decode cX6_start 64 = .ok (.iload_n 1, 1) := by decide +kernel
theorem dX6_start_65 : decode cX6_start 65 = .ok (.iconst 0, 1) := by decide +kernel
theorem dX6_start_66 : decode cX6_start 66 = .ok (.iastore, 1) := by decide +kernel
theorem dX6_start_67 : decode cX6_start 67 = .ok (.aload_n 0, 1) := by decide +kernel
theorem dX6_start_68 : decode cX6_start 68 = .ok (.iload_n 1, 1) := by decide +kernel
theorem dX6_start_69 : decode cX6_start 69 = .ok (.invokevirtual 115, 3) := by decide +kernel
theorem dX6_start_72 : decode cX6_start 72 = .ok (.aload_n 0, 1) := by decide +kernel
theorem dX6_start_73 : decode cX6_start 73 = .ok (.getfield 22, 3) := by decide +kernel
theorem dX6_start_76 : decode cX6_start 76 = .ok (.iload_n 1, 1) := by decide +kernel
theorem dX6_start_77 : decode cX6_start 77 = .ok (.iconst 1, 1) := by decide +kernel
theorem dX6_start_78 : decode cX6_start 78 = .ok (.iastore, 1) := by decide +kernel
theorem dX6_start_79 : decode cX6_start 79 = .ok (.aload_n 0, 1) := by decide +kernel
theorem dX6_start_80 : decode cX6_start 80 = .ok (.iload_n 1, 1) := by decide +kernel
theorem dX6_start_81 : decode cX6_start 81 = .ok (.iconst 0, 1) := by decide +kernel
theorem dX6_start_82 : decode cX6_start 82 = .ok (.invokevirtual 119, 3) := by decide +kernel
theorem dX6_start_85 : decode cX6_start 85 = .ok (.iconst 1, 1) := by decide +kernel
theorem dX6_start_86 : decode cX6_start 86 = .ok (.ireturn, 1) := by decide +kernel
theorem dX6_stop_0 : decode cX6_stop 0 = .ok (.iload_n 1, 1) := by decide +kernel
theorem dX6_stop_1 : decode cX6_stop 1 = .ok (.iconst 4, 1) := by decide +kernel
theorem dX6_stop_2 : decode cX6_stop 2 = .ok (.invokestatic 89, 3) := by decide +kernel
theorem dX6_stop_5 : decode cX6_stop 5 = .ok (.ifCond .eq 5, 3) := by decide +kernel
theorem dX6_stop_8 : decode cX6_stop 8 = .ok (.iconst 0, 1) := by decide +kernel
theorem dX6_stop_9 : decode cX6_stop 9 = .ok (.ireturn, 1) := by decide +kernel
theorem dX6_stop_10 : decode cX6_stop 10 = .ok (.aload_n 0, 1) := by decide +kernel
theorem dX6_stop_11 : decode cX6_stop 11 = .ok (.iload_n 1, 1) := by decide +kernel
theorem dX6_stop_12 : decode cX6_stop 12 = .ok (.invokevirtual 93, 3) := by decide +kernel
theorem dX6_stop_15 : decode cX6_stop 15 = .ok (.ifCond .ne 5, 3) := by decide +kernel
theorem dX6_stop_18 : decode cX6_stop 18 = .ok (.iconst 0, 1) := by decide +kernel
theorem dX6_stop_19 : decode cX6_stop 19 = .ok (.ireturn, 1) := by decide +kernel
theorem dX6_stop_20 : decode cX6_stop 20 = .ok (.aload_n 0, 1) := by decide +kernel
theorem dX6_stop_21 : decode cX6_stop 21 = .ok (.iload_n 1, 1) := by decide +kernel
theorem dX6_stop_22 : decode cX6_stop 22 = .ok (.invokevirtual 115, 3) := by decide +kernel
theorem dX6_stop_25 : decode cX6_stop 25 = .ok (.aload_n 0, 1) := by decide +kernel
theorem dX6_stop_26 : decode cX6_stop 26 = .ok (.getfield 65, 3) := by decide +kernel
theorem dX6_stop_29 : decode cX6_stop 29 = .ok (.iload_n 1, 1) := by decide +kernel
theorem dX6_stop_30 : decode cX6_stop 30 = .ok (.iconst 0, 1) := by decide +kernel
theorem dX6_stop_31 : decode cX6_stop 31 = .ok (.iastore, 1) := by decide +kernel
theorem dX6_stop_32 : decode cX6_stop 32 = .ok (.aload_n 0, 1) := by decide +kernel
theorem dX6_stop_33 : decode cX6_stop 33 = .ok (.getfield 22, 3) := by decide +kernel
theorem dX6_stop_36 : decode cX6_stop 36 = .ok (.iload_n 1, 1) := by decide +kernel
theorem dX6_stop_37 : decode cX6_stop 37 = .ok (.iconst 0, 1) := by decide +kernel
theorem dX6_stop_38 : decode cX6_stop 38 = .ok (.iastore, 1) := by decide +kernel
theorem dX6_stop_39 : decode cX6_stop 39 = .ok (.iconst 1, 1) := by decide +kernel
theorem dX6_stop_40 : decode cX6_stop 40 = .ok (.ireturn, 1) := by decide +kernel
theorem dX6_go_0 : decode cX6_go 0 = .ok (.aload_n 0, 1) := by decide +kernel
theorem dX6_go_1 : decode cX6_go 1 = .ok (.getfield 25, 3) := by decide +kernel
theorem dX6_go_4 : decode cX6_go 4 = .ok (.iload_n 1, 1) := by decide +kernel
theorem dX6_go_5 : decode cX6_go 5 = .ok (.iload_n 2, 1) := by decide +kernel
theorem dX6_go_6 : decode cX6_go 6 = .ok (.iastore, 1) := by decide +kernel
theorem dX6_go_7 : decode cX6_go 7 = .ok (.iload_n 2, 1) := by decide +kernel
theorem dX6_go_8 : decode cX6_go 8 = .ok (.aload_n 0, 1) := by decide +kernel
theorem dX6_go_9 : decode cX6_go 9 = .ok (.getfield 19, 3) := by decide +kernel
theorem dX6_go_12 : decode cX6_go 12 = .ok (.iload_n 1, 1) := by decide +kernel
theorem dX6_go_13 : decode cX6_go 13 = .ok (.iaload, 1) := by decide +kernel
theorem dX6_go_14 : decode cX6_go 14 = .ok (.if_icmp .ne 10, 3) := by decide +kernel
theorem dX6_go_17 : decode cX6_go 17 = .ok (.aload_n 0, 1) := by decide +kernel
theorem dX6_go_18 : decode cX6_go 18 = .ok (.getfield 22, 3) := by decide +kernel
theorem dX6_go_21 : decode cX6_go 21 = .ok (.iload_n 1, 1) := by decide +kernel
theorem dX6_go_22 : decode cX6_go 22 = .ok (.iconst 3, 1) := by decide +kernel
theorem dX6_go_23 : decode cX6_go 23 = .ok (.iastore, 1) := by decide +kernel
theorem dX6_go_24 : decode cX6_go 24 = .ok (.return_, 1) := by decide +kernel
theorem dX6_endAttempt_0 : decode cX6_endAttempt 0 = .ok (.aload_n 0, 1) := by decide +kernel
theorem dX6_endAttempt_1 : decode cX6_endAttempt 1 = .ok (.getfield 43, 3) := by decide +kernel
theorem dX6_endAttempt_4 : decode cX6_endAttempt 4 = .ok (.iload_n 1, 1) := by decide +kernel
theorem dX6_endAttempt_5 : decode cX6_endAttempt 5 = .ok (.iconst 0, 1) := by decide +kernel
theorem dX6_endAttempt_6 : decode cX6_endAttempt 6 = .ok (.bastore, 1) := by decide +kernel
theorem dX6_endAttempt_7 : decode cX6_endAttempt 7 = .ok (.iconst 0, 1) := by decide +kernel
theorem dX6_endAttempt_8 : decode cX6_endAttempt 8 = .ok (.istore_n 2, 1) := by decide +kernel
theorem dX6_endAttempt_9 : decode cX6_endAttempt 9 = .ok (.iload_n 2, 1) := by decide +kernel
theorem dX6_endAttempt_10 : decode cX6_endAttempt 10 = .ok (.bipush 8, 2) := by decide +kernel
theorem dX6_endAttempt_12 : decode cX6_endAttempt 12 = .ok (.if_icmp .ge 45, 3) := by decide +kernel
theorem dX6_endAttempt_15 : decode cX6_endAttempt 15 = .ok (.aload_n 0, 1) := by decide +kernel
theorem dX6_endAttempt_16 : decode cX6_endAttempt 16 = .ok (.getfield 56, 3) := by decide +kernel
theorem dX6_endAttempt_19 : decode cX6_endAttempt 19 = .ok (.bipush 8, 2) := by decide +kernel
theorem dX6_endAttempt_21 : decode cX6_endAttempt 21 = .ok (.iload_n 1, 1) := by decide +kernel
theorem dX6_endAttempt_22 : decode cX6_endAttempt 22 = .ok (.imul, 1) := by decide +kernel
theorem dX6_endAttempt_23 : decode cX6_endAttempt 23 = .ok (.iload_n 2, 1) := by decide +kernel
theorem dX6_endAttempt_24 : decode cX6_endAttempt 24 = .ok (.iadd, 1) := by decide +kernel
theorem dX6_endAttempt_25 : decode cX6_endAttempt 25 = .ok (.iconst 0, 1) := by decide +kernel
theorem dX6_endAttempt_26 : decode cX6_endAttempt 26 = .ok (.bastore, 1) := by decide +kernel
theorem dX6_endAttempt_27 : decode cX6_endAttempt 27 = .ok (.aload_n 0, 1) := by decide +kernel
theorem dX6_endAttempt_28 : decode cX6_endAttempt 28 = .ok (.getfield 59, 3) := by decide +kernel
theorem dX6_endAttempt_31 : decode cX6_endAttempt 31 = .ok (.bipush 8, 2) := by decide +kernel
theorem dX6_endAttempt_33 : decode cX6_endAttempt 33 = .ok (.iload_n 1, 1) := by decide +kernel
theorem dX6_endAttempt_34 : decode cX6_endAttempt 34 = .ok (.imul, 1) := by decide +kernel
theorem dX6_endAttempt_35 : decode cX6_endAttempt 35 = .ok (.iload_n 2, 1) := by decide +kernel
theorem dX6_endAttempt_36 : decode cX6_endAttempt 36 = .ok (.iadd, 1) := by decide +kernel
theorem dX6_endAttempt_37 : decode cX6_endAttempt 37 = .ok (.iconst 0, 1) := by decide +kernel
theorem dX6_endAttempt_38 : decode cX6_endAttempt 38 = .ok (.bastore, 1) := by decide +kernel
theorem dX6_endAttempt_39 : decode cX6_endAttempt 39 = .ok (.aload_n 0, 1) := by decide +kernel
theorem dX6_endAttempt_40 : decode cX6_endAttempt 40 = .ok (.getfield 53, 3) := by decide +kernel
theorem dX6_endAttempt_43 : decode cX6_endAttempt 43 = .ok (.bipush 8, 2) := by decide +kernel
theorem dX6_endAttempt_45 : decode cX6_endAttempt 45 = .ok (.iload_n 1, 1) := by decide +kernel
theorem dX6_endAttempt_46 : decode cX6_endAttempt 46 = .ok (.imul, 1) := by decide +kernel
theorem dX6_endAttempt_47 : decode cX6_endAttempt 47 = .ok (.iload_n 2, 1) := by decide +kernel
theorem dX6_endAttempt_48 : decode cX6_endAttempt 48 = .ok (.iadd, 1) := by decide +kernel
theorem dX6_endAttempt_49 : decode cX6_endAttempt 49 = .ok (.iconst 0, 1) := by decide +kernel
theorem dX6_endAttempt_50 : decode cX6_endAttempt 50 = .ok (.bastore, 1) := by decide +kernel
theorem dX6_endAttempt_51 : decode cX6_endAttempt 51 = .ok (.iinc 2 1, 3) := by decide +kernel
theorem dX6_endAttempt_54 : decode cX6_endAttempt 54 = .ok (.goto (-45), 3) := by decide +kernel
theorem dX6_endAttempt_57 : decode cX6_endAttempt 57 = .ok (.return_, 1) := by decide +kernel
theorem dX6_begin_0 : decode cX6_begin 0 = .ok (.aload_n 0, 1) := by decide +kernel
theorem dX6_begin_1 : decode cX6_begin 1 = .ok (.iload_n 1, 1) := by decide +kernel
theorem dX6_begin_2 : decode cX6_begin 2 = .ok (.invokevirtual 115, 3) := by decide +kernel
theorem dX6_begin_5 : decode cX6_begin 5 = .ok (.aload_n 0, 1) := by decide +kernel
theorem dX6_begin_6 : decode cX6_begin 6 = .ok (.getfield 43, 3) := by decide +kernel
theorem dX6_begin_9 : decode cX6_begin 9 = .ok (.iload_n 1, 1) := by decide +kernel
theorem dX6_begin_10 : decode cX6_begin 10 = .ok (.iconst 1, 1) := by decide +kernel
theorem dX6_begin_11 : decode cX6_begin 11 = .ok (.bastore, 1) := by decide +kernel
theorem dX6_begin_12 : decode cX6_begin 12 = .ok (.aload_n 0, 1) := by decide +kernel
theorem dX6_begin_13 : decode cX6_begin 13 = .ok (.getfield 47, 3) := by decide +kernel
theorem dX6_begin_16 : decode cX6_begin 16 = .ok (.iload_n 1, 1) := by decide +kernel
theorem dX6_begin_17 : decode cX6_begin 17 = .ok (.aload_n 0, 1) := by decide +kernel
theorem dX6_begin_18 : decode cX6_begin 18 = .ok (.getfield 25, 3) := by decide +kernel
theorem dX6_begin_21 : decode cX6_begin 21 = .ok (.iload_n 1, 1) := by decide +kernel
theorem dX6_begin_22 : decode cX6_begin 22 = .ok (.iaload, 1) := by decide +kernel
theorem dX6_begin_23 : decode cX6_begin 23 = .ok (.iastore, 1) := by decide +kernel
theorem dX6_begin_24 : decode cX6_begin 24 = .ok (.aload_n 0, 1) := by decide +kernel
theorem dX6_begin_25 : decode cX6_begin 25 = .ok (.getfield 50, 3) := by decide +kernel
theorem dX6_begin_28 : decode cX6_begin 28 = .ok (.iload_n 1, 1) := by decide +kernel
theorem dX6_begin_29 : decode cX6_begin 29 = .ok (.aload_n 0, 1) := by decide +kernel
theorem dX6_begin_30 : decode cX6_begin 30 = .ok (.getfield 65, 3) := by decide +kernel
theorem dX6_begin_33 : decode cX6_begin 33 = .ok (.iload_n 1, 1) := by decide +kernel
theorem dX6_begin_34 : decode cX6_begin 34 = .ok (.iaload, 1) := by decide +kernel
theorem dX6_begin_35 : decode cX6_begin 35 = .ok (.iastore, 1) := by decide +kernel
theorem dX6_begin_36 : decode cX6_begin 36 = .ok (.iconst 0, 1) := by decide +kernel
theorem dX6_begin_37 : decode cX6_begin 37 = .ok (.istore_n 2, 1) := by decide +kernel
theorem dX6_begin_38 : decode cX6_begin 38 = .ok (.iload_n 2, 1) := by decide +kernel
theorem dX6_begin_39 : decode cX6_begin 39 = .ok (.iconst 4, 1) := by decide +kernel
theorem dX6_begin_40 : decode cX6_begin 40 = .ok (.if_icmp .ge 29, 3) := by decide +kernel
theorem dX6_begin_43 : decode cX6_begin 43 = .ok (.aload_n 0, 1) := by decide +kernel
theorem dX6_begin_44 : decode cX6_begin 44 = .ok (.getfield 34, 3) := by decide +kernel
theorem dX6_begin_47 : decode cX6_begin 47 = .ok (.iconst 4, 1) := by decide +kernel
theorem dX6_begin_48 : decode cX6_begin 48 = .ok (.iload_n 1, 1) := by decide +kernel
theorem dX6_begin_49 : decode cX6_begin 49 = .ok (.imul, 1) := by decide +kernel
theorem dX6_begin_50 : decode cX6_begin 50 = .ok (.iload_n 2, 1) := by decide +kernel
theorem dX6_begin_51 : decode cX6_begin 51 = .ok (.iadd, 1) := by decide +kernel
theorem dX6_begin_52 : decode cX6_begin 52 = .ok (.aload_n 0, 1) := by decide +kernel
theorem dX6_begin_53 : decode cX6_begin 53 = .ok (.getfield 31, 3) := by decide +kernel
theorem dX6_begin_56 : decode cX6_begin 56 = .ok (.iconst 4, 1) := by decide +kernel
theorem dX6_begin_57 : decode cX6_begin 57 = .ok (.iload_n 1, 1) := by decide +kernel
theorem dX6_begin_58 : decode cX6_begin 58 = .ok (.imul, 1) := by decide +kernel
theorem dX6_begin_59 : decode cX6_begin 59 = .ok (.iload_n 2, 1) := by decide +kernel
theorem dX6_begin_60 : decode cX6_begin 60 = .ok (.iadd, 1) := by decide +kernel
theorem dX6_begin_61 : decode cX6_begin 61 = .ok (.iaload, 1) := by decide +kernel
theorem dX6_begin_62 : decode cX6_begin 62 = .ok (.iastore, 1) := by decide +kernel
theorem dX6_begin_63 : decode cX6_begin 63 = .ok (.iinc 2 1, 3) := by decide +kernel
theorem dX6_begin_66 : decode cX6_begin 66 = .ok (.goto (-28), 3) := by decide +kernel
theorem dX6_begin_69 : decode cX6_begin 69 = .ok (.return_, 1) := by decide +kernel
theorem dX6_undo_0 : decode cX6_undo 0 = .ok (.aload_n 0, 1) := by decide +kernel
theorem dX6_undo_1 : decode cX6_undo 1 = .ok (.getfield 25, 3) := by decide +kernel
theorem dX6_undo_4 : decode cX6_undo 4 = .ok (.iload_n 1, 1) := by decide +kernel
theorem dX6_undo_5 : decode cX6_undo 5 = .ok (.aload_n 0, 1) := by decide +kernel
theorem dX6_undo_6 : decode cX6_undo 6 = .ok (.getfield 47, 3) := by decide +kernel
theorem dX6_undo_9 : decode cX6_undo 9 = .ok (.iload_n 1, 1) := by decide +kernel
theorem dX6_undo_10 : decode cX6_undo 10 = .ok (.iaload, 1) := by decide +kernel
theorem dX6_undo_11 : decode cX6_undo 11 = .ok (.iastore, 1) := by decide +kernel
theorem dX6_undo_12 : decode cX6_undo 12 = .ok (.aload_n 0, 1) := by decide +kernel
theorem dX6_undo_13 : decode cX6_undo 13 = .ok (.getfield 65, 3) := by decide +kernel
theorem dX6_undo_16 : decode cX6_undo 16 = .ok (.iload_n 1, 1) := by decide +kernel
theorem dX6_undo_17 : decode cX6_undo 17 = .ok (.aload_n 0, 1) := by decide +kernel
theorem dX6_undo_18 : decode cX6_undo 18 = .ok (.getfield 50, 3) := by decide +kernel
theorem dX6_undo_21 : decode cX6_undo 21 = .ok (.iload_n 1, 1) := by decide +kernel
theorem dX6_undo_22 : decode cX6_undo 22 = .ok (.iaload, 1) := by decide +kernel
theorem dX6_undo_23 : decode cX6_undo 23 = .ok (.iastore, 1) := by decide +kernel
theorem dX6_undo_24 : decode cX6_undo 24 = .ok (.iconst 0, 1) := by decide +kernel
theorem dX6_undo_25 : decode cX6_undo 25 = .ok (.istore_n 2, 1) := by decide +kernel
theorem dX6_undo_26 : decode cX6_undo 26 = .ok (.iload_n 2, 1) := by decide +kernel
theorem dX6_undo_27 : decode cX6_undo 27 = .ok (.iconst 4, 1) := by decide +kernel
theorem dX6_undo_28 : decode cX6_undo 28 = .ok (.if_icmp .ge 29, 3) := by decide +kernel
theorem dX6_undo_31 : decode cX6_undo 31 = .ok (.aload_n 0, 1) := by decide +kernel
theorem dX6_undo_32 : decode cX6_undo 32 = .ok (.getfield 31, 3) := by decide +kernel
theorem dX6_undo_35 : decode cX6_undo 35 = .ok (.iconst 4, 1) := by decide +kernel
theorem dX6_undo_36 : decode cX6_undo 36 = .ok (.iload_n 1, 1) := by decide +kernel
theorem dX6_undo_37 : decode cX6_undo 37 = .ok (.imul, 1) := by decide +kernel
theorem dX6_undo_38 : decode cX6_undo 38 = .ok (.iload_n 2, 1) := by decide +kernel
theorem dX6_undo_39 : decode cX6_undo 39 = .ok (.iadd, 1) := by decide +kernel
theorem dX6_undo_40 : decode cX6_undo 40 = .ok (.aload_n 0, 1) := by decide +kernel
theorem dX6_undo_41 : decode cX6_undo 41 = .ok (.getfield 34, 3) := by decide +kernel
theorem dX6_undo_44 : decode cX6_undo 44 = .ok (.iconst 4, 1) := by decide +kernel
theorem dX6_undo_45 : decode cX6_undo 45 = .ok (.iload_n 1, 1) := by decide +kernel
theorem dX6_undo_46 : decode cX6_undo 46 = .ok (.imul, 1) := by decide +kernel
theorem dX6_undo_47 : decode cX6_undo 47 = .ok (.iload_n 2, 1) := by decide +kernel
theorem dX6_undo_48 : decode cX6_undo 48 = .ok (.iadd, 1) := by decide +kernel
theorem dX6_undo_49 : decode cX6_undo 49 = .ok (.iaload, 1) := by decide +kernel
theorem dX6_undo_50 : decode cX6_undo 50 = .ok (.iastore, 1) := by decide +kernel
theorem dX6_undo_51 : decode cX6_undo 51 = .ok (.iinc 2 1, 3) := by decide +kernel
theorem dX6_undo_54 : decode cX6_undo 54 = .ok (.goto (-28), 3) := by decide +kernel
theorem dX6_undo_57 : decode cX6_undo 57 = .ok (.aload_n 0, 1) := by decide +kernel
theorem dX6_undo_58 : decode cX6_undo 58 = .ok (.getfield 43, 3) := by decide +kernel
theorem dX6_undo_61 : decode cX6_undo 61 = .ok (.iload_n 1, 1) := by decide +kernel
theorem dX6_undo_62 : decode cX6_undo 62 = .ok (.iconst 0, 1) := by decide +kernel
theorem dX6_undo_63 : decode cX6_undo 63 = .ok (.bastore, 1) := by decide +kernel
theorem dX6_undo_64 : decode cX6_undo 64 = .ok (.return_, 1) := by decide +kernel
theorem dX6_discard_0 : decode cX6_discard 0 = .ok (.aload_n 0, 1) := by decide +kernel
theorem dX6_discard_1 : decode cX6_discard 1 = .ok (.iload_n 1, 1) := by decide +kernel
theorem dX6_discard_2 : decode cX6_discard 2 = .ok (.invokevirtual 123, 3) := by decide +kernel
theorem dX6_discard_5 : decode cX6_discard 5 = .ok (.aload_n 0, 1) := by decide +kernel
theorem dX6_discard_6 : decode cX6_discard 6 = .ok (.iload_n 1, 1) := by decide +kernel
theorem dX6_discard_7 : decode cX6_discard 7 = .ok (.invokevirtual 115, 3) := by decide +kernel
theorem dX6_discard_10 : decode cX6_discard 10 = .ok (.aload_n 0, 1) := by decide +kernel
theorem dX6_discard_11 : decode cX6_discard 11 = .ok (.getfield 28, 3) := by decide +kernel
theorem dX6_discard_14 : decode cX6_discard 14 = .ok (.iload_n 1, 1) := by decide +kernel
theorem dX6_discard_15 : decode cX6_discard 15 = .ok (.dup2, 1) := by decide +kernel
theorem dX6_discard_16 : decode cX6_discard 16 = .ok (.iaload, 1) := by decide +kernel
theorem dX6_discard_17 : decode cX6_discard 17 = .ok (.iconst 1, 1) := by decide +kernel
theorem dX6_discard_18 : decode cX6_discard 18 = .ok (.iadd, 1) := by decide +kernel
theorem dX6_discard_19 : decode cX6_discard 19 = .ok (.iastore, 1) := by decide +kernel
theorem dX6_discard_20 : decode cX6_discard 20 = .ok (.iconst 2, 1) := by decide +kernel
theorem dX6_discard_21 : decode cX6_discard 21 = .ok (.ireturn, 1) := by decide +kernel
theorem dX6_outOfDate_0 : decode cX6_outOfDate 0 = .ok (.iconst 0, 1) := by decide +kernel
theorem dX6_outOfDate_1 : decode cX6_outOfDate 1 = .ok (.istore_n 2, 1) := by decide +kernel
theorem dX6_outOfDate_2 : decode cX6_outOfDate 2 = .ok (.iconst 0, 1) := by decide +kernel
theorem dX6_outOfDate_3 : decode cX6_outOfDate 3 = .ok (.istore_n 3, 1) := by decide +kernel
theorem dX6_outOfDate_4 : decode cX6_outOfDate 4 = .ok (.iload_n 3, 1) := by decide +kernel
theorem dX6_outOfDate_5 : decode cX6_outOfDate 5 = .ok (.bipush 8, 2) := by decide +kernel
theorem dX6_outOfDate_7 : decode cX6_outOfDate 7 = .ok (.if_icmp .ge 47, 3) := by decide +kernel
theorem dX6_outOfDate_10 : decode cX6_outOfDate 10 = .ok (.iload_n 2, 1) := by decide +kernel
theorem dX6_outOfDate_11 : decode cX6_outOfDate 11 = .ok (.ifCond .ne 31, 3) := by decide +kernel
theorem dX6_outOfDate_14 : decode cX6_outOfDate 14 = .ok (.aload_n 0, 1) := by decide +kernel
theorem dX6_outOfDate_15 : decode cX6_outOfDate 15 = .ok (.getfield 56, 3) := by decide +kernel
theorem dX6_outOfDate_18 : decode cX6_outOfDate 18 = .ok (.bipush 8, 2) := by decide +kernel
theorem dX6_outOfDate_20 : decode cX6_outOfDate 20 = .ok (.iload_n 1, 1) := by decide +kernel
theorem dX6_outOfDate_21 : decode cX6_outOfDate 21 = .ok (.imul, 1) := by decide +kernel
theorem dX6_outOfDate_22 : decode cX6_outOfDate 22 = .ok (.iload_n 3, 1) := by decide +kernel
theorem dX6_outOfDate_23 : decode cX6_outOfDate 23 = .ok (.iadd, 1) := by decide +kernel
theorem dX6_outOfDate_24 : decode cX6_outOfDate 24 = .ok (.baload, 1) := by decide +kernel
theorem dX6_outOfDate_25 : decode cX6_outOfDate 25 = .ok (.ifCond .eq 21, 3) := by decide +kernel
theorem dX6_outOfDate_28 : decode cX6_outOfDate 28 = .ok (.aload_n 0, 1) := by decide +kernel
theorem dX6_outOfDate_29 : decode cX6_outOfDate 29 = .ok (.getfield 53, 3) := by decide +kernel
theorem dX6_outOfDate_32 : decode cX6_outOfDate 32 = .ok (.bipush 8, 2) := by decide +kernel
theorem dX6_outOfDate_34 : decode cX6_outOfDate 34 = .ok (.iload_n 1, 1) := by decide +kernel
theorem dX6_outOfDate_35 : decode cX6_outOfDate 35 = .ok (.imul, 1) := by decide +kernel
theorem dX6_outOfDate_36 : decode cX6_outOfDate 36 = .ok (.iload_n 3, 1) := by decide +kernel
theorem dX6_outOfDate_37 : decode cX6_outOfDate 37 = .ok (.iadd, 1) := by decide +kernel
theorem dX6_outOfDate_38 : decode cX6_outOfDate 38 = .ok (.baload, 1) := by decide +kernel
theorem dX6_outOfDate_39 : decode cX6_outOfDate 39 = .ok (.ifCond .eq 7, 3) := by decide +kernel
theorem dX6_outOfDate_42 : decode cX6_outOfDate 42 = .ok (.iconst 1, 1) := by decide +kernel
theorem dX6_outOfDate_43 : decode cX6_outOfDate 43 = .ok (.goto 4, 3) := by decide +kernel
theorem dX6_outOfDate_46 : decode cX6_outOfDate 46 = .ok (.iconst 0, 1) := by decide +kernel
theorem dX6_outOfDate_47 : decode cX6_outOfDate 47 = .ok (.istore_n 2, 1) := by decide +kernel
theorem dX6_outOfDate_48 : decode cX6_outOfDate 48 = .ok (.iinc 3 1, 3) := by decide +kernel
theorem dX6_outOfDate_51 : decode cX6_outOfDate 51 = .ok (.goto (-47), 3) := by decide +kernel
theorem dX6_outOfDate_54 : decode cX6_outOfDate 54 = .ok (.iload_n 2, 1) := by decide +kernel
theorem dX6_outOfDate_55 : decode cX6_outOfDate 55 = .ok (.ireturn, 1) := by decide +kernel
theorem dX6_changed_0 : decode cX6_changed 0 = .ok (.aload_n 0, 1) := by decide +kernel
theorem dX6_changed_1 : decode cX6_changed 1 = .ok (.getfield 37, 3) := by decide +kernel
theorem dX6_changed_4 : decode cX6_changed 4 = .ok (.iload_n 1, 1) := by decide +kernel
theorem dX6_changed_5 : decode cX6_changed 5 = .ok (.iload_n 2, 1) := by decide +kernel
theorem dX6_changed_6 : decode cX6_changed 6 = .ok (.iastore, 1) := by decide +kernel
theorem dX6_changed_7 : decode cX6_changed 7 = .ok (.aload_n 0, 1) := by decide +kernel
theorem dX6_changed_8 : decode cX6_changed 8 = .ok (.getfield 40, 3) := by decide +kernel
theorem dX6_changed_11 : decode cX6_changed 11 = .ok (.iload_n 1, 1) := by decide +kernel
theorem dX6_changed_12 : decode cX6_changed 12 = .ok (.aload_n 0, 1) := by decide +kernel
theorem dX6_changed_13 : decode cX6_changed 13 = .ok (.getfield 126, 3) := by decide +kernel
theorem dX6_changed_16 : decode cX6_changed 16 = .ok (.iastore, 1) := by decide +kernel
theorem dX6_changed_17 : decode cX6_changed 17 = .ok (.iconst 0, 1) := by decide +kernel
theorem dX6_changed_18 : decode cX6_changed 18 = .ok (.istore_n 3, 1) := by decide +kernel
theorem dX6_changed_19 : decode cX6_changed 19 = .ok (.iload_n 3, 1) := by decide +kernel
theorem dX6_changed_20 : decode cX6_changed 20 = .ok (.iconst 4, 1) := by decide +kernel
theorem dX6_changed_21 : decode cX6_changed 21 = .ok (.if_icmp .ge 62, 3) := by decide +kernel
theorem dX6_changed_24 : decode cX6_changed 24 = .ok (.aload_n 0, 1) := by decide +kernel
theorem dX6_changed_25 : decode cX6_changed 25 = .ok (.getfield 53, 3) := by decide +kernel
theorem dX6_changed_28 : decode cX6_changed 28 = .ok (.bipush 8, 2) := by decide +kernel
theorem dX6_changed_30 : decode cX6_changed 30 = .ok (.iload_n 3, 1) := by decide +kernel
theorem dX6_changed_31 : decode cX6_changed 31 = .ok (.imul, 1) := by decide +kernel
theorem dX6_changed_32 : decode cX6_changed 32 = .ok (.iload_n 1, 1) := by decide +kernel
theorem dX6_changed_33 : decode cX6_changed 33 = .ok (.iadd, 1) := by decide +kernel
theorem dX6_changed_34 : decode cX6_changed 34 = .ok (.aload_n 0, 1) := by decide +kernel
theorem dX6_changed_35 : decode cX6_changed 35 = .ok (.getfield 43, 3) := by decide +kernel
theorem dX6_changed_38 : decode cX6_changed 38 = .ok (.iload_n 3, 1) := by decide +kernel
theorem dX6_changed_39 : decode cX6_changed 39 = .ok (.baload, 1) := by decide +kernel
theorem dX6_changed_40 : decode cX6_changed 40 = .ok (.bastore, 1) := by decide +kernel
theorem dX6_changed_41 : decode cX6_changed 41 = .ok (.aload_n 0, 1) := by decide +kernel
theorem dX6_changed_42 : decode cX6_changed 42 = .ok (.getfield 22, 3) := by decide +kernel
theorem dX6_changed_45 : decode cX6_changed 45 = .ok (.iload_n 3, 1) := by decide +kernel
theorem dX6_changed_46 : decode cX6_changed 46 = .ok (.iaload, 1) := by decide +kernel
theorem dX6_changed_47 : decode cX6_changed 47 = .ok (.iconst 2, 1) := by decide +kernel
theorem dX6_changed_48 : decode cX6_changed 48 = .ok (.if_icmp .ne 29, 3) := by decide +kernel
theorem dX6_changed_51 : decode cX6_changed 51 = .ok (.aload_n 0, 1) := by decide +kernel
theorem dX6_changed_52 : decode cX6_changed 52 = .ok (.getfield 56, 3) := by decide +kernel
theorem dX6_changed_55 : decode cX6_changed 55 = .ok (.bipush 8, 2) := by decide +kernel
theorem dX6_changed_57 : decode cX6_changed 57 = .ok (.iload_n 3, 1) := by decide +kernel
theorem dX6_changed_58 : decode cX6_changed 58 = .ok (.imul, 1) := by decide +kernel
theorem dX6_changed_59 : decode cX6_changed 59 = .ok (.iload_n 1, 1) := by decide +kernel
theorem dX6_changed_60 : decode cX6_changed 60 = .ok (.iadd, 1) := by decide +kernel
theorem dX6_changed_61 : decode cX6_changed 61 = .ok (.baload, 1) := by decide +kernel
theorem dX6_changed_62 : decode cX6_changed 62 = .ok (.ifCond .eq 15, 3) := by decide +kernel
theorem dX6_changed_65 : decode cX6_changed 65 = .ok (.aload_n 0, 1) := by decide +kernel
theorem dX6_changed_66 : decode cX6_changed 66 = .ok (.getfield 22, 3) := by decide +kernel
theorem dX6_changed_69 : decode cX6_changed 69 = .ok (.iload_n 3, 1) := by decide +kernel
theorem dX6_changed_70 : decode cX6_changed 70 = .ok (.iconst 1, 1) := by decide +kernel
theorem dX6_changed_71 : decode cX6_changed 71 = .ok (.iastore, 1) := by decide +kernel
theorem dX6_changed_72 : decode cX6_changed 72 = .ok (.aload_n 0, 1) := by decide +kernel
theorem dX6_changed_73 : decode cX6_changed 73 = .ok (.iload_n 3, 1) := by decide +kernel
theorem dX6_changed_74 : decode cX6_changed 74 = .ok (.invokevirtual 115, 3) := by decide +kernel
theorem dX6_changed_77 : decode cX6_changed 77 = .ok (.iinc 3 1, 3) := by decide +kernel
theorem dX6_changed_80 : decode cX6_changed 80 = .ok (.goto (-61), 3) := by decide +kernel
theorem dX6_changed_83 : decode cX6_changed 83 = .ok (.return_, 1) := by decide +kernel
theorem dX6_commit_0 : decode cX6_commit 0 = .ok (.aload_n 0, 1) := by decide +kernel
theorem dX6_commit_1 : decode cX6_commit 1 = .ok (.iload_n 1, 1) := by decide +kernel
theorem dX6_commit_2 : decode cX6_commit 2 = .ok (.invokevirtual 130, 3) := by decide +kernel
theorem dX6_commit_5 : decode cX6_commit 5 = .ok (.ifCond .eq 9, 3) := by decide +kernel
theorem dX6_commit_8 : decode cX6_commit 8 = .ok (.aload_n 0, 1) := by decide +kernel
theorem dX6_commit_9 : decode cX6_commit 9 = .ok (.iload_n 1, 1) := by decide +kernel
theorem dX6_commit_10 : decode cX6_commit 10 = .ok (.invokevirtual 133, 3) := by decide +kernel
theorem dX6_commit_13 : decode cX6_commit 13 = .ok (.ireturn, 1) := by decide +kernel
theorem dX6_commit_14 : decode cX6_commit 14 = .ok (.iconst 0, 1) := by decide +kernel
theorem dX6_commit_15 : decode cX6_commit 15 = .ok (.istore_n 2, 1) := by decide +kernel
theorem dX6_commit_16 : decode cX6_commit 16 = .ok (.iconst 0, 1) := by decide +kernel
theorem dX6_commit_17 : decode cX6_commit 17 = .ok (.istore_n 3, 1) := by decide +kernel
theorem dX6_commit_18 : decode cX6_commit 18 = .ok (.iload_n 3, 1) := by decide +kernel
theorem dX6_commit_19 : decode cX6_commit 19 = .ok (.bipush 8, 2) := by decide +kernel
theorem dX6_commit_21 : decode cX6_commit 21 = .ok (.if_icmp .ge 33, 3) := by decide +kernel
theorem dX6_commit_24 : decode cX6_commit 24 = .ok (.iload_n 2, 1) := by decide +kernel
theorem dX6_commit_25 : decode cX6_commit 25 = .ok (.ifCond .ne 17, 3) := by decide +kernel
theorem dX6_commit_28 : decode cX6_commit 28 = .ok (.aload_n 0, 1) := by decide +kernel
theorem dX6_commit_29 : decode cX6_commit 29 = .ok (.getfield 59, 3) := by decide +kernel
theorem dX6_commit_32 : decode cX6_commit 32 = .ok (.bipush 8, 2) := by decide +kernel
theorem dX6_commit_34 : decode cX6_commit 34 = .ok (.iload_n 1, 1) := by decide +kernel
theorem dX6_commit_35 : decode cX6_commit 35 = .ok (.imul, 1) := by decide +kernel
theorem dX6_commit_36 : decode cX6_commit 36 = .ok (.iload_n 3, 1) := by decide +kernel
theorem dX6_commit_37 : decode cX6_commit 37 = .ok (.iadd, 1) := by decide +kernel
theorem dX6_commit_38 : decode cX6_commit 38 = .ok (.baload, 1) := by decide +kernel
theorem dX6_commit_39 : decode cX6_commit 39 = .ok (.ifCond .eq 7, 3) := by decide +kernel
theorem dX6_commit_42 : decode cX6_commit 42 = .ok (.iconst 1, 1) := by decide +kernel
theorem dX6_commit_43 : decode cX6_commit 43 = .ok (.goto 4, 3) := by decide +kernel
theorem dX6_commit_46 : decode cX6_commit 46 = .ok (.iconst 0, 1) := by decide +kernel
theorem dX6_commit_47 : decode cX6_commit 47 = .ok (.istore_n 2, 1) := by decide +kernel
theorem dX6_commit_48 : decode cX6_commit 48 = .ok (.iinc 3 1, 3) := by decide +kernel
theorem dX6_commit_51 : decode cX6_commit 51 = .ok (.goto (-33), 3) := by decide +kernel
theorem dX6_commit_54 : decode cX6_commit 54 = .ok (.aload_n 0, 1) := by decide +kernel
theorem dX6_commit_55 : decode cX6_commit 55 = .ok (.iload_n 2, 1) := by decide +kernel
theorem dX6_commit_56 : decode cX6_commit 56 = .ok (.ifCond .eq 12, 3) := by decide +kernel
theorem dX6_commit_59 : decode cX6_commit 59 = .ok (.aload_n 0, 1) := by decide +kernel
theorem dX6_commit_60 : decode cX6_commit 60 = .ok (.getfield 126, 3) := by decide +kernel
theorem dX6_commit_63 : decode cX6_commit 63 = .ok (.iconst 1, 1) := by decide +kernel
theorem dX6_commit_64 : decode cX6_commit 64 = .ok (.iadd, 1) := by decide +kernel
theorem dX6_commit_65 : decode cX6_commit 65 = .ok (.goto 7, 3) := by decide +kernel
theorem dX6_commit_68 : decode cX6_commit 68 = .ok (.aload_n 0, 1) := by decide +kernel
theorem dX6_commit_69 : decode cX6_commit 69 = .ok (.getfield 126, 3) := by decide +kernel
theorem dX6_commit_72 : decode cX6_commit 72 = .ok (.putfield 126, 3) := by decide +kernel
