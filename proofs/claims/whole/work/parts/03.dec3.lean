theorem dX6_commit_75 : decode cX6_commit 75 = .ok (.aload_n 0, 1) := by decide +kernel
theorem dX6_commit_76 : decode cX6_commit 76 = .ok (.getfield 43, 3) := by decide +kernel
theorem dX6_commit_79 : decode cX6_commit 79 = .ok (.iload_n 1, 1) := by decide +kernel
theorem dX6_commit_80 : decode cX6_commit 80 = .ok (.iconst 0, 1) := by decide +kernel
theorem dX6_commit_81 : decode cX6_commit 81 = .ok (.bastore, 1) := by decide +kernel
theorem dX6_commit_82 : decode cX6_commit 82 = .ok (.iconst 0, 1) := by decide +kernel
theorem dX6_commit_83 : decode cX6_commit 83 = .ok (.istore_n 3, 1) := by decide +kernel
theorem dX6_commit_84 : decode cX6_commit 84 = .ok (.iload_n 3, 1) := by decide +kernel
theorem dX6_commit_85 : decode cX6_commit 85 = .ok (.bipush 8, 2) := by decide +kernel
theorem dX6_commit_87 : decode cX6_commit 87 = .ok (.if_icmp .ge 39, 3) := by decide +kernel
theorem dX6_commit_90 : decode cX6_commit 90 = .ok (.aload_n 0, 1) := by decide +kernel
theorem dX6_commit_91 : decode cX6_commit 91 = .ok (.getfield 59, 3) := by decide +kernel
theorem dX6_commit_94 : decode cX6_commit 94 = .ok (.bipush 8, 2) := by decide +kernel
theorem dX6_commit_96 : decode cX6_commit 96 = .ok (.iload_n 1, 1) := by decide +kernel
theorem dX6_commit_97 : decode cX6_commit 97 = .ok (.imul, 1) := by decide +kernel
theorem dX6_commit_98 : decode cX6_commit 98 = .ok (.iload_n 3, 1) := by decide +kernel
theorem dX6_commit_99 : decode cX6_commit 99 = .ok (.iadd, 1) := by decide +kernel
theorem dX6_commit_100 : decode cX6_commit 100 = .ok (.baload, 1) := by decide +kernel
theorem dX6_commit_101 : decode cX6_commit 101 = .ok (.ifCond .eq 19, 3) := by decide +kernel
theorem dX6_commit_104 : decode cX6_commit 104 = .ok (.aload_n 0, 1) := by decide +kernel
theorem dX6_commit_105 : decode cX6_commit 105 = .ok (.iload_n 3, 1) := by decide +kernel
theorem dX6_commit_106 : decode cX6_commit 106 = .ok (.aload_n 0, 1) := by decide +kernel
theorem dX6_commit_107 : decode cX6_commit 107 = .ok (.getfield 62, 3) := by decide +kernel
theorem dX6_commit_110 : decode cX6_commit 110 = .ok (.bipush 8, 2) := by decide +kernel
theorem dX6_commit_112 : decode cX6_commit 112 = .ok (.iload_n 1, 1) := by decide +kernel
theorem dX6_commit_113 : decode cX6_commit 113 = .ok (.imul, 1) := by decide +kernel
theorem dX6_commit_114 : decode cX6_commit 114 = .ok (.iload_n 3, 1) := by decide +kernel
theorem dX6_commit_115 : decode cX6_commit 115 = .ok (.iadd, 1) := by decide +kernel
theorem dX6_commit_116 : decode cX6_commit 116 = .ok (.iaload, 1) := by decide +kernel
theorem dX6_commit_117 : decode cX6_commit 117 = .ok (.invokevirtual 136, 3) := by decide +kernel
theorem dX6_commit_120 : decode cX6_commit 120 = .ok (.iinc 3 1, 3) := by decide +kernel
theorem dX6_commit_123 : decode cX6_commit 123 = .ok (.goto (-39), 3) := by decide +kernel
theorem dX6_commit_126 : decode cX6_commit 126 = .ok (.aload_n 0, 1) := by decide +kernel
theorem dX6_commit_127 : decode cX6_commit 127 = .ok (.iload_n 1, 1) := by decide +kernel
theorem dX6_commit_128 : decode cX6_commit 128 = .ok (.invokevirtual 115, 3) := by decide +kernel
theorem dX6_commit_131 : decode cX6_commit 131 = .ok (.aload_n 0, 1) := by decide +kernel
theorem dX6_commit_132 : decode cX6_commit 132 = .ok (.iload_n 1, 1) := by decide +kernel
theorem dX6_commit_133 : decode cX6_commit 133 = .ok (.aload_n 0, 1) := by decide +kernel
theorem dX6_commit_134 : decode cX6_commit 134 = .ok (.getfield 25, 3) := by decide +kernel
theorem dX6_commit_137 : decode cX6_commit 137 = .ok (.iload_n 1, 1) := by decide +kernel
theorem dX6_commit_138 : decode cX6_commit 138 = .ok (.iaload, 1) := by decide +kernel
theorem dX6_commit_139 : decode cX6_commit 139 = .ok (.iconst 1, 1) := by decide +kernel
theorem dX6_commit_140 : decode cX6_commit 140 = .ok (.iadd, 1) := by decide +kernel
theorem dX6_commit_141 : decode cX6_commit 141 = .ok (.invokevirtual 119, 3) := by decide +kernel
theorem dX6_commit_144 : decode cX6_commit 144 = .ok (.iconst 1, 1) := by decide +kernel
theorem dX6_commit_145 : decode cX6_commit 145 = .ok (.ireturn, 1) := by decide +kernel
theorem dX6_beginPart_0 : decode cX6_beginPart 0 = .ok (.bipush 6, 2) := by decide +kernel
theorem dX6_beginPart_2 : decode cX6_beginPart 2 = .ok (.iload_n 1, 1) := by decide +kernel
theorem dX6_beginPart_3 : decode cX6_beginPart 3 = .ok (.imul, 1) := by decide +kernel
theorem dX6_beginPart_4 : decode cX6_beginPart 4 = .ok (.aload_n 0, 1) := by decide +kernel
theorem dX6_beginPart_5 : decode cX6_beginPart 5 = .ok (.getfield 65, 3) := by decide +kernel
theorem dX6_beginPart_8 : decode cX6_beginPart 8 = .ok (.iload_n 1, 1) := by decide +kernel
theorem dX6_beginPart_9 : decode cX6_beginPart 9 = .ok (.iaload, 1) := by decide +kernel
theorem dX6_beginPart_10 : decode cX6_beginPart 10 = .ok (.iadd, 1) := by decide +kernel
theorem dX6_beginPart_11 : decode cX6_beginPart 11 = .ok (.istore_n 2, 1) := by decide +kernel
theorem dX6_beginPart_12 : decode cX6_beginPart 12 = .ok (.aload_n 0, 1) := by decide +kernel
theorem dX6_beginPart_13 : decode cX6_beginPart 13 = .ok (.getfield 68, 3) := by decide +kernel
theorem dX6_beginPart_16 : decode cX6_beginPart 16 = .ok (.iload_n 2, 1) := by decide +kernel
theorem dX6_beginPart_17 : decode cX6_beginPart 17 = .ok (.aload_n 0, 1) := by decide +kernel
theorem dX6_beginPart_18 : decode cX6_beginPart 18 = .ok (.getfield 25, 3) := by decide +kernel
theorem dX6_beginPart_21 : decode cX6_beginPart 21 = .ok (.iload_n 1, 1) := by decide +kernel
theorem dX6_beginPart_22 : decode cX6_beginPart 22 = .ok (.iaload, 1) := by decide +kernel
theorem dX6_beginPart_23 : decode cX6_beginPart 23 = .ok (.iastore, 1) := by decide +kernel
theorem dX6_beginPart_24 : decode cX6_beginPart 24 = .ok (.iconst 0, 1) := by decide +kernel
theorem dX6_beginPart_25 : decode cX6_beginPart 25 = .ok (.istore_n 3, 1) := by decide +kernel
theorem dX6_beginPart_26 : decode cX6_beginPart 26 = .ok (.iload_n 3, 1) := by decide +kernel
theorem dX6_beginPart_27 : decode cX6_beginPart 27 = .ok (.iconst 4, 1) := by decide +kernel
theorem dX6_beginPart_28 : decode cX6_beginPart 28 = .ok (.if_icmp .ge 29, 3) := by decide +kernel
theorem dX6_beginPart_31 : decode cX6_beginPart 31 = .ok (.aload_n 0, 1) := by decide +kernel
theorem dX6_beginPart_32 : decode cX6_beginPart 32 = .ok (.getfield 71, 3) := by decide +kernel
theorem dX6_beginPart_35 : decode cX6_beginPart 35 = .ok (.iconst 4, 1) := by decide +kernel
theorem dX6_beginPart_36 : decode cX6_beginPart 36 = .ok (.iload_n 2, 1) := by decide +kernel
theorem dX6_beginPart_37 : decode cX6_beginPart 37 = .ok (.imul, 1) := by decide +kernel
theorem dX6_beginPart_38 : decode cX6_beginPart 38 = .ok (.iload_n 3, 1) := by decide +kernel
theorem dX6_beginPart_39 : decode cX6_beginPart 39 = .ok (.iadd, 1) := by decide +kernel
theorem dX6_beginPart_40 : decode cX6_beginPart 40 = .ok (.aload_n 0, 1) := by decide +kernel
theorem dX6_beginPart_41 : decode cX6_beginPart 41 = .ok (.getfield 31, 3) := by decide +kernel
theorem dX6_beginPart_44 : decode cX6_beginPart 44 = .ok (.iconst 4, 1) := by decide +kernel
theorem dX6_beginPart_45 : decode cX6_beginPart 45 = .ok (.iload_n 1, 1) := by decide +kernel
theorem dX6_beginPart_46 : decode cX6_beginPart 46 = .ok (.imul, 1) := by decide +kernel
theorem dX6_beginPart_47 : decode cX6_beginPart 47 = .ok (.iload_n 3, 1) := by decide +kernel
theorem dX6_beginPart_48 : decode cX6_beginPart 48 = .ok (.iadd, 1) := by decide +kernel
theorem dX6_beginPart_49 : decode cX6_beginPart 49 = .ok (.iaload, 1) := by decide +kernel
theorem dX6_beginPart_50 : decode cX6_beginPart 50 = .ok (.iastore, 1) := by decide +kernel
theorem dX6_beginPart_51 : decode cX6_beginPart 51 = .ok (.iinc 3 1, 3) := by decide +kernel
theorem dX6_beginPart_54 : decode cX6_beginPart 54 = .ok (.goto (-28), 3) := by decide +kernel
theorem dX6_beginPart_57 : decode cX6_beginPart 57 = .ok (.iconst 0, 1) := by decide +kernel
theorem dX6_beginPart_58 : decode cX6_beginPart 58 = .ok (.istore_n 3, 1) := by decide +kernel
theorem dX6_beginPart_59 : decode cX6_beginPart 59 = .ok (.iload_n 3, 1) := by decide +kernel
theorem dX6_beginPart_60 : decode cX6_beginPart 60 = .ok (.bipush 8, 2) := by decide +kernel
theorem dX6_beginPart_62 : decode cX6_beginPart 62 = .ok (.if_icmp .ge 53, 3) := by decide +kernel
theorem dX6_beginPart_65 : decode cX6_beginPart 65 = .ok (.aload_n 0, 1) := by decide +kernel
theorem dX6_beginPart_66 : decode cX6_beginPart 66 = .ok (.getfield 74, 3) := by decide +kernel
theorem dX6_beginPart_69 : decode cX6_beginPart 69 = .ok (.bipush 8, 2) := by decide +kernel
theorem dX6_beginPart_71 : decode cX6_beginPart 71 = .ok (.iload_n 2, 1) := by decide +kernel
theorem dX6_beginPart_72 : decode cX6_beginPart 72 = .ok (.imul, 1) := by decide +kernel
theorem dX6_beginPart_73 : decode cX6_beginPart 73 = .ok (.iload_n 3, 1) := by decide +kernel
theorem dX6_beginPart_74 : decode cX6_beginPart 74 = .ok (.iadd, 1) := by decide +kernel
theorem dX6_beginPart_75 : decode cX6_beginPart 75 = .ok (.aload_n 0, 1) := by decide +kernel
theorem dX6_beginPart_76 : decode cX6_beginPart 76 = .ok (.getfield 59, 3) := by decide +kernel
theorem dX6_beginPart_79 : decode cX6_beginPart 79 = .ok (.bipush 8, 2) := by decide +kernel
theorem dX6_beginPart_81 : decode cX6_beginPart 81 = .ok (.iload_n 1, 1) := by decide +kernel
theorem dX6_beginPart_82 : decode cX6_beginPart 82 = .ok (.imul, 1) := by decide +kernel
theorem dX6_beginPart_83 : decode cX6_beginPart 83 = .ok (.iload_n 3, 1) := by decide +kernel
theorem dX6_beginPart_84 : decode cX6_beginPart 84 = .ok (.iadd, 1) := by decide +kernel
theorem dX6_beginPart_85 : decode cX6_beginPart 85 = .ok (.baload, 1) := by decide +kernel
theorem dX6_beginPart_86 : decode cX6_beginPart 86 = .ok (.bastore, 1) := by decide +kernel
theorem dX6_beginPart_87 : decode cX6_beginPart 87 = .ok (.aload_n 0, 1) := by decide +kernel
theorem dX6_beginPart_88 : decode cX6_beginPart 88 = .ok (.getfield 77, 3) := by decide +kernel
theorem dX6_beginPart_91 : decode cX6_beginPart 91 = .ok (.bipush 8, 2) := by decide +kernel
theorem dX6_beginPart_93 : decode cX6_beginPart 93 = .ok (.iload_n 2, 1) := by decide +kernel
theorem dX6_beginPart_94 : decode cX6_beginPart 94 = .ok (.imul, 1) := by decide +kernel
theorem dX6_beginPart_95 : decode cX6_beginPart 95 = .ok (.iload_n 3, 1) := by decide +kernel
theorem dX6_beginPart_96 : decode cX6_beginPart 96 = .ok (.iadd, 1) := by decide +kernel
theorem dX6_beginPart_97 : decode cX6_beginPart 97 = .ok (.aload_n 0, 1) := by decide +kernel
theorem dX6_beginPart_98 : decode cX6_beginPart 98 = .ok (.getfield 62, 3) := by decide +kernel
theorem dX6_beginPart_101 : decode cX6_beginPart 101 = .ok (.bipush 8, 2) := by decide +kernel
theorem dX6_beginPart_103 : decode cX6_beginPart 103 = .ok (.iload_n 1, 1) := by decide +kernel
theorem dX6_beginPart_104 : decode cX6_beginPart 104 = .ok (.imul, 1) := by decide +kernel
theorem dX6_beginPart_105 : decode cX6_beginPart 105 = .ok (.iload_n 3, 1) := by decide +kernel
theorem dX6_beginPart_106 : decode cX6_beginPart 106 = .ok (.iadd, 1) := by decide +kernel
theorem dX6_beginPart_107 : decode cX6_beginPart 107 = .ok (.iaload, 1) := by decide +kernel
theorem dX6_beginPart_108 : decode cX6_beginPart 108 = .ok (.iastore, 1) := by decide +kernel
theorem dX6_beginPart_109 : decode cX6_beginPart 109 = .ok (.iinc 3 1, 3) := by decide +kernel
theorem dX6_beginPart_112 : decode cX6_beginPart 112 = .ok (.goto (-53), 3) := by decide +kernel
theorem dX6_beginPart_115 : decode cX6_beginPart 115 = .ok (.aload_n 0, 1) := by decide +kernel
theorem dX6_beginPart_116 : decode cX6_beginPart 116 = .ok (.getfield 65, 3) := by decide +kernel
theorem dX6_beginPart_119 : decode cX6_beginPart 119 = .ok (.iload_n 1, 1) := by decide +kernel
theorem dX6_beginPart_120 : decode cX6_beginPart 120 = .ok (.dup2, 1) := by decide +kernel
theorem dX6_beginPart_121 : decode cX6_beginPart 121 = .ok (.iaload, 1) := by decide +kernel
theorem dX6_beginPart_122 : decode cX6_beginPart 122 = .ok (.iconst 1, 1) := by decide +kernel
theorem dX6_beginPart_123 : decode cX6_beginPart 123 = .ok (.iadd, 1) := by decide +kernel
theorem dX6_beginPart_124 : decode cX6_beginPart 124 = .ok (.iastore, 1) := by decide +kernel
theorem dX6_beginPart_125 : decode cX6_beginPart 125 = .ok (.aload_n 0, 1) := by decide +kernel
theorem dX6_beginPart_126 : decode cX6_beginPart 126 = .ok (.iload_n 1, 1) := by decide +kernel
theorem dX6_beginPart_127 : decode cX6_beginPart 127 = .ok (.aload_n 0, 1) := by decide +kernel
theorem dX6_beginPart_128 : decode cX6_beginPart 128 = .ok (.getfield 25, 3) := by decide +kernel
theorem dX6_beginPart_131 : decode cX6_beginPart 131 = .ok (.iload_n 1, 1) := by decide +kernel
theorem dX6_beginPart_132 : decode cX6_beginPart 132 = .ok (.iaload, 1) := by decide +kernel
theorem dX6_beginPart_133 : decode cX6_beginPart 133 = .ok (.iconst 1, 1) := by decide +kernel
theorem dX6_beginPart_134 : decode cX6_beginPart 134 = .ok (.iadd, 1) := by decide +kernel
theorem dX6_beginPart_135 : decode cX6_beginPart 135 = .ok (.invokevirtual 119, 3) := by decide +kernel
theorem dX6_beginPart_138 : decode cX6_beginPart 138 = .ok (.return_, 1) := by decide +kernel
theorem dX6_latest_0 : decode cX6_latest 0 = .ok (.iconst (-1), 1) := by decide +kernel
theorem dX6_latest_1 : decode cX6_latest 1 = .ok (.istore 4, 2) := by decide +kernel
theorem dX6_latest_3 : decode cX6_latest 3 = .ok (.iload_n 3, 1) := by decide +kernel
theorem dX6_latest_4 : decode cX6_latest 4 = .ok (.istore 5, 2) := by decide +kernel
theorem dX6_latest_6 : decode cX6_latest 6 = .ok (.iload 5, 2) := by decide +kernel
theorem dX6_latest_8 : decode cX6_latest 8 = .ok (.aload_n 0, 1) := by decide +kernel
theorem dX6_latest_9 : decode cX6_latest 9 = .ok (.getfield 65, 3) := by decide +kernel
theorem dX6_latest_12 : decode cX6_latest 12 = .ok (.iload_n 1, 1) := by decide +kernel
theorem dX6_latest_13 : decode cX6_latest 13 = .ok (.iaload, 1) := by decide +kernel
theorem dX6_latest_14 : decode cX6_latest 14 = .ok (.if_icmp .ge 48, 3) := by decide +kernel
theorem dX6_latest_17 : decode cX6_latest 17 = .ok (.aload_n 0, 1) := by decide +kernel
theorem dX6_latest_18 : decode cX6_latest 18 = .ok (.getfield 68, 3) := by decide +kernel
theorem dX6_latest_21 : decode cX6_latest 21 = .ok (.bipush 6, 2) := by decide +kernel
theorem dX6_latest_23 : decode cX6_latest 23 = .ok (.iload_n 1, 1) := by decide +kernel
theorem dX6_latest_24 : decode cX6_latest 24 = .ok (.imul, 1) := by decide +kernel
theorem dX6_latest_25 : decode cX6_latest 25 = .ok (.iload 5, 2) := by decide +kernel
theorem dX6_latest_27 : decode cX6_latest 27 = .ok (.iadd, 1) := by decide +kernel
theorem dX6_latest_28 : decode cX6_latest 28 = .ok (.iaload, 1) := by decide +kernel
theorem dX6_latest_29 : decode cX6_latest 29 = .ok (.istore 6, 2) := by decide +kernel
theorem dX6_latest_31 : decode cX6_latest 31 = .ok (.aload_n 0, 1) := by decide +kernel
theorem dX6_latest_32 : decode cX6_latest 32 = .ok (.getfield 7, 3) := by decide +kernel
theorem dX6_latest_35 : decode cX6_latest 35 = .ok (.bipush 30, 2) := by decide +kernel
theorem dX6_latest_37 : decode cX6_latest 37 = .ok (.iload_n 1, 1) := by decide +kernel
theorem dX6_latest_38 : decode cX6_latest 38 = .ok (.imul, 1) := by decide +kernel
theorem dX6_latest_39 : decode cX6_latest 39 = .ok (.iload 6, 2) := by decide +kernel
theorem dX6_latest_41 : decode cX6_latest 41 = .ok (.iadd, 1) := by decide +kernel
theorem dX6_latest_42 : decode cX6_latest 42 = .ok (.iaload, 1) := by decide +kernel
theorem dX6_latest_43 : decode cX6_latest 43 = .ok (.iload_n 2, 1) := by decide +kernel
theorem dX6_latest_44 : decode cX6_latest 44 = .ok (.if_icmp .ne 8, 3) := by decide +kernel
theorem dX6_latest_47 : decode cX6_latest 47 = .ok (.iload 5, 2) := by decide +kernel
theorem dX6_latest_49 : decode cX6_latest 49 = .ok (.goto 5, 3) := by decide +kernel
theorem dX6_latest_52 : decode cX6_latest 52 = .ok (.iload 4, 2) := by decide +kernel
theorem dX6_latest_54 : decode cX6_latest 54 = .ok (.istore 4, 2) := by decide +kernel
theorem dX6_latest_56 : decode cX6_latest 56 = .ok (.iinc 5 1, 3) := by decide +kernel
theorem dX6_latest_59 : decode cX6_latest 59 = .ok (.goto (-53), 3) := by decide +kernel
theorem dX6_latest_62 : decode cX6_latest 62 = .ok (.iload 4, 2) := by decide +kernel
theorem dX6_latest_64 : decode cX6_latest 64 = .ok (.ireturn, 1) := by decide +kernel
theorem dX6_back_0 : decode cX6_back 0 = .ok (.bipush 6, 2) := by decide +kernel
theorem dX6_back_2 : decode cX6_back 2 = .ok (.iload_n 1, 1) := by decide +kernel
theorem dX6_back_3 : decode cX6_back 3 = .ok (.imul, 1) := by decide +kernel
theorem dX6_back_4 : decode cX6_back 4 = .ok (.iload_n 2, 1) := by decide +kernel
theorem dX6_back_5 : decode cX6_back 5 = .ok (.iadd, 1) := by decide +kernel
theorem dX6_back_6 : decode cX6_back 6 = .ok (.istore_n 3, 1) := by decide +kernel
theorem dX6_back_7 : decode cX6_back 7 = .ok (.iconst 0, 1) := by decide +kernel
theorem dX6_back_8 : decode cX6_back 8 = .ok (.istore 4, 2) := by decide +kernel
theorem dX6_back_10 : decode cX6_back 10 = .ok (.iload 4, 2) := by decide +kernel
theorem dX6_back_12 : decode cX6_back 12 = .ok (.iconst 4, 1) := by decide +kernel
theorem dX6_back_13 : decode cX6_back 13 = .ok (.if_icmp .ge 31, 3) := by decide +kernel
theorem dX6_back_16 : decode cX6_back 16 = .ok (.aload_n 0, 1) := by decide +kernel
theorem dX6_back_17 : decode cX6_back 17 = .ok (.getfield 31, 3) := by decide +kernel
theorem dX6_back_20 : decode cX6_back 20 = .ok (.iconst 4, 1) := by decide +kernel
theorem dX6_back_21 : decode cX6_back 21 = .ok (.iload_n 1, 1) := by decide +kernel
theorem dX6_back_22 : decode cX6_back 22 = .ok (.imul, 1) := by decide +kernel
theorem dX6_back_23 : decode cX6_back 23 = .ok (.iload 4, 2) := by decide +kernel
theorem dX6_back_25 : decode cX6_back 25 = .ok (.iadd, 1) := by decide +kernel
theorem dX6_back_26 : decode cX6_back 26 = .ok (.aload_n 0, 1) := by decide +kernel
theorem dX6_back_27 : decode cX6_back 27 = .ok (.getfield 71, 3) := by decide +kernel
theorem dX6_back_30 : decode cX6_back 30 = .ok (.iconst 4, 1) := by decide +kernel
theorem dX6_back_31 : decode cX6_back 31 = .ok (.iload_n 3, 1) := by decide +kernel
theorem dX6_back_32 : decode cX6_back 32 = .ok (.imul, 1) := by decide +kernel
theorem dX6_back_33 : decode cX6_back 33 = .ok (.iload 4, 2) := by decide +kernel
theorem dX6_back_35 : decode cX6_back 35 = .ok (.iadd, 1) := by decide +kernel
theorem dX6_back_36 : decode cX6_back 36 = .ok (.iaload, 1) := by decide +kernel
theorem dX6_back_37 : decode cX6_back 37 = .ok (.iastore, 1) := by decide +kernel
theorem dX6_back_38 : decode cX6_back 38 = .ok (.iinc 4 1, 3) := by decide +kernel
theorem dX6_back_41 : decode cX6_back 41 = .ok (.goto (-31), 3) := by decide +kernel
theorem dX6_back_44 : decode cX6_back 44 = .ok (.iconst 0, 1) := by decide +kernel
theorem dX6_back_45 : decode cX6_back 45 = .ok (.istore 4, 2) := by decide +kernel
theorem dX6_back_47 : decode cX6_back 47 = .ok (.iload 4, 2) := by decide +kernel
theorem dX6_back_49 : decode cX6_back 49 = .ok (.bipush 8, 2) := by decide +kernel
theorem dX6_back_51 : decode cX6_back 51 = .ok (.if_icmp .ge 57, 3) := by decide +kernel
theorem dX6_back_54 : decode cX6_back 54 = .ok (.aload_n 0, 1) := by decide +kernel
theorem dX6_back_55 : decode cX6_back 55 = .ok (.getfield 59, 3) := by decide +kernel
theorem dX6_back_58 : decode cX6_back 58 = .ok (.bipush 8, 2) := by decide +kernel
theorem dX6_back_60 : decode cX6_back 60 = .ok (.iload_n 1, 1) := by decide +kernel
theorem dX6_back_61 : decode cX6_back 61 = .ok (.imul, 1) := by decide +kernel
theorem dX6_back_62 : decode cX6_back 62 = .ok (.iload 4, 2) := by decide +kernel
theorem dX6_back_64 : decode cX6_back 64 = .ok (.iadd, 1) := by decide +kernel
theorem dX6_back_65 : decode cX6_back 65 = .ok (.aload_n 0, 1) := by decide +kernel
theorem dX6_back_66 : decode cX6_back 66 = .ok (.getfield 74, 3) := by decide +kernel
theorem dX6_back_69 : decode cX6_back 69 = .ok (.bipush 8, 2) := by decide +kernel
theorem dX6_back_71 : decode cX6_back 71 = .ok (.iload_n 3, 1) := by decide +kernel
theorem dX6_back_72 : decode cX6_back 72 = .ok (.imul, 1) := by decide +kernel
theorem dX6_back_73 : decode cX6_back 73 = .ok (.iload 4, 2) := by decide +kernel
theorem dX6_back_75 : decode cX6_back 75 = .ok (.iadd, 1) := by decide +kernel
theorem dX6_back_76 : decode cX6_back 76 = .ok (.baload, 1) := by decide +kernel
theorem dX6_back_77 : decode cX6_back 77 = .ok (.bastore, 1) := by decide +kernel
theorem dX6_back_78 : decode cX6_back 78 = .ok (.aload_n 0, 1) := by decide +kernel
theorem dX6_back_79 : decode cX6_back 79 = .ok (.getfield 62, 3) := by decide +kernel
theorem dX6_back_82 : decode cX6_back 82 = .ok (.bipush 8, 2) := by decide +kernel
theorem dX6_back_84 : decode cX6_back 84 = .ok (.iload_n 1, 1) := by decide +kernel
theorem dX6_back_85 : decode cX6_back 85 = .ok (.imul, 1) := by decide +kernel
theorem dX6_back_86 : decode cX6_back 86 = .ok (.iload 4, 2) := by decide +kernel
theorem dX6_back_88 : decode cX6_back 88 = .ok (.iadd, 1) := by decide +kernel
theorem dX6_back_89 : decode cX6_back 89 = .ok (.aload_n 0, 1) := by decide +kernel
theorem dX6_back_90 : decode cX6_back 90 = .ok (.getfield 77, 3) := by decide +kernel
theorem dX6_back_93 : decode cX6_back 93 = .ok (.bipush 8, 2) := by decide +kernel
theorem dX6_back_95 : decode cX6_back 95 = .ok (.iload_n 3, 1) := by decide +kernel
theorem dX6_back_96 : decode cX6_back 96 = .ok (.imul, 1) := by decide +kernel
theorem dX6_back_97 : decode cX6_back 97 = .ok (.iload 4, 2) := by decide +kernel
theorem dX6_back_99 : decode cX6_back 99 = .ok (.iadd, 1) := by decide +kernel
theorem dX6_back_100 : decode cX6_back 100 = .ok (.iaload, 1) := by decide +kernel
theorem dX6_back_101 : decode cX6_back 101 = .ok (.iastore, 1) := by decide +kernel
theorem dX6_back_102 : decode cX6_back 102 = .ok (.iinc 4 1, 3) := by decide +kernel
theorem dX6_back_105 : decode cX6_back 105 = .ok (.goto (-58), 3) := by decide +kernel
theorem dX6_back_108 : decode cX6_back 108 = .ok (.aload_n 0, 1) := by decide +kernel
theorem dX6_back_109 : decode cX6_back 109 = .ok (.getfield 65, 3) := by decide +kernel
theorem dX6_back_112 : decode cX6_back 112 = .ok (.iload_n 1, 1) := by decide +kernel
theorem dX6_back_113 : decode cX6_back 113 = .ok (.iload_n 2, 1) := by decide +kernel
theorem dX6_back_114 : decode cX6_back 114 = .ok (.iastore, 1) := by decide +kernel
theorem dX6_back_115 : decode cX6_back 115 = .ok (.aload_n 0, 1) := by decide +kernel
theorem dX6_back_116 : decode cX6_back 116 = .ok (.iload_n 1, 1) := by decide +kernel
theorem dX6_back_117 : decode cX6_back 117 = .ok (.aload_n 0, 1) := by decide +kernel
theorem dX6_back_118 : decode cX6_back 118 = .ok (.getfield 68, 3) := by decide +kernel
theorem dX6_back_121 : decode cX6_back 121 = .ok (.iload_n 3, 1) := by decide +kernel
theorem dX6_back_122 : decode cX6_back 122 = .ok (.iaload, 1) := by decide +kernel
theorem dX6_back_123 : decode cX6_back 123 = .ok (.iconst 1, 1) := by decide +kernel
theorem dX6_back_124 : decode cX6_back 124 = .ok (.invokevirtual 139, 3) := by decide +kernel
theorem dX6_back_127 : decode cX6_back 127 = .ok (.ireturn, 1) := by decide +kernel
theorem dX6_retry_0 : decode cX6_retry 0 = .ok (.aload_n 0, 1) := by decide +kernel
theorem dX6_retry_1 : decode cX6_retry 1 = .ok (.iload_n 1, 1) := by decide +kernel
theorem dX6_retry_2 : decode cX6_retry 2 = .ok (.bipush 9, 2) := by decide +kernel
theorem dX6_retry_4 : decode cX6_retry 4 = .ok (.aload_n 0, 1) := by decide +kernel
theorem dX6_retry_5 : decode cX6_retry 5 = .ok (.getfield 50, 3) := by decide +kernel
theorem dX6_retry_8 : decode cX6_retry 8 = .ok (.iload_n 1, 1) := by decide +kernel
theorem dX6_retry_9 : decode cX6_retry 9 = .ok (.iaload, 1) := by decide +kernel
theorem dX6_retry_10 : decode cX6_retry 10 = .ok (.invokevirtual 143, 3) := by decide +kernel
theorem dX6_retry_13 : decode cX6_retry 13 = .ok (.istore_n 2, 1) := by decide +kernel
theorem dX6_retry_14 : decode cX6_retry 14 = .ok (.iload_n 2, 1) := by decide +kernel
theorem dX6_retry_15 : decode cX6_retry 15 = .ok (.ifCond .lt 20, 3) := by decide +kernel
theorem dX6_retry_18 : decode cX6_retry 18 = .ok (.aload_n 0, 1) := by decide +kernel
theorem dX6_retry_19 : decode cX6_retry 19 = .ok (.iload_n 1, 1) := by decide +kernel
theorem dX6_retry_20 : decode cX6_retry 20 = .ok (.iload_n 2, 1) := by decide +kernel
theorem dX6_retry_21 : decode cX6_retry 21 = .ok (.invokevirtual 147, 3) := by decide +kernel
theorem dX6_retry_24 : decode cX6_retry 24 = .ok (.istore_n 3, 1) := by decide +kernel
theorem dX6_retry_25 : decode cX6_retry 25 = .ok (.aload_n 0, 1) := by decide +kernel
theorem dX6_retry_26 : decode cX6_retry 26 = .ok (.iload_n 1, 1) := by decide +kernel
theorem dX6_retry_27 : decode cX6_retry 27 = .ok (.iload_n 3, 1) := by decide +kernel
theorem dX6_retry_28 : decode cX6_retry 28 = .ok (.iconst 1, 1) := by decide +kernel
theorem dX6_retry_29 : decode cX6_retry 29 = .ok (.iadd, 1) := by decide +kernel
theorem dX6_retry_30 : decode cX6_retry 30 = .ok (.invokevirtual 119, 3) := by decide +kernel
theorem dX6_retry_33 : decode cX6_retry 33 = .ok (.iconst 0, 1) := by decide +kernel
theorem dX6_retry_34 : decode cX6_retry 34 = .ok (.ireturn, 1) := by decide +kernel
theorem dX6_retry_35 : decode cX6_retry 35 = .ok (.aload_n 0, 1) := by decide +kernel
theorem dX6_retry_36 : decode cX6_retry 36 = .ok (.iload_n 1, 1) := by decide +kernel
theorem dX6_retry_37 : decode cX6_retry 37 = .ok (.invokevirtual 130, 3) := by decide +kernel
theorem dX6_retry_40 : decode cX6_retry 40 = .ok (.ifCond .eq 9, 3) := by decide +kernel
theorem dX6_retry_43 : decode cX6_retry 43 = .ok (.aload_n 0, 1) := by decide +kernel
theorem dX6_retry_44 : decode cX6_retry 44 = .ok (.iload_n 1, 1) := by decide +kernel
theorem dX6_retry_45 : decode cX6_retry 45 = .ok (.invokevirtual 133, 3) := by decide +kernel
theorem dX6_retry_48 : decode cX6_retry 48 = .ok (.ireturn, 1) := by decide +kernel
theorem dX6_retry_49 : decode cX6_retry 49 = .ok (.aload_n 0, 1) := by decide +kernel
theorem dX6_retry_50 : decode cX6_retry 50 = .ok (.iload_n 1, 1) := by decide +kernel
theorem dX6_retry_51 : decode cX6_retry 51 = .ok (.invokevirtual 123, 3) := by decide +kernel
theorem dX6_retry_54 : decode cX6_retry 54 = .ok (.iconst 0, 1) := by decide +kernel
theorem dX6_retry_55 : decode cX6_retry 55 = .ok (.istore_n 3, 1) := by decide +kernel
theorem dX6_retry_56 : decode cX6_retry 56 = .ok (.iload_n 3, 1) := by decide +kernel
theorem dX6_retry_57 : decode cX6_retry 57 = .ok (.bipush 8, 2) := by decide +kernel
theorem dX6_retry_59 : decode cX6_retry 59 = .ok (.if_icmp .ge 21, 3) := by decide +kernel
theorem dX6_retry_62 : decode cX6_retry 62 = .ok (.aload_n 0, 1) := by decide +kernel
theorem dX6_retry_63 : decode cX6_retry 63 = .ok (.getfield 59, 3) := by decide +kernel
theorem dX6_retry_66 : decode cX6_retry 66 = .ok (.bipush 8, 2) := by decide +kernel
theorem dX6_retry_68 : decode cX6_retry 68 = .ok (.iload_n 1, 1) := by decide +kernel
theorem dX6_retry_69 : decode cX6_retry 69 = .ok (.imul, 1) := by decide +kernel
theorem dX6_retry_70 : decode cX6_retry 70 = .ok (.iload_n 3, 1) := by decide +kernel
theorem dX6_retry_71 : decode cX6_retry 71 = .ok (.iadd, 1) := by decide +kernel
theorem dX6_retry_72 : decode cX6_retry 72 = .ok (.iconst 0, 1) := by decide +kernel
theorem dX6_retry_73 : decode cX6_retry 73 = .ok (.bastore, 1) := by decide +kernel
theorem dX6_retry_74 : decode cX6_retry 74 = .ok (.iinc 3 1, 3) := by decide +kernel
theorem dX6_retry_77 : decode cX6_retry 77 = .ok (.goto (-21), 3) := by decide +kernel
theorem dX6_retry_80 : decode cX6_retry 80 = .ok (.aload_n 0, 1) := by decide +kernel
theorem dX6_retry_81 : decode cX6_retry 81 = .ok (.getfield 22, 3) := by decide +kernel
theorem dX6_retry_84 : decode cX6_retry 84 = .ok (.iload_n 1, 1) := by decide +kernel
theorem dX6_retry_85 : decode cX6_retry 85 = .ok (.iconst 2, 1) := by decide +kernel
theorem dX6_retry_86 : decode cX6_retry 86 = .ok (.iastore, 1) := by decide +kernel
theorem dX6_retry_87 : decode cX6_retry 87 = .ok (.iconst 3, 1) := by decide +kernel
theorem dX6_retry_88 : decode cX6_retry 88 = .ok (.ireturn, 1) := by decide +kernel
theorem dX6_toss_0 : decode cX6_toss 0 = .ok (.aload_n 0, 1) := by decide +kernel
theorem dX6_toss_1 : decode cX6_toss 1 = .ok (.iload_n 1, 1) := by decide +kernel
theorem dX6_toss_2 : decode cX6_toss 2 = .ok (.bipush 15, 2) := by decide +kernel
theorem dX6_toss_4 : decode cX6_toss 4 = .ok (.aload_n 0, 1) := by decide +kernel
theorem dX6_toss_5 : decode cX6_toss 5 = .ok (.getfield 43, 3) := by decide +kernel
theorem dX6_toss_8 : decode cX6_toss 8 = .ok (.iload_n 1, 1) := by decide +kernel
theorem dX6_toss_9 : decode cX6_toss 9 = .ok (.baload, 1) := by decide +kernel
theorem dX6_toss_10 : decode cX6_toss 10 = .ok (.ifCond .eq 12, 3) := by decide +kernel
theorem dX6_toss_13 : decode cX6_toss 13 = .ok (.aload_n 0, 1) := by decide +kernel
theorem dX6_toss_14 : decode cX6_toss 14 = .ok (.getfield 50, 3) := by decide +kernel
theorem dX6_toss_17 : decode cX6_toss 17 = .ok (.iload_n 1, 1) := by decide +kernel
theorem dX6_toss_18 : decode cX6_toss 18 = .ok (.iaload, 1) := by decide +kernel
theorem dX6_toss_19 : decode cX6_toss 19 = .ok (.goto 4, 3) := by decide +kernel
theorem dX6_toss_22 : decode cX6_toss 22 = .ok (.iconst 0, 1) := by decide +kernel
theorem dX6_toss_23 : decode cX6_toss 23 = .ok (.invokevirtual 143, 3) := by decide +kernel
theorem dX6_toss_26 : decode cX6_toss 26 = .ok (.istore_n 3, 1) := by decide +kernel
theorem dX6_toss_27 : decode cX6_toss 27 = .ok (.iload_n 3, 1) := by decide +kernel
theorem dX6_toss_28 : decode cX6_toss 28 = .ok (.ifCond .ge 45, 3) := by decide +kernel
theorem dX6_toss_31 : decode cX6_toss 31 = .ok (.aload_n 0, 1) := by decide +kernel
theorem dX6_toss_32 : decode cX6_toss 32 = .ok (.getfield 43, 3) := by decide +kernel
theorem dX6_toss_35 : decode cX6_toss 35 = .ok (.iload_n 1, 1) := by decide +kernel
theorem dX6_toss_36 : decode cX6_toss 36 = .ok (.baload, 1) := by decide +kernel
theorem dX6_toss_37 : decode cX6_toss 37 = .ok (.ifCond .eq 36, 3) := by decide +kernel
theorem dX6_toss_40 : decode cX6_toss 40 = .ok (.aload_n 0, 1) := by decide +kernel
theorem dX6_toss_41 : decode cX6_toss 41 = .ok (.iload_n 1, 1) := by decide +kernel
theorem dX6_toss_42 : decode cX6_toss 42 = .ok (.invokevirtual 130, 3) := by decide +kernel
theorem dX6_toss_45 : decode cX6_toss 45 = .ok (.ifCond .eq 9, 3) := by decide +kernel
theorem dX6_toss_48 : decode cX6_toss 48 = .ok (.aload_n 0, 1) := by decide +kernel
theorem dX6_toss_49 : decode cX6_toss 49 = .ok (.iload_n 1, 1) := by decide +kernel
theorem dX6_toss_50 : decode cX6_toss 50 = .ok (.invokevirtual 133, 3) := by decide +kernel
theorem dX6_toss_53 : decode cX6_toss 53 = .ok (.ireturn, 1) := by decide +kernel
theorem dX6_toss_54 : decode cX6_toss 54 = .ok (.aload_n 0, 1) := by decide +kernel
theorem dX6_toss_55 : decode cX6_toss 55 = .ok (.iload_n 1, 1) := by decide +kernel
theorem dX6_toss_56 : decode cX6_toss 56 = .ok (.invokevirtual 123, 3) := by decide +kernel
theorem dX6_toss_59 : decode cX6_toss 59 = .ok (.aload_n 0, 1) := by decide +kernel
theorem dX6_toss_60 : decode cX6_toss 60 = .ok (.iload_n 1, 1) := by decide +kernel
theorem dX6_toss_61 : decode cX6_toss 61 = .ok (.invokevirtual 115, 3) := by decide +kernel
theorem dX6_toss_64 : decode cX6_toss 64 = .ok (.aload_n 0, 1) := by decide +kernel
theorem dX6_toss_65 : decode cX6_toss 65 = .ok (.iload_n 1, 1) := by decide +kernel
theorem dX6_toss_66 : decode cX6_toss 66 = .ok (.bipush 15, 2) := by decide +kernel
theorem dX6_toss_68 : decode cX6_toss 68 = .ok (.iconst 0, 1) := by decide +kernel
theorem dX6_toss_69 : decode cX6_toss 69 = .ok (.invokevirtual 143, 3) := by decide +kernel
theorem dX6_toss_72 : decode cX6_toss 72 = .ok (.istore_n 3, 1) := by decide +kernel
theorem dX6_toss_73 : decode cX6_toss 73 = .ok (.iload_n 3, 1) := by decide +kernel
theorem dX6_toss_74 : decode cX6_toss 74 = .ok (.ifCond .ge 21, 3) := by decide +kernel
theorem dX6_toss_77 : decode cX6_toss 77 = .ok (.aload_n 0, 1) := by decide +kernel
theorem dX6_toss_78 : decode cX6_toss 78 = .ok (.getfield 31, 3) := by decide +kernel
theorem dX6_toss_81 : decode cX6_toss 81 = .ok (.iconst 4, 1) := by decide +kernel
theorem dX6_toss_82 : decode cX6_toss 82 = .ok (.iload_n 1, 1) := by decide +kernel
theorem dX6_toss_83 : decode cX6_toss 83 = .ok (.imul, 1) := by decide +kernel
theorem dX6_toss_84 : decode cX6_toss 84 = .ok (.iload_n 2, 1) := by decide +kernel
theorem dX6_toss_85 : decode cX6_toss 85 = .ok (.iastore, 1) := by decide +kernel
theorem dX6_toss_86 : decode cX6_toss 86 = .ok (.aload_n 0, 1) := by decide +kernel
theorem dX6_toss_87 : decode cX6_toss 87 = .ok (.getfield 22, 3) := by decide +kernel
theorem dX6_toss_90 : decode cX6_toss 90 = .ok (.iload_n 1, 1) := by decide +kernel
theorem dX6_toss_91 : decode cX6_toss 91 = .ok (.iconst 4, 1) := by decide +kernel
theorem dX6_toss_92 : decode cX6_toss 92 = .ok (.iastore, 1) := by decide +kernel
theorem dX6_toss_93 : decode cX6_toss 93 = .ok (.iconst 4, 1) := by decide +kernel
theorem dX6_toss_94 : decode cX6_toss 94 = .ok (.ireturn, 1) := by decide +kernel
theorem dX6_toss_95 : decode cX6_toss 95 = .ok (.aload_n 0, 1) := by decide +kernel
theorem dX6_toss_96 : decode cX6_toss 96 = .ok (.iload_n 1, 1) := by decide +kernel
theorem dX6_toss_97 : decode cX6_toss 97 = .ok (.iload_n 3, 1) := by decide +kernel
theorem dX6_toss_98 : decode cX6_toss 98 = .ok (.invokevirtual 147, 3) := by decide +kernel
theorem dX6_toss_101 : decode cX6_toss 101 = .ok (.istore 4, 2) := by decide +kernel
theorem dX6_toss_103 : decode cX6_toss 103 = .ok (.aload_n 0, 1) := by decide +kernel
theorem dX6_toss_104 : decode cX6_toss 104 = .ok (.getfield 31, 3) := by decide +kernel
theorem dX6_toss_107 : decode cX6_toss 107 = .ok (.iconst 4, 1) := by decide +kernel
theorem dX6_toss_108 : decode cX6_toss 108 = .ok (.iload_n 1, 1) := by decide +kernel
theorem dX6_toss_109 : decode cX6_toss 109 = .ok (.imul, 1) := by decide +kernel
theorem dX6_toss_110 : decode cX6_toss 110 = .ok (.aload_n 0, 1) := by decide +kernel
theorem dX6_toss_111 : decode cX6_toss 111 = .ok (.getfield 13, 3) := by decide +kernel
theorem dX6_toss_114 : decode cX6_toss 114 = .ok (.bipush 30, 2) := by decide +kernel
theorem dX6_toss_116 : decode cX6_toss 116 = .ok (.iload_n 1, 1) := by decide +kernel
theorem dX6_toss_117 : decode cX6_toss 117 = .ok (.imul, 1) := by decide +kernel
theorem dX6_toss_118 : decode cX6_toss 118 = .ok (.iload 4, 2) := by decide +kernel
theorem dX6_toss_120 : decode cX6_toss 120 = .ok (.iadd, 1) := by decide +kernel
theorem dX6_toss_121 : decode cX6_toss 121 = .ok (.iaload, 1) := by decide +kernel
theorem dX6_toss_122 : decode cX6_toss 122 = .ok (.iadd, 1) := by decide +kernel
theorem dX6_toss_123 : decode cX6_toss 123 = .ok (.iload_n 2, 1) := by decide +kernel
theorem dX6_toss_124 : decode cX6_toss 124 = .ok (.iastore, 1) := by decide +kernel
theorem dX6_toss_125 : decode cX6_toss 125 = .ok (.aload_n 0, 1) := by decide +kernel
theorem dX6_toss_126 : decode cX6_toss 126 = .ok (.iload_n 1, 1) := by decide +kernel
theorem dX6_toss_127 : decode cX6_toss 127 = .ok (.iload 4, 2) := by decide +kernel
theorem dX6_toss_129 : decode cX6_toss 129 = .ok (.iconst 1, 1) := by decide +kernel
theorem dX6_toss_130 : decode cX6_toss 130 = .ok (.iadd, 1) := by decide +kernel
theorem dX6_toss_131 : decode cX6_toss 131 = .ok (.invokevirtual 119, 3) := by decide +kernel
theorem dX6_toss_134 : decode cX6_toss 134 = .ok (.iconst 4, 1) := by decide +kernel
theorem dX6_toss_135 : decode cX6_toss 135 = .ok (.ireturn, 1) := by decide +kernel
theorem dX6_access_0 : decode cX6_access 0 = .ok (.iload_n 2, 1) := by decide +kernel
theorem dX6_access_1 : decode cX6_access 1 = .ok (.iconst 3, 1) := by decide +kernel
theorem dX6_access_2 : decode cX6_access 2 = .ok (.if_icmp .ne 13, 3) := by decide +kernel
theorem dX6_access_5 : decode cX6_access 5 = .ok (.bipush 8, 2) := by decide +kernel
theorem dX6_access_7 : decode cX6_access 7 = .ok (.iload_n 1, 1) := by decide +kernel
theorem dX6_access_8 : decode cX6_access 8 = .ok (.imul, 1) := by decide +kernel
theorem dX6_access_9 : decode cX6_access 9 = .ok (.iload 4, 2) := by decide +kernel
theorem dX6_access_11 : decode cX6_access 11 = .ok (.iadd, 1) := by decide +kernel
theorem dX6_access_12 : decode cX6_access 12 = .ok (.goto 9, 3) := by decide +kernel
theorem dX6_access_15 : decode cX6_access 15 = .ok (.bipush 8, 2) := by decide +kernel
theorem dX6_access_17 : decode cX6_access 17 = .ok (.iload_n 1, 1) := by decide +kernel
theorem dX6_access_18 : decode cX6_access 18 = .ok (.imul, 1) := by decide +kernel
theorem dX6_access_19 : decode cX6_access 19 = .ok (.iload_n 3, 1) := by decide +kernel
theorem dX6_access_20 : decode cX6_access 20 = .ok (.iadd, 1) := by decide +kernel
theorem dX6_access_21 : decode cX6_access 21 = .ok (.istore 5, 2) := by decide +kernel
theorem dX6_access_23 : decode cX6_access 23 = .ok (.iload_n 2, 1) := by decide +kernel
theorem dX6_access_24 : decode cX6_access 24 = .ok (.iconst 3, 1) := by decide +kernel
theorem dX6_access_25 : decode cX6_access 25 = .ok (.if_icmp .ne 11, 3) := by decide +kernel
theorem dX6_access_28 : decode cX6_access 28 = .ok (.iconst 4, 1) := by decide +kernel
theorem dX6_access_29 : decode cX6_access 29 = .ok (.iload_n 1, 1) := by decide +kernel
theorem dX6_access_30 : decode cX6_access 30 = .ok (.imul, 1) := by decide +kernel
theorem dX6_access_31 : decode cX6_access 31 = .ok (.iload_n 3, 1) := by decide +kernel
theorem dX6_access_32 : decode cX6_access 32 = .ok (.iadd, 1) := by decide +kernel
theorem dX6_access_33 : decode cX6_access 33 = .ok (.goto 9, 3) := by decide +kernel
theorem dX6_access_36 : decode cX6_access 36 = .ok (.iconst 4, 1) := by decide +kernel
theorem dX6_access_37 : decode cX6_access 37 = .ok (.iload_n 1, 1) := by decide +kernel
theorem dX6_access_38 : decode cX6_access 38 = .ok (.imul, 1) := by decide +kernel
theorem dX6_access_39 : decode cX6_access 39 = .ok (.iload 4, 2) := by decide +kernel
theorem dX6_access_41 : decode cX6_access 41 = .ok (.iadd, 1) := by decide +kernel
theorem dX6_access_42 : decode cX6_access 42 = .ok (.istore 6, 2) := by decide +kernel
theorem dX6_access_44 : decode cX6_access 44 = .ok (.iload_n 2, 1) := by decide +kernel
theorem dX6_access_45 : decode cX6_access 45 = .ok (.iconst 4, 1) := by decide +kernel
theorem dX6_access_46 : decode cX6_access 46 = .ok (.if_icmp .ne 28, 3) := by decide +kernel
theorem dX6_access_49 : decode cX6_access 49 = .ok (.aload_n 0, 1) := by decide +kernel
theorem dX6_access_50 : decode cX6_access 50 = .ok (.getfield 59, 3) := by decide +kernel
theorem dX6_access_53 : decode cX6_access 53 = .ok (.iload 5, 2) := by decide +kernel
theorem dX6_access_55 : decode cX6_access 55 = .ok (.iconst 1, 1) := by decide +kernel
theorem dX6_access_56 : decode cX6_access 56 = .ok (.bastore, 1) := by decide +kernel
theorem dX6_access_57 : decode cX6_access 57 = .ok (.aload_n 0, 1) := by decide +kernel
theorem dX6_access_58 : decode cX6_access 58 = .ok (.getfield 62, 3) := by decide +kernel
theorem dX6_access_61 : decode cX6_access 61 = .ok (.iload 5, 2) := by decide +kernel
theorem dX6_access_63 : decode cX6_access 63 = .ok (.aload_n 0, 1) := by decide +kernel
theorem dX6_access_64 : decode cX6_access 64 = .ok (.getfield 31, 3) := by decide +kernel
theorem dX6_access_67 : decode cX6_access 67 = .ok (.iload 6, 2) := by decide +kernel
theorem dX6_access_69 : decode cX6_access 69 = .ok (.iaload, 1) := by decide +kernel
theorem dX6_access_70 : decode cX6_access 70 = .ok (.iastore, 1) := by decide +kernel
theorem dX6_access_71 : decode cX6_access 71 = .ok (.goto 68, 3) := by decide +kernel
theorem dX6_access_74 : decode cX6_access 74 = .ok (.aload_n 0, 1) := by decide +kernel
theorem dX6_access_75 : decode cX6_access 75 = .ok (.getfield 59, 3) := by decide +kernel
theorem dX6_access_78 : decode cX6_access 78 = .ok (.iload 5, 2) := by decide +kernel
theorem dX6_access_80 : decode cX6_access 80 = .ok (.baload, 1) := by decide +kernel
theorem dX6_access_81 : decode cX6_access 81 = .ok (.ifCond .eq 20, 3) := by decide +kernel
theorem dX6_access_84 : decode cX6_access 84 = .ok (.aload_n 0, 1) := by decide +kernel
theorem dX6_access_85 : decode cX6_access 85 = .ok (.getfield 31, 3) := by decide +kernel
theorem dX6_access_88 : decode cX6_access 88 = .ok (.iload 6, 2) := by decide +kernel
theorem dX6_access_90 : decode cX6_access 90 = .ok (.aload_n 0, 1) := by decide +kernel
theorem dX6_access_91 : decode cX6_access 91 = .ok (.getfield 62, 3) := by decide +kernel
theorem dX6_access_94 : decode cX6_access 94 = .ok (.iload 5, 2) := by decide +kernel
theorem dX6_access_96 : decode cX6_access 96 = .ok (.iaload, 1) := by decide +kernel
theorem dX6_access_97 : decode cX6_access 97 = .ok (.iastore, 1) := by decide +kernel
theorem dX6_access_98 : decode cX6_access 98 = .ok (.goto 41, 3) := by decide +kernel
theorem dX6_access_101 : decode cX6_access 101 = .ok (.aload_n 0, 1) := by decide +kernel
theorem dX6_access_102 : decode cX6_access 102 = .ok (.getfield 53, 3) := by decide +kernel
theorem dX6_access_105 : decode cX6_access 105 = .ok (.iload 5, 2) := by decide +kernel
theorem dX6_access_107 : decode cX6_access 107 = .ok (.baload, 1) := by decide +kernel
theorem dX6_access_108 : decode cX6_access 108 = .ok (.ifCond .eq 9, 3) := by decide +kernel
theorem dX6_access_111 : decode cX6_access 111 = .ok (.aload_n 0, 1) := by decide +kernel
theorem dX6_access_112 : decode cX6_access 112 = .ok (.iload_n 1, 1) := by decide +kernel
theorem dX6_access_113 : decode cX6_access 113 = .ok (.invokevirtual 133, 3) := by decide +kernel
theorem dX6_access_116 : decode cX6_access 116 = .ok (.ireturn, 1) := by decide +kernel
theorem dX6_access_117 : decode cX6_access 117 = .ok (.aload_n 0, 1) := by decide +kernel
theorem dX6_access_118 : decode cX6_access 118 = .ok (.getfield 31, 3) := by decide +kernel
theorem dX6_access_121 : decode cX6_access 121 = .ok (.iload 6, 2) := by decide +kernel
theorem dX6_access_123 : decode cX6_access 123 = .ok (.aload_n 0, 1) := by decide +kernel
theorem dX6_access_124 : decode cX6_access 124 = .ok (.getfield 37, 3) := by decide +kernel
theorem dX6_access_127 : decode cX6_access 127 = .ok (.iload 4, 2) := by decide +kernel
theorem dX6_access_129 : decode cX6_access 129 = .ok (.iaload, 1) := by decide +kernel
theorem dX6_access_130 : decode cX6_access 130 = .ok (.iastore, 1) := by decide +kernel
theorem dX6_access_131 : decode cX6_access 131 = .ok (.aload_n 0, 1) := by decide +kernel
theorem dX6_access_132 : decode cX6_access 132 = .ok (.getfield 56, 3) := by decide +kernel
theorem dX6_access_135 : decode cX6_access 135 = .ok (.iload 5, 2) := by decide +kernel
theorem dX6_access_137 : decode cX6_access 137 = .ok (.iconst 1, 1) := by decide +kernel
theorem dX6_access_138 : decode cX6_access 138 = .ok (.bastore, 1) := by decide +kernel
theorem dX6_access_139 : decode cX6_access 139 = .ok (.aload_n 0, 1) := by decide +kernel
theorem dX6_access_140 : decode cX6_access 140 = .ok (.iload_n 1, 1) := by decide +kernel
theorem dX6_access_141 : decode cX6_access 141 = .ok (.aload_n 0, 1) := by decide +kernel
theorem dX6_access_142 : decode cX6_access 142 = .ok (.getfield 25, 3) := by decide +kernel
theorem dX6_access_145 : decode cX6_access 145 = .ok (.iload_n 1, 1) := by decide +kernel
theorem dX6_access_146 : decode cX6_access 146 = .ok (.iaload, 1) := by decide +kernel
theorem dX6_access_147 : decode cX6_access 147 = .ok (.iconst 1, 1) := by decide +kernel
theorem dX6_access_148 : decode cX6_access 148 = .ok (.iadd, 1) := by decide +kernel
theorem dX6_access_149 : decode cX6_access 149 = .ok (.invokevirtual 119, 3) := by decide +kernel
theorem dX6_access_152 : decode cX6_access 152 = .ok (.iconst 0, 1) := by decide +kernel
theorem dX6_access_153 : decode cX6_access 153 = .ok (.ireturn, 1) := by decide +kernel
theorem dX6_plain_0 : decode cX6_plain 0 = .ok (.iconst 4, 1) := by decide +kernel
theorem dX6_plain_1 : decode cX6_plain 1 = .ok (.iload_n 1, 1) := by decide +kernel
theorem dX6_plain_2 : decode cX6_plain 2 = .ok (.imul, 1) := by decide +kernel
theorem dX6_plain_3 : decode cX6_plain 3 = .ok (.iload_n 3, 1) := by decide +kernel
theorem dX6_plain_4 : decode cX6_plain 4 = .ok (.iconst 3, 1) := by decide +kernel
theorem dX6_plain_5 : decode cX6_plain 5 = .ok (.iand, 1) := by decide +kernel
theorem dX6_plain_6 : decode cX6_plain 6 = .ok (.iadd, 1) := by decide +kernel
theorem dX6_plain_7 : decode cX6_plain 7 = .ok (.istore 5, 2) := by decide +kernel
theorem dX6_plain_9 : decode cX6_plain 9 = .ok (.iload_n 2, 1) := by decide +kernel
theorem dX6_plain_10 : decode cX6_plain 10 = .ok (.ifCond .ne 15, 3) := by decide +kernel
theorem dX6_plain_13 : decode cX6_plain 13 = .ok (.aload_n 0, 1) := by decide +kernel
theorem dX6_plain_14 : decode cX6_plain 14 = .ok (.getfield 31, 3) := by decide +kernel
theorem dX6_plain_17 : decode cX6_plain 17 = .ok (.iload 5, 2) := by decide +kernel
theorem dX6_plain_19 : decode cX6_plain 19 = .ok (.iload 4, 2) := by decide +kernel
theorem dX6_plain_21 : decode cX6_plain 21 = .ok (.iastore, 1) := by decide +kernel
theorem dX6_plain_22 : decode cX6_plain 22 = .ok (.goto 105, 3) := by decide +kernel
theorem dX6_plain_25 : decode cX6_plain 25 = .ok (.iload_n 2, 1) := by decide +kernel
theorem dX6_plain_26 : decode cX6_plain 26 = .ok (.iconst 1, 1) := by decide +kernel
theorem dX6_plain_27 : decode cX6_plain 27 = .ok (.if_icmp .ne 32, 3) := by decide +kernel
theorem dX6_plain_30 : decode cX6_plain 30 = .ok (.aload_n 0, 1) := by decide +kernel
theorem dX6_plain_31 : decode cX6_plain 31 = .ok (.getfield 31, 3) := by decide +kernel
theorem dX6_plain_34 : decode cX6_plain 34 = .ok (.iload 5, 2) := by decide +kernel
theorem dX6_plain_36 : decode cX6_plain 36 = .ok (.aload_n 0, 1) := by decide +kernel
theorem dX6_plain_37 : decode cX6_plain 37 = .ok (.getfield 31, 3) := by decide +kernel
theorem dX6_plain_40 : decode cX6_plain 40 = .ok (.iload 5, 2) := by decide +kernel
theorem dX6_plain_42 : decode cX6_plain 42 = .ok (.iaload, 1) := by decide +kernel
theorem dX6_plain_43 : decode cX6_plain 43 = .ok (.aload_n 0, 1) := by decide +kernel
theorem dX6_plain_44 : decode cX6_plain 44 = .ok (.getfield 31, 3) := by decide +kernel
theorem dX6_plain_47 : decode cX6_plain 47 = .ok (.iconst 4, 1) := by decide +kernel
theorem dX6_plain_48 : decode cX6_plain 48 = .ok (.iload_n 1, 1) := by decide +kernel
theorem dX6_plain_49 : decode cX6_plain 49 = .ok (.imul, 1) := by decide +kernel
theorem dX6_plain_50 : decode cX6_plain 50 = .ok (.iload 4, 2) := by decide +kernel
theorem dX6_plain_52 : decode cX6_plain 52 = .ok (.iadd, 1) := by decide +kernel
theorem dX6_plain_53 : decode cX6_plain 53 = .ok (.iaload, 1) := by decide +kernel
theorem dX6_plain_54 : decode cX6_plain 54 = .ok (.iadd, 1) := by decide +kernel
theorem dX6_plain_55 : decode cX6_plain 55 = .ok (.iastore, 1) := by decide +kernel
theorem dX6_plain_56 : decode cX6_plain 56 = .ok (.goto 71, 3) := by decide +kernel
theorem dX6_plain_59 : decode cX6_plain 59 = .ok (.iload_n 2, 1) := by decide +kernel
theorem dX6_plain_60 : decode cX6_plain 60 = .ok (.iconst 2, 1) := by decide +kernel
theorem dX6_plain_61 : decode cX6_plain 61 = .ok (.if_icmp .ne 32, 3) := by decide +kernel
theorem dX6_plain_64 : decode cX6_plain 64 = .ok (.aload_n 0, 1) := by decide +kernel
theorem dX6_plain_65 : decode cX6_plain 65 = .ok (.getfield 31, 3) := by decide +kernel
theorem dX6_plain_68 : decode cX6_plain 68 = .ok (.iload 5, 2) := by decide +kernel
theorem dX6_plain_70 : decode cX6_plain 70 = .ok (.aload_n 0, 1) := by decide +kernel
theorem dX6_plain_71 : decode cX6_plain 71 = .ok (.getfield 31, 3) := by decide +kernel
theorem dX6_plain_74 : decode cX6_plain 74 = .ok (.iload 5, 2) := by decide +kernel
theorem dX6_plain_76 : decode cX6_plain 76 = .ok (.iaload, 1) := by decide +kernel
theorem dX6_plain_77 : decode cX6_plain 77 = .ok (.aload_n 0, 1) := by decide +kernel
theorem dX6_plain_78 : decode cX6_plain 78 = .ok (.getfield 31, 3) := by decide +kernel
theorem dX6_plain_81 : decode cX6_plain 81 = .ok (.iconst 4, 1) := by decide +kernel
theorem dX6_plain_82 : decode cX6_plain 82 = .ok (.iload_n 1, 1) := by decide +kernel
theorem dX6_plain_83 : decode cX6_plain 83 = .ok (.imul, 1) := by decide +kernel
theorem dX6_plain_84 : decode cX6_plain 84 = .ok (.iload 4, 2) := by decide +kernel
theorem dX6_plain_86 : decode cX6_plain 86 = .ok (.iadd, 1) := by decide +kernel
theorem dX6_plain_87 : decode cX6_plain 87 = .ok (.iaload, 1) := by decide +kernel
theorem dX6_plain_88 : decode cX6_plain 88 = .ok (.isub, 1) := by decide +kernel
theorem dX6_plain_89 : decode cX6_plain 89 = .ok (.iastore, 1) := by decide +kernel
theorem dX6_plain_90 : decode cX6_plain 90 = .ok (.goto 37, 3) := by decide +kernel
theorem dX6_plain_93 : decode cX6_plain 93 = .ok (.iload_n 2, 1) := by decide +kernel
theorem dX6_plain_94 : decode cX6_plain 94 = .ok (.iconst 5, 1) := by decide +kernel
theorem dX6_plain_95 : decode cX6_plain 95 = .ok (.if_icmp .ne 32, 3) := by decide +kernel
theorem dX6_plain_98 : decode cX6_plain 98 = .ok (.aload_n 0, 1) := by decide +kernel
theorem dX6_plain_99 : decode cX6_plain 99 = .ok (.getfield 80, 3) := by decide +kernel
theorem dX6_plain_102 : decode cX6_plain 102 = .ok (.aload_n 0, 1) := by decide +kernel
theorem dX6_plain_103 : decode cX6_plain 103 = .ok (.getfield 151, 3) := by decide +kernel
theorem dX6_plain_106 : decode cX6_plain 106 = .ok (.bipush 16, 2) := by decide +kernel
theorem dX6_plain_108 : decode cX6_plain 108 = .ok (.irem, 1) := by decide +kernel
theorem dX6_plain_109 : decode cX6_plain 109 = .ok (.aload_n 0, 1) := by decide +kernel
theorem dX6_plain_110 : decode cX6_plain 110 = .ok (.getfield 31, 3) := by decide +kernel
theorem dX6_plain_113 : decode cX6_plain 113 = .ok (.iload 5, 2) := by decide +kernel
theorem dX6_plain_115 : decode cX6_plain 115 = .ok (.iaload, 1) := by decide +kernel
theorem dX6_plain_116 : decode cX6_plain 116 = .ok (.iastore, 1) := by decide +kernel
theorem dX6_plain_117 : decode cX6_plain 117 = .ok (.aload_n 0, 1) := by decide +kernel
theorem dX6_plain_118 : decode cX6_plain 118 = .ok (.dup, 1) := by decide +kernel
theorem dX6_plain_119 : decode cX6_plain 119 = .ok (.getfield 151, 3) := by decide +kernel
theorem dX6_plain_122 : decode cX6_plain 122 = .ok (.iconst 1, 1) := by decide +kernel
theorem dX6_plain_123 : decode cX6_plain 123 = .ok (.iadd, 1) := by decide +kernel
theorem dX6_plain_124 : decode cX6_plain 124 = .ok (.putfield 151, 3) := by decide +kernel
theorem dX6_plain_127 : decode cX6_plain 127 = .ok (.aload_n 0, 1) := by decide +kernel
theorem dX6_plain_128 : decode cX6_plain 128 = .ok (.iload_n 1, 1) := by decide +kernel
theorem dX6_plain_129 : decode cX6_plain 129 = .ok (.aload_n 0, 1) := by decide +kernel
theorem dX6_plain_130 : decode cX6_plain 130 = .ok (.getfield 25, 3) := by decide +kernel
theorem dX6_plain_133 : decode cX6_plain 133 = .ok (.iload_n 1, 1) := by decide +kernel
theorem dX6_plain_134 : decode cX6_plain 134 = .ok (.iaload, 1) := by decide +kernel
theorem dX6_plain_135 : decode cX6_plain 135 = .ok (.iconst 1, 1) := by decide +kernel
theorem dX6_plain_136 : decode cX6_plain 136 = .ok (.iadd, 1) := by decide +kernel
theorem dX6_plain_137 : decode cX6_plain 137 = .ok (.invokevirtual 119, 3) := by decide +kernel
theorem dX6_plain_140 : decode cX6_plain 140 = .ok (.return_, 1) := by decide +kernel
theorem dX6_branch_0 : decode cX6_branch 0 = .ok (.aload_n 0, 1) := by decide +kernel
theorem dX6_branch_1 : decode cX6_branch 1 = .ok (.getfield 25, 3) := by decide +kernel
theorem dX6_branch_4 : decode cX6_branch 4 = .ok (.iload_n 1, 1) := by decide +kernel
theorem dX6_branch_5 : decode cX6_branch 5 = .ok (.iaload, 1) := by decide +kernel
theorem dX6_branch_6 : decode cX6_branch 6 = .ok (.istore 4, 2) := by decide +kernel
theorem dX6_branch_8 : decode cX6_branch 8 = .ok (.iload_n 2, 1) := by decide +kernel
theorem dX6_branch_9 : decode cX6_branch 9 = .ok (.bipush 11, 2) := by decide +kernel
theorem dX6_branch_11 : decode cX6_branch 11 = .ok (.if_icmp .eq 9, 3) := by decide +kernel
theorem dX6_branch_14 : decode cX6_branch 14 = .ok (.iload_n 2, 1) := by decide +kernel
theorem dX6_branch_15 : decode cX6_branch 15 = .ok (.bipush 13, 2) := by decide +kernel
theorem dX6_branch_17 : decode cX6_branch 17 = .ok (.if_icmp .ne 28, 3) := by decide +kernel
theorem dX6_branch_20 : decode cX6_branch 20 = .ok (.aload_n 0, 1) := by decide +kernel
theorem dX6_branch_21 : decode cX6_branch 21 = .ok (.getfield 31, 3) := by decide +kernel
theorem dX6_branch_24 : decode cX6_branch 24 = .ok (.iconst 4, 1) := by decide +kernel
theorem dX6_branch_25 : decode cX6_branch 25 = .ok (.iload_n 1, 1) := by decide +kernel
theorem dX6_branch_26 : decode cX6_branch 26 = .ok (.imul, 1) := by decide +kernel
theorem dX6_branch_27 : decode cX6_branch 27 = .ok (.iload_n 3, 1) := by decide +kernel
theorem dX6_branch_28 : decode cX6_branch 28 = .ok (.iadd, 1) := by decide +kernel
theorem dX6_branch_29 : decode cX6_branch 29 = .ok (.iaload, 1) := by decide +kernel
theorem dX6_branch_30 : decode cX6_branch 30 = .ok (.ifCond .le 15, 3) := by decide +kernel
theorem dX6_branch_33 : decode cX6_branch 33 = .ok (.aload_n 0, 1) := by decide +kernel
theorem dX6_branch_34 : decode cX6_branch 34 = .ok (.iload_n 1, 1) := by decide +kernel
theorem dX6_branch_35 : decode cX6_branch 35 = .ok (.iload 4, 2) := by decide +kernel
theorem dX6_branch_37 : decode cX6_branch 37 = .ok (.iconst 1, 1) := by decide +kernel
theorem dX6_branch_38 : decode cX6_branch 38 = .ok (.iadd, 1) := by decide +kernel
theorem dX6_branch_39 : decode cX6_branch 39 = .ok (.invokevirtual 119, 3) := by decide +kernel
theorem dX6_branch_42 : decode cX6_branch 42 = .ok (.goto 32, 3) := by decide +kernel
theorem dX6_branch_45 : decode cX6_branch 45 = .ok (.aload_n 0, 1) := by decide +kernel
theorem dX6_branch_46 : decode cX6_branch 46 = .ok (.iload_n 1, 1) := by decide +kernel
theorem dX6_branch_47 : decode cX6_branch 47 = .ok (.iload 4, 2) := by decide +kernel
theorem dX6_branch_49 : decode cX6_branch 49 = .ok (.iload_n 2, 1) := by decide +kernel
theorem dX6_branch_50 : decode cX6_branch 50 = .ok (.bipush 11, 2) := by decide +kernel
theorem dX6_branch_52 : decode cX6_branch 52 = .ok (.if_icmp .ne 7, 3) := by decide +kernel
theorem dX6_branch_55 : decode cX6_branch 55 = .ok (.iconst 1, 1) := by decide +kernel
theorem dX6_branch_56 : decode cX6_branch 56 = .ok (.goto 4, 3) := by decide +kernel
theorem dX6_branch_59 : decode cX6_branch 59 = .ok (.iconst 0, 1) := by decide +kernel
theorem dX6_branch_60 : decode cX6_branch 60 = .ok (.invokevirtual 139, 3) := by decide +kernel
theorem dX6_branch_63 : decode cX6_branch 63 = .ok (.istore 5, 2) := by decide +kernel
theorem dX6_branch_65 : decode cX6_branch 65 = .ok (.aload_n 0, 1) := by decide +kernel
theorem dX6_branch_66 : decode cX6_branch 66 = .ok (.iload_n 1, 1) := by decide +kernel
theorem dX6_branch_67 : decode cX6_branch 67 = .ok (.iload 5, 2) := by decide +kernel
theorem dX6_branch_69 : decode cX6_branch 69 = .ok (.iconst 1, 1) := by decide +kernel
theorem dX6_branch_70 : decode cX6_branch 70 = .ok (.iadd, 1) := by decide +kernel
theorem dX6_branch_71 : decode cX6_branch 71 = .ok (.invokevirtual 119, 3) := by decide +kernel
theorem dX6_branch_74 : decode cX6_branch 74 = .ok (.return_, 1) := by decide +kernel
theorem dX6_end_0 : decode cX6_end 0 = .ok (.aload_n 0, 1) := by decide +kernel
theorem dX6_end_1 : decode cX6_end 1 = .ok (.iload_n 1, 1) := by decide +kernel
theorem dX6_end_2 : decode cX6_end 2 = .ok (.aload_n 0, 1) := by decide +kernel
theorem dX6_end_3 : decode cX6_end 3 = .ok (.getfield 25, 3) := by decide +kernel
theorem dX6_end_6 : decode cX6_end 6 = .ok (.iload_n 1, 1) := by decide +kernel
theorem dX6_end_7 : decode cX6_end 7 = .ok (.iaload, 1) := by decide +kernel
theorem dX6_end_8 : decode cX6_end 8 = .ok (.invokevirtual 154, 3) := by decide +kernel
theorem dX6_end_11 : decode cX6_end 11 = .ok (.istore_n 2, 1) := by decide +kernel
theorem dX6_end_12 : decode cX6_end 12 = .ok (.aload_n 0, 1) := by decide +kernel
theorem dX6_end_13 : decode cX6_end 13 = .ok (.getfield 7, 3) := by decide +kernel
theorem dX6_end_16 : decode cX6_end 16 = .ok (.bipush 30, 2) := by decide +kernel
theorem dX6_end_18 : decode cX6_end 18 = .ok (.iload_n 1, 1) := by decide +kernel
theorem dX6_end_19 : decode cX6_end 19 = .ok (.imul, 1) := by decide +kernel
theorem dX6_end_20 : decode cX6_end 20 = .ok (.iload_n 2, 1) := by decide +kernel
theorem dX6_end_21 : decode cX6_end 21 = .ok (.iadd, 1) := by decide +kernel
theorem dX6_end_22 : decode cX6_end 22 = .ok (.iaload, 1) := by decide +kernel
theorem dX6_end_23 : decode cX6_end 23 = .ok (.istore_n 3, 1) := by decide +kernel
theorem dX6_end_24 : decode cX6_end 24 = .ok (.iload_n 3, 1) := by decide +kernel
theorem dX6_end_25 : decode cX6_end 25 = .ok (.bipush 6, 2) := by decide +kernel
theorem dX6_end_27 : decode cX6_end 27 = .ok (.if_icmp .ne 9, 3) := by decide +kernel
theorem dX6_end_30 : decode cX6_end 30 = .ok (.aload_n 0, 1) := by decide +kernel
theorem dX6_end_31 : decode cX6_end 31 = .ok (.iload_n 1, 1) := by decide +kernel
theorem dX6_end_32 : decode cX6_end 32 = .ok (.invokevirtual 157, 3) := by decide +kernel
theorem dX6_end_35 : decode cX6_end 35 = .ok (.ireturn, 1) := by decide +kernel
theorem dX6_end_36 : decode cX6_end 36 = .ok (.aload_n 0, 1) := by decide +kernel
theorem dX6_end_37 : decode cX6_end 37 = .ok (.iload_n 1, 1) := by decide +kernel
theorem dX6_end_38 : decode cX6_end 38 = .ok (.iload_n 3, 1) := by decide +kernel
theorem dX6_end_39 : decode cX6_end 39 = .ok (.bipush 13, 2) := by decide +kernel
theorem dX6_end_41 : decode cX6_end 41 = .ok (.if_icmp .ne 7, 3) := by decide +kernel
theorem dX6_end_44 : decode cX6_end 44 = .ok (.iload_n 2, 1) := by decide +kernel
theorem dX6_end_45 : decode cX6_end 45 = .ok (.goto 11, 3) := by decide +kernel
theorem dX6_end_48 : decode cX6_end 48 = .ok (.aload_n 0, 1) := by decide +kernel
theorem dX6_end_49 : decode cX6_end 49 = .ok (.getfield 25, 3) := by decide +kernel
theorem dX6_end_52 : decode cX6_end 52 = .ok (.iload_n 1, 1) := by decide +kernel
theorem dX6_end_53 : decode cX6_end 53 = .ok (.iaload, 1) := by decide +kernel
theorem dX6_end_54 : decode cX6_end 54 = .ok (.iconst 1, 1) := by decide +kernel
theorem dX6_end_55 : decode cX6_end 55 = .ok (.iadd, 1) := by decide +kernel
theorem dX6_end_56 : decode cX6_end 56 = .ok (.invokevirtual 119, 3) := by decide +kernel
theorem dX6_end_59 : decode cX6_end 59 = .ok (.iconst 0, 1) := by decide +kernel
theorem dX6_end_60 : decode cX6_end 60 = .ok (.ireturn, 1) := by decide +kernel
theorem dX6_step_0 : decode cX6_step 0 = .ok (.iload_n 1, 1) := by decide +kernel
theorem dX6_step_1 : decode cX6_step 1 = .ok (.iconst 4, 1) := by decide +kernel
theorem dX6_step_2 : decode cX6_step 2 = .ok (.invokestatic 89, 3) := by decide +kernel
theorem dX6_step_5 : decode cX6_step 5 = .ok (.ifCond .eq 5, 3) := by decide +kernel
theorem dX6_step_8 : decode cX6_step 8 = .ok (.iconst (-1), 1) := by decide +kernel
theorem dX6_step_9 : decode cX6_step 9 = .ok (.ireturn, 1) := by decide +kernel
theorem dX6_step_10 : decode cX6_step 10 = .ok (.aload_n 0, 1) := by decide +kernel
theorem dX6_step_11 : decode cX6_step 11 = .ok (.getfield 22, 3) := by decide +kernel
theorem dX6_step_14 : decode cX6_step 14 = .ok (.iload_n 1, 1) := by decide +kernel
theorem dX6_step_15 : decode cX6_step 15 = .ok (.iaload, 1) := by decide +kernel
theorem dX6_step_16 : decode cX6_step 16 = .ok (.iconst 1, 1) := by decide +kernel
theorem dX6_step_17 : decode cX6_step 17 = .ok (.if_icmp .eq 5, 3) := by decide +kernel
theorem dX6_step_20 : decode cX6_step 20 = .ok (.iconst (-1), 1) := by decide +kernel
theorem dX6_step_21 : decode cX6_step 21 = .ok (.ireturn, 1) := by decide +kernel
theorem dX6_step_22 : decode cX6_step 22 = .ok (.bipush 30, 2) := by decide +kernel
theorem dX6_step_24 : decode cX6_step 24 = .ok (.iload_n 1, 1) := by decide +kernel
theorem dX6_step_25 : decode cX6_step 25 = .ok (.imul, 1) := by decide +kernel
theorem dX6_step_26 : decode cX6_step 26 = .ok (.aload_n 0, 1) := by decide +kernel
theorem dX6_step_27 : decode cX6_step 27 = .ok (.getfield 25, 3) := by decide +kernel
theorem dX6_step_30 : decode cX6_step 30 = .ok (.iload_n 1, 1) := by decide +kernel
theorem dX6_step_31 : decode cX6_step 31 = .ok (.iaload, 1) := by decide +kernel
theorem dX6_step_32 : decode cX6_step 32 = .ok (.iadd, 1) := by decide +kernel
theorem dX6_step_33 : decode cX6_step 33 = .ok (.istore_n 2, 1) := by decide +kernel
theorem dX6_step_34 : decode cX6_step 34 = .ok (.aload_n 0, 1) := by decide +kernel
theorem dX6_step_35 : decode cX6_step 35 = .ok (.getfield 7, 3) := by decide +kernel
theorem dX6_step_38 : decode cX6_step 38 = .ok (.iload_n 2, 1) := by decide +kernel
theorem dX6_step_39 : decode cX6_step 39 = .ok (.iaload, 1) := by decide +kernel
theorem dX6_step_40 : decode cX6_step 40 = .ok (.istore_n 3, 1) := by decide +kernel
theorem dX6_step_41 : decode cX6_step 41 = .ok (.aload_n 0, 1) := by decide +kernel
theorem dX6_step_42 : decode cX6_step 42 = .ok (.getfield 13, 3) := by decide +kernel
theorem dX6_step_45 : decode cX6_step 45 = .ok (.iload_n 2, 1) := by decide +kernel
theorem dX6_step_46 : decode cX6_step 46 = .ok (.iaload, 1) := by decide +kernel
theorem dX6_step_47 : decode cX6_step 47 = .ok (.istore 4, 2) := by decide +kernel
theorem dX6_step_49 : decode cX6_step 49 = .ok (.aload_n 0, 1) := by decide +kernel
theorem dX6_step_50 : decode cX6_step 50 = .ok (.getfield 16, 3) := by decide +kernel
theorem dX6_step_53 : decode cX6_step 53 = .ok (.iload_n 2, 1) := by decide +kernel
theorem dX6_step_54 : decode cX6_step 54 = .ok (.iaload, 1) := by decide +kernel
theorem dX6_step_55 : decode cX6_step 55 = .ok (.istore 5, 2) := by decide +kernel
theorem dX6_step_57 : decode cX6_step 57 = .ok (.iload_n 3, 1) := by decide +kernel
theorem dX6_step_58 : decode cX6_step 58 = .ok (.tableswitch 113 3 14 #[62, 73, 113, 113, 84, 90, 113, 113, 113, 113, 113, 96], 62) := by decide +kernel
theorem dX6_step_120 : decode cX6_step 120 = .ok (.aload_n 0, 1) := by decide +kernel
theorem dX6_step_121 : decode cX6_step 121 = .ok (.iload_n 1, 1) := by decide +kernel
theorem dX6_step_122 : decode cX6_step 122 = .ok (.iload_n 3, 1) := by decide +kernel
theorem dX6_step_123 : decode cX6_step 123 = .ok (.iload 4, 2) := by decide +kernel
theorem dX6_step_125 : decode cX6_step 125 = .ok (.iload 5, 2) := by decide +kernel
theorem dX6_step_127 : decode cX6_step 127 = .ok (.invokevirtual 160, 3) := by decide +kernel
theorem dX6_step_130 : decode cX6_step 130 = .ok (.ireturn, 1) := by decide +kernel
theorem dX6_step_131 : decode cX6_step 131 = .ok (.aload_n 0, 1) := by decide +kernel
theorem dX6_step_132 : decode cX6_step 132 = .ok (.iload_n 1, 1) := by decide +kernel
theorem dX6_step_133 : decode cX6_step 133 = .ok (.iload_n 3, 1) := by decide +kernel
theorem dX6_step_134 : decode cX6_step 134 = .ok (.iload 4, 2) := by decide +kernel
theorem dX6_step_136 : decode cX6_step 136 = .ok (.iload 5, 2) := by decide +kernel
theorem dX6_step_138 : decode cX6_step 138 = .ok (.invokevirtual 160, 3) := by decide +kernel
theorem dX6_step_141 : decode cX6_step 141 = .ok (.ireturn, 1) := by decide +kernel
theorem dX6_step_142 : decode cX6_step 142 = .ok (.aload_n 0, 1) := by decide +kernel
theorem dX6_step_143 : decode cX6_step 143 = .ok (.iload_n 1, 1) := by decide +kernel
theorem dX6_step_144 : decode cX6_step 144 = .ok (.invokevirtual 164, 3) := by decide +kernel
theorem dX6_step_147 : decode cX6_step 147 = .ok (.ireturn, 1) := by decide +kernel
theorem dX6_step_148 : decode cX6_step 148 = .ok (.aload_n 0, 1) := by decide +kernel
theorem dX6_step_149 : decode cX6_step 149 = .ok (.iload_n 1, 1) := by decide +kernel
theorem dX6_step_150 : decode cX6_step 150 = .ok (.invokevirtual 167, 3) := by decide +kernel
theorem dX6_step_153 : decode cX6_step 153 = .ok (.ireturn, 1) := by decide +kernel
theorem dX6_step_154 : decode cX6_step 154 = .ok (.aload_n 0, 1) := by decide +kernel
theorem dX6_step_155 : decode cX6_step 155 = .ok (.iload_n 1, 1) := by decide +kernel
theorem dX6_step_156 : decode cX6_step 156 = .ok (.aload_n 0, 1) := by decide +kernel
theorem dX6_step_157 : decode cX6_step 157 = .ok (.getfield 31, 3) := by decide +kernel
theorem dX6_step_160 : decode cX6_step 160 = .ok (.iconst 4, 1) := by decide +kernel
theorem dX6_step_161 : decode cX6_step 161 = .ok (.iload_n 1, 1) := by decide +kernel
theorem dX6_step_162 : decode cX6_step 162 = .ok (.imul, 1) := by decide +kernel
theorem dX6_step_163 : decode cX6_step 163 = .ok (.iload 4, 2) := by decide +kernel
theorem dX6_step_165 : decode cX6_step 165 = .ok (.iadd, 1) := by decide +kernel
theorem dX6_step_166 : decode cX6_step 166 = .ok (.iaload, 1) := by decide +kernel
theorem dX6_step_167 : decode cX6_step 167 = .ok (.invokevirtual 170, 3) := by decide +kernel
theorem dX6_step_170 : decode cX6_step 170 = .ok (.ireturn, 1) := by decide +kernel
theorem dX6_step_171 : decode cX6_step 171 = .ok (.iload_n 3, 1) := by decide +kernel
theorem dX6_step_172 : decode cX6_step 172 = .ok (.bipush 6, 2) := by decide +kernel
theorem dX6_step_174 : decode cX6_step 174 = .ok (.if_icmp .ne 8, 3) := by decide +kernel
theorem dX6_step_177 : decode cX6_step 177 = .ok (.aload_n 0, 1) := by decide +kernel
theorem dX6_step_178 : decode cX6_step 178 = .ok (.iload_n 1, 1) := by decide +kernel
theorem dX6_step_179 : decode cX6_step 179 = .ok (.invokevirtual 173, 3) := by decide +kernel
theorem dX6_step_182 : decode cX6_step 182 = .ok (.iload_n 3, 1) := by decide +kernel
theorem dX6_step_183 : decode cX6_step 183 = .ok (.bipush 10, 2) := by decide +kernel
theorem dX6_step_185 : decode cX6_step 185 = .ok (.if_icmp .eq 9, 3) := by decide +kernel
theorem dX6_step_188 : decode cX6_step 188 = .ok (.iload_n 3, 1) := by decide +kernel
theorem dX6_step_189 : decode cX6_step 189 = .ok (.bipush 16, 2) := by decide +kernel
theorem dX6_step_191 : decode cX6_step 191 = .ok (.if_icmp .ne 13, 3) := by decide +kernel
theorem dX6_step_194 : decode cX6_step 194 = .ok (.aload_n 0, 1) := by decide +kernel
theorem dX6_step_195 : decode cX6_step 195 = .ok (.getfield 65, 3) := by decide +kernel
theorem dX6_step_198 : decode cX6_step 198 = .ok (.iload_n 1, 1) := by decide +kernel
theorem dX6_step_199 : decode cX6_step 199 = .ok (.dup2, 1) := by decide +kernel
theorem dX6_step_200 : decode cX6_step 200 = .ok (.iaload, 1) := by decide +kernel
theorem dX6_step_201 : decode cX6_step 201 = .ok (.iconst 1, 1) := by decide +kernel
theorem dX6_step_202 : decode cX6_step 202 = .ok (.isub, 1) := by decide +kernel
theorem dX6_step_203 : decode cX6_step 203 = .ok (.iastore, 1) := by decide +kernel
theorem dX6_step_204 : decode cX6_step 204 = .ok (.iload_n 3, 1) := by decide +kernel
theorem dX6_step_205 : decode cX6_step 205 = .ok (.bipush 9, 2) := by decide +kernel
theorem dX6_step_207 : decode cX6_step 207 = .ok (.if_icmp .eq 9, 3) := by decide +kernel
theorem dX6_step_210 : decode cX6_step 210 = .ok (.iload_n 3, 1) := by decide +kernel
theorem dX6_step_211 : decode cX6_step 211 = .ok (.bipush 15, 2) := by decide +kernel
theorem dX6_step_213 : decode cX6_step 213 = .ok (.if_icmp .ne 11, 3) := by decide +kernel
theorem dX6_step_216 : decode cX6_step 216 = .ok (.aload_n 0, 1) := by decide +kernel
theorem dX6_step_217 : decode cX6_step 217 = .ok (.iload_n 1, 1) := by decide +kernel
theorem dX6_step_218 : decode cX6_step 218 = .ok (.invokevirtual 176, 3) := by decide +kernel
theorem dX6_step_221 : decode cX6_step 221 = .ok (.goto 30, 3) := by decide +kernel
theorem dX6_step_224 : decode cX6_step 224 = .ok (.iload_n 3, 1) := by decide +kernel
theorem dX6_step_225 : decode cX6_step 225 = .ok (.bipush 10, 2) := by decide +kernel
theorem dX6_step_227 : decode cX6_step 227 = .ok (.if_icmp .lt 14, 3) := by decide +kernel
theorem dX6_step_230 : decode cX6_step 230 = .ok (.aload_n 0, 1) := by decide +kernel
theorem dX6_step_231 : decode cX6_step 231 = .ok (.iload_n 1, 1) := by decide +kernel
theorem dX6_step_232 : decode cX6_step 232 = .ok (.iload_n 3, 1) := by decide +kernel
theorem dX6_step_233 : decode cX6_step 233 = .ok (.iload 4, 2) := by decide +kernel
theorem dX6_step_235 : decode cX6_step 235 = .ok (.invokevirtual 179, 3) := by decide +kernel
theorem dX6_step_238 : decode cX6_step 238 = .ok (.goto 13, 3) := by decide +kernel
theorem dX6_step_241 : decode cX6_step 241 = .ok (.aload_n 0, 1) := by decide +kernel
theorem dX6_step_242 : decode cX6_step 242 = .ok (.iload_n 1, 1) := by decide +kernel
theorem dX6_step_243 : decode cX6_step 243 = .ok (.iload_n 3, 1) := by decide +kernel
theorem dX6_step_244 : decode cX6_step 244 = .ok (.iload 4, 2) := by decide +kernel
theorem dX6_step_246 : decode cX6_step 246 = .ok (.iload 5, 2) := by decide +kernel
theorem dX6_step_248 : decode cX6_step 248 = .ok (.invokevirtual 183, 3) := by decide +kernel
theorem dX6_step_251 : decode cX6_step 251 = .ok (.iconst 0, 1) := by decide +kernel
theorem dX6_step_252 : decode cX6_step 252 = .ok (.ireturn, 1) := by decide +kernel
theorem dX6_run_0 : decode cX6_run 0 = .ok (.iload_n 2, 1) := by decide +kernel
theorem dX6_run_1 : decode cX6_run 1 = .ok (.ifCond .lt 9, 3) := by decide +kernel
theorem dX6_run_4 : decode cX6_run 4 = .ok (.iload_n 2, 1) := by decide +kernel
theorem dX6_run_5 : decode cX6_run 5 = .ok (.bipush 16, 2) := by decide +kernel
theorem dX6_run_7 : decode cX6_run 7 = .ok (.if_icmp .le 5, 3) := by decide +kernel
theorem dX6_run_10 : decode cX6_run 10 = .ok (.iconst (-1), 1) := by decide +kernel
theorem dX6_run_11 : decode cX6_run 11 = .ok (.ireturn, 1) := by decide +kernel
theorem dX6_run_12 : decode cX6_run 12 = .ok (.iconst 0, 1) := by decide +kernel
theorem dX6_run_13 : decode cX6_run 13 = .ok (.istore_n 3, 1) := by decide +kernel
theorem dX6_run_14 : decode cX6_run 14 = .ok (.iconst 0, 1) := by decide +kernel
theorem dX6_run_15 : decode cX6_run 15 = .ok (.istore 4, 2) := by decide +kernel
theorem dX6_run_17 : decode cX6_run 17 = .ok (.iload 4, 2) := by decide +kernel
theorem dX6_run_19 : decode cX6_run 19 = .ok (.iload_n 2, 1) := by decide +kernel
theorem dX6_run_20 : decode cX6_run 20 = .ok (.if_icmp .ge 36, 3) := by decide +kernel
theorem dX6_run_23 : decode cX6_run 23 = .ok (.aload_n 0, 1) := by decide +kernel
theorem dX6_run_24 : decode cX6_run 24 = .ok (.iload_n 1, 1) := by decide +kernel
theorem dX6_run_25 : decode cX6_run 25 = .ok (.iconst 2, 1) := by decide +kernel
theorem dX6_run_26 : decode cX6_run 26 = .ok (.iload 4, 2) := by decide +kernel
theorem dX6_run_28 : decode cX6_run 28 = .ok (.imul, 1) := by decide +kernel
theorem dX6_run_29 : decode cX6_run 29 = .ok (.ishr, 1) := by decide +kernel
theorem dX6_run_30 : decode cX6_run 30 = .ok (.iconst 3, 1) := by decide +kernel
theorem dX6_run_31 : decode cX6_run 31 = .ok (.iand, 1) := by decide +kernel
theorem dX6_run_32 : decode cX6_run 32 = .ok (.invokevirtual 187, 3) := by decide +kernel
theorem dX6_run_35 : decode cX6_run 35 = .ok (.istore 5, 2) := by decide +kernel
theorem dX6_run_37 : decode cX6_run 37 = .ok (.iload 5, 2) := by decide +kernel
theorem dX6_run_39 : decode cX6_run 39 = .ok (.ifCond .lt 9, 3) := by decide +kernel
theorem dX6_run_42 : decode cX6_run 42 = .ok (.iload_n 3, 1) := by decide +kernel
theorem dX6_run_43 : decode cX6_run 43 = .ok (.iconst 1, 1) := by decide +kernel
theorem dX6_run_44 : decode cX6_run 44 = .ok (.iadd, 1) := by decide +kernel
theorem dX6_run_45 : decode cX6_run 45 = .ok (.goto 4, 3) := by decide +kernel
theorem dX6_run_48 : decode cX6_run 48 = .ok (.iload_n 3, 1) := by decide +kernel
theorem dX6_run_49 : decode cX6_run 49 = .ok (.istore_n 3, 1) := by decide +kernel
theorem dX6_run_50 : decode cX6_run 50 = .ok (.iinc 4 1, 3) := by decide +kernel
theorem dX6_run_53 : decode cX6_run 53 = .ok (.goto (-36), 3) := by decide +kernel
theorem dX6_run_56 : decode cX6_run 56 = .ok (.iload_n 3, 1) := by decide +kernel
theorem dX6_run_57 : decode cX6_run 57 = .ok (.ireturn, 1) := by decide +kernel
theorem dX6_put_0 : decode cX6_put 0 = .ok (.iload_n 1, 1) := by decide +kernel
theorem dX6_put_1 : decode cX6_put 1 = .ok (.bipush 8, 2) := by decide +kernel
theorem dX6_put_3 : decode cX6_put 3 = .ok (.invokestatic 89, 3) := by decide +kernel
theorem dX6_put_6 : decode cX6_put 6 = .ok (.ifCond .eq 5, 3) := by decide +kernel
theorem dX6_put_9 : decode cX6_put 9 = .ok (.iconst 0, 1) := by decide +kernel
theorem dX6_put_10 : decode cX6_put 10 = .ok (.ireturn, 1) := by decide +kernel
theorem dX6_put_11 : decode cX6_put 11 = .ok (.aload_n 0, 1) := by decide +kernel
theorem dX6_put_12 : decode cX6_put 12 = .ok (.dup, 1) := by decide +kernel
theorem dX6_put_13 : decode cX6_put 13 = .ok (.getfield 126, 3) := by decide +kernel
theorem dX6_put_16 : decode cX6_put 16 = .ok (.iconst 1, 1) := by decide +kernel
theorem dX6_put_17 : decode cX6_put 17 = .ok (.iadd, 1) := by decide +kernel
theorem dX6_put_18 : decode cX6_put 18 = .ok (.putfield 126, 3) := by decide +kernel
theorem dX6_put_21 : decode cX6_put 21 = .ok (.aload_n 0, 1) := by decide +kernel
theorem dX6_put_22 : decode cX6_put 22 = .ok (.iload_n 1, 1) := by decide +kernel
theorem dX6_put_23 : decode cX6_put 23 = .ok (.iload_n 2, 1) := by decide +kernel
theorem dX6_put_24 : decode cX6_put 24 = .ok (.invokevirtual 136, 3) := by decide +kernel
theorem dX6_put_27 : decode cX6_put 27 = .ok (.iconst 1, 1) := by decide +kernel
theorem dX6_put_28 : decode cX6_put 28 = .ok (.ireturn, 1) := by decide +kernel
theorem dX6_value_0 : decode cX6_value 0 = .ok (.iload_n 1, 1) := by decide +kernel
theorem dX6_value_1 : decode cX6_value 1 = .ok (.bipush 8, 2) := by decide +kernel
theorem dX6_value_3 : decode cX6_value 3 = .ok (.invokestatic 89, 3) := by decide +kernel
theorem dX6_value_6 : decode cX6_value 6 = .ok (.ifCond .eq 7, 3) := by decide +kernel
theorem dX6_value_9 : decode cX6_value 9 = .ok (.iconst 0, 1) := by decide +kernel
theorem dX6_value_10 : decode cX6_value 10 = .ok (.goto 9, 3) := by decide +kernel
theorem dX6_value_13 : decode cX6_value 13 = .ok (.aload_n 0, 1) := by decide +kernel
theorem dX6_value_14 : decode cX6_value 14 = .ok (.getfield 37, 3) := by decide +kernel
theorem dX6_value_17 : decode cX6_value 17 = .ok (.iload_n 1, 1) := by decide +kernel
theorem dX6_value_18 : decode cX6_value 18 = .ok (.iaload, 1) := by decide +kernel
theorem dX6_value_19 : decode cX6_value 19 = .ok (.ireturn, 1) := by decide +kernel
theorem dX6_version_0 : decode cX6_version 0 = .ok (.iload_n 1, 1) := by decide +kernel
theorem dX6_version_1 : decode cX6_version 1 = .ok (.bipush 8, 2) := by decide +kernel
theorem dX6_version_3 : decode cX6_version 3 = .ok (.invokestatic 89, 3) := by decide +kernel
theorem dX6_version_6 : decode cX6_version 6 = .ok (.ifCond .eq 7, 3) := by decide +kernel
theorem dX6_version_9 : decode cX6_version 9 = .ok (.iconst 0, 1) := by decide +kernel
theorem dX6_version_10 : decode cX6_version 10 = .ok (.goto 9, 3) := by decide +kernel
theorem dX6_version_13 : decode cX6_version 13 = .ok (.aload_n 0, 1) := by decide +kernel
theorem dX6_version_14 : decode cX6_version 14 = .ok (.getfield 40, 3) := by decide +kernel
theorem dX6_version_17 : decode cX6_version 17 = .ok (.iload_n 1, 1) := by decide +kernel
theorem dX6_version_18 : decode cX6_version 18 = .ok (.iaload, 1) := by decide +kernel
theorem dX6_version_19 : decode cX6_version 19 = .ok (.ireturn, 1) := by decide +kernel
theorem dX6_commits_0 : decode cX6_commits 0 = .ok (.aload_n 0, 1) := by decide +kernel
theorem dX6_commits_1 : decode cX6_commits 1 = .ok (.getfield 126, 3) := by decide +kernel
theorem dX6_commits_4 : decode cX6_commits 4 = .ok (.ireturn, 1) := by decide +kernel
theorem dX6_state_0 : decode cX6_state 0 = .ok (.iload_n 1, 1) := by decide +kernel
theorem dX6_state_1 : decode cX6_state 1 = .ok (.iconst 4, 1) := by decide +kernel
theorem dX6_state_2 : decode cX6_state 2 = .ok (.invokestatic 89, 3) := by decide +kernel
theorem dX6_state_5 : decode cX6_state 5 = .ok (.ifCond .eq 7, 3) := by decide +kernel
theorem dX6_state_8 : decode cX6_state 8 = .ok (.iconst (-1), 1) := by decide +kernel
theorem dX6_state_9 : decode cX6_state 9 = .ok (.goto 9, 3) := by decide +kernel
theorem dX6_state_12 : decode cX6_state 12 = .ok (.aload_n 0, 1) := by decide +kernel
theorem dX6_state_13 : decode cX6_state 13 = .ok (.getfield 22, 3) := by decide +kernel
theorem dX6_state_16 : decode cX6_state 16 = .ok (.iload_n 1, 1) := by decide +kernel
theorem dX6_state_17 : decode cX6_state 17 = .ok (.iaload, 1) := by decide +kernel
theorem dX6_state_18 : decode cX6_state 18 = .ok (.ireturn, 1) := by decide +kernel
theorem dX6_place_0 : decode cX6_place 0 = .ok (.iload_n 1, 1) := by decide +kernel
theorem dX6_place_1 : decode cX6_place 1 = .ok (.iconst 4, 1) := by decide +kernel
theorem dX6_place_2 : decode cX6_place 2 = .ok (.invokestatic 89, 3) := by decide +kernel
theorem dX6_place_5 : decode cX6_place 5 = .ok (.ifCond .eq 5, 3) := by decide +kernel
theorem dX6_place_8 : decode cX6_place 8 = .ok (.iconst (-1), 1) := by decide +kernel
theorem dX6_place_9 : decode cX6_place 9 = .ok (.ireturn, 1) := by decide +kernel
theorem dX6_place_10 : decode cX6_place 10 = .ok (.aload_n 0, 1) := by decide +kernel
theorem dX6_place_11 : decode cX6_place 11 = .ok (.iload_n 1, 1) := by decide +kernel
theorem dX6_place_12 : decode cX6_place 12 = .ok (.invokevirtual 93, 3) := by decide +kernel
theorem dX6_place_15 : decode cX6_place 15 = .ok (.ifCond .eq 12, 3) := by decide +kernel
theorem dX6_place_18 : decode cX6_place 18 = .ok (.aload_n 0, 1) := by decide +kernel
theorem dX6_place_19 : decode cX6_place 19 = .ok (.getfield 25, 3) := by decide +kernel
theorem dX6_place_22 : decode cX6_place 22 = .ok (.iload_n 1, 1) := by decide +kernel
theorem dX6_place_23 : decode cX6_place 23 = .ok (.iaload, 1) := by decide +kernel
