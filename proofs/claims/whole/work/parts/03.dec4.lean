theorem dX6_place_24 : decode cX6_place 24 = .ok (.goto 4, 3) := by decide +kernel
theorem dX6_place_27 : decode cX6_place 27 = .ok (.iconst (-1), 1) := by decide +kernel
theorem dX6_place_28 : decode cX6_place 28 = .ok (.ireturn, 1) := by decide +kernel
theorem dX6_register_0 : decode cX6_register 0 = .ok (.iload_n 1, 1) := by decide +kernel
theorem dX6_register_1 : decode cX6_register 1 = .ok (.iconst 4, 1) := by decide +kernel
theorem dX6_register_2 : decode cX6_register 2 = .ok (.invokestatic 89, 3) := by decide +kernel
theorem dX6_register_5 : decode cX6_register 5 = .ok (.ifCond .ne 11, 3) := by decide +kernel
theorem dX6_register_8 : decode cX6_register 8 = .ok (.iload_n 2, 1) := by decide +kernel
theorem dX6_register_9 : decode cX6_register 9 = .ok (.iconst 4, 1) := by decide +kernel
theorem dX6_register_10 : decode cX6_register 10 = .ok (.invokestatic 89, 3) := by decide +kernel
theorem dX6_register_13 : decode cX6_register 13 = .ok (.ifCond .eq 7, 3) := by decide +kernel
theorem dX6_register_16 : decode cX6_register 16 = .ok (.iconst 0, 1) := by decide +kernel
theorem dX6_register_17 : decode cX6_register 17 = .ok (.goto 13, 3) := by decide +kernel
theorem dX6_register_20 : decode cX6_register 20 = .ok (.aload_n 0, 1) := by decide +kernel
theorem dX6_register_21 : decode cX6_register 21 = .ok (.getfield 31, 3) := by decide +kernel
theorem dX6_register_24 : decode cX6_register 24 = .ok (.iconst 4, 1) := by decide +kernel
theorem dX6_register_25 : decode cX6_register 25 = .ok (.iload_n 1, 1) := by decide +kernel
theorem dX6_register_26 : decode cX6_register 26 = .ok (.imul, 1) := by decide +kernel
theorem dX6_register_27 : decode cX6_register 27 = .ok (.iload_n 2, 1) := by decide +kernel
theorem dX6_register_28 : decode cX6_register 28 = .ok (.iadd, 1) := by decide +kernel
theorem dX6_register_29 : decode cX6_register 29 = .ok (.iaload, 1) := by decide +kernel
theorem dX6_register_30 : decode cX6_register 30 = .ok (.ireturn, 1) := by decide +kernel
theorem dX6_sees_0 : decode cX6_sees 0 = .ok (.iload_n 1, 1) := by decide +kernel
theorem dX6_sees_1 : decode cX6_sees 1 = .ok (.iconst 4, 1) := by decide +kernel
theorem dX6_sees_2 : decode cX6_sees 2 = .ok (.invokestatic 89, 3) := by decide +kernel
theorem dX6_sees_5 : decode cX6_sees 5 = .ok (.ifCond .ne 12, 3) := by decide +kernel
theorem dX6_sees_8 : decode cX6_sees 8 = .ok (.iload_n 2, 1) := by decide +kernel
theorem dX6_sees_9 : decode cX6_sees 9 = .ok (.bipush 8, 2) := by decide +kernel
theorem dX6_sees_11 : decode cX6_sees 11 = .ok (.invokestatic 89, 3) := by decide +kernel
theorem dX6_sees_14 : decode cX6_sees 14 = .ok (.ifCond .eq 5, 3) := by decide +kernel
theorem dX6_sees_17 : decode cX6_sees 17 = .ok (.iconst 0, 1) := by decide +kernel
theorem dX6_sees_18 : decode cX6_sees 18 = .ok (.ireturn, 1) := by decide +kernel
theorem dX6_sees_19 : decode cX6_sees 19 = .ok (.aload_n 0, 1) := by decide +kernel
theorem dX6_sees_20 : decode cX6_sees 20 = .ok (.getfield 43, 3) := by decide +kernel
theorem dX6_sees_23 : decode cX6_sees 23 = .ok (.iload_n 1, 1) := by decide +kernel
theorem dX6_sees_24 : decode cX6_sees 24 = .ok (.baload, 1) := by decide +kernel
theorem dX6_sees_25 : decode cX6_sees 25 = .ok (.ifCond .eq 31, 3) := by decide +kernel
theorem dX6_sees_28 : decode cX6_sees 28 = .ok (.aload_n 0, 1) := by decide +kernel
theorem dX6_sees_29 : decode cX6_sees 29 = .ok (.getfield 59, 3) := by decide +kernel
theorem dX6_sees_32 : decode cX6_sees 32 = .ok (.bipush 8, 2) := by decide +kernel
theorem dX6_sees_34 : decode cX6_sees 34 = .ok (.iload_n 1, 1) := by decide +kernel
theorem dX6_sees_35 : decode cX6_sees 35 = .ok (.imul, 1) := by decide +kernel
theorem dX6_sees_36 : decode cX6_sees 36 = .ok (.iload_n 2, 1) := by decide +kernel
theorem dX6_sees_37 : decode cX6_sees 37 = .ok (.iadd, 1) := by decide +kernel
theorem dX6_sees_38 : decode cX6_sees 38 = .ok (.baload, 1) := by decide +kernel
theorem dX6_sees_39 : decode cX6_sees 39 = .ok (.ifCond .eq 17, 3) := by decide +kernel
theorem dX6_sees_42 : decode cX6_sees 42 = .ok (.aload_n 0, 1) := by decide +kernel
theorem dX6_sees_43 : decode cX6_sees 43 = .ok (.getfield 62, 3) := by decide +kernel
theorem dX6_sees_46 : decode cX6_sees 46 = .ok (.bipush 8, 2) := by decide +kernel
theorem dX6_sees_48 : decode cX6_sees 48 = .ok (.iload_n 1, 1) := by decide +kernel
theorem dX6_sees_49 : decode cX6_sees 49 = .ok (.imul, 1) := by decide +kernel
theorem dX6_sees_50 : decode cX6_sees 50 = .ok (.iload_n 2, 1) := by decide +kernel
theorem dX6_sees_51 : decode cX6_sees 51 = .ok (.iadd, 1) := by decide +kernel
theorem dX6_sees_52 : decode cX6_sees 52 = .ok (.iaload, 1) := by decide +kernel
theorem dX6_sees_53 : decode cX6_sees 53 = .ok (.goto 9, 3) := by decide +kernel
theorem dX6_sees_56 : decode cX6_sees 56 = .ok (.aload_n 0, 1) := by decide +kernel
theorem dX6_sees_57 : decode cX6_sees 57 = .ok (.getfield 37, 3) := by decide +kernel
theorem dX6_sees_60 : decode cX6_sees 60 = .ok (.iload_n 2, 1) := by decide +kernel
theorem dX6_sees_61 : decode cX6_sees 61 = .ok (.iaload, 1) := by decide +kernel
theorem dX6_sees_62 : decode cX6_sees 62 = .ok (.ireturn, 1) := by decide +kernel
theorem dX6_log_0 : decode cX6_log 0 = .ok (.iload_n 1, 1) := by decide +kernel
theorem dX6_log_1 : decode cX6_log 1 = .ok (.iconst 4, 1) := by decide +kernel
theorem dX6_log_2 : decode cX6_log 2 = .ok (.invokestatic 89, 3) := by decide +kernel
theorem dX6_log_5 : decode cX6_log 5 = .ok (.ifCond .eq 5, 3) := by decide +kernel
theorem dX6_log_8 : decode cX6_log 8 = .ok (.iconst 0, 1) := by decide +kernel
theorem dX6_log_9 : decode cX6_log 9 = .ok (.ireturn, 1) := by decide +kernel
theorem dX6_log_10 : decode cX6_log 10 = .ok (.iconst 0, 1) := by decide +kernel
theorem dX6_log_11 : decode cX6_log 11 = .ok (.istore_n 2, 1) := by decide +kernel
theorem dX6_log_12 : decode cX6_log 12 = .ok (.iconst 0, 1) := by decide +kernel
theorem dX6_log_13 : decode cX6_log 13 = .ok (.istore_n 3, 1) := by decide +kernel
theorem dX6_log_14 : decode cX6_log 14 = .ok (.iload_n 3, 1) := by decide +kernel
theorem dX6_log_15 : decode cX6_log 15 = .ok (.bipush 8, 2) := by decide +kernel
theorem dX6_log_17 : decode cX6_log 17 = .ok (.if_icmp .ge 68, 3) := by decide +kernel
theorem dX6_log_20 : decode cX6_log 20 = .ok (.aload_n 0, 1) := by decide +kernel
theorem dX6_log_21 : decode cX6_log 21 = .ok (.getfield 56, 3) := by decide +kernel
theorem dX6_log_24 : decode cX6_log 24 = .ok (.bipush 8, 2) := by decide +kernel
theorem dX6_log_26 : decode cX6_log 26 = .ok (.iload_n 1, 1) := by decide +kernel
theorem dX6_log_27 : decode cX6_log 27 = .ok (.imul, 1) := by decide +kernel
theorem dX6_log_28 : decode cX6_log 28 = .ok (.iload_n 3, 1) := by decide +kernel
theorem dX6_log_29 : decode cX6_log 29 = .ok (.iadd, 1) := by decide +kernel
theorem dX6_log_30 : decode cX6_log 30 = .ok (.baload, 1) := by decide +kernel
theorem dX6_log_31 : decode cX6_log 31 = .ok (.ifCond .eq 11, 3) := by decide +kernel
theorem dX6_log_34 : decode cX6_log 34 = .ok (.iload_n 2, 1) := by decide +kernel
theorem dX6_log_35 : decode cX6_log 35 = .ok (.iconst 1, 1) := by decide +kernel
theorem dX6_log_36 : decode cX6_log 36 = .ok (.iload_n 3, 1) := by decide +kernel
theorem dX6_log_37 : decode cX6_log 37 = .ok (.ishl, 1) := by decide +kernel
theorem dX6_log_38 : decode cX6_log 38 = .ok (.iadd, 1) := by decide +kernel
theorem dX6_log_39 : decode cX6_log 39 = .ok (.goto 4, 3) := by decide +kernel
theorem dX6_log_42 : decode cX6_log 42 = .ok (.iload_n 2, 1) := by decide +kernel
theorem dX6_log_43 : decode cX6_log 43 = .ok (.istore_n 2, 1) := by decide +kernel
theorem dX6_log_44 : decode cX6_log 44 = .ok (.aload_n 0, 1) := by decide +kernel
theorem dX6_log_45 : decode cX6_log 45 = .ok (.getfield 43, 3) := by decide +kernel
theorem dX6_log_48 : decode cX6_log 48 = .ok (.iload_n 1, 1) := by decide +kernel
theorem dX6_log_49 : decode cX6_log 49 = .ok (.baload, 1) := by decide +kernel
theorem dX6_log_50 : decode cX6_log 50 = .ok (.ifCond .eq 27, 3) := by decide +kernel
theorem dX6_log_53 : decode cX6_log 53 = .ok (.aload_n 0, 1) := by decide +kernel
theorem dX6_log_54 : decode cX6_log 54 = .ok (.getfield 59, 3) := by decide +kernel
theorem dX6_log_57 : decode cX6_log 57 = .ok (.bipush 8, 2) := by decide +kernel
theorem dX6_log_59 : decode cX6_log 59 = .ok (.iload_n 1, 1) := by decide +kernel
theorem dX6_log_60 : decode cX6_log 60 = .ok (.imul, 1) := by decide +kernel
theorem dX6_log_61 : decode cX6_log 61 = .ok (.iload_n 3, 1) := by decide +kernel
theorem dX6_log_62 : decode cX6_log 62 = .ok (.iadd, 1) := by decide +kernel
theorem dX6_log_63 : decode cX6_log 63 = .ok (.baload, 1) := by decide +kernel
theorem dX6_log_64 : decode cX6_log 64 = .ok (.ifCond .eq 13, 3) := by decide +kernel
theorem dX6_log_67 : decode cX6_log 67 = .ok (.iload_n 2, 1) := by decide +kernel
theorem dX6_log_68 : decode cX6_log 68 = .ok (.sipush 256, 3) := by decide +kernel
theorem dX6_log_71 : decode cX6_log 71 = .ok (.iload_n 3, 1) := by decide +kernel
theorem dX6_log_72 : decode cX6_log 72 = .ok (.ishl, 1) := by decide +kernel
theorem dX6_log_73 : decode cX6_log 73 = .ok (.iadd, 1) := by decide +kernel
theorem dX6_log_74 : decode cX6_log 74 = .ok (.goto 4, 3) := by decide +kernel
theorem dX6_log_77 : decode cX6_log 77 = .ok (.iload_n 2, 1) := by decide +kernel
theorem dX6_log_78 : decode cX6_log 78 = .ok (.istore_n 2, 1) := by decide +kernel
theorem dX6_log_79 : decode cX6_log 79 = .ok (.iinc 3 1, 3) := by decide +kernel
theorem dX6_log_82 : decode cX6_log 82 = .ok (.goto (-68), 3) := by decide +kernel
theorem dX6_log_85 : decode cX6_log 85 = .ok (.iload_n 2, 1) := by decide +kernel
theorem dX6_log_86 : decode cX6_log 86 = .ok (.ireturn, 1) := by decide +kernel
theorem dX6_waiting_0 : decode cX6_waiting 0 = .ok (.iload_n 1, 1) := by decide +kernel
theorem dX6_waiting_1 : decode cX6_waiting 1 = .ok (.bipush 8, 2) := by decide +kernel
theorem dX6_waiting_3 : decode cX6_waiting 3 = .ok (.invokestatic 89, 3) := by decide +kernel
theorem dX6_waiting_6 : decode cX6_waiting 6 = .ok (.ifCond .eq 5, 3) := by decide +kernel
theorem dX6_waiting_9 : decode cX6_waiting 9 = .ok (.iconst 0, 1) := by decide +kernel
theorem dX6_waiting_10 : decode cX6_waiting 10 = .ok (.ireturn, 1) := by decide +kernel
theorem dX6_waiting_11 : decode cX6_waiting 11 = .ok (.iconst 0, 1) := by decide +kernel
theorem dX6_waiting_12 : decode cX6_waiting 12 = .ok (.istore_n 2, 1) := by decide +kernel
theorem dX6_waiting_13 : decode cX6_waiting 13 = .ok (.iconst 0, 1) := by decide +kernel
theorem dX6_waiting_14 : decode cX6_waiting 14 = .ok (.istore_n 3, 1) := by decide +kernel
theorem dX6_waiting_15 : decode cX6_waiting 15 = .ok (.iload_n 3, 1) := by decide +kernel
theorem dX6_waiting_16 : decode cX6_waiting 16 = .ok (.iconst 4, 1) := by decide +kernel
theorem dX6_waiting_17 : decode cX6_waiting 17 = .ok (.if_icmp .ge 41, 3) := by decide +kernel
theorem dX6_waiting_20 : decode cX6_waiting 20 = .ok (.aload_n 0, 1) := by decide +kernel
theorem dX6_waiting_21 : decode cX6_waiting 21 = .ok (.getfield 22, 3) := by decide +kernel
theorem dX6_waiting_24 : decode cX6_waiting 24 = .ok (.iload_n 3, 1) := by decide +kernel
theorem dX6_waiting_25 : decode cX6_waiting 25 = .ok (.iaload, 1) := by decide +kernel
theorem dX6_waiting_26 : decode cX6_waiting 26 = .ok (.iconst 2, 1) := by decide +kernel
theorem dX6_waiting_27 : decode cX6_waiting 27 = .ok (.if_icmp .ne 23, 3) := by decide +kernel
theorem dX6_waiting_30 : decode cX6_waiting 30 = .ok (.aload_n 0, 1) := by decide +kernel
theorem dX6_waiting_31 : decode cX6_waiting 31 = .ok (.getfield 56, 3) := by decide +kernel
theorem dX6_waiting_34 : decode cX6_waiting 34 = .ok (.bipush 8, 2) := by decide +kernel
theorem dX6_waiting_36 : decode cX6_waiting 36 = .ok (.iload_n 3, 1) := by decide +kernel
theorem dX6_waiting_37 : decode cX6_waiting 37 = .ok (.imul, 1) := by decide +kernel
theorem dX6_waiting_38 : decode cX6_waiting 38 = .ok (.iload_n 1, 1) := by decide +kernel
theorem dX6_waiting_39 : decode cX6_waiting 39 = .ok (.iadd, 1) := by decide +kernel
theorem dX6_waiting_40 : decode cX6_waiting 40 = .ok (.baload, 1) := by decide +kernel
theorem dX6_waiting_41 : decode cX6_waiting 41 = .ok (.ifCond .eq 9, 3) := by decide +kernel
theorem dX6_waiting_44 : decode cX6_waiting 44 = .ok (.iload_n 2, 1) := by decide +kernel
theorem dX6_waiting_45 : decode cX6_waiting 45 = .ok (.iconst 1, 1) := by decide +kernel
theorem dX6_waiting_46 : decode cX6_waiting 46 = .ok (.iadd, 1) := by decide +kernel
theorem dX6_waiting_47 : decode cX6_waiting 47 = .ok (.goto 4, 3) := by decide +kernel
theorem dX6_waiting_50 : decode cX6_waiting 50 = .ok (.iload_n 2, 1) := by decide +kernel
theorem dX6_waiting_51 : decode cX6_waiting 51 = .ok (.istore_n 2, 1) := by decide +kernel
theorem dX6_waiting_52 : decode cX6_waiting 52 = .ok (.iinc 3 1, 3) := by decide +kernel
theorem dX6_waiting_55 : decode cX6_waiting 55 = .ok (.goto (-40), 3) := by decide +kernel
theorem dX6_waiting_58 : decode cX6_waiting 58 = .ok (.iload_n 2, 1) := by decide +kernel
theorem dX6_waiting_59 : decode cX6_waiting 59 = .ok (.ireturn, 1) := by decide +kernel
theorem dX6_discards_0 : decode cX6_discards 0 = .ok (.iload_n 1, 1) := by decide +kernel
theorem dX6_discards_1 : decode cX6_discards 1 = .ok (.iconst 4, 1) := by decide +kernel
theorem dX6_discards_2 : decode cX6_discards 2 = .ok (.invokestatic 89, 3) := by decide +kernel
theorem dX6_discards_5 : decode cX6_discards 5 = .ok (.ifCond .eq 7, 3) := by decide +kernel
theorem dX6_discards_8 : decode cX6_discards 8 = .ok (.iconst 0, 1) := by decide +kernel
theorem dX6_discards_9 : decode cX6_discards 9 = .ok (.goto 9, 3) := by decide +kernel
theorem dX6_discards_12 : decode cX6_discards 12 = .ok (.aload_n 0, 1) := by decide +kernel
theorem dX6_discards_13 : decode cX6_discards 13 = .ok (.getfield 28, 3) := by decide +kernel
theorem dX6_discards_16 : decode cX6_discards 16 = .ok (.iload_n 1, 1) := by decide +kernel
theorem dX6_discards_17 : decode cX6_discards 17 = .ok (.iaload, 1) := by decide +kernel
theorem dX6_discards_18 : decode cX6_discards 18 = .ok (.ireturn, 1) := by decide +kernel
theorem dX6_outcome_0 : decode cX6_outcome 0 = .ok (.iconst 0, 1) := by decide +kernel
theorem dX6_outcome_1 : decode cX6_outcome 1 = .ok (.istore_n 1, 1) := by decide +kernel
theorem dX6_outcome_2 : decode cX6_outcome 2 = .ok (.iconst 0, 1) := by decide +kernel
theorem dX6_outcome_3 : decode cX6_outcome 3 = .ok (.istore_n 2, 1) := by decide +kernel
theorem dX6_outcome_4 : decode cX6_outcome 4 = .ok (.iconst 0, 1) := by decide +kernel
theorem dX6_outcome_5 : decode cX6_outcome 5 = .ok (.istore_n 3, 1) := by decide +kernel
theorem dX6_outcome_6 : decode cX6_outcome 6 = .ok (.iload_n 3, 1) := by decide +kernel
theorem dX6_outcome_7 : decode cX6_outcome 7 = .ok (.iconst 4, 1) := by decide +kernel
theorem dX6_outcome_8 : decode cX6_outcome 8 = .ok (.if_icmp .ge 49, 3) := by decide +kernel
theorem dX6_outcome_11 : decode cX6_outcome 11 = .ok (.iload_n 1, 1) := by decide +kernel
theorem dX6_outcome_12 : decode cX6_outcome 12 = .ok (.ifCond .ne 13, 3) := by decide +kernel
theorem dX6_outcome_15 : decode cX6_outcome 15 = .ok (.aload_n 0, 1) := by decide +kernel
theorem dX6_outcome_16 : decode cX6_outcome 16 = .ok (.getfield 22, 3) := by decide +kernel
theorem dX6_outcome_19 : decode cX6_outcome 19 = .ok (.iload_n 3, 1) := by decide +kernel
theorem dX6_outcome_20 : decode cX6_outcome 20 = .ok (.iaload, 1) := by decide +kernel
theorem dX6_outcome_21 : decode cX6_outcome 21 = .ok (.iconst 1, 1) := by decide +kernel
theorem dX6_outcome_22 : decode cX6_outcome 22 = .ok (.if_icmp .ne 7, 3) := by decide +kernel
theorem dX6_outcome_25 : decode cX6_outcome 25 = .ok (.iconst 1, 1) := by decide +kernel
theorem dX6_outcome_26 : decode cX6_outcome 26 = .ok (.goto 4, 3) := by decide +kernel
theorem dX6_outcome_29 : decode cX6_outcome 29 = .ok (.iconst 0, 1) := by decide +kernel
theorem dX6_outcome_30 : decode cX6_outcome 30 = .ok (.istore_n 1, 1) := by decide +kernel
theorem dX6_outcome_31 : decode cX6_outcome 31 = .ok (.iload_n 2, 1) := by decide +kernel
theorem dX6_outcome_32 : decode cX6_outcome 32 = .ok (.ifCond .ne 13, 3) := by decide +kernel
theorem dX6_outcome_35 : decode cX6_outcome 35 = .ok (.aload_n 0, 1) := by decide +kernel
theorem dX6_outcome_36 : decode cX6_outcome 36 = .ok (.getfield 22, 3) := by decide +kernel
theorem dX6_outcome_39 : decode cX6_outcome 39 = .ok (.iload_n 3, 1) := by decide +kernel
theorem dX6_outcome_40 : decode cX6_outcome 40 = .ok (.iaload, 1) := by decide +kernel
theorem dX6_outcome_41 : decode cX6_outcome 41 = .ok (.iconst 2, 1) := by decide +kernel
theorem dX6_outcome_42 : decode cX6_outcome 42 = .ok (.if_icmp .ne 7, 3) := by decide +kernel
theorem dX6_outcome_45 : decode cX6_outcome 45 = .ok (.iconst 1, 1) := by decide +kernel
theorem dX6_outcome_46 : decode cX6_outcome 46 = .ok (.goto 4, 3) := by decide +kernel
theorem dX6_outcome_49 : decode cX6_outcome 49 = .ok (.iconst 0, 1) := by decide +kernel
theorem dX6_outcome_50 : decode cX6_outcome 50 = .ok (.istore_n 2, 1) := by decide +kernel
theorem dX6_outcome_51 : decode cX6_outcome 51 = .ok (.iinc 3 1, 3) := by decide +kernel
theorem dX6_outcome_54 : decode cX6_outcome 54 = .ok (.goto (-48), 3) := by decide +kernel
theorem dX6_outcome_57 : decode cX6_outcome 57 = .ok (.iload_n 1, 1) := by decide +kernel
theorem dX6_outcome_58 : decode cX6_outcome 58 = .ok (.ifCond .eq 7, 3) := by decide +kernel
theorem dX6_outcome_61 : decode cX6_outcome 61 = .ok (.iconst 0, 1) := by decide +kernel
theorem dX6_outcome_62 : decode cX6_outcome 62 = .ok (.goto 12, 3) := by decide +kernel
theorem dX6_outcome_65 : decode cX6_outcome 65 = .ok (.iload_n 2, 1) := by decide +kernel
theorem dX6_outcome_66 : decode cX6_outcome 66 = .ok (.ifCond .eq 7, 3) := by decide +kernel
theorem dX6_outcome_69 : decode cX6_outcome 69 = .ok (.iconst 2, 1) := by decide +kernel
theorem dX6_outcome_70 : decode cX6_outcome 70 = .ok (.goto 4, 3) := by decide +kernel
theorem dX6_outcome_73 : decode cX6_outcome 73 = .ok (.iconst 1, 1) := by decide +kernel
theorem dX6_outcome_74 : decode cX6_outcome 74 = .ok (.ireturn, 1) := by decide +kernel
theorem dX6_printed_0 : decode cX6_printed 0 = .ok (.iload_n 1, 1) := by decide +kernel
theorem dX6_printed_1 : decode cX6_printed 1 = .ok (.iconst (-1), 1) := by decide +kernel
theorem dX6_printed_2 : decode cX6_printed 2 = .ok (.if_icmp .ne 8, 3) := by decide +kernel
theorem dX6_printed_5 : decode cX6_printed 5 = .ok (.aload_n 0, 1) := by decide +kernel
theorem dX6_printed_6 : decode cX6_printed 6 = .ok (.getfield 151, 3) := by decide +kernel
theorem dX6_printed_9 : decode cX6_printed 9 = .ok (.ireturn, 1) := by decide +kernel
theorem dX6_printed_10 : decode cX6_printed 10 = .ok (.iload_n 1, 1) := by decide +kernel
theorem dX6_printed_11 : decode cX6_printed 11 = .ok (.ifCond .lt 17, 3) := by decide +kernel
theorem dX6_printed_14 : decode cX6_printed 14 = .ok (.iload_n 1, 1) := by decide +kernel
theorem dX6_printed_15 : decode cX6_printed 15 = .ok (.bipush 15, 2) := by decide +kernel
theorem dX6_printed_17 : decode cX6_printed 17 = .ok (.if_icmp .gt 11, 3) := by decide +kernel
theorem dX6_printed_20 : decode cX6_printed 20 = .ok (.iload_n 1, 1) := by decide +kernel
theorem dX6_printed_21 : decode cX6_printed 21 = .ok (.aload_n 0, 1) := by decide +kernel
theorem dX6_printed_22 : decode cX6_printed 22 = .ok (.getfield 151, 3) := by decide +kernel
theorem dX6_printed_25 : decode cX6_printed 25 = .ok (.if_icmp .lt 5, 3) := by decide +kernel
theorem dX6_printed_28 : decode cX6_printed 28 = .ok (.iconst 0, 1) := by decide +kernel
theorem dX6_printed_29 : decode cX6_printed 29 = .ok (.ireturn, 1) := by decide +kernel
theorem dX6_printed_30 : decode cX6_printed 30 = .ok (.aload_n 0, 1) := by decide +kernel
theorem dX6_printed_31 : decode cX6_printed 31 = .ok (.getfield 80, 3) := by decide +kernel
theorem dX6_printed_34 : decode cX6_printed 34 = .ok (.aload_n 0, 1) := by decide +kernel
theorem dX6_printed_35 : decode cX6_printed 35 = .ok (.getfield 151, 3) := by decide +kernel
theorem dX6_printed_38 : decode cX6_printed 38 = .ok (.iconst 1, 1) := by decide +kernel
theorem dX6_printed_39 : decode cX6_printed 39 = .ok (.isub, 1) := by decide +kernel
theorem dX6_printed_40 : decode cX6_printed 40 = .ok (.iload_n 1, 1) := by decide +kernel
theorem dX6_printed_41 : decode cX6_printed 41 = .ok (.isub, 1) := by decide +kernel
theorem dX6_printed_42 : decode cX6_printed 42 = .ok (.bipush 16, 2) := by decide +kernel
theorem dX6_printed_44 : decode cX6_printed 44 = .ok (.irem, 1) := by decide +kernel
theorem dX6_printed_45 : decode cX6_printed 45 = .ok (.iaload, 1) := by decide +kernel
theorem dX6_printed_46 : decode cX6_printed 46 = .ok (.ireturn, 1) := by decide +kernel
theorem dJ9_floorMod_7cf53_0 : decode cJ9_floorMod_7cf53 0 = .ok (.iload_n 0, 1) := by decide +kernel
theorem dJ9_floorMod_7cf53_1 : decode cJ9_floorMod_7cf53 1 = .ok (.iload_n 1, 1) := by decide +kernel
theorem dJ9_floorMod_7cf53_2 : decode cJ9_floorMod_7cf53 2 = .ok (.irem, 1) := by decide +kernel
theorem dJ9_floorMod_7cf53_3 : decode cJ9_floorMod_7cf53 3 = .ok (.istore_n 2, 1) := by decide +kernel
theorem dJ9_floorMod_7cf53_4 : decode cJ9_floorMod_7cf53 4 = .ok (.iload_n 0, 1) := by decide +kernel
theorem dJ9_floorMod_7cf53_5 : decode cJ9_floorMod_7cf53 5 = .ok (.iload_n 1, 1) := by decide +kernel
theorem dJ9_floorMod_7cf53_6 : decode cJ9_floorMod_7cf53 6 = .ok (.ixor, 1) := by decide +kernel
theorem dJ9_floorMod_7cf53_7 : decode cJ9_floorMod_7cf53 7 = .ok (.ifCond .ge 11, 3) := by decide +kernel
theorem dJ9_floorMod_7cf53_10 : decode cJ9_floorMod_7cf53 10 = .ok (.iload_n 2, 1) := by decide +kernel
theorem dJ9_floorMod_7cf53_11 : decode cJ9_floorMod_7cf53 11 = .ok (.ifCond .eq 7, 3) := by decide +kernel
theorem dJ9_floorMod_7cf53_14 : decode cJ9_floorMod_7cf53 14 = .ok (.iload_n 2, 1) := by decide +kernel
theorem dJ9_floorMod_7cf53_15 : decode cJ9_floorMod_7cf53 15 = .ok (.iload_n 1, 1) := by decide +kernel
theorem dJ9_floorMod_7cf53_16 : decode cJ9_floorMod_7cf53 16 = .ok (.iadd, 1) := by decide +kernel
theorem dJ9_floorMod_7cf53_17 : decode cJ9_floorMod_7cf53 17 = .ok (.ireturn, 1) := by decide +kernel
theorem dJ9_floorMod_7cf53_18 : decode cJ9_floorMod_7cf53 18 = .ok (.iload_n 2, 1) := by decide +kernel
theorem dJ9_floorMod_7cf53_19 : decode cJ9_floorMod_7cf53 19 = .ok (.ireturn, 1) := by decide +kernel
theorem dL_law_0 : decode cL_law 0 = .ok (.new 7, 3) := by decide +kernel
theorem dL_law_3 : decode cL_law 3 = .ok (.dup, 1) := by decide +kernel
theorem dL_law_4 : decode cL_law 4 = .ok (.invokespecial 9, 3) := by decide +kernel
theorem dL_law_7 : decode cL_law 7 = .ok (.astore_n 1, 1) := by decide +kernel
theorem dL_law_8 : decode cL_law 8 = .ok (.new 10, 3) := by decide +kernel
theorem dL_law_11 : decode cL_law 11 = .ok (.dup, 1) := by decide +kernel
theorem dL_law_12 : decode cL_law 12 = .ok (.invokespecial 12, 3) := by decide +kernel
theorem dL_law_15 : decode cL_law 15 = .ok (.astore_n 2, 1) := by decide +kernel
theorem dL_law_16 : decode cL_law 16 = .ok (.iconst 0, 1) := by decide +kernel
theorem dL_law_17 : decode cL_law 17 = .ok (.istore_n 3, 1) := by decide +kernel
theorem dL_law_18 : decode cL_law 18 = .ok (.iload_n 3, 1) := by decide +kernel
theorem dL_law_19 : decode cL_law 19 = .ok (.aload_n 0, 1) := by decide +kernel
theorem dL_law_20 : decode cL_law 20 = .ok (.arraylength, 1) := by decide +kernel
theorem dL_law_21 : decode cL_law 21 = .ok (.iconst 5, 1) := by decide +kernel
theorem dL_law_22 : decode cL_law 22 = .ok (.isub, 1) := by decide +kernel
theorem dL_law_23 : decode cL_law 23 = .ok (.if_icmp .gt 631, 3) := by decide +kernel
theorem dL_law_26 : decode cL_law 26 = .ok (.aload_n 0, 1) := by decide +kernel
theorem dL_law_27 : decode cL_law 27 = .ok (.iload_n 3, 1) := by decide +kernel
theorem dL_law_28 : decode cL_law 28 = .ok (.iaload, 1) := by decide +kernel
theorem dL_law_29 : decode cL_law 29 = .ok (.bipush 31, 2) := by decide +kernel
theorem dL_law_31 : decode cL_law 31 = .ok (.iand, 1) := by decide +kernel
theorem dL_law_32 : decode cL_law 32 = .ok (.tableswitch 616 0 19 #[96, 149, 182, 205, 228, 251, 274, 307, 340, 363, 386, 399, 422, 445, 478, 511, 534, 557, 580, 593], 96) := by decide +kernel
theorem dL_law_128 : decode cL_law 128 = .ok (.aload_n 1, 1) := by decide +kernel
theorem dL_law_129 : decode cL_law 129 = .ok (.aload_n 0, 1) := by decide +kernel
theorem dL_law_130 : decode cL_law 130 = .ok (.iload_n 3, 1) := by decide +kernel
theorem dL_law_131 : decode cL_law 131 = .ok (.iconst 1, 1) := by decide +kernel
theorem dL_law_132 : decode cL_law 132 = .ok (.iadd, 1) := by decide +kernel
theorem dL_law_133 : decode cL_law 133 = .ok (.iaload, 1) := by decide +kernel
theorem dL_law_134 : decode cL_law 134 = .ok (.aload_n 0, 1) := by decide +kernel
theorem dL_law_135 : decode cL_law 135 = .ok (.iload_n 3, 1) := by decide +kernel
theorem dL_law_136 : decode cL_law 136 = .ok (.iconst 2, 1) := by decide +kernel
theorem dL_law_137 : decode cL_law 137 = .ok (.iadd, 1) := by decide +kernel
theorem dL_law_138 : decode cL_law 138 = .ok (.iaload, 1) := by decide +kernel
theorem dL_law_139 : decode cL_law 139 = .ok (.aload_n 0, 1) := by decide +kernel
theorem dL_law_140 : decode cL_law 140 = .ok (.iload_n 3, 1) := by decide +kernel
theorem dL_law_141 : decode cL_law 141 = .ok (.iconst 3, 1) := by decide +kernel
theorem dL_law_142 : decode cL_law 142 = .ok (.iadd, 1) := by decide +kernel
theorem dL_law_143 : decode cL_law 143 = .ok (.iaload, 1) := by decide +kernel
theorem dL_law_144 : decode cL_law 144 = .ok (.aload_n 0, 1) := by decide +kernel
theorem dL_law_145 : decode cL_law 145 = .ok (.iload_n 3, 1) := by decide +kernel
theorem dL_law_146 : decode cL_law 146 = .ok (.iconst 4, 1) := by decide +kernel
theorem dL_law_147 : decode cL_law 147 = .ok (.iadd, 1) := by decide +kernel
theorem dL_law_148 : decode cL_law 148 = .ok (.iaload, 1) := by decide +kernel
theorem dL_law_149 : decode cL_law 149 = .ok (.invokevirtual 13, 3) := by decide +kernel
theorem dL_law_152 : decode cL_law 152 = .ok (.aload_n 2, 1) := by decide +kernel
theorem dL_law_153 : decode cL_law 153 = .ok (.aload_n 0, 1) := by decide +kernel
theorem dL_law_154 : decode cL_law 154 = .ok (.iload_n 3, 1) := by decide +kernel
theorem dL_law_155 : decode cL_law 155 = .ok (.iconst 1, 1) := by decide +kernel
theorem dL_law_156 : decode cL_law 156 = .ok (.iadd, 1) := by decide +kernel
theorem dL_law_157 : decode cL_law 157 = .ok (.iaload, 1) := by decide +kernel
theorem dL_law_158 : decode cL_law 158 = .ok (.aload_n 0, 1) := by decide +kernel
theorem dL_law_159 : decode cL_law 159 = .ok (.iload_n 3, 1) := by decide +kernel
theorem dL_law_160 : decode cL_law 160 = .ok (.iconst 2, 1) := by decide +kernel
theorem dL_law_161 : decode cL_law 161 = .ok (.iadd, 1) := by decide +kernel
theorem dL_law_162 : decode cL_law 162 = .ok (.iaload, 1) := by decide +kernel
theorem dL_law_163 : decode cL_law 163 = .ok (.aload_n 0, 1) := by decide +kernel
theorem dL_law_164 : decode cL_law 164 = .ok (.iload_n 3, 1) := by decide +kernel
theorem dL_law_165 : decode cL_law 165 = .ok (.iconst 3, 1) := by decide +kernel
theorem dL_law_166 : decode cL_law 166 = .ok (.iadd, 1) := by decide +kernel
theorem dL_law_167 : decode cL_law 167 = .ok (.iaload, 1) := by decide +kernel
theorem dL_law_168 : decode cL_law 168 = .ok (.aload_n 0, 1) := by decide +kernel
theorem dL_law_169 : decode cL_law 169 = .ok (.iload_n 3, 1) := by decide +kernel
theorem dL_law_170 : decode cL_law 170 = .ok (.iconst 4, 1) := by decide +kernel
theorem dL_law_171 : decode cL_law 171 = .ok (.iadd, 1) := by decide +kernel
theorem dL_law_172 : decode cL_law 172 = .ok (.iaload, 1) := by decide +kernel
theorem dL_law_173 : decode cL_law 173 = .ok (.invokevirtual 17, 3) := by decide +kernel
theorem dL_law_176 : decode cL_law 176 = .ok (.if_icmp .eq 472, 3) := by decide +kernel
theorem dL_law_179 : decode cL_law 179 = .ok (.iconst 0, 1) := by decide +kernel
theorem dL_law_180 : decode cL_law 180 = .ok (.ireturn, 1) := by decide +kernel
theorem dL_law_181 : decode cL_law 181 = .ok (.aload_n 1, 1) := by decide +kernel
theorem dL_law_182 : decode cL_law 182 = .ok (.aload_n 0, 1) := by decide +kernel
theorem dL_law_183 : decode cL_law 183 = .ok (.iload_n 3, 1) := by decide +kernel
theorem dL_law_184 : decode cL_law 184 = .ok (.iconst 1, 1) := by decide +kernel
theorem dL_law_185 : decode cL_law 185 = .ok (.iadd, 1) := by decide +kernel
theorem dL_law_186 : decode cL_law 186 = .ok (.iaload, 1) := by decide +kernel
theorem dL_law_187 : decode cL_law 187 = .ok (.aload_n 0, 1) := by decide +kernel
theorem dL_law_188 : decode cL_law 188 = .ok (.iload_n 3, 1) := by decide +kernel
theorem dL_law_189 : decode cL_law 189 = .ok (.iconst 2, 1) := by decide +kernel
theorem dL_law_190 : decode cL_law 190 = .ok (.iadd, 1) := by decide +kernel
theorem dL_law_191 : decode cL_law 191 = .ok (.iaload, 1) := by decide +kernel
theorem dL_law_192 : decode cL_law 192 = .ok (.invokevirtual 18, 3) := by decide +kernel
theorem dL_law_195 : decode cL_law 195 = .ok (.aload_n 2, 1) := by decide +kernel
theorem dL_law_196 : decode cL_law 196 = .ok (.aload_n 0, 1) := by decide +kernel
theorem dL_law_197 : decode cL_law 197 = .ok (.iload_n 3, 1) := by decide +kernel
theorem dL_law_198 : decode cL_law 198 = .ok (.iconst 1, 1) := by decide +kernel
theorem dL_law_199 : decode cL_law 199 = .ok (.iadd, 1) := by decide +kernel
theorem dL_law_200 : decode cL_law 200 = .ok (.iaload, 1) := by decide +kernel
theorem dL_law_201 : decode cL_law 201 = .ok (.aload_n 0, 1) := by decide +kernel
theorem dL_law_202 : decode cL_law 202 = .ok (.iload_n 3, 1) := by decide +kernel
theorem dL_law_203 : decode cL_law 203 = .ok (.iconst 2, 1) := by decide +kernel
theorem dL_law_204 : decode cL_law 204 = .ok (.iadd, 1) := by decide +kernel
theorem dL_law_205 : decode cL_law 205 = .ok (.iaload, 1) := by decide +kernel
theorem dL_law_206 : decode cL_law 206 = .ok (.invokevirtual 22, 3) := by decide +kernel
theorem dL_law_209 : decode cL_law 209 = .ok (.if_icmp .eq 439, 3) := by decide +kernel
theorem dL_law_212 : decode cL_law 212 = .ok (.iconst 0, 1) := by decide +kernel
theorem dL_law_213 : decode cL_law 213 = .ok (.ireturn, 1) := by decide +kernel
theorem dL_law_214 : decode cL_law 214 = .ok (.aload_n 1, 1) := by decide +kernel
theorem dL_law_215 : decode cL_law 215 = .ok (.aload_n 0, 1) := by decide +kernel
theorem dL_law_216 : decode cL_law 216 = .ok (.iload_n 3, 1) := by decide +kernel
theorem dL_law_217 : decode cL_law 217 = .ok (.iconst 1, 1) := by decide +kernel
theorem dL_law_218 : decode cL_law 218 = .ok (.iadd, 1) := by decide +kernel
theorem dL_law_219 : decode cL_law 219 = .ok (.iaload, 1) := by decide +kernel
theorem dL_law_220 : decode cL_law 220 = .ok (.invokevirtual 23, 3) := by decide +kernel
theorem dL_law_223 : decode cL_law 223 = .ok (.aload_n 2, 1) := by decide +kernel
theorem dL_law_224 : decode cL_law 224 = .ok (.aload_n 0, 1) := by decide +kernel
theorem dL_law_225 : decode cL_law 225 = .ok (.iload_n 3, 1) := by decide +kernel
theorem dL_law_226 : decode cL_law 226 = .ok (.iconst 1, 1) := by decide +kernel
theorem dL_law_227 : decode cL_law 227 = .ok (.iadd, 1) := by decide +kernel
theorem dL_law_228 : decode cL_law 228 = .ok (.iaload, 1) := by decide +kernel
theorem dL_law_229 : decode cL_law 229 = .ok (.invokevirtual 27, 3) := by decide +kernel
theorem dL_law_232 : decode cL_law 232 = .ok (.if_icmp .eq 416, 3) := by decide +kernel
theorem dL_law_235 : decode cL_law 235 = .ok (.iconst 0, 1) := by decide +kernel
theorem dL_law_236 : decode cL_law 236 = .ok (.ireturn, 1) := by decide +kernel
theorem dL_law_237 : decode cL_law 237 = .ok (.aload_n 1, 1) := by decide +kernel
theorem dL_law_238 : decode cL_law 238 = .ok (.aload_n 0, 1) := by decide +kernel
theorem dL_law_239 : decode cL_law 239 = .ok (.iload_n 3, 1) := by decide +kernel
theorem dL_law_240 : decode cL_law 240 = .ok (.iconst 1, 1) := by decide +kernel
theorem dL_law_241 : decode cL_law 241 = .ok (.iadd, 1) := by decide +kernel
theorem dL_law_242 : decode cL_law 242 = .ok (.iaload, 1) := by decide +kernel
theorem dL_law_243 : decode cL_law 243 = .ok (.invokevirtual 28, 3) := by decide +kernel
theorem dL_law_246 : decode cL_law 246 = .ok (.aload_n 2, 1) := by decide +kernel
theorem dL_law_247 : decode cL_law 247 = .ok (.aload_n 0, 1) := by decide +kernel
theorem dL_law_248 : decode cL_law 248 = .ok (.iload_n 3, 1) := by decide +kernel
theorem dL_law_249 : decode cL_law 249 = .ok (.iconst 1, 1) := by decide +kernel
theorem dL_law_250 : decode cL_law 250 = .ok (.iadd, 1) := by decide +kernel
theorem dL_law_251 : decode cL_law 251 = .ok (.iaload, 1) := by decide +kernel
theorem dL_law_252 : decode cL_law 252 = .ok (.invokevirtual 32, 3) := by decide +kernel
theorem dL_law_255 : decode cL_law 255 = .ok (.if_icmp .eq 393, 3) := by decide +kernel
theorem dL_law_258 : decode cL_law 258 = .ok (.iconst 0, 1) := by decide +kernel
theorem dL_law_259 : decode cL_law 259 = .ok (.ireturn, 1) := by decide +kernel
theorem dL_law_260 : decode cL_law 260 = .ok (.aload_n 1, 1) := by decide +kernel
theorem dL_law_261 : decode cL_law 261 = .ok (.aload_n 0, 1) := by decide +kernel
theorem dL_law_262 : decode cL_law 262 = .ok (.iload_n 3, 1) := by decide +kernel
theorem dL_law_263 : decode cL_law 263 = .ok (.iconst 1, 1) := by decide +kernel
theorem dL_law_264 : decode cL_law 264 = .ok (.iadd, 1) := by decide +kernel
theorem dL_law_265 : decode cL_law 265 = .ok (.iaload, 1) := by decide +kernel
theorem dL_law_266 : decode cL_law 266 = .ok (.invokevirtual 33, 3) := by decide +kernel
theorem dL_law_269 : decode cL_law 269 = .ok (.aload_n 2, 1) := by decide +kernel
theorem dL_law_270 : decode cL_law 270 = .ok (.aload_n 0, 1) := by decide +kernel
theorem dL_law_271 : decode cL_law 271 = .ok (.iload_n 3, 1) := by decide +kernel
theorem dL_law_272 : decode cL_law 272 = .ok (.iconst 1, 1) := by decide +kernel
theorem dL_law_273 : decode cL_law 273 = .ok (.iadd, 1) := by decide +kernel
theorem dL_law_274 : decode cL_law 274 = .ok (.iaload, 1) := by decide +kernel
theorem dL_law_275 : decode cL_law 275 = .ok (.invokevirtual 36, 3) := by decide +kernel
theorem dL_law_278 : decode cL_law 278 = .ok (.if_icmp .eq 370, 3) := by decide +kernel
theorem dL_law_281 : decode cL_law 281 = .ok (.iconst 0, 1) := by decide +kernel
theorem dL_law_282 : decode cL_law 282 = .ok (.ireturn, 1) := by decide +kernel
theorem dL_law_283 : decode cL_law 283 = .ok (.aload_n 1, 1) := by decide +kernel
theorem dL_law_284 : decode cL_law 284 = .ok (.aload_n 0, 1) := by decide +kernel
theorem dL_law_285 : decode cL_law 285 = .ok (.iload_n 3, 1) := by decide +kernel
theorem dL_law_286 : decode cL_law 286 = .ok (.iconst 1, 1) := by decide +kernel
theorem dL_law_287 : decode cL_law 287 = .ok (.iadd, 1) := by decide +kernel
theorem dL_law_288 : decode cL_law 288 = .ok (.iaload, 1) := by decide +kernel
theorem dL_law_289 : decode cL_law 289 = .ok (.invokevirtual 37, 3) := by decide +kernel
theorem dL_law_292 : decode cL_law 292 = .ok (.aload_n 2, 1) := by decide +kernel
theorem dL_law_293 : decode cL_law 293 = .ok (.aload_n 0, 1) := by decide +kernel
theorem dL_law_294 : decode cL_law 294 = .ok (.iload_n 3, 1) := by decide +kernel
theorem dL_law_295 : decode cL_law 295 = .ok (.iconst 1, 1) := by decide +kernel
theorem dL_law_296 : decode cL_law 296 = .ok (.iadd, 1) := by decide +kernel
theorem dL_law_297 : decode cL_law 297 = .ok (.iaload, 1) := by decide +kernel
theorem dL_law_298 : decode cL_law 298 = .ok (.invokevirtual 40, 3) := by decide +kernel
theorem dL_law_301 : decode cL_law 301 = .ok (.if_icmp .eq 347, 3) := by decide +kernel
theorem dL_law_304 : decode cL_law 304 = .ok (.iconst 0, 1) := by decide +kernel
theorem dL_law_305 : decode cL_law 305 = .ok (.ireturn, 1) := by decide +kernel
theorem dL_law_306 : decode cL_law 306 = .ok (.aload_n 1, 1) := by decide +kernel
theorem dL_law_307 : decode cL_law 307 = .ok (.aload_n 0, 1) := by decide +kernel
theorem dL_law_308 : decode cL_law 308 = .ok (.iload_n 3, 1) := by decide +kernel
theorem dL_law_309 : decode cL_law 309 = .ok (.iconst 1, 1) := by decide +kernel
theorem dL_law_310 : decode cL_law 310 = .ok (.iadd, 1) := by decide +kernel
theorem dL_law_311 : decode cL_law 311 = .ok (.iaload, 1) := by decide +kernel
theorem dL_law_312 : decode cL_law 312 = .ok (.aload_n 0, 1) := by decide +kernel
theorem dL_law_313 : decode cL_law 313 = .ok (.iload_n 3, 1) := by decide +kernel
theorem dL_law_314 : decode cL_law 314 = .ok (.iconst 2, 1) := by decide +kernel
theorem dL_law_315 : decode cL_law 315 = .ok (.iadd, 1) := by decide +kernel
theorem dL_law_316 : decode cL_law 316 = .ok (.iaload, 1) := by decide +kernel
theorem dL_law_317 : decode cL_law 317 = .ok (.invokevirtual 41, 3) := by decide +kernel
theorem dL_law_320 : decode cL_law 320 = .ok (.aload_n 2, 1) := by decide +kernel
theorem dL_law_321 : decode cL_law 321 = .ok (.aload_n 0, 1) := by decide +kernel
theorem dL_law_322 : decode cL_law 322 = .ok (.iload_n 3, 1) := by decide +kernel
theorem dL_law_323 : decode cL_law 323 = .ok (.iconst 1, 1) := by decide +kernel
theorem dL_law_324 : decode cL_law 324 = .ok (.iadd, 1) := by decide +kernel
theorem dL_law_325 : decode cL_law 325 = .ok (.iaload, 1) := by decide +kernel
theorem dL_law_326 : decode cL_law 326 = .ok (.aload_n 0, 1) := by decide +kernel
theorem dL_law_327 : decode cL_law 327 = .ok (.iload_n 3, 1) := by decide +kernel
theorem dL_law_328 : decode cL_law 328 = .ok (.iconst 2, 1) := by decide +kernel
theorem dL_law_329 : decode cL_law 329 = .ok (.iadd, 1) := by decide +kernel
theorem dL_law_330 : decode cL_law 330 = .ok (.iaload, 1) := by decide +kernel
theorem dL_law_331 : decode cL_law 331 = .ok (.invokevirtual 45, 3) := by decide +kernel
theorem dL_law_334 : decode cL_law 334 = .ok (.if_icmp .eq 314, 3) := by decide +kernel
theorem dL_law_337 : decode cL_law 337 = .ok (.iconst 0, 1) := by decide +kernel
theorem dL_law_338 : decode cL_law 338 = .ok (.ireturn, 1) := by decide +kernel
theorem dL_law_339 : decode cL_law 339 = .ok (.aload_n 1, 1) := by decide +kernel
theorem dL_law_340 : decode cL_law 340 = .ok (.aload_n 0, 1) := by decide +kernel
theorem dL_law_341 : decode cL_law 341 = .ok (.iload_n 3, 1) := by decide +kernel
theorem dL_law_342 : decode cL_law 342 = .ok (.iconst 1, 1) := by decide +kernel
theorem dL_law_343 : decode cL_law 343 = .ok (.iadd, 1) := by decide +kernel
theorem dL_law_344 : decode cL_law 344 = .ok (.iaload, 1) := by decide +kernel
theorem dL_law_345 : decode cL_law 345 = .ok (.aload_n 0, 1) := by decide +kernel
theorem dL_law_346 : decode cL_law 346 = .ok (.iload_n 3, 1) := by decide +kernel
theorem dL_law_347 : decode cL_law 347 = .ok (.iconst 2, 1) := by decide +kernel
theorem dL_law_348 : decode cL_law 348 = .ok (.iadd, 1) := by decide +kernel
theorem dL_law_349 : decode cL_law 349 = .ok (.iaload, 1) := by decide +kernel
theorem dL_law_350 : decode cL_law 350 = .ok (.invokevirtual 46, 3) := by decide +kernel
theorem dL_law_353 : decode cL_law 353 = .ok (.aload_n 2, 1) := by decide +kernel
theorem dL_law_354 : decode cL_law 354 = .ok (.aload_n 0, 1) := by decide +kernel
theorem dL_law_355 : decode cL_law 355 = .ok (.iload_n 3, 1) := by decide +kernel
theorem dL_law_356 : decode cL_law 356 = .ok (.iconst 1, 1) := by decide +kernel
theorem dL_law_357 : decode cL_law 357 = .ok (.iadd, 1) := by decide +kernel
theorem dL_law_358 : decode cL_law 358 = .ok (.iaload, 1) := by decide +kernel
theorem dL_law_359 : decode cL_law 359 = .ok (.aload_n 0, 1) := by decide +kernel
theorem dL_law_360 : decode cL_law 360 = .ok (.iload_n 3, 1) := by decide +kernel
theorem dL_law_361 : decode cL_law 361 = .ok (.iconst 2, 1) := by decide +kernel
theorem dL_law_362 : decode cL_law 362 = .ok (.iadd, 1) := by decide +kernel
theorem dL_law_363 : decode cL_law 363 = .ok (.iaload, 1) := by decide +kernel
theorem dL_law_364 : decode cL_law 364 = .ok (.invokevirtual 49, 3) := by decide +kernel
theorem dL_law_367 : decode cL_law 367 = .ok (.if_icmp .eq 281, 3) := by decide +kernel
theorem dL_law_370 : decode cL_law 370 = .ok (.iconst 0, 1) := by decide +kernel
theorem dL_law_371 : decode cL_law 371 = .ok (.ireturn, 1) := by decide +kernel
theorem dL_law_372 : decode cL_law 372 = .ok (.aload_n 1, 1) := by decide +kernel
theorem dL_law_373 : decode cL_law 373 = .ok (.aload_n 0, 1) := by decide +kernel
theorem dL_law_374 : decode cL_law 374 = .ok (.iload_n 3, 1) := by decide +kernel
theorem dL_law_375 : decode cL_law 375 = .ok (.iconst 1, 1) := by decide +kernel
theorem dL_law_376 : decode cL_law 376 = .ok (.iadd, 1) := by decide +kernel
theorem dL_law_377 : decode cL_law 377 = .ok (.iaload, 1) := by decide +kernel
theorem dL_law_378 : decode cL_law 378 = .ok (.invokevirtual 50, 3) := by decide +kernel
theorem dL_law_381 : decode cL_law 381 = .ok (.aload_n 2, 1) := by decide +kernel
theorem dL_law_382 : decode cL_law 382 = .ok (.aload_n 0, 1) := by decide +kernel
theorem dL_law_383 : decode cL_law 383 = .ok (.iload_n 3, 1) := by decide +kernel
theorem dL_law_384 : decode cL_law 384 = .ok (.iconst 1, 1) := by decide +kernel
theorem dL_law_385 : decode cL_law 385 = .ok (.iadd, 1) := by decide +kernel
theorem dL_law_386 : decode cL_law 386 = .ok (.iaload, 1) := by decide +kernel
theorem dL_law_387 : decode cL_law 387 = .ok (.invokevirtual 53, 3) := by decide +kernel
theorem dL_law_390 : decode cL_law 390 = .ok (.if_icmp .eq 258, 3) := by decide +kernel
theorem dL_law_393 : decode cL_law 393 = .ok (.iconst 0, 1) := by decide +kernel
theorem dL_law_394 : decode cL_law 394 = .ok (.ireturn, 1) := by decide +kernel
theorem dL_law_395 : decode cL_law 395 = .ok (.aload_n 1, 1) := by decide +kernel
theorem dL_law_396 : decode cL_law 396 = .ok (.aload_n 0, 1) := by decide +kernel
theorem dL_law_397 : decode cL_law 397 = .ok (.iload_n 3, 1) := by decide +kernel
theorem dL_law_398 : decode cL_law 398 = .ok (.iconst 1, 1) := by decide +kernel
theorem dL_law_399 : decode cL_law 399 = .ok (.iadd, 1) := by decide +kernel
theorem dL_law_400 : decode cL_law 400 = .ok (.iaload, 1) := by decide +kernel
theorem dL_law_401 : decode cL_law 401 = .ok (.invokevirtual 54, 3) := by decide +kernel
theorem dL_law_404 : decode cL_law 404 = .ok (.aload_n 2, 1) := by decide +kernel
theorem dL_law_405 : decode cL_law 405 = .ok (.aload_n 0, 1) := by decide +kernel
theorem dL_law_406 : decode cL_law 406 = .ok (.iload_n 3, 1) := by decide +kernel
theorem dL_law_407 : decode cL_law 407 = .ok (.iconst 1, 1) := by decide +kernel
theorem dL_law_408 : decode cL_law 408 = .ok (.iadd, 1) := by decide +kernel
theorem dL_law_409 : decode cL_law 409 = .ok (.iaload, 1) := by decide +kernel
theorem dL_law_410 : decode cL_law 410 = .ok (.invokevirtual 57, 3) := by decide +kernel
theorem dL_law_413 : decode cL_law 413 = .ok (.if_icmp .eq 235, 3) := by decide +kernel
theorem dL_law_416 : decode cL_law 416 = .ok (.iconst 0, 1) := by decide +kernel
theorem dL_law_417 : decode cL_law 417 = .ok (.ireturn, 1) := by decide +kernel
theorem dL_law_418 : decode cL_law 418 = .ok (.aload_n 1, 1) := by decide +kernel
theorem dL_law_419 : decode cL_law 419 = .ok (.invokevirtual 58, 3) := by decide +kernel
theorem dL_law_422 : decode cL_law 422 = .ok (.aload_n 2, 1) := by decide +kernel
theorem dL_law_423 : decode cL_law 423 = .ok (.invokevirtual 62, 3) := by decide +kernel
theorem dL_law_426 : decode cL_law 426 = .ok (.if_icmp .eq 222, 3) := by decide +kernel
theorem dL_law_429 : decode cL_law 429 = .ok (.iconst 0, 1) := by decide +kernel
theorem dL_law_430 : decode cL_law 430 = .ok (.ireturn, 1) := by decide +kernel
theorem dL_law_431 : decode cL_law 431 = .ok (.aload_n 1, 1) := by decide +kernel
theorem dL_law_432 : decode cL_law 432 = .ok (.aload_n 0, 1) := by decide +kernel
theorem dL_law_433 : decode cL_law 433 = .ok (.iload_n 3, 1) := by decide +kernel
theorem dL_law_434 : decode cL_law 434 = .ok (.iconst 1, 1) := by decide +kernel
theorem dL_law_435 : decode cL_law 435 = .ok (.iadd, 1) := by decide +kernel
theorem dL_law_436 : decode cL_law 436 = .ok (.iaload, 1) := by decide +kernel
theorem dL_law_437 : decode cL_law 437 = .ok (.invokevirtual 63, 3) := by decide +kernel
theorem dL_law_440 : decode cL_law 440 = .ok (.aload_n 2, 1) := by decide +kernel
theorem dL_law_441 : decode cL_law 441 = .ok (.aload_n 0, 1) := by decide +kernel
theorem dL_law_442 : decode cL_law 442 = .ok (.iload_n 3, 1) := by decide +kernel
theorem dL_law_443 : decode cL_law 443 = .ok (.iconst 1, 1) := by decide +kernel
theorem dL_law_444 : decode cL_law 444 = .ok (.iadd, 1) := by decide +kernel
theorem dL_law_445 : decode cL_law 445 = .ok (.iaload, 1) := by decide +kernel
theorem dL_law_446 : decode cL_law 446 = .ok (.invokevirtual 66, 3) := by decide +kernel
theorem dL_law_449 : decode cL_law 449 = .ok (.if_icmp .eq 199, 3) := by decide +kernel
theorem dL_law_452 : decode cL_law 452 = .ok (.iconst 0, 1) := by decide +kernel
theorem dL_law_453 : decode cL_law 453 = .ok (.ireturn, 1) := by decide +kernel
theorem dL_law_454 : decode cL_law 454 = .ok (.aload_n 1, 1) := by decide +kernel
theorem dL_law_455 : decode cL_law 455 = .ok (.aload_n 0, 1) := by decide +kernel
theorem dL_law_456 : decode cL_law 456 = .ok (.iload_n 3, 1) := by decide +kernel
theorem dL_law_457 : decode cL_law 457 = .ok (.iconst 1, 1) := by decide +kernel
theorem dL_law_458 : decode cL_law 458 = .ok (.iadd, 1) := by decide +kernel
theorem dL_law_459 : decode cL_law 459 = .ok (.iaload, 1) := by decide +kernel
theorem dL_law_460 : decode cL_law 460 = .ok (.invokevirtual 67, 3) := by decide +kernel
theorem dL_law_463 : decode cL_law 463 = .ok (.aload_n 2, 1) := by decide +kernel
theorem dL_law_464 : decode cL_law 464 = .ok (.aload_n 0, 1) := by decide +kernel
theorem dL_law_465 : decode cL_law 465 = .ok (.iload_n 3, 1) := by decide +kernel
theorem dL_law_466 : decode cL_law 466 = .ok (.iconst 1, 1) := by decide +kernel
theorem dL_law_467 : decode cL_law 467 = .ok (.iadd, 1) := by decide +kernel
theorem dL_law_468 : decode cL_law 468 = .ok (.iaload, 1) := by decide +kernel
theorem dL_law_469 : decode cL_law 469 = .ok (.invokevirtual 70, 3) := by decide +kernel
theorem dL_law_472 : decode cL_law 472 = .ok (.if_icmp .eq 176, 3) := by decide +kernel
theorem dL_law_475 : decode cL_law 475 = .ok (.iconst 0, 1) := by decide +kernel
theorem dL_law_476 : decode cL_law 476 = .ok (.ireturn, 1) := by decide +kernel
theorem dL_law_477 : decode cL_law 477 = .ok (.aload_n 1, 1) := by decide +kernel
theorem dL_law_478 : decode cL_law 478 = .ok (.aload_n 0, 1) := by decide +kernel
theorem dL_law_479 : decode cL_law 479 = .ok (.iload_n 3, 1) := by decide +kernel
theorem dL_law_480 : decode cL_law 480 = .ok (.iconst 1, 1) := by decide +kernel
theorem dL_law_481 : decode cL_law 481 = .ok (.iadd, 1) := by decide +kernel
theorem dL_law_482 : decode cL_law 482 = .ok (.iaload, 1) := by decide +kernel
theorem dL_law_483 : decode cL_law 483 = .ok (.aload_n 0, 1) := by decide +kernel
theorem dL_law_484 : decode cL_law 484 = .ok (.iload_n 3, 1) := by decide +kernel
theorem dL_law_485 : decode cL_law 485 = .ok (.iconst 2, 1) := by decide +kernel
theorem dL_law_486 : decode cL_law 486 = .ok (.iadd, 1) := by decide +kernel
theorem dL_law_487 : decode cL_law 487 = .ok (.iaload, 1) := by decide +kernel
theorem dL_law_488 : decode cL_law 488 = .ok (.invokevirtual 71, 3) := by decide +kernel
theorem dL_law_491 : decode cL_law 491 = .ok (.aload_n 2, 1) := by decide +kernel
theorem dL_law_492 : decode cL_law 492 = .ok (.aload_n 0, 1) := by decide +kernel
theorem dL_law_493 : decode cL_law 493 = .ok (.iload_n 3, 1) := by decide +kernel
theorem dL_law_494 : decode cL_law 494 = .ok (.iconst 1, 1) := by decide +kernel
theorem dL_law_495 : decode cL_law 495 = .ok (.iadd, 1) := by decide +kernel
theorem dL_law_496 : decode cL_law 496 = .ok (.iaload, 1) := by decide +kernel
theorem dL_law_497 : decode cL_law 497 = .ok (.aload_n 0, 1) := by decide +kernel
theorem dL_law_498 : decode cL_law 498 = .ok (.iload_n 3, 1) := by decide +kernel
theorem dL_law_499 : decode cL_law 499 = .ok (.iconst 2, 1) := by decide +kernel
theorem dL_law_500 : decode cL_law 500 = .ok (.iadd, 1) := by decide +kernel
theorem dL_law_501 : decode cL_law 501 = .ok (.iaload, 1) := by decide +kernel
theorem dL_law_502 : decode cL_law 502 = .ok (.invokevirtual 74, 3) := by decide +kernel
theorem dL_law_505 : decode cL_law 505 = .ok (.if_icmp .eq 143, 3) := by decide +kernel
theorem dL_law_508 : decode cL_law 508 = .ok (.iconst 0, 1) := by decide +kernel
theorem dL_law_509 : decode cL_law 509 = .ok (.ireturn, 1) := by decide +kernel
theorem dL_law_510 : decode cL_law 510 = .ok (.aload_n 1, 1) := by decide +kernel
theorem dL_law_511 : decode cL_law 511 = .ok (.aload_n 0, 1) := by decide +kernel
theorem dL_law_512 : decode cL_law 512 = .ok (.iload_n 3, 1) := by decide +kernel
theorem dL_law_513 : decode cL_law 513 = .ok (.iconst 1, 1) := by decide +kernel
theorem dL_law_514 : decode cL_law 514 = .ok (.iadd, 1) := by decide +kernel
theorem dL_law_515 : decode cL_law 515 = .ok (.iaload, 1) := by decide +kernel
theorem dL_law_516 : decode cL_law 516 = .ok (.aload_n 0, 1) := by decide +kernel
theorem dL_law_517 : decode cL_law 517 = .ok (.iload_n 3, 1) := by decide +kernel
theorem dL_law_518 : decode cL_law 518 = .ok (.iconst 2, 1) := by decide +kernel
theorem dL_law_519 : decode cL_law 519 = .ok (.iadd, 1) := by decide +kernel
theorem dL_law_520 : decode cL_law 520 = .ok (.iaload, 1) := by decide +kernel
theorem dL_law_521 : decode cL_law 521 = .ok (.invokevirtual 75, 3) := by decide +kernel
theorem dL_law_524 : decode cL_law 524 = .ok (.aload_n 2, 1) := by decide +kernel
theorem dL_law_525 : decode cL_law 525 = .ok (.aload_n 0, 1) := by decide +kernel
theorem dL_law_526 : decode cL_law 526 = .ok (.iload_n 3, 1) := by decide +kernel
theorem dL_law_527 : decode cL_law 527 = .ok (.iconst 1, 1) := by decide +kernel
theorem dL_law_528 : decode cL_law 528 = .ok (.iadd, 1) := by decide +kernel
theorem dL_law_529 : decode cL_law 529 = .ok (.iaload, 1) := by decide +kernel
theorem dL_law_530 : decode cL_law 530 = .ok (.aload_n 0, 1) := by decide +kernel
theorem dL_law_531 : decode cL_law 531 = .ok (.iload_n 3, 1) := by decide +kernel
theorem dL_law_532 : decode cL_law 532 = .ok (.iconst 2, 1) := by decide +kernel
theorem dL_law_533 : decode cL_law 533 = .ok (.iadd, 1) := by decide +kernel
theorem dL_law_534 : decode cL_law 534 = .ok (.iaload, 1) := by decide +kernel
theorem dL_law_535 : decode cL_law 535 = .ok (.invokevirtual 78, 3) := by decide +kernel
theorem dL_law_538 : decode cL_law 538 = .ok (.if_icmp .eq 110, 3) := by decide +kernel
theorem dL_law_541 : decode cL_law 541 = .ok (.iconst 0, 1) := by decide +kernel
theorem dL_law_542 : decode cL_law 542 = .ok (.ireturn, 1) := by decide +kernel
theorem dL_law_543 : decode cL_law 543 = .ok (.aload_n 1, 1) := by decide +kernel
theorem dL_law_544 : decode cL_law 544 = .ok (.aload_n 0, 1) := by decide +kernel
theorem dL_law_545 : decode cL_law 545 = .ok (.iload_n 3, 1) := by decide +kernel
theorem dL_law_546 : decode cL_law 546 = .ok (.iconst 1, 1) := by decide +kernel
theorem dL_law_547 : decode cL_law 547 = .ok (.iadd, 1) := by decide +kernel
theorem dL_law_548 : decode cL_law 548 = .ok (.iaload, 1) := by decide +kernel
theorem dL_law_549 : decode cL_law 549 = .ok (.invokevirtual 79, 3) := by decide +kernel
theorem dL_law_552 : decode cL_law 552 = .ok (.aload_n 2, 1) := by decide +kernel
theorem dL_law_553 : decode cL_law 553 = .ok (.aload_n 0, 1) := by decide +kernel
theorem dL_law_554 : decode cL_law 554 = .ok (.iload_n 3, 1) := by decide +kernel
theorem dL_law_555 : decode cL_law 555 = .ok (.iconst 1, 1) := by decide +kernel
theorem dL_law_556 : decode cL_law 556 = .ok (.iadd, 1) := by decide +kernel
theorem dL_law_557 : decode cL_law 557 = .ok (.iaload, 1) := by decide +kernel
theorem dL_law_558 : decode cL_law 558 = .ok (.invokevirtual 82, 3) := by decide +kernel
theorem dL_law_561 : decode cL_law 561 = .ok (.if_icmp .eq 87, 3) := by decide +kernel
theorem dL_law_564 : decode cL_law 564 = .ok (.iconst 0, 1) := by decide +kernel
theorem dL_law_565 : decode cL_law 565 = .ok (.ireturn, 1) := by decide +kernel
theorem dL_law_566 : decode cL_law 566 = .ok (.aload_n 1, 1) := by decide +kernel
theorem dL_law_567 : decode cL_law 567 = .ok (.aload_n 0, 1) := by decide +kernel
theorem dL_law_568 : decode cL_law 568 = .ok (.iload_n 3, 1) := by decide +kernel
theorem dL_law_569 : decode cL_law 569 = .ok (.iconst 1, 1) := by decide +kernel
theorem dL_law_570 : decode cL_law 570 = .ok (.iadd, 1) := by decide +kernel
theorem dL_law_571 : decode cL_law 571 = .ok (.iaload, 1) := by decide +kernel
theorem dL_law_572 : decode cL_law 572 = .ok (.invokevirtual 83, 3) := by decide +kernel
theorem dL_law_575 : decode cL_law 575 = .ok (.aload_n 2, 1) := by decide +kernel
theorem dL_law_576 : decode cL_law 576 = .ok (.aload_n 0, 1) := by decide +kernel
theorem dL_law_577 : decode cL_law 577 = .ok (.iload_n 3, 1) := by decide +kernel
theorem dL_law_578 : decode cL_law 578 = .ok (.iconst 1, 1) := by decide +kernel
theorem dL_law_579 : decode cL_law 579 = .ok (.iadd, 1) := by decide +kernel
theorem dL_law_580 : decode cL_law 580 = .ok (.iaload, 1) := by decide +kernel
theorem dL_law_581 : decode cL_law 581 = .ok (.invokevirtual 86, 3) := by decide +kernel
theorem dL_law_584 : decode cL_law 584 = .ok (.if_icmp .eq 64, 3) := by decide +kernel
theorem dL_law_587 : decode cL_law 587 = .ok (.iconst 0, 1) := by decide +kernel
theorem dL_law_588 : decode cL_law 588 = .ok (.ireturn, 1) := by decide +kernel
theorem dL_law_589 : decode cL_law 589 = .ok (.aload_n 1, 1) := by decide +kernel
theorem dL_law_590 : decode cL_law 590 = .ok (.aload_n 0, 1) := by decide +kernel
theorem dL_law_591 : decode cL_law 591 = .ok (.iload_n 3, 1) := by decide +kernel
theorem dL_law_592 : decode cL_law 592 = .ok (.iconst 1, 1) := by decide +kernel
theorem dL_law_593 : decode cL_law 593 = .ok (.iadd, 1) := by decide +kernel
theorem dL_law_594 : decode cL_law 594 = .ok (.iaload, 1) := by decide +kernel
theorem dL_law_595 : decode cL_law 595 = .ok (.invokevirtual 87, 3) := by decide +kernel
theorem dL_law_598 : decode cL_law 598 = .ok (.aload_n 2, 1) := by decide +kernel
theorem dL_law_599 : decode cL_law 599 = .ok (.aload_n 0, 1) := by decide +kernel
theorem dL_law_600 : decode cL_law 600 = .ok (.iload_n 3, 1) := by decide +kernel
theorem dL_law_601 : decode cL_law 601 = .ok (.iconst 1, 1) := by decide +kernel
theorem dL_law_602 : decode cL_law 602 = .ok (.iadd, 1) := by decide +kernel
theorem dL_law_603 : decode cL_law 603 = .ok (.iaload, 1) := by decide +kernel
theorem dL_law_604 : decode cL_law 604 = .ok (.invokevirtual 90, 3) := by decide +kernel
theorem dL_law_607 : decode cL_law 607 = .ok (.if_icmp .eq 41, 3) := by decide +kernel
theorem dL_law_610 : decode cL_law 610 = .ok (.iconst 0, 1) := by decide +kernel
theorem dL_law_611 : decode cL_law 611 = .ok (.ireturn, 1) := by decide +kernel
theorem dL_law_612 : decode cL_law 612 = .ok (.aload_n 1, 1) := by decide +kernel
theorem dL_law_613 : decode cL_law 613 = .ok (.invokevirtual 91, 3) := by decide +kernel
theorem dL_law_616 : decode cL_law 616 = .ok (.aload_n 2, 1) := by decide +kernel
theorem dL_law_617 : decode cL_law 617 = .ok (.invokevirtual 94, 3) := by decide +kernel
theorem dL_law_620 : decode cL_law 620 = .ok (.if_icmp .eq 28, 3) := by decide +kernel
theorem dL_law_623 : decode cL_law 623 = .ok (.iconst 0, 1) := by decide +kernel
theorem dL_law_624 : decode cL_law 624 = .ok (.ireturn, 1) := by decide +kernel
theorem dL_law_625 : decode cL_law 625 = .ok (.aload_n 1, 1) := by decide +kernel
theorem dL_law_626 : decode cL_law 626 = .ok (.aload_n 0, 1) := by decide +kernel
theorem dL_law_627 : decode cL_law 627 = .ok (.iload_n 3, 1) := by decide +kernel
theorem dL_law_628 : decode cL_law 628 = .ok (.iconst 1, 1) := by decide +kernel
theorem dL_law_629 : decode cL_law 629 = .ok (.iadd, 1) := by decide +kernel
theorem dL_law_630 : decode cL_law 630 = .ok (.iaload, 1) := by decide +kernel
theorem dL_law_631 : decode cL_law 631 = .ok (.invokevirtual 95, 3) := by decide +kernel
theorem dL_law_634 : decode cL_law 634 = .ok (.aload_n 2, 1) := by decide +kernel
theorem dL_law_635 : decode cL_law 635 = .ok (.aload_n 0, 1) := by decide +kernel
theorem dL_law_636 : decode cL_law 636 = .ok (.iload_n 3, 1) := by decide +kernel
theorem dL_law_637 : decode cL_law 637 = .ok (.iconst 1, 1) := by decide +kernel
theorem dL_law_638 : decode cL_law 638 = .ok (.iadd, 1) := by decide +kernel
theorem dL_law_639 : decode cL_law 639 = .ok (.iaload, 1) := by decide +kernel
theorem dL_law_640 : decode cL_law 640 = .ok (.invokevirtual 98, 3) := by decide +kernel
theorem dL_law_643 : decode cL_law 643 = .ok (.if_icmp .eq 5, 3) := by decide +kernel
theorem dL_law_646 : decode cL_law 646 = .ok (.iconst 0, 1) := by decide +kernel
theorem dL_law_647 : decode cL_law 647 = .ok (.ireturn, 1) := by decide +kernel
theorem dL_law_648 : decode cL_law 648 = .ok (.iinc 3 5, 3) := by decide +kernel
theorem dL_law_651 : decode cL_law 651 = .ok (.goto (-633), 3) := by decide +kernel
theorem dL_law_654 : decode cL_law 654 = .ok (.iconst 1, 1) := by decide +kernel
theorem dL_law_655 : decode cL_law 655 = .ok (.ireturn, 1) := by decide +kernel
