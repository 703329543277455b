theorem dX5_init_46 : decode cX5_init 46 = .ok (.new 23, 3) := by decide +kernel
theorem dX5_init_49 : decode cX5_init 49 = .ok (.dup, 1) := by decide +kernel
theorem dX5_init_50 : decode cX5_init 50 = .ok (.invokespecial 29, 3) := by decide +kernel
theorem dX5_init_53 : decode cX5_init 53 = .ok (.aastore, 1) := by decide +kernel
theorem dX5_init_54 : decode cX5_init 54 = .ok (.iinc 1 1, 3) := by decide +kernel
theorem dX5_init_57 : decode cX5_init 57 = .ok (.goto (-21), 3) := by decide +kernel
theorem dX5_init_60 : decode cX5_init 60 = .ok (.return_, 1) := by decide +kernel
theorem dX5_add_0 : decode cX5_add 0 = .ok (.aload_n 0, 1) := by decide +kernel
theorem dX5_add_1 : decode cX5_add 1 = .ok (.iload_n 1, 1) := by decide +kernel
theorem dX5_add_2 : decode cX5_add 2 = .ok (.invokevirtual 30, 3) := by decide +kernel
theorem dX5_add_5 : decode cX5_add 5 = .ok (.astore 5, 2) := by decide +kernel
theorem dX5_add_7 : decode cX5_add 7 = .ok (.aload 5, 2) := by decide +kernel
theorem dX5_add_9 : decode cX5_add 9 = .ok (.ifnull 32, 3) := by decide +kernel
theorem dX5_add_12 : decode cX5_add 12 = .ok (.aload 5, 2) := by decide +kernel
theorem dX5_add_14 : decode cX5_add 14 = .ok (.invokevirtual 34, 3) := by decide +kernel
theorem dX5_add_17 : decode cX5_add 17 = .ok (.ifCond .ne 24, 3) := by decide +kernel
theorem dX5_add_20 : decode cX5_add 20 = .ok (.aload 5, 2) := by decide +kernel
theorem dX5_add_22 : decode cX5_add 22 = .ok (.getfield 38, 3) := by decide +kernel
theorem dX5_add_25 : decode cX5_add 25 = .ok (.invokevirtual 42, 3) := by decide +kernel
theorem dX5_add_28 : decode cX5_add 28 = .ok (.ifCond .ne 13, 3) := by decide +kernel
theorem dX5_add_31 : decode cX5_add 31 = .ok (.iload_n 2, 1) := by decide +kernel
theorem dX5_add_32 : decode cX5_add 32 = .ok (.iload_n 3, 1) := by decide +kernel
theorem dX5_add_33 : decode cX5_add 33 = .ok (.iload 4, 2) := by decide +kernel
theorem dX5_add_35 : decode cX5_add 35 = .ok (.invokestatic 47, 3) := by decide +kernel
theorem dX5_add_38 : decode cX5_add 38 = .ok (.ifCond .ne 5, 3) := by decide +kernel
theorem dX5_add_41 : decode cX5_add 41 = .ok (.iconst 0, 1) := by decide +kernel
theorem dX5_add_42 : decode cX5_add 42 = .ok (.ireturn, 1) := by decide +kernel
theorem dX5_add_43 : decode cX5_add 43 = .ok (.aload 5, 2) := by decide +kernel
theorem dX5_add_45 : decode cX5_add 45 = .ok (.getfield 38, 3) := by decide +kernel
theorem dX5_add_48 : decode cX5_add 48 = .ok (.iload_n 2, 1) := by decide +kernel
theorem dX5_add_49 : decode cX5_add 49 = .ok (.iload_n 3, 1) := by decide +kernel
theorem dX5_add_50 : decode cX5_add 50 = .ok (.iload 4, 2) := by decide +kernel
theorem dX5_add_52 : decode cX5_add 52 = .ok (.invokevirtual 51, 3) := by decide +kernel
theorem dX5_add_55 : decode cX5_add 55 = .ok (.aload 5, 2) := by decide +kernel
theorem dX5_add_57 : decode cX5_add 57 = .ok (.iconst 0, 1) := by decide +kernel
theorem dX5_add_58 : decode cX5_add 58 = .ok (.putfield 55, 3) := by decide +kernel
theorem dX5_add_61 : decode cX5_add 61 = .ok (.iconst 1, 1) := by decide +kernel
theorem dX5_add_62 : decode cX5_add 62 = .ok (.ireturn, 1) := by decide +kernel
theorem dX5_cut_0 : decode cX5_cut 0 = .ok (.aload_n 0, 1) := by decide +kernel
theorem dX5_cut_1 : decode cX5_cut 1 = .ok (.iload_n 1, 1) := by decide +kernel
theorem dX5_cut_2 : decode cX5_cut 2 = .ok (.invokevirtual 30, 3) := by decide +kernel
theorem dX5_cut_5 : decode cX5_cut 5 = .ok (.astore_n 3, 1) := by decide +kernel
theorem dX5_cut_6 : decode cX5_cut 6 = .ok (.aload_n 3, 1) := by decide +kernel
theorem dX5_cut_7 : decode cX5_cut 7 = .ok (.ifnull 25, 3) := by decide +kernel
theorem dX5_cut_10 : decode cX5_cut 10 = .ok (.aload_n 3, 1) := by decide +kernel
theorem dX5_cut_11 : decode cX5_cut 11 = .ok (.invokevirtual 34, 3) := by decide +kernel
theorem dX5_cut_14 : decode cX5_cut 14 = .ok (.ifCond .ne 18, 3) := by decide +kernel
theorem dX5_cut_17 : decode cX5_cut 17 = .ok (.iload_n 2, 1) := by decide +kernel
theorem dX5_cut_18 : decode cX5_cut 18 = .ok (.ifCond .lt 14, 3) := by decide +kernel
theorem dX5_cut_21 : decode cX5_cut 21 = .ok (.iload_n 2, 1) := by decide +kernel
theorem dX5_cut_22 : decode cX5_cut 22 = .ok (.aload_n 3, 1) := by decide +kernel
theorem dX5_cut_23 : decode cX5_cut 23 = .ok (.getfield 38, 3) := by decide +kernel
theorem dX5_cut_26 : decode cX5_cut 26 = .ok (.getfield 59, 3) := by decide +kernel
theorem dX5_cut_29 : decode cX5_cut 29 = .ok (.if_icmp .le 5, 3) := by decide +kernel
theorem dX5_cut_32 : decode cX5_cut 32 = .ok (.iconst 0, 1) := by decide +kernel
theorem dX5_cut_33 : decode cX5_cut 33 = .ok (.ireturn, 1) := by decide +kernel
theorem dX5_cut_34 : decode cX5_cut 34 = .ok (.aload_n 3, 1) := by decide +kernel
theorem dX5_cut_35 : decode cX5_cut 35 = .ok (.getfield 38, 3) := by decide +kernel
theorem dX5_cut_38 : decode cX5_cut 38 = .ok (.iload_n 2, 1) := by decide +kernel
theorem dX5_cut_39 : decode cX5_cut 39 = .ok (.putfield 59, 3) := by decide +kernel
theorem dX5_cut_42 : decode cX5_cut 42 = .ok (.aload_n 3, 1) := by decide +kernel
theorem dX5_cut_43 : decode cX5_cut 43 = .ok (.iconst 0, 1) := by decide +kernel
theorem dX5_cut_44 : decode cX5_cut 44 = .ok (.putfield 55, 3) := by decide +kernel
theorem dX5_cut_47 : decode cX5_cut 47 = .ok (.iconst 1, 1) := by decide +kernel
theorem dX5_cut_48 : decode cX5_cut 48 = .ok (.ireturn, 1) := by decide +kernel
theorem dX5_check_0 : decode cX5_check 0 = .ok (.aload_n 0, 1) := by decide +kernel
theorem dX5_check_1 : decode cX5_check 1 = .ok (.iload_n 1, 1) := by decide +kernel
theorem dX5_check_2 : decode cX5_check 2 = .ok (.invokevirtual 30, 3) := by decide +kernel
theorem dX5_check_5 : decode cX5_check 5 = .ok (.astore_n 2, 1) := by decide +kernel
theorem dX5_check_6 : decode cX5_check 6 = .ok (.aload_n 2, 1) := by decide +kernel
theorem dX5_check_7 : decode cX5_check 7 = .ok (.ifnonnull 8, 3) := by decide +kernel
theorem dX5_check_10 : decode cX5_check 10 = .ok (.bipush (-2), 2) := by decide +kernel
theorem dX5_check_12 : decode cX5_check 12 = .ok (.goto 10, 3) := by decide +kernel
theorem dX5_check_15 : decode cX5_check 15 = .ok (.aload_n 2, 1) := by decide +kernel
theorem dX5_check_16 : decode cX5_check 16 = .ok (.getfield 38, 3) := by decide +kernel
theorem dX5_check_19 : decode cX5_check 19 = .ok (.invokevirtual 62, 3) := by decide +kernel
theorem dX5_check_22 : decode cX5_check 22 = .ok (.ireturn, 1) := by decide +kernel
theorem dX5_start_0 : decode cX5_start 0 = .ok (.aload_n 0, 1) := by decide +kernel
theorem dX5_start_1 : decode cX5_start 1 = .ok (.iload_n 1, 1) := by decide +kernel
theorem dX5_start_2 : decode cX5_start 2 = .ok (.invokevirtual 30, 3) := by decide +kernel
theorem dX5_start_5 : decode cX5_start 5 = .ok (.astore_n 2, 1) := by decide +kernel
theorem dX5_start_6 : decode cX5_start 6 = .ok (.aload_n 2, 1) := by decide +kernel
theorem dX5_start_7 : decode cX5_start 7 = .ok (.ifnull 21, 3) := by decide +kernel
theorem dX5_start_10 : decode cX5_start 10 = .ok (.aload_n 2, 1) := by decide +kernel
theorem dX5_start_11 : decode cX5_start 11 = .ok (.invokevirtual 34, 3) := by decide +kernel
theorem dX5_start_14 : decode cX5_start 14 = .ok (.ifCond .ne 14, 3) := by decide +kernel
theorem dX5_start_17 : decode cX5_start 17 = .ok (.aload_n 2, 1) := by decide +kernel
theorem dX5_start_18 : decode cX5_start 18 = .ok (.getfield 38, 3) := by decide +kernel
theorem dX5_start_21 : decode cX5_start 21 = .ok (.invokevirtual 62, 3) := by decide +kernel
theorem dX5_start_24 : decode cX5_start 24 = .ok (.iconst (-1), 1) := by decide +kernel
theorem dX5_start_25 : decode cX5_start 25 = .ok (.if_icmp .eq 5, 3) := by decide +kernel
theorem dX5_start_28 : decode cX5_start 28 = .ok (.iconst 0, 1) := by decide +kernel
theorem dX5_start_29 : decode cX5_start 29 = .ok (.ireturn, 1) := by decide +kernel
theorem dX5_start_30 : decode cX5_start 30 = .ok (.aload_n 2, 1) := by decide +kernel
theorem dX5_start_31 : decode cX5_start 31 = .ok (.invokevirtual 66, 3) := by decide +kernel
theorem dX5_start_34 : decode cX5_start 34 = .ok (.iconst 1, 1) := by decide +kernel
theorem dX5_start_35 : decode cX5_start 35 = .ok (.ireturn, 1) := by decide +kernel
theorem dX5_stop_0 : decode cX5_stop 0 = .ok (.aload_n 0, 1) := by decide +kernel
theorem dX5_stop_1 : decode cX5_stop 1 = .ok (.iload_n 1, 1) := by decide +kernel
theorem dX5_stop_2 : decode cX5_stop 2 = .ok (.invokevirtual 30, 3) := by decide +kernel
theorem dX5_stop_5 : decode cX5_stop 5 = .ok (.astore_n 2, 1) := by decide +kernel
theorem dX5_stop_6 : decode cX5_stop 6 = .ok (.aload_n 2, 1) := by decide +kernel
theorem dX5_stop_7 : decode cX5_stop 7 = .ok (.ifnull 10, 3) := by decide +kernel
theorem dX5_stop_10 : decode cX5_stop 10 = .ok (.aload_n 2, 1) := by decide +kernel
theorem dX5_stop_11 : decode cX5_stop 11 = .ok (.invokevirtual 34, 3) := by decide +kernel
theorem dX5_stop_14 : decode cX5_stop 14 = .ok (.ifCond .ne 5, 3) := by decide +kernel
theorem dX5_stop_17 : decode cX5_stop 17 = .ok (.iconst 0, 1) := by decide +kernel
theorem dX5_stop_18 : decode cX5_stop 18 = .ok (.ireturn, 1) := by decide +kernel
theorem dX5_stop_19 : decode cX5_stop 19 = .ok (.aload_n 2, 1) := by decide +kernel
theorem dX5_stop_20 : decode cX5_stop 20 = .ok (.invokevirtual 69, 3) := by decide +kernel
theorem dX5_stop_23 : decode cX5_stop 23 = .ok (.aload_n 2, 1) := by decide +kernel
theorem dX5_stop_24 : decode cX5_stop 24 = .ok (.iconst 0, 1) := by decide +kernel
theorem dX5_stop_25 : decode cX5_stop 25 = .ok (.putfield 55, 3) := by decide +kernel
theorem dX5_stop_28 : decode cX5_stop 28 = .ok (.iconst 1, 1) := by decide +kernel
theorem dX5_stop_29 : decode cX5_stop 29 = .ok (.ireturn, 1) := by decide +kernel
theorem dX5_step_0 : decode cX5_step 0 = .ok (.aload_n 0, 1) := by decide +kernel
theorem dX5_step_1 : decode cX5_step 1 = .ok (.iload_n 1, 1) := by decide +kernel
theorem dX5_step_2 : decode cX5_step 2 = .ok (.invokevirtual 30, 3) := by decide +kernel
theorem dX5_step_5 : decode cX5_step 5 = .ok (.astore_n 2, 1) := by decide +kernel
theorem dX5_step_6 : decode cX5_step 6 = .ok (.aload_n 2, 1) := by decide +kernel
theorem dX5_step_7 : decode cX5_step 7 = .ok (.ifnull 11, 3) := by decide +kernel
theorem dX5_step_10 : decode cX5_step 10 = .ok (.aload_n 2, 1) := by decide +kernel
theorem dX5_step_11 : decode cX5_step 11 = .ok (.getfield 55, 3) := by decide +kernel
theorem dX5_step_14 : decode cX5_step 14 = .ok (.iconst 1, 1) := by decide +kernel
theorem dX5_step_15 : decode cX5_step 15 = .ok (.if_icmp .eq 7, 3) := by decide +kernel
theorem dX5_step_18 : decode cX5_step 18 = .ok (.iconst (-1), 1) := by decide +kernel
theorem dX5_step_19 : decode cX5_step 19 = .ok (.goto 8, 3) := by decide +kernel
theorem dX5_step_22 : decode cX5_step 22 = .ok (.aload_n 0, 1) := by decide +kernel
theorem dX5_step_23 : decode cX5_step 23 = .ok (.aload_n 2, 1) := by decide +kernel
theorem dX5_step_24 : decode cX5_step 24 = .ok (.invokevirtual 72, 3) := by decide +kernel
theorem dX5_step_27 : decode cX5_step 27 = .ok (.ireturn, 1) := by decide +kernel
theorem dX5_run_0 : decode cX5_run 0 = .ok (.iload_n 2, 1) := by decide +kernel
theorem dX5_run_1 : decode cX5_run 1 = .ok (.ifCond .lt 9, 3) := by decide +kernel
theorem dX5_run_4 : decode cX5_run 4 = .ok (.iload_n 2, 1) := by decide +kernel
theorem dX5_run_5 : decode cX5_run 5 = .ok (.bipush 16, 2) := by decide +kernel
theorem dX5_run_7 : decode cX5_run 7 = .ok (.if_icmp .le 5, 3) := by decide +kernel
theorem dX5_run_10 : decode cX5_run 10 = .ok (.iconst (-1), 1) := by decide +kernel
theorem dX5_run_11 : decode cX5_run 11 = .ok (.ireturn, 1) := by decide +kernel
theorem dX5_run_12 : decode cX5_run 12 = .ok (.iconst 0, 1) := by decide +kernel
theorem dX5_run_13 : decode cX5_run 13 = .ok (.istore_n 3, 1) := by decide +kernel
theorem dX5_run_14 : decode cX5_run 14 = .ok (.iconst 0, 1) := by decide +kernel
theorem dX5_run_15 : decode cX5_run 15 = .ok (.istore 4, 2) := by decide +kernel
theorem dX5_run_17 : decode cX5_run 17 = .ok (.iload 4, 2) := by decide +kernel
theorem dX5_run_19 : decode cX5_run 19 = .ok (.iload_n 2, 1) := by decide +kernel
theorem dX5_run_20 : decode cX5_run 20 = .ok (.if_icmp .ge 47, 3) := by decide +kernel
theorem dX5_run_23 : decode cX5_run 23 = .ok (.aload_n 0, 1) := by decide +kernel
theorem dX5_run_24 : decode cX5_run 24 = .ok (.iload_n 1, 1) := by decide +kernel
theorem dX5_run_25 : decode cX5_run 25 = .ok (.iconst 2, 1) := by decide +kernel
theorem dX5_run_26 : decode cX5_run 26 = .ok (.iload 4, 2) := by decide +kernel
theorem dX5_run_28 : decode cX5_run 28 = .ok (.imul, 1) := by decide +kernel
theorem dX5_run_29 : decode cX5_run 29 = .ok (.ishr, 1) := by decide +kernel
theorem dX5_run_30 : decode cX5_run 30 = .ok (.iconst 3, 1) := by decide +kernel
theorem dX5_run_31 : decode cX5_run 31 = .ok (.iand, 1) := by decide +kernel
theorem dX5_run_32 : decode cX5_run 32 = .ok (.invokevirtual 30, 3) := by decide +kernel
theorem dX5_run_35 : decode cX5_run 35 = .ok (.astore 5, 2) := by decide +kernel
theorem dX5_run_37 : decode cX5_run 37 = .ok (.aload 5, 2) := by decide +kernel
theorem dX5_run_39 : decode cX5_run 39 = .ok (.ifnull 22, 3) := by decide +kernel
theorem dX5_run_42 : decode cX5_run 42 = .ok (.aload 5, 2) := by decide +kernel
theorem dX5_run_44 : decode cX5_run 44 = .ok (.getfield 55, 3) := by decide +kernel
theorem dX5_run_47 : decode cX5_run 47 = .ok (.iconst 1, 1) := by decide +kernel
theorem dX5_run_48 : decode cX5_run 48 = .ok (.if_icmp .ne 13, 3) := by decide +kernel
theorem dX5_run_51 : decode cX5_run 51 = .ok (.aload_n 0, 1) := by decide +kernel
theorem dX5_run_52 : decode cX5_run 52 = .ok (.aload 5, 2) := by decide +kernel
theorem dX5_run_54 : decode cX5_run 54 = .ok (.invokevirtual 72, 3) := by decide +kernel
theorem dX5_run_57 : decode cX5_run 57 = .ok (.pop, 1) := by decide +kernel
theorem dX5_run_58 : decode cX5_run 58 = .ok (.iinc 3 1, 3) := by decide +kernel
theorem dX5_run_61 : decode cX5_run 61 = .ok (.iinc 4 1, 3) := by decide +kernel
theorem dX5_run_64 : decode cX5_run 64 = .ok (.goto (-47), 3) := by decide +kernel
theorem dX5_run_67 : decode cX5_run 67 = .ok (.iload_n 3, 1) := by decide +kernel
theorem dX5_run_68 : decode cX5_run 68 = .ok (.ireturn, 1) := by decide +kernel
theorem dX5_put_0 : decode cX5_put 0 = .ok (.iload_n 1, 1) := by decide +kernel
theorem dX5_put_1 : decode cX5_put 1 = .ok (.invokestatic 76, 3) := by decide +kernel
theorem dX5_put_4 : decode cX5_put 4 = .ok (.ifCond .ne 5, 3) := by decide +kernel
theorem dX5_put_7 : decode cX5_put 7 = .ok (.iconst 0, 1) := by decide +kernel
theorem dX5_put_8 : decode cX5_put 8 = .ok (.ireturn, 1) := by decide +kernel
theorem dX5_put_9 : decode cX5_put 9 = .ok (.aload_n 0, 1) := by decide +kernel
theorem dX5_put_10 : decode cX5_put 10 = .ok (.getfield 10, 3) := by decide +kernel
theorem dX5_put_13 : decode cX5_put 13 = .ok (.invokevirtual 80, 3) := by decide +kernel
theorem dX5_put_16 : decode cX5_put 16 = .ok (.aload_n 0, 1) := by decide +kernel
theorem dX5_put_17 : decode cX5_put 17 = .ok (.getfield 10, 3) := by decide +kernel
theorem dX5_put_20 : decode cX5_put 20 = .ok (.iload_n 1, 1) := by decide +kernel
theorem dX5_put_21 : decode cX5_put 21 = .ok (.iload_n 2, 1) := by decide +kernel
theorem dX5_put_22 : decode cX5_put 22 = .ok (.invokevirtual 83, 3) := by decide +kernel
theorem dX5_put_25 : decode cX5_put 25 = .ok (.aload_n 0, 1) := by decide +kernel
theorem dX5_put_26 : decode cX5_put 26 = .ok (.iconst 1, 1) := by decide +kernel
theorem dX5_put_27 : decode cX5_put 27 = .ok (.iload_n 1, 1) := by decide +kernel
theorem dX5_put_28 : decode cX5_put 28 = .ok (.ishl, 1) := by decide +kernel
theorem dX5_put_29 : decode cX5_put 29 = .ok (.invokevirtual 87, 3) := by decide +kernel
theorem dX5_put_32 : decode cX5_put 32 = .ok (.iconst 1, 1) := by decide +kernel
theorem dX5_put_33 : decode cX5_put 33 = .ok (.ireturn, 1) := by decide +kernel
theorem dX5_value_0 : decode cX5_value 0 = .ok (.iload_n 1, 1) := by decide +kernel
theorem dX5_value_1 : decode cX5_value 1 = .ok (.invokestatic 76, 3) := by decide +kernel
theorem dX5_value_4 : decode cX5_value 4 = .ok (.ifCond .eq 15, 3) := by decide +kernel
theorem dX5_value_7 : decode cX5_value 7 = .ok (.aload_n 0, 1) := by decide +kernel
theorem dX5_value_8 : decode cX5_value 8 = .ok (.getfield 10, 3) := by decide +kernel
theorem dX5_value_11 : decode cX5_value 11 = .ok (.getfield 91, 3) := by decide +kernel
theorem dX5_value_14 : decode cX5_value 14 = .ok (.iload_n 1, 1) := by decide +kernel
theorem dX5_value_15 : decode cX5_value 15 = .ok (.iaload, 1) := by decide +kernel
theorem dX5_value_16 : decode cX5_value 16 = .ok (.goto 4, 3) := by decide +kernel
theorem dX5_value_19 : decode cX5_value 19 = .ok (.iconst 0, 1) := by decide +kernel
theorem dX5_value_20 : decode cX5_value 20 = .ok (.ireturn, 1) := by decide +kernel
theorem dX5_version_0 : decode cX5_version 0 = .ok (.iload_n 1, 1) := by decide +kernel
theorem dX5_version_1 : decode cX5_version 1 = .ok (.invokestatic 76, 3) := by decide +kernel
theorem dX5_version_4 : decode cX5_version 4 = .ok (.ifCond .eq 15, 3) := by decide +kernel
theorem dX5_version_7 : decode cX5_version 7 = .ok (.aload_n 0, 1) := by decide +kernel
theorem dX5_version_8 : decode cX5_version 8 = .ok (.getfield 10, 3) := by decide +kernel
theorem dX5_version_11 : decode cX5_version 11 = .ok (.getfield 95, 3) := by decide +kernel
theorem dX5_version_14 : decode cX5_version 14 = .ok (.iload_n 1, 1) := by decide +kernel
theorem dX5_version_15 : decode cX5_version 15 = .ok (.iaload, 1) := by decide +kernel
theorem dX5_version_16 : decode cX5_version 16 = .ok (.goto 4, 3) := by decide +kernel
theorem dX5_version_19 : decode cX5_version 19 = .ok (.iconst 0, 1) := by decide +kernel
theorem dX5_version_20 : decode cX5_version 20 = .ok (.ireturn, 1) := by decide +kernel
theorem dX5_commits_0 : decode cX5_commits 0 = .ok (.aload_n 0, 1) := by decide +kernel
theorem dX5_commits_1 : decode cX5_commits 1 = .ok (.getfield 10, 3) := by decide +kernel
theorem dX5_commits_4 : decode cX5_commits 4 = .ok (.getfield 98, 3) := by decide +kernel
theorem dX5_commits_7 : decode cX5_commits 7 = .ok (.ireturn, 1) := by decide +kernel
theorem dX5_state_0 : decode cX5_state 0 = .ok (.aload_n 0, 1) := by decide +kernel
theorem dX5_state_1 : decode cX5_state 1 = .ok (.iload_n 1, 1) := by decide +kernel
theorem dX5_state_2 : decode cX5_state 2 = .ok (.invokevirtual 30, 3) := by decide +kernel
theorem dX5_state_5 : decode cX5_state 5 = .ok (.astore_n 2, 1) := by decide +kernel
theorem dX5_state_6 : decode cX5_state 6 = .ok (.aload_n 2, 1) := by decide +kernel
theorem dX5_state_7 : decode cX5_state 7 = .ok (.ifnonnull 7, 3) := by decide +kernel
theorem dX5_state_10 : decode cX5_state 10 = .ok (.iconst (-1), 1) := by decide +kernel
theorem dX5_state_11 : decode cX5_state 11 = .ok (.goto 7, 3) := by decide +kernel
theorem dX5_state_14 : decode cX5_state 14 = .ok (.aload_n 2, 1) := by decide +kernel
theorem dX5_state_15 : decode cX5_state 15 = .ok (.getfield 55, 3) := by decide +kernel
theorem dX5_state_18 : decode cX5_state 18 = .ok (.ireturn, 1) := by decide +kernel
theorem dX5_place_0 : decode cX5_place 0 = .ok (.aload_n 0, 1) := by decide +kernel
theorem dX5_place_1 : decode cX5_place 1 = .ok (.iload_n 1, 1) := by decide +kernel
theorem dX5_place_2 : decode cX5_place 2 = .ok (.invokevirtual 30, 3) := by decide +kernel
theorem dX5_place_5 : decode cX5_place 5 = .ok (.astore_n 2, 1) := by decide +kernel
theorem dX5_place_6 : decode cX5_place 6 = .ok (.aload_n 2, 1) := by decide +kernel
theorem dX5_place_7 : decode cX5_place 7 = .ok (.ifnull 10, 3) := by decide +kernel
theorem dX5_place_10 : decode cX5_place 10 = .ok (.aload_n 2, 1) := by decide +kernel
theorem dX5_place_11 : decode cX5_place 11 = .ok (.invokevirtual 34, 3) := by decide +kernel
theorem dX5_place_14 : decode cX5_place 14 = .ok (.ifCond .ne 7, 3) := by decide +kernel
theorem dX5_place_17 : decode cX5_place 17 = .ok (.iconst (-1), 1) := by decide +kernel
theorem dX5_place_18 : decode cX5_place 18 = .ok (.goto 7, 3) := by decide +kernel
theorem dX5_place_21 : decode cX5_place 21 = .ok (.aload_n 2, 1) := by decide +kernel
theorem dX5_place_22 : decode cX5_place 22 = .ok (.getfield 101, 3) := by decide +kernel
theorem dX5_place_25 : decode cX5_place 25 = .ok (.ireturn, 1) := by decide +kernel
theorem dX5_register_0 : decode cX5_register 0 = .ok (.aload_n 0, 1) := by decide +kernel
theorem dX5_register_1 : decode cX5_register 1 = .ok (.iload_n 1, 1) := by decide +kernel
theorem dX5_register_2 : decode cX5_register 2 = .ok (.invokevirtual 30, 3) := by decide +kernel
theorem dX5_register_5 : decode cX5_register 5 = .ok (.astore_n 3, 1) := by decide +kernel
theorem dX5_register_6 : decode cX5_register 6 = .ok (.aload_n 3, 1) := by decide +kernel
theorem dX5_register_7 : decode cX5_register 7 = .ok (.ifnonnull 7, 3) := by decide +kernel
theorem dX5_register_10 : decode cX5_register 10 = .ok (.iconst 0, 1) := by decide +kernel
theorem dX5_register_11 : decode cX5_register 11 = .ok (.goto 8, 3) := by decide +kernel
theorem dX5_register_14 : decode cX5_register 14 = .ok (.aload_n 3, 1) := by decide +kernel
theorem dX5_register_15 : decode cX5_register 15 = .ok (.iload_n 2, 1) := by decide +kernel
theorem dX5_register_16 : decode cX5_register 16 = .ok (.invokevirtual 104, 3) := by decide +kernel
theorem dX5_register_19 : decode cX5_register 19 = .ok (.ireturn, 1) := by decide +kernel
theorem dX5_sees_0 : decode cX5_sees 0 = .ok (.aload_n 0, 1) := by decide +kernel
theorem dX5_sees_1 : decode cX5_sees 1 = .ok (.iload_n 1, 1) := by decide +kernel
theorem dX5_sees_2 : decode cX5_sees 2 = .ok (.invokevirtual 30, 3) := by decide +kernel
theorem dX5_sees_5 : decode cX5_sees 5 = .ok (.astore_n 3, 1) := by decide +kernel
theorem dX5_sees_6 : decode cX5_sees 6 = .ok (.aload_n 3, 1) := by decide +kernel
theorem dX5_sees_7 : decode cX5_sees 7 = .ok (.ifnull 10, 3) := by decide +kernel
theorem dX5_sees_10 : decode cX5_sees 10 = .ok (.iload_n 2, 1) := by decide +kernel
theorem dX5_sees_11 : decode cX5_sees 11 = .ok (.invokestatic 76, 3) := by decide +kernel
theorem dX5_sees_14 : decode cX5_sees 14 = .ok (.ifCond .ne 5, 3) := by decide +kernel
theorem dX5_sees_17 : decode cX5_sees 17 = .ok (.iconst 0, 1) := by decide +kernel
theorem dX5_sees_18 : decode cX5_sees 18 = .ok (.ireturn, 1) := by decide +kernel
theorem dX5_sees_19 : decode cX5_sees 19 = .ok (.aload_n 3, 1) := by decide +kernel
theorem dX5_sees_20 : decode cX5_sees 20 = .ok (.iload_n 2, 1) := by decide +kernel
theorem dX5_sees_21 : decode cX5_sees 21 = .ok (.invokevirtual 108, 3) := by decide +kernel
theorem dX5_sees_24 : decode cX5_sees 24 = .ok (.ifCond .eq 12, 3) := by decide +kernel
theorem dX5_sees_27 : decode cX5_sees 27 = .ok (.aload_n 3, 1) := by decide +kernel
theorem dX5_sees_28 : decode cX5_sees 28 = .ok (.getfield 111, 3) := by decide +kernel
theorem dX5_sees_31 : decode cX5_sees 31 = .ok (.iload_n 2, 1) := by decide +kernel
theorem dX5_sees_32 : decode cX5_sees 32 = .ok (.iaload, 1) := by decide +kernel
theorem dX5_sees_33 : decode cX5_sees 33 = .ok (.goto 12, 3) := by decide +kernel
theorem dX5_sees_36 : decode cX5_sees 36 = .ok (.aload_n 0, 1) := by decide +kernel
theorem dX5_sees_37 : decode cX5_sees 37 = .ok (.getfield 10, 3) := by decide +kernel
theorem dX5_sees_40 : decode cX5_sees 40 = .ok (.getfield 91, 3) := by decide +kernel
theorem dX5_sees_43 : decode cX5_sees 43 = .ok (.iload_n 2, 1) := by decide +kernel
theorem dX5_sees_44 : decode cX5_sees 44 = .ok (.iaload, 1) := by decide +kernel
theorem dX5_sees_45 : decode cX5_sees 45 = .ok (.ireturn, 1) := by decide +kernel
theorem dX5_log_0 : decode cX5_log 0 = .ok (.aload_n 0, 1) := by decide +kernel
theorem dX5_log_1 : decode cX5_log 1 = .ok (.iload_n 1, 1) := by decide +kernel
theorem dX5_log_2 : decode cX5_log 2 = .ok (.invokevirtual 30, 3) := by decide +kernel
theorem dX5_log_5 : decode cX5_log 5 = .ok (.astore_n 2, 1) := by decide +kernel
theorem dX5_log_6 : decode cX5_log 6 = .ok (.aload_n 2, 1) := by decide +kernel
theorem dX5_log_7 : decode cX5_log 7 = .ok (.ifnonnull 7, 3) := by decide +kernel
theorem dX5_log_10 : decode cX5_log 10 = .ok (.iconst 0, 1) := by decide +kernel
theorem dX5_log_11 : decode cX5_log 11 = .ok (.goto 15, 3) := by decide +kernel
theorem dX5_log_14 : decode cX5_log 14 = .ok (.aload_n 2, 1) := by decide +kernel
theorem dX5_log_15 : decode cX5_log 15 = .ok (.getfield 114, 3) := by decide +kernel
theorem dX5_log_18 : decode cX5_log 18 = .ok (.aload_n 2, 1) := by decide +kernel
theorem dX5_log_19 : decode cX5_log 19 = .ok (.getfield 117, 3) := by decide +kernel
theorem dX5_log_22 : decode cX5_log 22 = .ok (.bipush 8, 2) := by decide +kernel
theorem dX5_log_24 : decode cX5_log 24 = .ok (.ishl, 1) := by decide +kernel
theorem dX5_log_25 : decode cX5_log 25 = .ok (.iadd, 1) := by decide +kernel
theorem dX5_log_26 : decode cX5_log 26 = .ok (.ireturn, 1) := by decide +kernel
theorem dX5_waiting_0 : decode cX5_waiting 0 = .ok (.iload_n 1, 1) := by decide +kernel
theorem dX5_waiting_1 : decode cX5_waiting 1 = .ok (.invokestatic 76, 3) := by decide +kernel
theorem dX5_waiting_4 : decode cX5_waiting 4 = .ok (.ifCond .ne 5, 3) := by decide +kernel
theorem dX5_waiting_7 : decode cX5_waiting 7 = .ok (.iconst 0, 1) := by decide +kernel
theorem dX5_waiting_8 : decode cX5_waiting 8 = .ok (.ireturn, 1) := by decide +kernel
theorem dX5_waiting_9 : decode cX5_waiting 9 = .ok (.iconst 0, 1) := by decide +kernel
theorem dX5_waiting_10 : decode cX5_waiting 10 = .ok (.istore_n 2, 1) := by decide +kernel
theorem dX5_waiting_11 : decode cX5_waiting 11 = .ok (.iconst 0, 1) := by decide +kernel
theorem dX5_waiting_12 : decode cX5_waiting 12 = .ok (.istore_n 3, 1) := by decide +kernel
theorem dX5_waiting_13 : decode cX5_waiting 13 = .ok (.iload_n 3, 1) := by decide +kernel
theorem dX5_waiting_14 : decode cX5_waiting 14 = .ok (.iconst 4, 1) := by decide +kernel
theorem dX5_waiting_15 : decode cX5_waiting 15 = .ok (.if_icmp .ge 27, 3) := by decide +kernel
theorem dX5_waiting_18 : decode cX5_waiting 18 = .ok (.aload_n 0, 1) := by decide +kernel
theorem dX5_waiting_19 : decode cX5_waiting 19 = .ok (.getfield 25, 3) := by decide +kernel
theorem dX5_waiting_22 : decode cX5_waiting 22 = .ok (.iload_n 3, 1) := by decide +kernel
theorem dX5_waiting_23 : decode cX5_waiting 23 = .ok (.aaload, 1) := by decide +kernel
theorem dX5_waiting_24 : decode cX5_waiting 24 = .ok (.iconst 1, 1) := by decide +kernel
theorem dX5_waiting_25 : decode cX5_waiting 25 = .ok (.iload_n 1, 1) := by decide +kernel
theorem dX5_waiting_26 : decode cX5_waiting 26 = .ok (.ishl, 1) := by decide +kernel
theorem dX5_waiting_27 : decode cX5_waiting 27 = .ok (.invokevirtual 120, 3) := by decide +kernel
theorem dX5_waiting_30 : decode cX5_waiting 30 = .ok (.ifCond .eq 6, 3) := by decide +kernel
theorem dX5_waiting_33 : decode cX5_waiting 33 = .ok (.iinc 2 1, 3) := by decide +kernel
theorem dX5_waiting_36 : decode cX5_waiting 36 = .ok (.iinc 3 1, 3) := by decide +kernel
theorem dX5_waiting_39 : decode cX5_waiting 39 = .ok (.goto (-26), 3) := by decide +kernel
theorem dX5_waiting_42 : decode cX5_waiting 42 = .ok (.iload_n 2, 1) := by decide +kernel
theorem dX5_waiting_43 : decode cX5_waiting 43 = .ok (.ireturn, 1) := by decide +kernel
theorem dX5_discards_0 : decode cX5_discards 0 = .ok (.aload_n 0, 1) := by decide +kernel
theorem dX5_discards_1 : decode cX5_discards 1 = .ok (.iload_n 1, 1) := by decide +kernel
theorem dX5_discards_2 : decode cX5_discards 2 = .ok (.invokevirtual 30, 3) := by decide +kernel
theorem dX5_discards_5 : decode cX5_discards 5 = .ok (.astore_n 2, 1) := by decide +kernel
theorem dX5_discards_6 : decode cX5_discards 6 = .ok (.aload_n 2, 1) := by decide +kernel
theorem dX5_discards_7 : decode cX5_discards 7 = .ok (.ifnonnull 7, 3) := by decide +kernel
theorem dX5_discards_10 : decode cX5_discards 10 = .ok (.iconst 0, 1) := by decide +kernel
theorem dX5_discards_11 : decode cX5_discards 11 = .ok (.goto 7, 3) := by decide +kernel
theorem dX5_discards_14 : decode cX5_discards 14 = .ok (.aload_n 2, 1) := by decide +kernel
theorem dX5_discards_15 : decode cX5_discards 15 = .ok (.getfield 123, 3) := by decide +kernel
theorem dX5_discards_18 : decode cX5_discards 18 = .ok (.ireturn, 1) := by decide +kernel
theorem dX5_outcome_0 : decode cX5_outcome 0 = .ok (.iconst 0, 1) := by decide +kernel
theorem dX5_outcome_1 : decode cX5_outcome 1 = .ok (.istore_n 1, 1) := by decide +kernel
theorem dX5_outcome_2 : decode cX5_outcome 2 = .ok (.iconst 0, 1) := by decide +kernel
theorem dX5_outcome_3 : decode cX5_outcome 3 = .ok (.istore_n 2, 1) := by decide +kernel
theorem dX5_outcome_4 : decode cX5_outcome 4 = .ok (.iload_n 2, 1) := by decide +kernel
theorem dX5_outcome_5 : decode cX5_outcome 5 = .ok (.iconst 4, 1) := by decide +kernel
theorem dX5_outcome_6 : decode cX5_outcome 6 = .ok (.if_icmp .ge 39, 3) := by decide +kernel
theorem dX5_outcome_9 : decode cX5_outcome 9 = .ok (.aload_n 0, 1) := by decide +kernel
theorem dX5_outcome_10 : decode cX5_outcome 10 = .ok (.getfield 25, 3) := by decide +kernel
theorem dX5_outcome_13 : decode cX5_outcome 13 = .ok (.iload_n 2, 1) := by decide +kernel
theorem dX5_outcome_14 : decode cX5_outcome 14 = .ok (.aaload, 1) := by decide +kernel
theorem dX5_outcome_15 : decode cX5_outcome 15 = .ok (.getfield 55, 3) := by decide +kernel
theorem dX5_outcome_18 : decode cX5_outcome 18 = .ok (.iconst 1, 1) := by decide +kernel
theorem dX5_outcome_19 : decode cX5_outcome 19 = .ok (.if_icmp .ne 5, 3) := by decide +kernel
theorem dX5_outcome_22 : decode cX5_outcome 22 = .ok (.iconst 0, 1) := by decide +kernel
theorem dX5_outcome_23 : decode cX5_outcome 23 = .ok (.ireturn, 1) := by decide +kernel
theorem dX5_outcome_24 : decode cX5_outcome 24 = .ok (.aload_n 0, 1) := by decide +kernel
theorem dX5_outcome_25 : decode cX5_outcome 25 = .ok (.getfield 25, 3) := by decide +kernel
theorem dX5_outcome_28 : decode cX5_outcome 28 = .ok (.iload_n 2, 1) := by decide +kernel
theorem dX5_outcome_29 : decode cX5_outcome 29 = .ok (.aaload, 1) := by decide +kernel
theorem dX5_outcome_30 : decode cX5_outcome 30 = .ok (.getfield 55, 3) := by decide +kernel
theorem dX5_outcome_33 : decode cX5_outcome 33 = .ok (.iconst 2, 1) := by decide +kernel
theorem dX5_outcome_34 : decode cX5_outcome 34 = .ok (.if_icmp .ne 5, 3) := by decide +kernel
theorem dX5_outcome_37 : decode cX5_outcome 37 = .ok (.iconst 1, 1) := by decide +kernel
theorem dX5_outcome_38 : decode cX5_outcome 38 = .ok (.istore_n 1, 1) := by decide +kernel
theorem dX5_outcome_39 : decode cX5_outcome 39 = .ok (.iinc 2 1, 3) := by decide +kernel
theorem dX5_outcome_42 : decode cX5_outcome 42 = .ok (.goto (-38), 3) := by decide +kernel
theorem dX5_outcome_45 : decode cX5_outcome 45 = .ok (.iload_n 1, 1) := by decide +kernel
theorem dX5_outcome_46 : decode cX5_outcome 46 = .ok (.ifCond .eq 7, 3) := by decide +kernel
theorem dX5_outcome_49 : decode cX5_outcome 49 = .ok (.iconst 2, 1) := by decide +kernel
theorem dX5_outcome_50 : decode cX5_outcome 50 = .ok (.goto 4, 3) := by decide +kernel
theorem dX5_outcome_53 : decode cX5_outcome 53 = .ok (.iconst 1, 1) := by decide +kernel
theorem dX5_outcome_54 : decode cX5_outcome 54 = .ok (.ireturn, 1) := by decide +kernel
theorem dX5_printed_0 : decode cX5_printed 0 = .ok (.iload_n 1, 1) := by decide +kernel
theorem dX5_printed_1 : decode cX5_printed 1 = .ok (.iconst (-1), 1) := by decide +kernel
theorem dX5_printed_2 : decode cX5_printed 2 = .ok (.if_icmp .ne 13, 3) := by decide +kernel
theorem dX5_printed_5 : decode cX5_printed 5 = .ok (.aload_n 0, 1) := by decide +kernel
theorem dX5_printed_6 : decode cX5_printed 6 = .ok (.getfield 19, 3) := by decide +kernel
theorem dX5_printed_9 : decode cX5_printed 9 = .ok (.getfield 126, 3) := by decide +kernel
theorem dX5_printed_12 : decode cX5_printed 12 = .ok (.goto 11, 3) := by decide +kernel
theorem dX5_printed_15 : decode cX5_printed 15 = .ok (.aload_n 0, 1) := by decide +kernel
theorem dX5_printed_16 : decode cX5_printed 16 = .ok (.getfield 19, 3) := by decide +kernel
theorem dX5_printed_19 : decode cX5_printed 19 = .ok (.iload_n 1, 1) := by decide +kernel
theorem dX5_printed_20 : decode cX5_printed 20 = .ok (.invokevirtual 129, 3) := by decide +kernel
theorem dX5_printed_23 : decode cX5_printed 23 = .ok (.ireturn, 1) := by decide +kernel
theorem dX5_strandOf_0 : decode cX5_strandOf 0 = .ok (.iload_n 1, 1) := by decide +kernel
theorem dX5_strandOf_1 : decode cX5_strandOf 1 = .ok (.ifCond .lt 17, 3) := by decide +kernel
theorem dX5_strandOf_4 : decode cX5_strandOf 4 = .ok (.iload_n 1, 1) := by decide +kernel
theorem dX5_strandOf_5 : decode cX5_strandOf 5 = .ok (.iconst 4, 1) := by decide +kernel
theorem dX5_strandOf_6 : decode cX5_strandOf 6 = .ok (.if_icmp .ge 12, 3) := by decide +kernel
theorem dX5_strandOf_9 : decode cX5_strandOf 9 = .ok (.aload_n 0, 1) := by decide +kernel
theorem dX5_strandOf_10 : decode cX5_strandOf 10 = .ok (.getfield 25, 3) := by decide +kernel
theorem dX5_strandOf_13 : decode cX5_strandOf 13 = .ok (.iload_n 1, 1) := by decide +kernel
theorem dX5_strandOf_14 : decode cX5_strandOf 14 = .ok (.aaload, 1) := by decide +kernel
theorem dX5_strandOf_15 : decode cX5_strandOf 15 = .ok (.goto 4, 3) := by decide +kernel
theorem dX5_strandOf_18 : decode cX5_strandOf 18 = .ok (.aconst_null, 1) := by decide +kernel
theorem dX5_strandOf_19 : decode cX5_strandOf 19 = .ok (.areturn, 1) := by decide +kernel
theorem dX5_isRegister_0 : decode cX5_isRegister 0 = .ok (.iload_n 0, 1) := by decide +kernel
theorem dX5_isRegister_1 : decode cX5_isRegister 1 = .ok (.ifCond .lt 12, 3) := by decide +kernel
theorem dX5_isRegister_4 : decode cX5_isRegister 4 = .ok (.iload_n 0, 1) := by decide +kernel
theorem dX5_isRegister_5 : decode cX5_isRegister 5 = .ok (.iconst 4, 1) := by decide +kernel
theorem dX5_isRegister_6 : decode cX5_isRegister 6 = .ok (.if_icmp .ge 7, 3) := by decide +kernel
theorem dX5_isRegister_9 : decode cX5_isRegister 9 = .ok (.iconst 1, 1) := by decide +kernel
theorem dX5_isRegister_10 : decode cX5_isRegister 10 = .ok (.goto 4, 3) := by decide +kernel
theorem dX5_isRegister_13 : decode cX5_isRegister 13 = .ok (.iconst 0, 1) := by decide +kernel
theorem dX5_isRegister_14 : decode cX5_isRegister 14 = .ok (.ireturn, 1) := by decide +kernel
theorem dX5_isVariable_0 : decode cX5_isVariable 0 = .ok (.iload_n 0, 1) := by decide +kernel
theorem dX5_isVariable_1 : decode cX5_isVariable 1 = .ok (.ifCond .lt 13, 3) := by decide +kernel
theorem dX5_isVariable_4 : decode cX5_isVariable 4 = .ok (.iload_n 0, 1) := by decide +kernel
theorem dX5_isVariable_5 : decode cX5_isVariable 5 = .ok (.bipush 8, 2) := by decide +kernel
theorem dX5_isVariable_7 : decode cX5_isVariable 7 = .ok (.if_icmp .ge 7, 3) := by decide +kernel
theorem dX5_isVariable_10 : decode cX5_isVariable 10 = .ok (.iconst 1, 1) := by decide +kernel
theorem dX5_isVariable_11 : decode cX5_isVariable 11 = .ok (.goto 4, 3) := by decide +kernel
theorem dX5_isVariable_14 : decode cX5_isVariable 14 = .ok (.iconst 0, 1) := by decide +kernel
theorem dX5_isVariable_15 : decode cX5_isVariable 15 = .ok (.ireturn, 1) := by decide +kernel
theorem dX5_isWord_0 : decode cX5_isWord 0 = .ok (.iload_n 0, 1) := by decide +kernel
theorem dX5_isWord_1 : decode cX5_isWord 1 = .ok (.tableswitch 148 0 16 #[143, 83, 83, 103, 123, 143, 148, 148, 148, 148, 148, 143, 148, 143, 143, 148, 143], 83) := by decide +kernel
theorem dX5_isWord_84 : decode cX5_isWord 84 = .ok (.iload_n 1, 1) := by decide +kernel
theorem dX5_isWord_85 : decode cX5_isWord 85 = .ok (.invokestatic 132, 3) := by decide +kernel
theorem dX5_isWord_88 : decode cX5_isWord 88 = .ok (.ifCond .eq 14, 3) := by decide +kernel
theorem dX5_isWord_91 : decode cX5_isWord 91 = .ok (.iload_n 2, 1) := by decide +kernel
theorem dX5_isWord_92 : decode cX5_isWord 92 = .ok (.invokestatic 132, 3) := by decide +kernel
theorem dX5_isWord_95 : decode cX5_isWord 95 = .ok (.ifCond .eq 7, 3) := by decide +kernel
theorem dX5_isWord_98 : decode cX5_isWord 98 = .ok (.iconst 1, 1) := by decide +kernel
theorem dX5_isWord_99 : decode cX5_isWord 99 = .ok (.goto 4, 3) := by decide +kernel
theorem dX5_isWord_102 : decode cX5_isWord 102 = .ok (.iconst 0, 1) := by decide +kernel
theorem dX5_isWord_103 : decode cX5_isWord 103 = .ok (.ireturn, 1) := by decide +kernel
theorem dX5_isWord_104 : decode cX5_isWord 104 = .ok (.iload_n 1, 1) := by decide +kernel
theorem dX5_isWord_105 : decode cX5_isWord 105 = .ok (.invokestatic 132, 3) := by decide +kernel
theorem dX5_isWord_108 : decode cX5_isWord 108 = .ok (.ifCond .eq 14, 3) := by decide +kernel
theorem dX5_isWord_111 : decode cX5_isWord 111 = .ok (.iload_n 2, 1) := by decide +kernel
theorem dX5_isWord_112 : decode cX5_isWord 112 = .ok (.invokestatic 76, 3) := by decide +kernel
theorem dX5_isWord_115 : decode cX5_isWord 115 = .ok (.ifCond .eq 7, 3) := by decide +kernel
theorem dX5_isWord_118 : decode cX5_isWord 118 = .ok (.iconst 1, 1) := by decide +kernel
theorem dX5_isWord_119 : decode cX5_isWord 119 = .ok (.goto 4, 3) := by decide +kernel
theorem dX5_isWord_122 : decode cX5_isWord 122 = .ok (.iconst 0, 1) := by decide +kernel
theorem dX5_isWord_123 : decode cX5_isWord 123 = .ok (.ireturn, 1) := by decide +kernel
theorem dX5_isWord_124 : decode cX5_isWord 124 = .ok (.iload_n 1, 1) := by decide +kernel
theorem dX5_isWord_125 : decode cX5_isWord 125 = .ok (.invokestatic 76, 3) := by decide +kernel
theorem dX5_isWord_128 : decode cX5_isWord 128 = .ok (.ifCond .eq 14, 3) := by decide +kernel
theorem dX5_isWord_131 : decode cX5_isWord 131 = .ok (.iload_n 2, 1) := by decide +kernel
theorem dX5_isWord_132 : decode cX5_isWord 132 = .ok (.invokestatic 132, 3) := by decide +kernel
theorem dX5_isWord_135 : decode cX5_isWord 135 = .ok (.ifCond .eq 7, 3) := by decide +kernel
theorem dX5_isWord_138 : decode cX5_isWord 138 = .ok (.iconst 1, 1) := by decide +kernel
theorem dX5_isWord_139 : decode cX5_isWord 139 = .ok (.goto 4, 3) := by decide +kernel
theorem dX5_isWord_142 : decode cX5_isWord 142 = .ok (.iconst 0, 1) := by decide +kernel
theorem dX5_isWord_143 : decode cX5_isWord 143 = .ok (.ireturn, 1) := by decide +kernel
theorem dX5_isWord_144 : decode cX5_isWord 144 = .ok (.iload_n 1, 1) := by decide +kernel
theorem dX5_isWord_145 : decode cX5_isWord 145 = .ok (.invokestatic 132, 3) := by decide +kernel
theorem dX5_isWord_148 : decode cX5_isWord 148 = .ok (.ireturn, 1) := by decide +kernel
theorem dX5_isWord_149 : decode cX5_isWord 149 = .ok (.iload_n 0, 1) := by decide +kernel
theorem dX5_isWord_150 : decode cX5_isWord 150 = .ok (.ifCond .lt 13, 3) := by decide +kernel
theorem dX5_isWord_153 : decode cX5_isWord 153 = .ok (.iload_n 0, 1) := by decide +kernel
theorem dX5_isWord_154 : decode cX5_isWord 154 = .ok (.bipush 16, 2) := by decide +kernel
theorem dX5_isWord_156 : decode cX5_isWord 156 = .ok (.if_icmp .gt 7, 3) := by decide +kernel
theorem dX5_isWord_159 : decode cX5_isWord 159 = .ok (.iconst 1, 1) := by decide +kernel
theorem dX5_isWord_160 : decode cX5_isWord 160 = .ok (.goto 4, 3) := by decide +kernel
theorem dX5_isWord_163 : decode cX5_isWord 163 = .ok (.iconst 0, 1) := by decide +kernel
theorem dX5_isWord_164 : decode cX5_isWord 164 = .ok (.ireturn, 1) := by decide +kernel
theorem dX5_doWord_0 : decode cX5_doWord 0 = .ok (.aload_n 1, 1) := by decide +kernel
theorem dX5_doWord_1 : decode cX5_doWord 1 = .ok (.getfield 38, 3) := by decide +kernel
theorem dX5_doWord_4 : decode cX5_doWord 4 = .ok (.astore_n 2, 1) := by decide +kernel
theorem dX5_doWord_5 : decode cX5_doWord 5 = .ok (.aload_n 1, 1) := by decide +kernel
theorem dX5_doWord_6 : decode cX5_doWord 6 = .ok (.getfield 101, 3) := by decide +kernel
theorem dX5_doWord_9 : decode cX5_doWord 9 = .ok (.istore_n 3, 1) := by decide +kernel
theorem dX5_doWord_10 : decode cX5_doWord 10 = .ok (.aload_n 2, 1) := by decide +kernel
theorem dX5_doWord_11 : decode cX5_doWord 11 = .ok (.iload_n 3, 1) := by decide +kernel
theorem dX5_doWord_12 : decode cX5_doWord 12 = .ok (.invokevirtual 135, 3) := by decide +kernel
theorem dX5_doWord_15 : decode cX5_doWord 15 = .ok (.istore 4, 2) := by decide +kernel
theorem dX5_doWord_17 : decode cX5_doWord 17 = .ok (.aload_n 2, 1) := by decide +kernel
theorem dX5_doWord_18 : decode cX5_doWord 18 = .ok (.iload_n 3, 1) := by decide +kernel
theorem dX5_doWord_19 : decode cX5_doWord 19 = .ok (.invokevirtual 138, 3) := by decide +kernel
theorem dX5_doWord_22 : decode cX5_doWord 22 = .ok (.istore 5, 2) := by decide +kernel
theorem dX5_doWord_24 : decode cX5_doWord 24 = .ok (.aload_n 2, 1) := by decide +kernel
theorem dX5_doWord_25 : decode cX5_doWord 25 = .ok (.iload_n 3, 1) := by decide +kernel
theorem dX5_doWord_26 : decode cX5_doWord 26 = .ok (.invokevirtual 141, 3) := by decide +kernel
theorem dX5_doWord_29 : decode cX5_doWord 29 = .ok (.tableswitch 257 0 16 #[83, 92, 112, 132, 142, 155, 176, 251, 233, 188, 193, 208, 198, 208, 239, 188, 193], 83) := by decide +kernel
theorem dX5_doWord_112 : decode cX5_doWord 112 = .ok (.aload_n 1, 1) := by decide +kernel
theorem dX5_doWord_113 : decode cX5_doWord 113 = .ok (.iload 4, 2) := by decide +kernel
theorem dX5_doWord_115 : decode cX5_doWord 115 = .ok (.iload 5, 2) := by decide +kernel
theorem dX5_doWord_117 : decode cX5_doWord 117 = .ok (.invokevirtual 144, 3) := by decide +kernel
theorem dX5_doWord_120 : decode cX5_doWord 120 = .ok (.ireturn, 1) := by decide +kernel
theorem dX5_doWord_121 : decode cX5_doWord 121 = .ok (.aload_n 1, 1) := by decide +kernel
theorem dX5_doWord_122 : decode cX5_doWord 122 = .ok (.iload 4, 2) := by decide +kernel
theorem dX5_doWord_124 : decode cX5_doWord 124 = .ok (.aload_n 1, 1) := by decide +kernel
theorem dX5_doWord_125 : decode cX5_doWord 125 = .ok (.iload 4, 2) := by decide +kernel
theorem dX5_doWord_127 : decode cX5_doWord 127 = .ok (.invokevirtual 104, 3) := by decide +kernel
theorem dX5_doWord_130 : decode cX5_doWord 130 = .ok (.aload_n 1, 1) := by decide +kernel
theorem dX5_doWord_131 : decode cX5_doWord 131 = .ok (.iload 5, 2) := by decide +kernel
theorem dX5_doWord_133 : decode cX5_doWord 133 = .ok (.invokevirtual 104, 3) := by decide +kernel
theorem dX5_doWord_136 : decode cX5_doWord 136 = .ok (.iadd, 1) := by decide +kernel
theorem dX5_doWord_137 : decode cX5_doWord 137 = .ok (.invokevirtual 144, 3) := by decide +kernel
theorem dX5_doWord_140 : decode cX5_doWord 140 = .ok (.ireturn, 1) := by decide +kernel
theorem dX5_doWord_141 : decode cX5_doWord 141 = .ok (.aload_n 1, 1) := by decide +kernel
theorem dX5_doWord_142 : decode cX5_doWord 142 = .ok (.iload 4, 2) := by decide +kernel
theorem dX5_doWord_144 : decode cX5_doWord 144 = .ok (.aload_n 1, 1) := by decide +kernel
theorem dX5_doWord_145 : decode cX5_doWord 145 = .ok (.iload 4, 2) := by decide +kernel
theorem dX5_doWord_147 : decode cX5_doWord 147 = .ok (.invokevirtual 104, 3) := by decide +kernel
theorem dX5_doWord_150 : decode cX5_doWord 150 = .ok (.aload_n 1, 1) := by decide +kernel
theorem dX5_doWord_151 : decode cX5_doWord 151 = .ok (.iload 5, 2) := by decide +kernel
theorem dX5_doWord_153 : decode cX5_doWord 153 = .ok (.invokevirtual 104, 3) := by decide +kernel
theorem dX5_doWord_156 : decode cX5_doWord 156 = .ok (.isub, 1) := by decide +kernel
theorem dX5_doWord_157 : decode cX5_doWord 157 = .ok (.invokevirtual 144, 3) := by decide +kernel
theorem dX5_doWord_160 : decode cX5_doWord 160 = .ok (.ireturn, 1) := by decide +kernel
theorem dX5_doWord_161 : decode cX5_doWord 161 = .ok (.aload_n 0, 1) := by decide +kernel
theorem dX5_doWord_162 : decode cX5_doWord 162 = .ok (.aload_n 1, 1) := by decide +kernel
theorem dX5_doWord_163 : decode cX5_doWord 163 = .ok (.iload 4, 2) := by decide +kernel
theorem dX5_doWord_165 : decode cX5_doWord 165 = .ok (.iload 5, 2) := by decide +kernel
theorem dX5_doWord_167 : decode cX5_doWord 167 = .ok (.invokevirtual 148, 3) := by decide +kernel
theorem dX5_doWord_170 : decode cX5_doWord 170 = .ok (.ireturn, 1) := by decide +kernel
theorem dX5_doWord_171 : decode cX5_doWord 171 = .ok (.aload_n 1, 1) := by decide +kernel
theorem dX5_doWord_172 : decode cX5_doWord 172 = .ok (.iload 4, 2) := by decide +kernel
theorem dX5_doWord_174 : decode cX5_doWord 174 = .ok (.aload_n 1, 1) := by decide +kernel
theorem dX5_doWord_175 : decode cX5_doWord 175 = .ok (.iload 5, 2) := by decide +kernel
theorem dX5_doWord_177 : decode cX5_doWord 177 = .ok (.invokevirtual 104, 3) := by decide +kernel
theorem dX5_doWord_180 : decode cX5_doWord 180 = .ok (.invokevirtual 152, 3) := by decide +kernel
theorem dX5_doWord_183 : decode cX5_doWord 183 = .ok (.ireturn, 1) := by decide +kernel
theorem dX5_doWord_184 : decode cX5_doWord 184 = .ok (.aload_n 0, 1) := by decide +kernel
theorem dX5_doWord_185 : decode cX5_doWord 185 = .ok (.getfield 19, 3) := by decide +kernel
theorem dX5_doWord_188 : decode cX5_doWord 188 = .ok (.aload_n 1, 1) := by decide +kernel
theorem dX5_doWord_189 : decode cX5_doWord 189 = .ok (.iload 4, 2) := by decide +kernel
theorem dX5_doWord_191 : decode cX5_doWord 191 = .ok (.invokevirtual 104, 3) := by decide +kernel
theorem dX5_doWord_194 : decode cX5_doWord 194 = .ok (.invokevirtual 155, 3) := by decide +kernel
theorem dX5_doWord_197 : decode cX5_doWord 197 = .ok (.aload_n 1, 1) := by decide +kernel
theorem dX5_doWord_198 : decode cX5_doWord 198 = .ok (.iload_n 3, 1) := by decide +kernel
theorem dX5_doWord_199 : decode cX5_doWord 199 = .ok (.iconst 1, 1) := by decide +kernel
theorem dX5_doWord_200 : decode cX5_doWord 200 = .ok (.iadd, 1) := by decide +kernel
theorem dX5_doWord_201 : decode cX5_doWord 201 = .ok (.invokevirtual 157, 3) := by decide +kernel
theorem dX5_doWord_204 : decode cX5_doWord 204 = .ok (.ireturn, 1) := by decide +kernel
theorem dX5_doWord_205 : decode cX5_doWord 205 = .ok (.aload_n 1, 1) := by decide +kernel
theorem dX5_doWord_206 : decode cX5_doWord 206 = .ok (.aload_n 0, 1) := by decide +kernel
theorem dX5_doWord_207 : decode cX5_doWord 207 = .ok (.getfield 10, 3) := by decide +kernel
theorem dX5_doWord_210 : decode cX5_doWord 210 = .ok (.getfield 98, 3) := by decide +kernel
theorem dX5_doWord_213 : decode cX5_doWord 213 = .ok (.invokevirtual 160, 3) := by decide +kernel
theorem dX5_doWord_216 : decode cX5_doWord 216 = .ok (.ireturn, 1) := by decide +kernel
theorem dX5_doWord_217 : decode cX5_doWord 217 = .ok (.aload_n 1, 1) := by decide +kernel
theorem dX5_doWord_218 : decode cX5_doWord 218 = .ok (.invokevirtual 163, 3) := by decide +kernel
theorem dX5_doWord_221 : decode cX5_doWord 221 = .ok (.ireturn, 1) := by decide +kernel
theorem dX5_doWord_222 : decode cX5_doWord 222 = .ok (.aload_n 1, 1) := by decide +kernel
theorem dX5_doWord_223 : decode cX5_doWord 223 = .ok (.invokevirtual 166, 3) := by decide +kernel
theorem dX5_doWord_226 : decode cX5_doWord 226 = .ok (.ireturn, 1) := by decide +kernel
theorem dX5_doWord_227 : decode cX5_doWord 227 = .ok (.aload_n 1, 1) := by decide +kernel
theorem dX5_doWord_228 : decode cX5_doWord 228 = .ok (.aload_n 2, 1) := by decide +kernel
theorem dX5_doWord_229 : decode cX5_doWord 229 = .ok (.iload_n 3, 1) := by decide +kernel
theorem dX5_doWord_230 : decode cX5_doWord 230 = .ok (.invokevirtual 169, 3) := by decide +kernel
theorem dX5_doWord_233 : decode cX5_doWord 233 = .ok (.invokevirtual 157, 3) := by decide +kernel
theorem dX5_doWord_236 : decode cX5_doWord 236 = .ok (.ireturn, 1) := by decide +kernel
theorem dX5_doWord_237 : decode cX5_doWord 237 = .ok (.aload_n 1, 1) := by decide +kernel
theorem dX5_doWord_238 : decode cX5_doWord 238 = .ok (.aload_n 1, 1) := by decide +kernel
theorem dX5_doWord_239 : decode cX5_doWord 239 = .ok (.iload 4, 2) := by decide +kernel
theorem dX5_doWord_241 : decode cX5_doWord 241 = .ok (.invokevirtual 104, 3) := by decide +kernel
theorem dX5_doWord_244 : decode cX5_doWord 244 = .ok (.ifCond .le 9, 3) := by decide +kernel
theorem dX5_doWord_247 : decode cX5_doWord 247 = .ok (.iload_n 3, 1) := by decide +kernel
theorem dX5_doWord_248 : decode cX5_doWord 248 = .ok (.iconst 1, 1) := by decide +kernel
theorem dX5_doWord_249 : decode cX5_doWord 249 = .ok (.iadd, 1) := by decide +kernel
theorem dX5_doWord_250 : decode cX5_doWord 250 = .ok (.goto 8, 3) := by decide +kernel
theorem dX5_doWord_253 : decode cX5_doWord 253 = .ok (.aload_n 2, 1) := by decide +kernel
theorem dX5_doWord_254 : decode cX5_doWord 254 = .ok (.iload_n 3, 1) := by decide +kernel
theorem dX5_doWord_255 : decode cX5_doWord 255 = .ok (.invokevirtual 172, 3) := by decide +kernel
theorem dX5_doWord_258 : decode cX5_doWord 258 = .ok (.invokevirtual 157, 3) := by decide +kernel
theorem dX5_doWord_261 : decode cX5_doWord 261 = .ok (.ireturn, 1) := by decide +kernel
theorem dX5_doWord_262 : decode cX5_doWord 262 = .ok (.aload_n 0, 1) := by decide +kernel
theorem dX5_doWord_263 : decode cX5_doWord 263 = .ok (.aload_n 1, 1) := by decide +kernel
theorem dX5_doWord_264 : decode cX5_doWord 264 = .ok (.invokevirtual 175, 3) := by decide +kernel
theorem dX5_doWord_267 : decode cX5_doWord 267 = .ok (.ireturn, 1) := by decide +kernel
theorem dX5_doWord_268 : decode cX5_doWord 268 = .ok (.aload_n 0, 1) := by decide +kernel
theorem dX5_doWord_269 : decode cX5_doWord 269 = .ok (.aload_n 1, 1) := by decide +kernel
theorem dX5_doWord_270 : decode cX5_doWord 270 = .ok (.aload_n 1, 1) := by decide +kernel
theorem dX5_doWord_271 : decode cX5_doWord 271 = .ok (.iload 4, 2) := by decide +kernel
theorem dX5_doWord_273 : decode cX5_doWord 273 = .ok (.invokevirtual 104, 3) := by decide +kernel
theorem dX5_doWord_276 : decode cX5_doWord 276 = .ok (.invokevirtual 178, 3) := by decide +kernel
theorem dX5_doWord_279 : decode cX5_doWord 279 = .ok (.ireturn, 1) := by decide +kernel
theorem dX5_doWord_280 : decode cX5_doWord 280 = .ok (.aload_n 0, 1) := by decide +kernel
theorem dX5_doWord_281 : decode cX5_doWord 281 = .ok (.aload_n 1, 1) := by decide +kernel
theorem dX5_doWord_282 : decode cX5_doWord 282 = .ok (.invokevirtual 182, 3) := by decide +kernel
theorem dX5_doWord_285 : decode cX5_doWord 285 = .ok (.ireturn, 1) := by decide +kernel
theorem dX5_doWord_286 : decode cX5_doWord 286 = .ok (.iconst (-1), 1) := by decide +kernel
theorem dX5_doWord_287 : decode cX5_doWord 287 = .ok (.ireturn, 1) := by decide +kernel
theorem dX5_doRead_0 : decode cX5_doRead 0 = .ok (.iload_n 3, 1) := by decide +kernel
theorem dX5_doRead_1 : decode cX5_doRead 1 = .ok (.invokestatic 76, 3) := by decide +kernel
theorem dX5_doRead_4 : decode cX5_doRead 4 = .ok (.ifCond .ne 5, 3) := by decide +kernel
theorem dX5_doRead_7 : decode cX5_doRead 7 = .ok (.iconst (-1), 1) := by decide +kernel
theorem dX5_doRead_8 : decode cX5_doRead 8 = .ok (.ireturn, 1) := by decide +kernel
theorem dX5_doRead_9 : decode cX5_doRead 9 = .ok (.aload_n 1, 1) := by decide +kernel
theorem dX5_doRead_10 : decode cX5_doRead 10 = .ok (.iload_n 3, 1) := by decide +kernel
theorem dX5_doRead_11 : decode cX5_doRead 11 = .ok (.invokevirtual 108, 3) := by decide +kernel
theorem dX5_doRead_14 : decode cX5_doRead 14 = .ok (.ifCond .eq 15, 3) := by decide +kernel
theorem dX5_doRead_17 : decode cX5_doRead 17 = .ok (.aload_n 1, 1) := by decide +kernel
theorem dX5_doRead_18 : decode cX5_doRead 18 = .ok (.iload_n 2, 1) := by decide +kernel
theorem dX5_doRead_19 : decode cX5_doRead 19 = .ok (.aload_n 1, 1) := by decide +kernel
theorem dX5_doRead_20 : decode cX5_doRead 20 = .ok (.getfield 111, 3) := by decide +kernel
theorem dX5_doRead_23 : decode cX5_doRead 23 = .ok (.iload_n 3, 1) := by decide +kernel
theorem dX5_doRead_24 : decode cX5_doRead 24 = .ok (.iaload, 1) := by decide +kernel
theorem dX5_doRead_25 : decode cX5_doRead 25 = .ok (.invokevirtual 144, 3) := by decide +kernel
theorem dX5_doRead_28 : decode cX5_doRead 28 = .ok (.ireturn, 1) := by decide +kernel
theorem dX5_doRead_29 : decode cX5_doRead 29 = .ok (.aload_n 0, 1) := by decide +kernel
theorem dX5_doRead_30 : decode cX5_doRead 30 = .ok (.getfield 10, 3) := by decide +kernel
theorem dX5_doRead_33 : decode cX5_doRead 33 = .ok (.iconst 1, 1) := by decide +kernel
theorem dX5_doRead_34 : decode cX5_doRead 34 = .ok (.iload_n 3, 1) := by decide +kernel
theorem dX5_doRead_35 : decode cX5_doRead 35 = .ok (.ishl, 1) := by decide +kernel
theorem dX5_doRead_36 : decode cX5_doRead 36 = .ok (.aload_n 1, 1) := by decide +kernel
theorem dX5_doRead_37 : decode cX5_doRead 37 = .ok (.getfield 185, 3) := by decide +kernel
theorem dX5_doRead_40 : decode cX5_doRead 40 = .ok (.invokevirtual 188, 3) := by decide +kernel
theorem dX5_doRead_43 : decode cX5_doRead 43 = .ok (.ifCond .eq 8, 3) := by decide +kernel
theorem dX5_doRead_46 : decode cX5_doRead 46 = .ok (.aload_n 1, 1) := by decide +kernel
theorem dX5_doRead_47 : decode cX5_doRead 47 = .ok (.invokevirtual 192, 3) := by decide +kernel
theorem dX5_doRead_50 : decode cX5_doRead 50 = .ok (.ireturn, 1) := by decide +kernel
theorem dX5_doRead_51 : decode cX5_doRead 51 = .ok (.aload_n 1, 1) := by decide +kernel
theorem dX5_doRead_52 : decode cX5_doRead 52 = .ok (.dup, 1) := by decide +kernel
theorem dX5_doRead_53 : decode cX5_doRead 53 = .ok (.getfield 114, 3) := by decide +kernel
theorem dX5_doRead_56 : decode cX5_doRead 56 = .ok (.iconst 1, 1) := by decide +kernel
theorem dX5_doRead_57 : decode cX5_doRead 57 = .ok (.iload_n 3, 1) := by decide +kernel
theorem dX5_doRead_58 : decode cX5_doRead 58 = .ok (.ishl, 1) := by decide +kernel
theorem dX5_doRead_59 : decode cX5_doRead 59 = .ok (.ior, 1) := by decide +kernel
theorem dX5_doRead_60 : decode cX5_doRead 60 = .ok (.putfield 114, 3) := by decide +kernel
theorem dX5_doRead_63 : decode cX5_doRead 63 = .ok (.aload_n 1, 1) := by decide +kernel
theorem dX5_doRead_64 : decode cX5_doRead 64 = .ok (.iload_n 2, 1) := by decide +kernel
theorem dX5_doRead_65 : decode cX5_doRead 65 = .ok (.aload_n 0, 1) := by decide +kernel
theorem dX5_doRead_66 : decode cX5_doRead 66 = .ok (.getfield 10, 3) := by decide +kernel
theorem dX5_doRead_69 : decode cX5_doRead 69 = .ok (.getfield 91, 3) := by decide +kernel
theorem dX5_doRead_72 : decode cX5_doRead 72 = .ok (.iload_n 3, 1) := by decide +kernel
theorem dX5_doRead_73 : decode cX5_doRead 73 = .ok (.iaload, 1) := by decide +kernel
theorem dX5_doRead_74 : decode cX5_doRead 74 = .ok (.invokevirtual 144, 3) := by decide +kernel
theorem dX5_doRead_77 : decode cX5_doRead 77 = .ok (.ireturn, 1) := by decide +kernel
theorem dX5_doRetry_0 : decode cX5_doRetry 0 = .ok (.aload_n 1, 1) := by decide +kernel
theorem dX5_doRetry_1 : decode cX5_doRetry 1 = .ok (.bipush 9, 2) := by decide +kernel
theorem dX5_doRetry_3 : decode cX5_doRetry 3 = .ok (.invokevirtual 195, 3) := by decide +kernel
theorem dX5_doRetry_6 : decode cX5_doRetry 6 = .ok (.istore_n 2, 1) := by decide +kernel
theorem dX5_doRetry_7 : decode cX5_doRetry 7 = .ok (.iload_n 2, 1) := by decide +kernel
theorem dX5_doRetry_8 : decode cX5_doRetry 8 = .ok (.iconst (-1), 1) := by decide +kernel
theorem dX5_doRetry_9 : decode cX5_doRetry 9 = .ok (.if_icmp .eq 24, 3) := by decide +kernel
theorem dX5_doRetry_12 : decode cX5_doRetry 12 = .ok (.aload_n 1, 1) := by decide +kernel
theorem dX5_doRetry_13 : decode cX5_doRetry 13 = .ok (.iload_n 2, 1) := by decide +kernel
theorem dX5_doRetry_14 : decode cX5_doRetry 14 = .ok (.invokevirtual 198, 3) := by decide +kernel
theorem dX5_doRetry_17 : decode cX5_doRetry 17 = .ok (.aload_n 1, 1) := by decide +kernel
theorem dX5_doRetry_18 : decode cX5_doRetry 18 = .ok (.aload_n 1, 1) := by decide +kernel
theorem dX5_doRetry_19 : decode cX5_doRetry 19 = .ok (.getfield 38, 3) := by decide +kernel
theorem dX5_doRetry_22 : decode cX5_doRetry 22 = .ok (.aload_n 1, 1) := by decide +kernel
theorem dX5_doRetry_23 : decode cX5_doRetry 23 = .ok (.getfield 101, 3) := by decide +kernel
theorem dX5_doRetry_26 : decode cX5_doRetry 26 = .ok (.invokevirtual 201, 3) := by decide +kernel
theorem dX5_doRetry_29 : decode cX5_doRetry 29 = .ok (.invokevirtual 157, 3) := by decide +kernel
theorem dX5_doRetry_32 : decode cX5_doRetry 32 = .ok (.ireturn, 1) := by decide +kernel
theorem dX5_doRetry_33 : decode cX5_doRetry 33 = .ok (.aload_n 0, 1) := by decide +kernel
theorem dX5_doRetry_34 : decode cX5_doRetry 34 = .ok (.aload_n 1, 1) := by decide +kernel
theorem dX5_doRetry_35 : decode cX5_doRetry 35 = .ok (.invokevirtual 204, 3) := by decide +kernel
theorem dX5_doRetry_38 : decode cX5_doRetry 38 = .ok (.ifCond .eq 10, 3) := by decide +kernel
theorem dX5_doRetry_41 : decode cX5_doRetry 41 = .ok (.aload_n 1, 1) := by decide +kernel
theorem dX5_doRetry_42 : decode cX5_doRetry 42 = .ok (.invokevirtual 192, 3) := by decide +kernel
theorem dX5_doRetry_45 : decode cX5_doRetry 45 = .ok (.goto 7, 3) := by decide +kernel
theorem dX5_doRetry_48 : decode cX5_doRetry 48 = .ok (.aload_n 1, 1) := by decide +kernel
theorem dX5_doRetry_49 : decode cX5_doRetry 49 = .ok (.invokevirtual 208, 3) := by decide +kernel
theorem dX5_doRetry_52 : decode cX5_doRetry 52 = .ok (.ireturn, 1) := by decide +kernel
theorem dX5_doThrow_0 : decode cX5_doThrow 0 = .ok (.aload_n 1, 1) := by decide +kernel
theorem dX5_doThrow_1 : decode cX5_doThrow 1 = .ok (.invokevirtual 211, 3) := by decide +kernel
theorem dX5_doThrow_4 : decode cX5_doThrow 4 = .ok (.ifCond .eq 30, 3) := by decide +kernel
theorem dX5_doThrow_7 : decode cX5_doThrow 7 = .ok (.aload_n 1, 1) := by decide +kernel
theorem dX5_doThrow_8 : decode cX5_doThrow 8 = .ok (.bipush 15, 2) := by decide +kernel
theorem dX5_doThrow_10 : decode cX5_doThrow 10 = .ok (.invokevirtual 195, 3) := by decide +kernel
theorem dX5_doThrow_13 : decode cX5_doThrow 13 = .ok (.iconst (-1), 1) := by decide +kernel
theorem dX5_doThrow_14 : decode cX5_doThrow 14 = .ok (.if_icmp .ne 20, 3) := by decide +kernel
theorem dX5_doThrow_17 : decode cX5_doThrow 17 = .ok (.aload_n 0, 1) := by decide +kernel
theorem dX5_doThrow_18 : decode cX5_doThrow 18 = .ok (.aload_n 1, 1) := by decide +kernel
theorem dX5_doThrow_19 : decode cX5_doThrow 19 = .ok (.invokevirtual 204, 3) := by decide +kernel
theorem dX5_doThrow_22 : decode cX5_doThrow 22 = .ok (.ifCond .eq 8, 3) := by decide +kernel
theorem dX5_doThrow_25 : decode cX5_doThrow 25 = .ok (.aload_n 1, 1) := by decide +kernel
theorem dX5_doThrow_26 : decode cX5_doThrow 26 = .ok (.invokevirtual 192, 3) := by decide +kernel
theorem dX5_doThrow_29 : decode cX5_doThrow 29 = .ok (.ireturn, 1) := by decide +kernel
theorem dX5_doThrow_30 : decode cX5_doThrow 30 = .ok (.aload_n 1, 1) := by decide +kernel
theorem dX5_doThrow_31 : decode cX5_doThrow 31 = .ok (.invokevirtual 214, 3) := by decide +kernel
theorem dX5_doThrow_34 : decode cX5_doThrow 34 = .ok (.aload_n 1, 1) := by decide +kernel
theorem dX5_doThrow_35 : decode cX5_doThrow 35 = .ok (.bipush 15, 2) := by decide +kernel
theorem dX5_doThrow_37 : decode cX5_doThrow 37 = .ok (.invokevirtual 195, 3) := by decide +kernel
theorem dX5_doThrow_40 : decode cX5_doThrow 40 = .ok (.istore_n 3, 1) := by decide +kernel
theorem dX5_doThrow_41 : decode cX5_doThrow 41 = .ok (.iload_n 3, 1) := by decide +kernel
theorem dX5_doThrow_42 : decode cX5_doThrow 42 = .ok (.iconst (-1), 1) := by decide +kernel
theorem dX5_doThrow_43 : decode cX5_doThrow 43 = .ok (.if_icmp .ne 11, 3) := by decide +kernel
theorem dX5_doThrow_46 : decode cX5_doThrow 46 = .ok (.aload_n 1, 1) := by decide +kernel
theorem dX5_doThrow_47 : decode cX5_doThrow 47 = .ok (.iload_n 2, 1) := by decide +kernel
theorem dX5_doThrow_48 : decode cX5_doThrow 48 = .ok (.invokevirtual 217, 3) := by decide +kernel
theorem dX5_doThrow_51 : decode cX5_doThrow 51 = .ok (.goto 9, 3) := by decide +kernel
theorem dX5_doThrow_54 : decode cX5_doThrow 54 = .ok (.aload_n 1, 1) := by decide +kernel
theorem dX5_doThrow_55 : decode cX5_doThrow 55 = .ok (.iload_n 3, 1) := by decide +kernel
theorem dX5_doThrow_56 : decode cX5_doThrow 56 = .ok (.iload_n 2, 1) := by decide +kernel
theorem dX5_doThrow_57 : decode cX5_doThrow 57 = .ok (.invokevirtual 220, 3) := by decide +kernel
theorem dX5_doThrow_60 : decode cX5_doThrow 60 = .ok (.iconst 4, 1) := by decide +kernel
theorem dX5_doThrow_61 : decode cX5_doThrow 61 = .ok (.ireturn, 1) := by decide +kernel
theorem dX5_doEnd_0 : decode cX5_doEnd 0 = .ok (.aload_n 1, 1) := by decide +kernel
theorem dX5_doEnd_1 : decode cX5_doEnd 1 = .ok (.getfield 38, 3) := by decide +kernel
theorem dX5_doEnd_4 : decode cX5_doEnd 4 = .ok (.aload_n 1, 1) := by decide +kernel
theorem dX5_doEnd_5 : decode cX5_doEnd 5 = .ok (.getfield 101, 3) := by decide +kernel
theorem dX5_doEnd_8 : decode cX5_doEnd 8 = .ok (.invokevirtual 223, 3) := by decide +kernel
theorem dX5_doEnd_11 : decode cX5_doEnd 11 = .ok (.istore_n 2, 1) := by decide +kernel
theorem dX5_doEnd_12 : decode cX5_doEnd 12 = .ok (.aload_n 1, 1) := by decide +kernel
theorem dX5_doEnd_13 : decode cX5_doEnd 13 = .ok (.getfield 38, 3) := by decide +kernel
theorem dX5_doEnd_16 : decode cX5_doEnd 16 = .ok (.iload_n 2, 1) := by decide +kernel
theorem dX5_doEnd_17 : decode cX5_doEnd 17 = .ok (.invokevirtual 141, 3) := by decide +kernel
theorem dX5_doEnd_20 : decode cX5_doEnd 20 = .ok (.lookupswitch 55 #[(6, 34), (13, 28)], 28) := by decide +kernel
theorem dX5_doEnd_48 : decode cX5_doEnd 48 = .ok (.aload_n 1, 1) := by decide +kernel
theorem dX5_doEnd_49 : decode cX5_doEnd 49 = .ok (.iload_n 2, 1) := by decide +kernel
theorem dX5_doEnd_50 : decode cX5_doEnd 50 = .ok (.invokevirtual 157, 3) := by decide +kernel
theorem dX5_doEnd_53 : decode cX5_doEnd 53 = .ok (.ireturn, 1) := by decide +kernel
theorem dX5_doEnd_54 : decode cX5_doEnd 54 = .ok (.aload_n 0, 1) := by decide +kernel
theorem dX5_doEnd_55 : decode cX5_doEnd 55 = .ok (.aload_n 1, 1) := by decide +kernel
theorem dX5_doEnd_56 : decode cX5_doEnd 56 = .ok (.invokevirtual 204, 3) := by decide +kernel
theorem dX5_doEnd_59 : decode cX5_doEnd 59 = .ok (.ifCond .eq 10, 3) := by decide +kernel
theorem dX5_doEnd_62 : decode cX5_doEnd 62 = .ok (.aload_n 1, 1) := by decide +kernel
theorem dX5_doEnd_63 : decode cX5_doEnd 63 = .ok (.invokevirtual 192, 3) := by decide +kernel
theorem dX5_doEnd_66 : decode cX5_doEnd 66 = .ok (.goto 8, 3) := by decide +kernel
theorem dX5_doEnd_69 : decode cX5_doEnd 69 = .ok (.aload_n 0, 1) := by decide +kernel
theorem dX5_doEnd_70 : decode cX5_doEnd 70 = .ok (.aload_n 1, 1) := by decide +kernel
theorem dX5_doEnd_71 : decode cX5_doEnd 71 = .ok (.invokevirtual 226, 3) := by decide +kernel
theorem dX5_doEnd_74 : decode cX5_doEnd 74 = .ok (.ireturn, 1) := by decide +kernel
theorem dX5_doEnd_75 : decode cX5_doEnd 75 = .ok (.aload_n 1, 1) := by decide +kernel
theorem dX5_doEnd_76 : decode cX5_doEnd 76 = .ok (.aload_n 1, 1) := by decide +kernel
theorem dX5_doEnd_77 : decode cX5_doEnd 77 = .ok (.getfield 101, 3) := by decide +kernel
theorem dX5_doEnd_80 : decode cX5_doEnd 80 = .ok (.iconst 1, 1) := by decide +kernel
theorem dX5_doEnd_81 : decode cX5_doEnd 81 = .ok (.iadd, 1) := by decide +kernel
theorem dX5_doEnd_82 : decode cX5_doEnd 82 = .ok (.invokevirtual 157, 3) := by decide +kernel
theorem dX5_doEnd_85 : decode cX5_doEnd 85 = .ok (.ireturn, 1) := by decide +kernel
theorem dX5_hasStaleReads_0 : decode cX5_hasStaleReads 0 = .ok (.aload_n 0, 1) := by decide +kernel
theorem dX5_hasStaleReads_1 : decode cX5_hasStaleReads 1 = .ok (.getfield 10, 3) := by decide +kernel
theorem dX5_hasStaleReads_4 : decode cX5_hasStaleReads 4 = .ok (.aload_n 1, 1) := by decide +kernel
theorem dX5_hasStaleReads_5 : decode cX5_hasStaleReads 5 = .ok (.getfield 114, 3) := by decide +kernel
theorem dX5_hasStaleReads_8 : decode cX5_hasStaleReads 8 = .ok (.aload_n 1, 1) := by decide +kernel
theorem dX5_hasStaleReads_9 : decode cX5_hasStaleReads 9 = .ok (.getfield 185, 3) := by decide +kernel
theorem dX5_hasStaleReads_12 : decode cX5_hasStaleReads 12 = .ok (.invokevirtual 188, 3) := by decide +kernel
theorem dX5_hasStaleReads_15 : decode cX5_hasStaleReads 15 = .ok (.ireturn, 1) := by decide +kernel
theorem dX5_commit_0 : decode cX5_commit 0 = .ok (.aload_n 1, 1) := by decide +kernel
theorem dX5_commit_1 : decode cX5_commit 1 = .ok (.getfield 117, 3) := by decide +kernel
theorem dX5_commit_4 : decode cX5_commit 4 = .ok (.istore_n 2, 1) := by decide +kernel
theorem dX5_commit_5 : decode cX5_commit 5 = .ok (.iload_n 2, 1) := by decide +kernel
theorem dX5_commit_6 : decode cX5_commit 6 = .ok (.ifCond .eq 46, 3) := by decide +kernel
theorem dX5_commit_9 : decode cX5_commit 9 = .ok (.aload_n 0, 1) := by decide +kernel
theorem dX5_commit_10 : decode cX5_commit 10 = .ok (.getfield 10, 3) := by decide +kernel
theorem dX5_commit_13 : decode cX5_commit 13 = .ok (.invokevirtual 80, 3) := by decide +kernel
theorem dX5_commit_16 : decode cX5_commit 16 = .ok (.iconst 0, 1) := by decide +kernel
theorem dX5_commit_17 : decode cX5_commit 17 = .ok (.istore_n 3, 1) := by decide +kernel
theorem dX5_commit_18 : decode cX5_commit 18 = .ok (.iload_n 3, 1) := by decide +kernel
theorem dX5_commit_19 : decode cX5_commit 19 = .ok (.bipush 8, 2) := by decide +kernel
theorem dX5_commit_21 : decode cX5_commit 21 = .ok (.if_icmp .ge 31, 3) := by decide +kernel
theorem dX5_commit_24 : decode cX5_commit 24 = .ok (.aload_n 1, 1) := by decide +kernel
theorem dX5_commit_25 : decode cX5_commit 25 = .ok (.iload_n 3, 1) := by decide +kernel
theorem dX5_commit_26 : decode cX5_commit 26 = .ok (.invokevirtual 108, 3) := by decide +kernel
theorem dX5_commit_29 : decode cX5_commit 29 = .ok (.ifCond .eq 17, 3) := by decide +kernel
theorem dX5_commit_32 : decode cX5_commit 32 = .ok (.aload_n 0, 1) := by decide +kernel
theorem dX5_commit_33 : decode cX5_commit 33 = .ok (.getfield 10, 3) := by decide +kernel
theorem dX5_commit_36 : decode cX5_commit 36 = .ok (.iload_n 3, 1) := by decide +kernel
theorem dX5_commit_37 : decode cX5_commit 37 = .ok (.aload_n 1, 1) := by decide +kernel
theorem dX5_commit_38 : decode cX5_commit 38 = .ok (.getfield 111, 3) := by decide +kernel
theorem dX5_commit_41 : decode cX5_commit 41 = .ok (.iload_n 3, 1) := by decide +kernel
theorem dX5_commit_42 : decode cX5_commit 42 = .ok (.iaload, 1) := by decide +kernel
theorem dX5_commit_43 : decode cX5_commit 43 = .ok (.invokevirtual 83, 3) := by decide +kernel
theorem dX5_commit_46 : decode cX5_commit 46 = .ok (.iinc 3 1, 3) := by decide +kernel
theorem dX5_commit_49 : decode cX5_commit 49 = .ok (.goto (-31), 3) := by decide +kernel
theorem dX5_commit_52 : decode cX5_commit 52 = .ok (.aload_n 1, 1) := by decide +kernel
theorem dX5_commit_53 : decode cX5_commit 53 = .ok (.invokevirtual 69, 3) := by decide +kernel
theorem dX5_commit_56 : decode cX5_commit 56 = .ok (.aload_n 1, 1) := by decide +kernel
theorem dX5_commit_57 : decode cX5_commit 57 = .ok (.aload_n 1, 1) := by decide +kernel
theorem dX5_commit_58 : decode cX5_commit 58 = .ok (.getfield 101, 3) := by decide +kernel
theorem dX5_commit_61 : decode cX5_commit 61 = .ok (.iconst 1, 1) := by decide +kernel
theorem dX5_commit_62 : decode cX5_commit 62 = .ok (.iadd, 1) := by decide +kernel
theorem dX5_commit_63 : decode cX5_commit 63 = .ok (.invokevirtual 157, 3) := by decide +kernel
theorem dX5_commit_66 : decode cX5_commit 66 = .ok (.pop, 1) := by decide +kernel
theorem dX5_commit_67 : decode cX5_commit 67 = .ok (.aload_n 0, 1) := by decide +kernel
theorem dX5_commit_68 : decode cX5_commit 68 = .ok (.iload_n 2, 1) := by decide +kernel
theorem dX5_commit_69 : decode cX5_commit 69 = .ok (.invokevirtual 87, 3) := by decide +kernel
theorem dX5_commit_72 : decode cX5_commit 72 = .ok (.iconst 1, 1) := by decide +kernel
theorem dX5_commit_73 : decode cX5_commit 73 = .ok (.ireturn, 1) := by decide +kernel
theorem dX5_wake_0 : decode cX5_wake 0 = .ok (.iconst 0, 1) := by decide +kernel
theorem dX5_wake_1 : decode cX5_wake 1 = .ok (.istore_n 2, 1) := by decide +kernel
theorem dX5_wake_2 : decode cX5_wake 2 = .ok (.iload_n 2, 1) := by decide +kernel
theorem dX5_wake_3 : decode cX5_wake 3 = .ok (.iconst 4, 1) := by decide +kernel
theorem dX5_wake_4 : decode cX5_wake 4 = .ok (.if_icmp .ge 31, 3) := by decide +kernel
theorem dX5_wake_7 : decode cX5_wake 7 = .ok (.aload_n 0, 1) := by decide +kernel
theorem dX5_wake_8 : decode cX5_wake 8 = .ok (.getfield 25, 3) := by decide +kernel
theorem dX5_wake_11 : decode cX5_wake 11 = .ok (.iload_n 2, 1) := by decide +kernel
theorem dX5_wake_12 : decode cX5_wake 12 = .ok (.aaload, 1) := by decide +kernel
theorem dX5_wake_13 : decode cX5_wake 13 = .ok (.iload_n 1, 1) := by decide +kernel
theorem dX5_wake_14 : decode cX5_wake 14 = .ok (.invokevirtual 120, 3) := by decide +kernel
theorem dX5_wake_17 : decode cX5_wake 17 = .ok (.ifCond .eq 12, 3) := by decide +kernel
theorem dX5_wake_20 : decode cX5_wake 20 = .ok (.aload_n 0, 1) := by decide +kernel
theorem dX5_wake_21 : decode cX5_wake 21 = .ok (.getfield 25, 3) := by decide +kernel
theorem dX5_wake_24 : decode cX5_wake 24 = .ok (.iload_n 2, 1) := by decide +kernel
theorem dX5_wake_25 : decode cX5_wake 25 = .ok (.aaload, 1) := by decide +kernel
theorem dX5_wake_26 : decode cX5_wake 26 = .ok (.invokevirtual 229, 3) := by decide +kernel
theorem dX5_wake_29 : decode cX5_wake 29 = .ok (.iinc 2 1, 3) := by decide +kernel
theorem dX5_wake_32 : decode cX5_wake 32 = .ok (.goto (-30), 3) := by decide +kernel
theorem dX5_wake_35 : decode cX5_wake 35 = .ok (.return_, 1) := by decide +kernel
theorem dX6_init_0 : decode cX6_init 0 = .ok (.aload_n 0, 1) := by decide +kernel
theorem dX6_init_1 : decode cX6_init 1 = .ok (.invokespecial 1, 3) := by decide +kernel
theorem dX6_init_4 : decode cX6_init 4 = .ok (.aload_n 0, 1) := by decide +kernel
theorem dX6_init_5 : decode cX6_init 5 = .ok (.bipush 120, 2) := by decide +kernel
theorem dX6_init_7 : decode cX6_init 7 = .ok (.newarray .int, 2) := by decide +kernel
theorem dX6_init_9 : decode cX6_init 9 = .ok (.putfield 7, 3) := by decide +kernel
theorem dX6_init_12 : decode cX6_init 12 = .ok (.aload_n 0, 1) := by decide +kernel
theorem dX6_init_13 : decode cX6_init 13 = .ok (.bipush 120, 2) := by decide +kernel
theorem dX6_init_15 : decode cX6_init 15 = .ok (.newarray .int, 2) := by decide +kernel
theorem dX6_init_17 : decode cX6_init 17 = .ok (.putfield 13, 3) := by decide +kernel
theorem dX6_init_20 : decode cX6_init 20 = .ok (.aload_n 0, 1) := by decide +kernel
theorem dX6_init_21 : decode cX6_init 21 = .ok (.bipush 120, 2) := by decide +kernel
theorem dX6_init_23 : decode cX6_init 23 = .ok (.newarray .int, 2) := by decide +kernel
theorem dX6_init_25 : decode cX6_init 25 = .ok (.putfield 16, 3) := by decide +kernel
theorem dX6_init_28 : decode cX6_init 28 = .ok (.aload_n 0, 1) := by decide +kernel
theorem dX6_init_29 : decode cX6_init 29 = .ok (.iconst 4, 1) := by decide +kernel
theorem dX6_init_30 : decode cX6_init 30 = .ok (.newarray .int, 2) := by decide +kernel
theorem dX6_init_32 : decode cX6_init 32 = .ok (.putfield 19, 3) := by decide +kernel
theorem dX6_init_35 : decode cX6_init 35 = .ok (.aload_n 0, 1) := by decide +kernel
theorem dX6_init_36 : decode cX6_init 36 = .ok (.iconst 4, 1) := by decide +kernel
theorem dX6_init_37 : decode cX6_init 37 = .ok (.newarray .int, 2) := by decide +kernel
theorem dX6_init_39 : decode cX6_init 39 = .ok (.putfield 22, 3) := by decide +kernel
theorem dX6_init_42 : decode cX6_init 42 = .ok (.aload_n 0, 1) := by decide +kernel
theorem dX6_init_43 : decode cX6_init 43 = .ok (.iconst 4, 1) := by decide +kernel
theorem dX6_init_44 : decode cX6_init 44 = .ok (.newarray .int, 2) := by decide +kernel
theorem dX6_init_46 : decode cX6_init 46 = .ok (.putfield 25, 3) := by decide +kernel
theorem dX6_init_49 : decode cX6_init 49 = .ok (.aload_n 0, 1) := by decide +kernel
theorem dX6_init_50 : decode cX6_init 50 = .ok (.iconst 4, 1) := by decide +kernel
theorem dX6_init_51 : decode cX6_init 51 = .ok (.newarray .int, 2) := by decide +kernel
theorem dX6_init_53 : decode cX6_init 53 = .ok (.putfield 28, 3) := by decide +kernel
theorem dX6_init_56 : decode cX6_init 56 = .ok (.aload_n 0, 1) := by decide +kernel
theorem dX6_init_57 : decode cX6_init 57 = .ok (.bipush 16, 2) := by decide +kernel
theorem dX6_init_59 : decode cX6_init 59 = .ok (.newarray .int, 2) := by decide +kernel
theorem dX6_init_61 : decode cX6_init 61 = .ok (.putfield 31, 3) := by decide +kernel
theorem dX6_init_64 : decode cX6_init 64 = .ok (.aload_n 0, 1) := by decide +kernel
theorem dX6_init_65 : decode cX6_init 65 = .ok (.bipush 16, 2) := by decide +kernel
theorem dX6_init_67 : decode cX6_init 67 = .ok (.newarray .int, 2) := by decide +kernel
theorem dX6_init_69 : decode cX6_init 69 = .ok (.putfield 34, 3) := by decide +kernel
theorem dX6_init_72 : decode cX6_init 72 = .ok (.aload_n 0, 1) := by decide +kernel
theorem dX6_init_73 : decode cX6_init 73 = .ok (.bipush 8, 2) := by decide +kernel
theorem dX6_init_75 : decode cX6_init 75 = .ok (.newarray .int, 2) := by decide +kernel
theorem dX6_init_77 : decode cX6_init 77 = .ok (.putfield 37, 3) := by decide +kernel
theorem dX6_init_80 : decode cX6_init 80 = .ok (.aload_n 0, 1) := by decide +kernel
theorem dX6_init_81 : decode cX6_init 81 = .ok (.bipush 8, 2) := by decide +kernel
theorem dX6_init_83 : decode cX6_init 83 = .ok (.newarray .int, 2) := by decide +kernel
theorem dX6_init_85 : decode cX6_init 85 = .ok (.putfield 40, 3) := by decide +kernel
theorem dX6_init_88 : decode cX6_init 88 = .ok (.aload_n 0, 1) := by decide +kernel
theorem dX6_init_89 : decode cX6_init 89 = .ok (.iconst 4, 1) := by decide +kernel
theorem dX6_init_90 : decode cX6_init 90 = .ok (.newarray .boolean, 2) := by decide +kernel
theorem dX6_init_92 : decode cX6_init 92 = .ok (.putfield 43, 3) := by decide +kernel
theorem dX6_init_95 : decode cX6_init 95 = .ok (.aload_n 0, 1) := by decide +kernel
theorem dX6_init_96 : decode cX6_init 96 = .ok (.iconst 4, 1) := by decide +kernel
theorem dX6_init_97 : decode cX6_init 97 = .ok (.newarray .int, 2) := by decide +kernel
theorem dX6_init_99 : decode cX6_init 99 = .ok (.putfield 47, 3) := by decide +kernel
theorem dX6_init_102 : decode cX6_init 102 = .ok (.aload_n 0, 1) := by decide +kernel
theorem dX6_init_103 : decode cX6_init 103 = .ok (.iconst 4, 1) := by decide +kernel
theorem dX6_init_104 : decode cX6_init 104 = .ok (.newarray .int, 2) := by decide +kernel
theorem dX6_init_106 : decode cX6_init 106 = .ok (.putfield 50, 3) := by decide +kernel
theorem dX6_init_109 : decode cX6_init 109 = .ok (.aload_n 0, 1) := by decide +kernel
theorem dX6_init_110 : decode cX6_init 110 = .ok (.bipush 32, 2) := by decide +kernel
theorem dX6_init_112 : decode cX6_init 112 = .ok (.newarray .boolean, 2) := by decide +kernel
theorem dX6_init_114 : decode cX6_init 114 = .ok (.putfield 53, 3) := by decide +kernel
theorem dX6_init_117 : decode cX6_init 117 = .ok (.aload_n 0, 1) := by decide +kernel
theorem dX6_init_118 : decode cX6_init 118 = .ok (.bipush 32, 2) := by decide +kernel
theorem dX6_init_120 : decode cX6_init 120 = .ok (.newarray .boolean, 2) := by decide +kernel
theorem dX6_init_122 : decode cX6_init 122 = .ok (.putfield 56, 3) := by decide +kernel
theorem dX6_init_125 : decode cX6_init 125 = .ok (.aload_n 0, 1) := by decide +kernel
theorem dX6_init_126 : decode cX6_init 126 = .ok (.bipush 32, 2) := by decide +kernel
theorem dX6_init_128 : decode cX6_init 128 = .ok (.newarray .boolean, 2) := by decide +kernel
theorem dX6_init_130 : decode cX6_init 130 = .ok (.putfield 59, 3) := by decide +kernel
theorem dX6_init_133 : decode cX6_init 133 = .ok (.aload_n 0, 1) := by decide +kernel
theorem dX6_init_134 : decode cX6_init 134 = .ok (.bipush 32, 2) := by decide +kernel
theorem dX6_init_136 : decode cX6_init 136 = .ok (.newarray .int, 2) := by decide +kernel
theorem dX6_init_138 : decode cX6_init 138 = .ok (.putfield 62, 3) := by decide +kernel
theorem dX6_init_141 : decode cX6_init 141 = .ok (.aload_n 0, 1) := by decide +kernel
theorem dX6_init_142 : decode cX6_init 142 = .ok (.iconst 4, 1) := by decide +kernel
theorem dX6_init_143 : decode cX6_init 143 = .ok (.newarray .int, 2) := by decide +kernel
theorem dX6_init_145 : decode cX6_init 145 = .ok (.putfield 65, 3) := by decide +kernel
theorem dX6_init_148 : decode cX6_init 148 = .ok (.aload_n 0, 1) := by decide +kernel
theorem dX6_init_149 : decode cX6_init 149 = .ok (.bipush 24, 2) := by decide +kernel
theorem dX6_init_151 : decode cX6_init 151 = .ok (.newarray .int, 2) := by decide +kernel
theorem dX6_init_153 : decode cX6_init 153 = .ok (.putfield 68, 3) := by decide +kernel
theorem dX6_init_156 : decode cX6_init 156 = .ok (.aload_n 0, 1) := by decide +kernel
theorem dX6_init_157 : decode cX6_init 157 = .ok (.bipush 96, 2) := by decide +kernel
theorem dX6_init_159 : decode cX6_init 159 = .ok (.newarray .int, 2) := by decide +kernel
theorem dX6_init_161 : decode cX6_init 161 = .ok (.putfield 71, 3) := by decide +kernel
theorem dX6_init_164 : decode cX6_init 164 = .ok (.aload_n 0, 1) := by decide +kernel
theorem dX6_init_165 : decode cX6_init 165 = .ok (.sipush 192, 3) := by decide +kernel
theorem dX6_init_168 : decode cX6_init 168 = .ok (.newarray .boolean, 2) := by decide +kernel
theorem dX6_init_170 : decode cX6_init 170 = .ok (.putfield 74, 3) := by decide +kernel
theorem dX6_init_173 : decode cX6_init 173 = .ok (.aload_n 0, 1) := by decide +kernel
theorem dX6_init_174 : decode cX6_init 174 = .ok (.sipush 192, 3) := by decide +kernel
theorem dX6_init_177 : decode cX6_init 177 = .ok (.newarray .int, 2) := by decide +kernel
theorem dX6_init_179 : decode cX6_init 179 = .ok (.putfield 77, 3) := by decide +kernel
theorem dX6_init_182 : decode cX6_init 182 = .ok (.aload_n 0, 1) := by decide +kernel
theorem dX6_init_183 : decode cX6_init 183 = .ok (.bipush 16, 2) := by decide +kernel
theorem dX6_init_185 : decode cX6_init 185 = .ok (.newarray .int, 2) := by decide +kernel
theorem dX6_init_187 : decode cX6_init 187 = .ok (.putfield 80, 3) := by decide +kernel
theorem dX6_init_190 : decode cX6_init 190 = .ok (.aload_n 0, 1) := by decide +kernel
theorem dX6_init_191 : decode cX6_init 191 = .ok (.bipush 6, 2) := by decide +kernel
theorem dX6_init_193 : decode cX6_init 193 = .ok (.newarray .int, 2) := by decide +kernel
theorem dX6_init_195 : decode cX6_init 195 = .ok (.putfield 83, 3) := by decide +kernel
theorem dX6_init_198 : decode cX6_init 198 = .ok (.aload_n 0, 1) := by decide +kernel
theorem dX6_init_199 : decode cX6_init 199 = .ok (.bipush 6, 2) := by decide +kernel
theorem dX6_init_201 : decode cX6_init 201 = .ok (.newarray .boolean, 2) := by decide +kernel
theorem dX6_init_203 : decode cX6_init 203 = .ok (.putfield 86, 3) := by decide +kernel
theorem dX6_init_206 : decode cX6_init 206 = .ok (.return_, 1) := by decide +kernel
theorem dX6_out_0 : decode cX6_out 0 = .ok (.iload_n 0, 1) := by decide +kernel
theorem dX6_out_1 : decode cX6_out 1 = .ok (.ifCond .lt 8, 3) := by decide +kernel
theorem dX6_out_4 : decode cX6_out 4 = .ok (.iload_n 0, 1) := by decide +kernel
theorem dX6_out_5 : decode cX6_out 5 = .ok (.iload_n 1, 1) := by decide +kernel
theorem dX6_out_6 : decode cX6_out 6 = .ok (.if_icmp .lt 7, 3) := by decide +kernel
theorem dX6_out_9 : decode cX6_out 9 = .ok (.iconst 1, 1) := by decide +kernel
theorem dX6_out_10 : decode cX6_out 10 = .ok (.goto 4, 3) := by decide +kernel
theorem dX6_out_13 : decode cX6_out 13 = .ok (.iconst 0, 1) := by decide +kernel
theorem dX6_out_14 : decode cX6_out 14 = .ok (.ireturn, 1) := by decide +kernel
theorem dX6_busy_0 : decode cX6_busy 0 = .ok (.aload_n 0, 1) := by decide +kernel
theorem dX6_busy_1 : decode cX6_busy 1 = .ok (.getfield 22, 3) := by decide +kernel
theorem dX6_busy_4 : decode cX6_busy 4 = .ok (.iload_n 1, 1) := by decide +kernel
theorem dX6_busy_5 : decode cX6_busy 5 = .ok (.iaload, 1) := by decide +kernel
