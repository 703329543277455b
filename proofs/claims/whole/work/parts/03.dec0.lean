theorem dX0_init_0 : decode cX0_init 0 = .ok (.aload_n 0, 1) := by decide +kernel
theorem dX0_init_1 : decode cX0_init 1 = .ok (.invokespecial 3, 3) := by decide +kernel
theorem dX0_init_4 : decode cX0_init 4 = .ok (.aload_n 0, 1) := by decide +kernel
theorem dX0_init_5 : decode cX0_init 5 = .ok (.iconst 4, 1) := by decide +kernel
theorem dX0_init_6 : decode cX0_init 6 = .ok (.newarray .int, 2) := by decide +kernel
theorem dX0_init_8 : decode cX0_init 8 = .ok (.putfield 9, 3) := by decide +kernel
theorem dX0_init_11 : decode cX0_init 11 = .ok (.aload_n 0, 1) := by decide +kernel
theorem dX0_init_12 : decode cX0_init 12 = .ok (.bipush 8, 2) := by decide +kernel
theorem dX0_init_14 : decode cX0_init 14 = .ok (.newarray .int, 2) := by decide +kernel
theorem dX0_init_16 : decode cX0_init 16 = .ok (.putfield 15, 3) := by decide +kernel
theorem dX0_init_19 : decode cX0_init 19 = .ok (.return_, 1) := by decide +kernel
theorem dX1_init_0 : decode cX1_init 0 = .ok (.aload_n 0, 1) := by decide +kernel
theorem dX1_init_1 : decode cX1_init 1 = .ok (.invokespecial 3, 3) := by decide +kernel
theorem dX1_init_4 : decode cX1_init 4 = .ok (.aload_n 0, 1) := by decide +kernel
theorem dX1_init_5 : decode cX1_init 5 = .ok (.bipush 8, 2) := by decide +kernel
theorem dX1_init_7 : decode cX1_init 7 = .ok (.newarray .int, 2) := by decide +kernel
theorem dX1_init_9 : decode cX1_init 9 = .ok (.putfield 9, 3) := by decide +kernel
theorem dX1_init_12 : decode cX1_init 12 = .ok (.aload_n 0, 1) := by decide +kernel
theorem dX1_init_13 : decode cX1_init 13 = .ok (.bipush 8, 2) := by decide +kernel
theorem dX1_init_15 : decode cX1_init 15 = .ok (.newarray .int, 2) := by decide +kernel
theorem dX1_init_17 : decode cX1_init 17 = .ok (.putfield 15, 3) := by decide +kernel
theorem dX1_init_20 : decode cX1_init 20 = .ok (.return_, 1) := by decide +kernel
theorem dX1_countCommit_0 : decode cX1_countCommit 0 = .ok (.aload_n 0, 1) := by decide +kernel
theorem dX1_countCommit_1 : decode cX1_countCommit 1 = .ok (.dup, 1) := by decide +kernel
theorem dX1_countCommit_2 : decode cX1_countCommit 2 = .ok (.getfield 18, 3) := by decide +kernel
theorem dX1_countCommit_5 : decode cX1_countCommit 5 = .ok (.iconst 1, 1) := by decide +kernel
theorem dX1_countCommit_6 : decode cX1_countCommit 6 = .ok (.iadd, 1) := by decide +kernel
theorem dX1_countCommit_7 : decode cX1_countCommit 7 = .ok (.putfield 18, 3) := by decide +kernel
theorem dX1_countCommit_10 : decode cX1_countCommit 10 = .ok (.return_, 1) := by decide +kernel
theorem dX1_change_0 : decode cX1_change 0 = .ok (.iload_n 1, 1) := by decide +kernel
theorem dX1_change_1 : decode cX1_change 1 = .ok (.invokestatic 22, 3) := by decide +kernel
theorem dX1_change_4 : decode cX1_change 4 = .ok (.ifCond .eq 20, 3) := by decide +kernel
theorem dX1_change_7 : decode cX1_change 7 = .ok (.aload_n 0, 1) := by decide +kernel
theorem dX1_change_8 : decode cX1_change 8 = .ok (.getfield 9, 3) := by decide +kernel
theorem dX1_change_11 : decode cX1_change 11 = .ok (.iload_n 1, 1) := by decide +kernel
theorem dX1_change_12 : decode cX1_change 12 = .ok (.iload_n 2, 1) := by decide +kernel
theorem dX1_change_13 : decode cX1_change 13 = .ok (.iastore, 1) := by decide +kernel
theorem dX1_change_14 : decode cX1_change 14 = .ok (.aload_n 0, 1) := by decide +kernel
theorem dX1_change_15 : decode cX1_change 15 = .ok (.getfield 15, 3) := by decide +kernel
theorem dX1_change_18 : decode cX1_change 18 = .ok (.iload_n 1, 1) := by decide +kernel
theorem dX1_change_19 : decode cX1_change 19 = .ok (.aload_n 0, 1) := by decide +kernel
theorem dX1_change_20 : decode cX1_change 20 = .ok (.getfield 18, 3) := by decide +kernel
theorem dX1_change_23 : decode cX1_change 23 = .ok (.iastore, 1) := by decide +kernel
theorem dX1_change_24 : decode cX1_change 24 = .ok (.return_, 1) := by decide +kernel
theorem dX1_hasChanged_0 : decode cX1_hasChanged 0 = .ok (.iconst 0, 1) := by decide +kernel
theorem dX1_hasChanged_1 : decode cX1_hasChanged 1 = .ok (.istore_n 3, 1) := by decide +kernel
theorem dX1_hasChanged_2 : decode cX1_hasChanged 2 = .ok (.iload_n 3, 1) := by decide +kernel
theorem dX1_hasChanged_3 : decode cX1_hasChanged 3 = .ok (.bipush 8, 2) := by decide +kernel
theorem dX1_hasChanged_5 : decode cX1_hasChanged 5 = .ok (.if_icmp .ge 29, 3) := by decide +kernel
theorem dX1_hasChanged_8 : decode cX1_hasChanged 8 = .ok (.iload_n 1, 1) := by decide +kernel
theorem dX1_hasChanged_9 : decode cX1_hasChanged 9 = .ok (.iconst 1, 1) := by decide +kernel
theorem dX1_hasChanged_10 : decode cX1_hasChanged 10 = .ok (.iload_n 3, 1) := by decide +kernel
theorem dX1_hasChanged_11 : decode cX1_hasChanged 11 = .ok (.ishl, 1) := by decide +kernel
theorem dX1_hasChanged_12 : decode cX1_hasChanged 12 = .ok (.iand, 1) := by decide +kernel
theorem dX1_hasChanged_13 : decode cX1_hasChanged 13 = .ok (.ifCond .eq 15, 3) := by decide +kernel
theorem dX1_hasChanged_16 : decode cX1_hasChanged 16 = .ok (.aload_n 0, 1) := by decide +kernel
theorem dX1_hasChanged_17 : decode cX1_hasChanged 17 = .ok (.getfield 15, 3) := by decide +kernel
theorem dX1_hasChanged_20 : decode cX1_hasChanged 20 = .ok (.iload_n 3, 1) := by decide +kernel
theorem dX1_hasChanged_21 : decode cX1_hasChanged 21 = .ok (.iaload, 1) := by decide +kernel
theorem dX1_hasChanged_22 : decode cX1_hasChanged 22 = .ok (.iload_n 2, 1) := by decide +kernel
theorem dX1_hasChanged_23 : decode cX1_hasChanged 23 = .ok (.if_icmp .le 5, 3) := by decide +kernel
theorem dX1_hasChanged_26 : decode cX1_hasChanged 26 = .ok (.iconst 1, 1) := by decide +kernel
theorem dX1_hasChanged_27 : decode cX1_hasChanged 27 = .ok (.ireturn, 1) := by decide +kernel
theorem dX1_hasChanged_28 : decode cX1_hasChanged 28 = .ok (.iinc 3 1, 3) := by decide +kernel
theorem dX1_hasChanged_31 : decode cX1_hasChanged 31 = .ok (.goto (-29), 3) := by decide +kernel
theorem dX1_hasChanged_34 : decode cX1_hasChanged 34 = .ok (.iconst 0, 1) := by decide +kernel
theorem dX1_hasChanged_35 : decode cX1_hasChanged 35 = .ok (.ireturn, 1) := by decide +kernel
theorem dX2_init_0 : decode cX2_init 0 = .ok (.aload_n 0, 1) := by decide +kernel
theorem dX2_init_1 : decode cX2_init 1 = .ok (.invokespecial 3, 3) := by decide +kernel
theorem dX2_init_4 : decode cX2_init 4 = .ok (.aload_n 0, 1) := by decide +kernel
theorem dX2_init_5 : decode cX2_init 5 = .ok (.bipush 16, 2) := by decide +kernel
theorem dX2_init_7 : decode cX2_init 7 = .ok (.newarray .int, 2) := by decide +kernel
theorem dX2_init_9 : decode cX2_init 9 = .ok (.putfield 9, 3) := by decide +kernel
theorem dX2_init_12 : decode cX2_init 12 = .ok (.return_, 1) := by decide +kernel
theorem dX2_write_0 : decode cX2_write 0 = .ok (.aload_n 0, 1) := by decide +kernel
theorem dX2_write_1 : decode cX2_write 1 = .ok (.getfield 9, 3) := by decide +kernel
theorem dX2_write_4 : decode cX2_write 4 = .ok (.aload_n 0, 1) := by decide +kernel
theorem dX2_write_5 : decode cX2_write 5 = .ok (.getfield 15, 3) := by decide +kernel
theorem dX2_write_8 : decode cX2_write 8 = .ok (.bipush 16, 2) := by decide +kernel
theorem dX2_write_10 : decode cX2_write 10 = .ok (.invokestatic 19, 3) := by decide +kernel
theorem dX2_write_13 : decode cX2_write 13 = .ok (.iload_n 1, 1) := by decide +kernel
theorem dX2_write_14 : decode cX2_write 14 = .ok (.iastore, 1) := by decide +kernel
theorem dX2_write_15 : decode cX2_write 15 = .ok (.aload_n 0, 1) := by decide +kernel
theorem dX2_write_16 : decode cX2_write 16 = .ok (.dup, 1) := by decide +kernel
theorem dX2_write_17 : decode cX2_write 17 = .ok (.getfield 15, 3) := by decide +kernel
theorem dX2_write_20 : decode cX2_write 20 = .ok (.iconst 1, 1) := by decide +kernel
theorem dX2_write_21 : decode cX2_write 21 = .ok (.iadd, 1) := by decide +kernel
theorem dX2_write_22 : decode cX2_write 22 = .ok (.putfield 15, 3) := by decide +kernel
theorem dX2_write_25 : decode cX2_write 25 = .ok (.return_, 1) := by decide +kernel
theorem dX2_latest_0 : decode cX2_latest 0 = .ok (.iload_n 1, 1) := by decide +kernel
theorem dX2_latest_1 : decode cX2_latest 1 = .ok (.ifCond .lt 17, 3) := by decide +kernel
theorem dX2_latest_4 : decode cX2_latest 4 = .ok (.iload_n 1, 1) := by decide +kernel
theorem dX2_latest_5 : decode cX2_latest 5 = .ok (.bipush 16, 2) := by decide +kernel
theorem dX2_latest_7 : decode cX2_latest 7 = .ok (.if_icmp .ge 11, 3) := by decide +kernel
theorem dX2_latest_10 : decode cX2_latest 10 = .ok (.iload_n 1, 1) := by decide +kernel
theorem dX2_latest_11 : decode cX2_latest 11 = .ok (.aload_n 0, 1) := by decide +kernel
theorem dX2_latest_12 : decode cX2_latest 12 = .ok (.getfield 15, 3) := by decide +kernel
theorem dX2_latest_15 : decode cX2_latest 15 = .ok (.if_icmp .lt 5, 3) := by decide +kernel
theorem dX2_latest_18 : decode cX2_latest 18 = .ok (.iconst 0, 1) := by decide +kernel
theorem dX2_latest_19 : decode cX2_latest 19 = .ok (.ireturn, 1) := by decide +kernel
theorem dX2_latest_20 : decode cX2_latest 20 = .ok (.aload_n 0, 1) := by decide +kernel
theorem dX2_latest_21 : decode cX2_latest 21 = .ok (.getfield 9, 3) := by decide +kernel
theorem dX2_latest_24 : decode cX2_latest 24 = .ok (.aload_n 0, 1) := by decide +kernel
theorem dX2_latest_25 : decode cX2_latest 25 = .ok (.getfield 15, 3) := by decide +kernel
theorem dX2_latest_28 : decode cX2_latest 28 = .ok (.iconst 1, 1) := by decide +kernel
theorem dX2_latest_29 : decode cX2_latest 29 = .ok (.isub, 1) := by decide +kernel
theorem dX2_latest_30 : decode cX2_latest 30 = .ok (.iload_n 1, 1) := by decide +kernel
theorem dX2_latest_31 : decode cX2_latest 31 = .ok (.isub, 1) := by decide +kernel
theorem dX2_latest_32 : decode cX2_latest 32 = .ok (.bipush 16, 2) := by decide +kernel
theorem dX2_latest_34 : decode cX2_latest 34 = .ok (.invokestatic 19, 3) := by decide +kernel
theorem dX2_latest_37 : decode cX2_latest 37 = .ok (.iaload, 1) := by decide +kernel
theorem dX2_latest_38 : decode cX2_latest 38 = .ok (.ireturn, 1) := by decide +kernel
theorem dX3_init_0 : decode cX3_init 0 = .ok (.aload_n 0, 1) := by decide +kernel
theorem dX3_init_1 : decode cX3_init 1 = .ok (.invokespecial 3, 3) := by decide +kernel
theorem dX3_init_4 : decode cX3_init 4 = .ok (.aload_n 0, 1) := by decide +kernel
theorem dX3_init_5 : decode cX3_init 5 = .ok (.bipush 30, 2) := by decide +kernel
theorem dX3_init_7 : decode cX3_init 7 = .ok (.newarray .int, 2) := by decide +kernel
theorem dX3_init_9 : decode cX3_init 9 = .ok (.putfield 9, 3) := by decide +kernel
theorem dX3_init_12 : decode cX3_init 12 = .ok (.aload_n 0, 1) := by decide +kernel
theorem dX3_init_13 : decode cX3_init 13 = .ok (.bipush 30, 2) := by decide +kernel
theorem dX3_init_15 : decode cX3_init 15 = .ok (.newarray .int, 2) := by decide +kernel
theorem dX3_init_17 : decode cX3_init 17 = .ok (.putfield 15, 3) := by decide +kernel
theorem dX3_init_20 : decode cX3_init 20 = .ok (.aload_n 0, 1) := by decide +kernel
theorem dX3_init_21 : decode cX3_init 21 = .ok (.bipush 30, 2) := by decide +kernel
theorem dX3_init_23 : decode cX3_init 23 = .ok (.newarray .int, 2) := by decide +kernel
theorem dX3_init_25 : decode cX3_init 25 = .ok (.putfield 18, 3) := by decide +kernel
theorem dX3_init_28 : decode cX3_init 28 = .ok (.aload_n 0, 1) := by decide +kernel
theorem dX3_init_29 : decode cX3_init 29 = .ok (.bipush 30, 2) := by decide +kernel
theorem dX3_init_31 : decode cX3_init 31 = .ok (.newarray .int, 2) := by decide +kernel
theorem dX3_init_33 : decode cX3_init 33 = .ok (.putfield 21, 3) := by decide +kernel
theorem dX3_init_36 : decode cX3_init 36 = .ok (.aload_n 0, 1) := by decide +kernel
theorem dX3_init_37 : decode cX3_init 37 = .ok (.bipush 30, 2) := by decide +kernel
theorem dX3_init_39 : decode cX3_init 39 = .ok (.newarray .int, 2) := by decide +kernel
theorem dX3_init_41 : decode cX3_init 41 = .ok (.putfield 24, 3) := by decide +kernel
theorem dX3_init_44 : decode cX3_init 44 = .ok (.aload_n 0, 1) := by decide +kernel
theorem dX3_init_45 : decode cX3_init 45 = .ok (.bipush 30, 2) := by decide +kernel
theorem dX3_init_47 : decode cX3_init 47 = .ok (.newarray .int, 2) := by decide +kernel
theorem dX3_init_49 : decode cX3_init 49 = .ok (.putfield 27, 3) := by decide +kernel
theorem dX3_init_52 : decode cX3_init 52 = .ok (.aload_n 0, 1) := by decide +kernel
theorem dX3_init_53 : decode cX3_init 53 = .ok (.iconst 5, 1) := by decide +kernel
theorem dX3_init_54 : decode cX3_init 54 = .ok (.newarray .int, 2) := by decide +kernel
theorem dX3_init_56 : decode cX3_init 56 = .ok (.putfield 30, 3) := by decide +kernel
theorem dX3_init_59 : decode cX3_init 59 = .ok (.return_, 1) := by decide +kernel
theorem dX3_at_0 : decode cX3_at 0 = .ok (.iload_n 1, 1) := by decide +kernel
theorem dX3_at_1 : decode cX3_at 1 = .ok (.ifCond .lt 15, 3) := by decide +kernel
theorem dX3_at_4 : decode cX3_at 4 = .ok (.iload_n 1, 1) := by decide +kernel
theorem dX3_at_5 : decode cX3_at 5 = .ok (.aload_n 0, 1) := by decide +kernel
theorem dX3_at_6 : decode cX3_at 6 = .ok (.arraylength, 1) := by decide +kernel
theorem dX3_at_7 : decode cX3_at 7 = .ok (.if_icmp .ge 9, 3) := by decide +kernel
theorem dX3_at_10 : decode cX3_at 10 = .ok (.aload_n 0, 1) := by decide +kernel
theorem dX3_at_11 : decode cX3_at 11 = .ok (.iload_n 1, 1) := by decide +kernel
theorem dX3_at_12 : decode cX3_at 12 = .ok (.iaload, 1) := by decide +kernel
theorem dX3_at_13 : decode cX3_at 13 = .ok (.goto 4, 3) := by decide +kernel
theorem dX3_at_16 : decode cX3_at 16 = .ok (.iconst (-1), 1) := by decide +kernel
theorem dX3_at_17 : decode cX3_at 17 = .ok (.ireturn, 1) := by decide +kernel
theorem dX3_isFull_0 : decode cX3_isFull 0 = .ok (.aload_n 0, 1) := by decide +kernel
theorem dX3_isFull_1 : decode cX3_isFull 1 = .ok (.getfield 33, 3) := by decide +kernel
theorem dX3_isFull_4 : decode cX3_isFull 4 = .ok (.bipush 30, 2) := by decide +kernel
theorem dX3_isFull_6 : decode cX3_isFull 6 = .ok (.if_icmp .lt 7, 3) := by decide +kernel
theorem dX3_isFull_9 : decode cX3_isFull 9 = .ok (.iconst 1, 1) := by decide +kernel
theorem dX3_isFull_10 : decode cX3_isFull 10 = .ok (.goto 4, 3) := by decide +kernel
theorem dX3_isFull_13 : decode cX3_isFull 13 = .ok (.iconst 0, 1) := by decide +kernel
theorem dX3_isFull_14 : decode cX3_isFull 14 = .ok (.ireturn, 1) := by decide +kernel
theorem dX3_append_0 : decode cX3_append 0 = .ok (.aload_n 0, 1) := by decide +kernel
theorem dX3_append_1 : decode cX3_append 1 = .ok (.invokevirtual 37, 3) := by decide +kernel
theorem dX3_append_4 : decode cX3_append 4 = .ok (.ifCond .ne 43, 3) := by decide +kernel
theorem dX3_append_7 : decode cX3_append 7 = .ok (.aload_n 0, 1) := by decide +kernel
theorem dX3_append_8 : decode cX3_append 8 = .ok (.getfield 9, 3) := by decide +kernel
theorem dX3_append_11 : decode cX3_append 11 = .ok (.aload_n 0, 1) := by decide +kernel
theorem dX3_append_12 : decode cX3_append 12 = .ok (.getfield 33, 3) := by decide +kernel
theorem dX3_append_15 : decode cX3_append 15 = .ok (.iload_n 1, 1) := by decide +kernel
theorem dX3_append_16 : decode cX3_append 16 = .ok (.iastore, 1) := by decide +kernel
theorem dX3_append_17 : decode cX3_append 17 = .ok (.aload_n 0, 1) := by decide +kernel
theorem dX3_append_18 : decode cX3_append 18 = .ok (.getfield 15, 3) := by decide +kernel
theorem dX3_append_21 : decode cX3_append 21 = .ok (.aload_n 0, 1) := by decide +kernel
theorem dX3_append_22 : decode cX3_append 22 = .ok (.getfield 33, 3) := by decide +kernel
theorem dX3_append_25 : decode cX3_append 25 = .ok (.iload_n 2, 1) := by decide +kernel
theorem dX3_append_26 : decode cX3_append 26 = .ok (.iastore, 1) := by decide +kernel
theorem dX3_append_27 : decode cX3_append 27 = .ok (.aload_n 0, 1) := by decide +kernel
theorem dX3_append_28 : decode cX3_append 28 = .ok (.getfield 18, 3) := by decide +kernel
theorem dX3_append_31 : decode cX3_append 31 = .ok (.aload_n 0, 1) := by decide +kernel
theorem dX3_append_32 : decode cX3_append 32 = .ok (.getfield 33, 3) := by decide +kernel
theorem dX3_append_35 : decode cX3_append 35 = .ok (.iload_n 3, 1) := by decide +kernel
theorem dX3_append_36 : decode cX3_append 36 = .ok (.iastore, 1) := by decide +kernel
theorem dX3_append_37 : decode cX3_append 37 = .ok (.aload_n 0, 1) := by decide +kernel
theorem dX3_append_38 : decode cX3_append 38 = .ok (.dup, 1) := by decide +kernel
theorem dX3_append_39 : decode cX3_append 39 = .ok (.getfield 33, 3) := by decide +kernel
theorem dX3_append_42 : decode cX3_append 42 = .ok (.iconst 1, 1) := by decide +kernel
theorem dX3_append_43 : decode cX3_append 43 = .ok (.iadd, 1) := by decide +kernel
theorem dX3_append_44 : decode cX3_append 44 = .ok (.putfield 33, 3) := by decide +kernel
theorem dX3_append_47 : decode cX3_append 47 = .ok (.return_, 1) := by decide +kernel
theorem dX3_kindAt_0 : decode cX3_kindAt 0 = .ok (.aload_n 0, 1) := by decide +kernel
theorem dX3_kindAt_1 : decode cX3_kindAt 1 = .ok (.getfield 9, 3) := by decide +kernel
theorem dX3_kindAt_4 : decode cX3_kindAt 4 = .ok (.iload_n 1, 1) := by decide +kernel
theorem dX3_kindAt_5 : decode cX3_kindAt 5 = .ok (.invokestatic 41, 3) := by decide +kernel
theorem dX3_kindAt_8 : decode cX3_kindAt 8 = .ok (.ireturn, 1) := by decide +kernel
theorem dX3_firstAt_0 : decode cX3_firstAt 0 = .ok (.aload_n 0, 1) := by decide +kernel
theorem dX3_firstAt_1 : decode cX3_firstAt 1 = .ok (.getfield 15, 3) := by decide +kernel
theorem dX3_firstAt_4 : decode cX3_firstAt 4 = .ok (.iload_n 1, 1) := by decide +kernel
theorem dX3_firstAt_5 : decode cX3_firstAt 5 = .ok (.invokestatic 41, 3) := by decide +kernel
theorem dX3_firstAt_8 : decode cX3_firstAt 8 = .ok (.ireturn, 1) := by decide +kernel
theorem dX3_secondAt_0 : decode cX3_secondAt 0 = .ok (.aload_n 0, 1) := by decide +kernel
theorem dX3_secondAt_1 : decode cX3_secondAt 1 = .ok (.getfield 18, 3) := by decide +kernel
theorem dX3_secondAt_4 : decode cX3_secondAt 4 = .ok (.iload_n 1, 1) := by decide +kernel
theorem dX3_secondAt_5 : decode cX3_secondAt 5 = .ok (.invokestatic 41, 3) := by decide +kernel
theorem dX3_secondAt_8 : decode cX3_secondAt 8 = .ok (.ireturn, 1) := by decide +kernel
theorem dX3_openerOf_0 : decode cX3_openerOf 0 = .ok (.aload_n 0, 1) := by decide +kernel
theorem dX3_openerOf_1 : decode cX3_openerOf 1 = .ok (.getfield 21, 3) := by decide +kernel
theorem dX3_openerOf_4 : decode cX3_openerOf 4 = .ok (.iload_n 1, 1) := by decide +kernel
theorem dX3_openerOf_5 : decode cX3_openerOf 5 = .ok (.invokestatic 41, 3) := by decide +kernel
theorem dX3_openerOf_8 : decode cX3_openerOf 8 = .ok (.ireturn, 1) := by decide +kernel
theorem dX3_middleOf_0 : decode cX3_middleOf 0 = .ok (.aload_n 0, 1) := by decide +kernel
theorem dX3_middleOf_1 : decode cX3_middleOf 1 = .ok (.getfield 24, 3) := by decide +kernel
theorem dX3_middleOf_4 : decode cX3_middleOf 4 = .ok (.iload_n 1, 1) := by decide +kernel
theorem dX3_middleOf_5 : decode cX3_middleOf 5 = .ok (.invokestatic 41, 3) := by decide +kernel
theorem dX3_middleOf_8 : decode cX3_middleOf 8 = .ok (.ireturn, 1) := by decide +kernel
theorem dX3_behindEnd_0 : decode cX3_behindEnd 0 = .ok (.aload_n 0, 1) := by decide +kernel
theorem dX3_behindEnd_1 : decode cX3_behindEnd 1 = .ok (.getfield 27, 3) := by decide +kernel
theorem dX3_behindEnd_4 : decode cX3_behindEnd 4 = .ok (.aload_n 0, 1) := by decide +kernel
theorem dX3_behindEnd_5 : decode cX3_behindEnd 5 = .ok (.getfield 21, 3) := by decide +kernel
theorem dX3_behindEnd_8 : decode cX3_behindEnd 8 = .ok (.iload_n 1, 1) := by decide +kernel
theorem dX3_behindEnd_9 : decode cX3_behindEnd 9 = .ok (.invokestatic 41, 3) := by decide +kernel
theorem dX3_behindEnd_12 : decode cX3_behindEnd 12 = .ok (.invokestatic 41, 3) := by decide +kernel
theorem dX3_behindEnd_15 : decode cX3_behindEnd 15 = .ok (.iconst 1, 1) := by decide +kernel
theorem dX3_behindEnd_16 : decode cX3_behindEnd 16 = .ok (.iadd, 1) := by decide +kernel
theorem dX3_behindEnd_17 : decode cX3_behindEnd 17 = .ok (.ireturn, 1) := by decide +kernel
theorem dX3_secondPart_0 : decode cX3_secondPart 0 = .ok (.aload_n 0, 1) := by decide +kernel
theorem dX3_secondPart_1 : decode cX3_secondPart 1 = .ok (.getfield 24, 3) := by decide +kernel
theorem dX3_secondPart_4 : decode cX3_secondPart 4 = .ok (.iload_n 1, 1) := by decide +kernel
theorem dX3_secondPart_5 : decode cX3_secondPart 5 = .ok (.invokestatic 41, 3) := by decide +kernel
theorem dX3_secondPart_8 : decode cX3_secondPart 8 = .ok (.iconst 1, 1) := by decide +kernel
theorem dX3_secondPart_9 : decode cX3_secondPart 9 = .ok (.iadd, 1) := by decide +kernel
theorem dX3_secondPart_10 : decode cX3_secondPart 10 = .ok (.ireturn, 1) := by decide +kernel
theorem dX3_elsewhere_0 : decode cX3_elsewhere 0 = .ok (.aload_n 0, 1) := by decide +kernel
theorem dX3_elsewhere_1 : decode cX3_elsewhere 1 = .ok (.iload_n 1, 1) := by decide +kernel
theorem dX3_elsewhere_2 : decode cX3_elsewhere 2 = .ok (.invokevirtual 45, 3) := by decide +kernel
theorem dX3_elsewhere_5 : decode cX3_elsewhere 5 = .ok (.iconst (-1), 1) := by decide +kernel
theorem dX3_elsewhere_6 : decode cX3_elsewhere 6 = .ok (.if_icmp .ne 16, 3) := by decide +kernel
theorem dX3_elsewhere_9 : decode cX3_elsewhere 9 = .ok (.aload_n 0, 1) := by decide +kernel
theorem dX3_elsewhere_10 : decode cX3_elsewhere 10 = .ok (.getfield 27, 3) := by decide +kernel
theorem dX3_elsewhere_13 : decode cX3_elsewhere 13 = .ok (.iload_n 1, 1) := by decide +kernel
theorem dX3_elsewhere_14 : decode cX3_elsewhere 14 = .ok (.invokestatic 41, 3) := by decide +kernel
theorem dX3_elsewhere_17 : decode cX3_elsewhere 17 = .ok (.iconst 1, 1) := by decide +kernel
theorem dX3_elsewhere_18 : decode cX3_elsewhere 18 = .ok (.iadd, 1) := by decide +kernel
theorem dX3_elsewhere_19 : decode cX3_elsewhere 19 = .ok (.goto 8, 3) := by decide +kernel
theorem dX3_elsewhere_22 : decode cX3_elsewhere 22 = .ok (.aload_n 0, 1) := by decide +kernel
theorem dX3_elsewhere_23 : decode cX3_elsewhere 23 = .ok (.iload_n 1, 1) := by decide +kernel
theorem dX3_elsewhere_24 : decode cX3_elsewhere 24 = .ok (.invokevirtual 49, 3) := by decide +kernel
theorem dX3_elsewhere_27 : decode cX3_elsewhere 27 = .ok (.ireturn, 1) := by decide +kernel
theorem dX3_goThrough_0 : decode cX3_goThrough 0 = .ok (.aload_n 0, 1) := by decide +kernel
theorem dX3_goThrough_1 : decode cX3_goThrough 1 = .ok (.iconst 0, 1) := by decide +kernel
theorem dX3_goThrough_2 : decode cX3_goThrough 2 = .ok (.putfield 52, 3) := by decide +kernel
theorem dX3_goThrough_5 : decode cX3_goThrough 5 = .ok (.iconst 0, 1) := by decide +kernel
theorem dX3_goThrough_6 : decode cX3_goThrough 6 = .ok (.istore_n 1, 1) := by decide +kernel
theorem dX3_goThrough_7 : decode cX3_goThrough 7 = .ok (.iload_n 1, 1) := by decide +kernel
theorem dX3_goThrough_8 : decode cX3_goThrough 8 = .ok (.aload_n 0, 1) := by decide +kernel
theorem dX3_goThrough_9 : decode cX3_goThrough 9 = .ok (.getfield 33, 3) := by decide +kernel
theorem dX3_goThrough_12 : decode cX3_goThrough 12 = .ok (.if_icmp .ge 28, 3) := by decide +kernel
theorem dX3_goThrough_15 : decode cX3_goThrough 15 = .ok (.aload_n 0, 1) := by decide +kernel
theorem dX3_goThrough_16 : decode cX3_goThrough 16 = .ok (.aload_n 0, 1) := by decide +kernel
theorem dX3_goThrough_17 : decode cX3_goThrough 17 = .ok (.iload_n 1, 1) := by decide +kernel
theorem dX3_goThrough_18 : decode cX3_goThrough 18 = .ok (.invokevirtual 55, 3) := by decide +kernel
theorem dX3_goThrough_21 : decode cX3_goThrough 21 = .ok (.invokevirtual 58, 3) := by decide +kernel
theorem dX3_goThrough_24 : decode cX3_goThrough 24 = .ok (.ifCond .eq 5, 3) := by decide +kernel
theorem dX3_goThrough_27 : decode cX3_goThrough 27 = .ok (.iload_n 1, 1) := by decide +kernel
theorem dX3_goThrough_28 : decode cX3_goThrough 28 = .ok (.ireturn, 1) := by decide +kernel
theorem dX3_goThrough_29 : decode cX3_goThrough 29 = .ok (.aload_n 0, 1) := by decide +kernel
theorem dX3_goThrough_30 : decode cX3_goThrough 30 = .ok (.iload_n 1, 1) := by decide +kernel
theorem dX3_goThrough_31 : decode cX3_goThrough 31 = .ok (.invokevirtual 62, 3) := by decide +kernel
theorem dX3_goThrough_34 : decode cX3_goThrough 34 = .ok (.iinc 1 1, 3) := by decide +kernel
theorem dX3_goThrough_37 : decode cX3_goThrough 37 = .ok (.goto (-30), 3) := by decide +kernel
theorem dX3_goThrough_40 : decode cX3_goThrough 40 = .ok (.aload_n 0, 1) := by decide +kernel
theorem dX3_goThrough_41 : decode cX3_goThrough 41 = .ok (.getfield 52, 3) := by decide +kernel
theorem dX3_goThrough_44 : decode cX3_goThrough 44 = .ok (.ifCond .ne 7, 3) := by decide +kernel
theorem dX3_goThrough_47 : decode cX3_goThrough 47 = .ok (.iconst (-1), 1) := by decide +kernel
theorem dX3_goThrough_48 : decode cX3_goThrough 48 = .ok (.goto 7, 3) := by decide +kernel
theorem dX3_goThrough_51 : decode cX3_goThrough 51 = .ok (.aload_n 0, 1) := by decide +kernel
theorem dX3_goThrough_52 : decode cX3_goThrough 52 = .ok (.getfield 33, 3) := by decide +kernel
theorem dX3_goThrough_55 : decode cX3_goThrough 55 = .ok (.ireturn, 1) := by decide +kernel
theorem dX3_isWrong_0 : decode cX3_isWrong 0 = .ok (.iload_n 1, 1) := by decide +kernel
theorem dX3_isWrong_1 : decode cX3_isWrong 1 = .ok (.tableswitch 221 3 16 #[147, 147, 181, 186, 71, 147, 160, 102, 207, 117, 207, 221, 207, 132], 71) := by decide +kernel
theorem dX3_isWrong_72 : decode cX3_isWrong 72 = .ok (.aload_n 0, 1) := by decide +kernel
theorem dX3_isWrong_73 : decode cX3_isWrong 73 = .ok (.getfield 52, 3) := by decide +kernel
theorem dX3_isWrong_76 : decode cX3_isWrong 76 = .ok (.ifCond .eq 21, 3) := by decide +kernel
theorem dX3_isWrong_79 : decode cX3_isWrong 79 = .ok (.aload_n 0, 1) := by decide +kernel
theorem dX3_isWrong_80 : decode cX3_isWrong 80 = .ok (.bipush 9, 2) := by decide +kernel
theorem dX3_isWrong_82 : decode cX3_isWrong 82 = .ok (.invokevirtual 66, 3) := by decide +kernel
theorem dX3_isWrong_85 : decode cX3_isWrong 85 = .ok (.ifCond .ne 12, 3) := by decide +kernel
theorem dX3_isWrong_88 : decode cX3_isWrong 88 = .ok (.aload_n 0, 1) := by decide +kernel
theorem dX3_isWrong_89 : decode cX3_isWrong 89 = .ok (.bipush 15, 2) := by decide +kernel
theorem dX3_isWrong_91 : decode cX3_isWrong 91 = .ok (.invokevirtual 66, 3) := by decide +kernel
theorem dX3_isWrong_94 : decode cX3_isWrong 94 = .ok (.ifCond .eq 7, 3) := by decide +kernel
theorem dX3_isWrong_97 : decode cX3_isWrong 97 = .ok (.iconst 1, 1) := by decide +kernel
theorem dX3_isWrong_98 : decode cX3_isWrong 98 = .ok (.goto 4, 3) := by decide +kernel
theorem dX3_isWrong_101 : decode cX3_isWrong 101 = .ok (.iconst 0, 1) := by decide +kernel
theorem dX3_isWrong_102 : decode cX3_isWrong 102 = .ok (.ireturn, 1) := by decide +kernel
theorem dX3_isWrong_103 : decode cX3_isWrong 103 = .ok (.aload_n 0, 1) := by decide +kernel
theorem dX3_isWrong_104 : decode cX3_isWrong 104 = .ok (.bipush 9, 2) := by decide +kernel
theorem dX3_isWrong_106 : decode cX3_isWrong 106 = .ok (.invokevirtual 66, 3) := by decide +kernel
theorem dX3_isWrong_109 : decode cX3_isWrong 109 = .ok (.ifCond .ne 7, 3) := by decide +kernel
theorem dX3_isWrong_112 : decode cX3_isWrong 112 = .ok (.iconst 1, 1) := by decide +kernel
theorem dX3_isWrong_113 : decode cX3_isWrong 113 = .ok (.goto 4, 3) := by decide +kernel
theorem dX3_isWrong_116 : decode cX3_isWrong 116 = .ok (.iconst 0, 1) := by decide +kernel
theorem dX3_isWrong_117 : decode cX3_isWrong 117 = .ok (.ireturn, 1) := by decide +kernel
theorem dX3_isWrong_118 : decode cX3_isWrong 118 = .ok (.aload_n 0, 1) := by decide +kernel
theorem dX3_isWrong_119 : decode cX3_isWrong 119 = .ok (.bipush 11, 2) := by decide +kernel
theorem dX3_isWrong_121 : decode cX3_isWrong 121 = .ok (.invokevirtual 66, 3) := by decide +kernel
theorem dX3_isWrong_124 : decode cX3_isWrong 124 = .ok (.ifCond .ne 7, 3) := by decide +kernel
theorem dX3_isWrong_127 : decode cX3_isWrong 127 = .ok (.iconst 1, 1) := by decide +kernel
theorem dX3_isWrong_128 : decode cX3_isWrong 128 = .ok (.goto 4, 3) := by decide +kernel
theorem dX3_isWrong_131 : decode cX3_isWrong 131 = .ok (.iconst 0, 1) := by decide +kernel
theorem dX3_isWrong_132 : decode cX3_isWrong 132 = .ok (.ireturn, 1) := by decide +kernel
theorem dX3_isWrong_133 : decode cX3_isWrong 133 = .ok (.aload_n 0, 1) := by decide +kernel
theorem dX3_isWrong_134 : decode cX3_isWrong 134 = .ok (.bipush 15, 2) := by decide +kernel
theorem dX3_isWrong_136 : decode cX3_isWrong 136 = .ok (.invokevirtual 66, 3) := by decide +kernel
theorem dX3_isWrong_139 : decode cX3_isWrong 139 = .ok (.ifCond .ne 7, 3) := by decide +kernel
theorem dX3_isWrong_142 : decode cX3_isWrong 142 = .ok (.iconst 1, 1) := by decide +kernel
theorem dX3_isWrong_143 : decode cX3_isWrong 143 = .ok (.goto 4, 3) := by decide +kernel
theorem dX3_isWrong_146 : decode cX3_isWrong 146 = .ok (.iconst 0, 1) := by decide +kernel
theorem dX3_isWrong_147 : decode cX3_isWrong 147 = .ok (.ireturn, 1) := by decide +kernel
theorem dX3_isWrong_148 : decode cX3_isWrong 148 = .ok (.aload_n 0, 1) := by decide +kernel
theorem dX3_isWrong_149 : decode cX3_isWrong 149 = .ok (.invokevirtual 69, 3) := by decide +kernel
theorem dX3_isWrong_152 : decode cX3_isWrong 152 = .ok (.ifCond .ne 7, 3) := by decide +kernel
theorem dX3_isWrong_155 : decode cX3_isWrong 155 = .ok (.iconst 1, 1) := by decide +kernel
theorem dX3_isWrong_156 : decode cX3_isWrong 156 = .ok (.goto 4, 3) := by decide +kernel
theorem dX3_isWrong_159 : decode cX3_isWrong 159 = .ok (.iconst 0, 1) := by decide +kernel
theorem dX3_isWrong_160 : decode cX3_isWrong 160 = .ok (.ireturn, 1) := by decide +kernel
theorem dX3_isWrong_161 : decode cX3_isWrong 161 = .ok (.aload_n 0, 1) := by decide +kernel
theorem dX3_isWrong_162 : decode cX3_isWrong 162 = .ok (.invokevirtual 69, 3) := by decide +kernel
theorem dX3_isWrong_165 : decode cX3_isWrong 165 = .ok (.ifCond .eq 11, 3) := by decide +kernel
theorem dX3_isWrong_168 : decode cX3_isWrong 168 = .ok (.aload_n 0, 1) := by decide +kernel
theorem dX3_isWrong_169 : decode cX3_isWrong 169 = .ok (.getfield 52, 3) := by decide +kernel
theorem dX3_isWrong_172 : decode cX3_isWrong 172 = .ok (.iconst 5, 1) := by decide +kernel
theorem dX3_isWrong_173 : decode cX3_isWrong 173 = .ok (.if_icmp .lt 7, 3) := by decide +kernel
theorem dX3_isWrong_176 : decode cX3_isWrong 176 = .ok (.iconst 1, 1) := by decide +kernel
theorem dX3_isWrong_177 : decode cX3_isWrong 177 = .ok (.goto 4, 3) := by decide +kernel
theorem dX3_isWrong_180 : decode cX3_isWrong 180 = .ok (.iconst 0, 1) := by decide +kernel
theorem dX3_isWrong_181 : decode cX3_isWrong 181 = .ok (.ireturn, 1) := by decide +kernel
theorem dX3_isWrong_182 : decode cX3_isWrong 182 = .ok (.aload_n 0, 1) := by decide +kernel
theorem dX3_isWrong_183 : decode cX3_isWrong 183 = .ok (.invokevirtual 69, 3) := by decide +kernel
theorem dX3_isWrong_186 : decode cX3_isWrong 186 = .ok (.ireturn, 1) := by decide +kernel
theorem dX3_isWrong_187 : decode cX3_isWrong 187 = .ok (.aload_n 0, 1) := by decide +kernel
theorem dX3_isWrong_188 : decode cX3_isWrong 188 = .ok (.invokevirtual 69, 3) := by decide +kernel
theorem dX3_isWrong_191 : decode cX3_isWrong 191 = .ok (.ifCond .ne 11, 3) := by decide +kernel
theorem dX3_isWrong_194 : decode cX3_isWrong 194 = .ok (.aload_n 0, 1) := by decide +kernel
theorem dX3_isWrong_195 : decode cX3_isWrong 195 = .ok (.getfield 52, 3) := by decide +kernel
theorem dX3_isWrong_198 : decode cX3_isWrong 198 = .ok (.iconst 5, 1) := by decide +kernel
theorem dX3_isWrong_199 : decode cX3_isWrong 199 = .ok (.if_icmp .lt 7, 3) := by decide +kernel
theorem dX3_isWrong_202 : decode cX3_isWrong 202 = .ok (.iconst 1, 1) := by decide +kernel
theorem dX3_isWrong_203 : decode cX3_isWrong 203 = .ok (.goto 4, 3) := by decide +kernel
theorem dX3_isWrong_206 : decode cX3_isWrong 206 = .ok (.iconst 0, 1) := by decide +kernel
theorem dX3_isWrong_207 : decode cX3_isWrong 207 = .ok (.ireturn, 1) := by decide +kernel
theorem dX3_isWrong_208 : decode cX3_isWrong 208 = .ok (.aload_n 0, 1) := by decide +kernel
theorem dX3_isWrong_209 : decode cX3_isWrong 209 = .ok (.getfield 52, 3) := by decide +kernel
theorem dX3_isWrong_212 : decode cX3_isWrong 212 = .ok (.iconst 5, 1) := by decide +kernel
theorem dX3_isWrong_213 : decode cX3_isWrong 213 = .ok (.if_icmp .lt 7, 3) := by decide +kernel
theorem dX3_isWrong_216 : decode cX3_isWrong 216 = .ok (.iconst 1, 1) := by decide +kernel
theorem dX3_isWrong_217 : decode cX3_isWrong 217 = .ok (.goto 4, 3) := by decide +kernel
theorem dX3_isWrong_220 : decode cX3_isWrong 220 = .ok (.iconst 0, 1) := by decide +kernel
theorem dX3_isWrong_221 : decode cX3_isWrong 221 = .ok (.ireturn, 1) := by decide +kernel
theorem dX3_isWrong_222 : decode cX3_isWrong 222 = .ok (.iconst 0, 1) := by decide +kernel
theorem dX3_isWrong_223 : decode cX3_isWrong 223 = .ok (.ireturn, 1) := by decide +kernel
theorem dX3_innermost_0 : decode cX3_innermost 0 = .ok (.aload_n 0, 1) := by decide +kernel
theorem dX3_innermost_1 : decode cX3_innermost 1 = .ok (.getfield 30, 3) := by decide +kernel
theorem dX3_innermost_4 : decode cX3_innermost 4 = .ok (.aload_n 0, 1) := by decide +kernel
theorem dX3_innermost_5 : decode cX3_innermost 5 = .ok (.getfield 52, 3) := by decide +kernel
theorem dX3_innermost_8 : decode cX3_innermost 8 = .ok (.iconst 1, 1) := by decide +kernel
theorem dX3_innermost_9 : decode cX3_innermost 9 = .ok (.isub, 1) := by decide +kernel
theorem dX3_innermost_10 : decode cX3_innermost 10 = .ok (.invokestatic 41, 3) := by decide +kernel
theorem dX3_innermost_13 : decode cX3_innermost 13 = .ok (.ireturn, 1) := by decide +kernel
theorem dX3_lacksMiddle_0 : decode cX3_lacksMiddle 0 = .ok (.aload_n 0, 1) := by decide +kernel
theorem dX3_lacksMiddle_1 : decode cX3_lacksMiddle 1 = .ok (.invokevirtual 72, 3) := by decide +kernel
theorem dX3_lacksMiddle_4 : decode cX3_lacksMiddle 4 = .ok (.istore_n 2, 1) := by decide +kernel
theorem dX3_lacksMiddle_5 : decode cX3_lacksMiddle 5 = .ok (.aload_n 0, 1) := by decide +kernel
theorem dX3_lacksMiddle_6 : decode cX3_lacksMiddle 6 = .ok (.iload_n 2, 1) := by decide +kernel
theorem dX3_lacksMiddle_7 : decode cX3_lacksMiddle 7 = .ok (.invokevirtual 55, 3) := by decide +kernel
theorem dX3_lacksMiddle_10 : decode cX3_lacksMiddle 10 = .ok (.iload_n 1, 1) := by decide +kernel
theorem dX3_lacksMiddle_11 : decode cX3_lacksMiddle 11 = .ok (.if_icmp .ne 16, 3) := by decide +kernel
theorem dX3_lacksMiddle_14 : decode cX3_lacksMiddle 14 = .ok (.aload_n 0, 1) := by decide +kernel
theorem dX3_lacksMiddle_15 : decode cX3_lacksMiddle 15 = .ok (.iload_n 2, 1) := by decide +kernel
theorem dX3_lacksMiddle_16 : decode cX3_lacksMiddle 16 = .ok (.invokevirtual 45, 3) := by decide +kernel
theorem dX3_lacksMiddle_19 : decode cX3_lacksMiddle 19 = .ok (.iconst (-1), 1) := by decide +kernel
theorem dX3_lacksMiddle_20 : decode cX3_lacksMiddle 20 = .ok (.if_icmp .ne 7, 3) := by decide +kernel
theorem dX3_lacksMiddle_23 : decode cX3_lacksMiddle 23 = .ok (.iconst 1, 1) := by decide +kernel
theorem dX3_lacksMiddle_24 : decode cX3_lacksMiddle 24 = .ok (.goto 4, 3) := by decide +kernel
theorem dX3_lacksMiddle_27 : decode cX3_lacksMiddle 27 = .ok (.iconst 0, 1) := by decide +kernel
theorem dX3_lacksMiddle_28 : decode cX3_lacksMiddle 28 = .ok (.ireturn, 1) := by decide +kernel
theorem dX3_isAtomicOpen_0 : decode cX3_isAtomicOpen 0 = .ok (.iconst 0, 1) := by decide +kernel
theorem dX3_isAtomicOpen_1 : decode cX3_isAtomicOpen 1 = .ok (.istore_n 1, 1) := by decide +kernel
theorem dX3_isAtomicOpen_2 : decode cX3_isAtomicOpen 2 = .ok (.iload_n 1, 1) := by decide +kernel
theorem dX3_isAtomicOpen_3 : decode cX3_isAtomicOpen 3 = .ok (.aload_n 0, 1) := by decide +kernel
theorem dX3_isAtomicOpen_4 : decode cX3_isAtomicOpen 4 = .ok (.getfield 52, 3) := by decide +kernel
theorem dX3_isAtomicOpen_7 : decode cX3_isAtomicOpen 7 = .ok (.if_icmp .ge 28, 3) := by decide +kernel
theorem dX3_isAtomicOpen_10 : decode cX3_isAtomicOpen 10 = .ok (.aload_n 0, 1) := by decide +kernel
theorem dX3_isAtomicOpen_11 : decode cX3_isAtomicOpen 11 = .ok (.aload_n 0, 1) := by decide +kernel
theorem dX3_isAtomicOpen_12 : decode cX3_isAtomicOpen 12 = .ok (.getfield 30, 3) := by decide +kernel
theorem dX3_isAtomicOpen_15 : decode cX3_isAtomicOpen 15 = .ok (.iload_n 1, 1) := by decide +kernel
theorem dX3_isAtomicOpen_16 : decode cX3_isAtomicOpen 16 = .ok (.invokestatic 41, 3) := by decide +kernel
theorem dX3_isAtomicOpen_19 : decode cX3_isAtomicOpen 19 = .ok (.invokevirtual 55, 3) := by decide +kernel
theorem dX3_isAtomicOpen_22 : decode cX3_isAtomicOpen 22 = .ok (.bipush 6, 2) := by decide +kernel
theorem dX3_isAtomicOpen_24 : decode cX3_isAtomicOpen 24 = .ok (.if_icmp .ne 5, 3) := by decide +kernel
theorem dX3_isAtomicOpen_27 : decode cX3_isAtomicOpen 27 = .ok (.iconst 1, 1) := by decide +kernel
theorem dX3_isAtomicOpen_28 : decode cX3_isAtomicOpen 28 = .ok (.ireturn, 1) := by decide +kernel
theorem dX3_isAtomicOpen_29 : decode cX3_isAtomicOpen 29 = .ok (.iinc 1 1, 3) := by decide +kernel
theorem dX3_isAtomicOpen_32 : decode cX3_isAtomicOpen 32 = .ok (.goto (-30), 3) := by decide +kernel
theorem dX3_isAtomicOpen_35 : decode cX3_isAtomicOpen 35 = .ok (.iconst 0, 1) := by decide +kernel
theorem dX3_isAtomicOpen_36 : decode cX3_isAtomicOpen 36 = .ok (.ireturn, 1) := by decide +kernel
theorem dX3_connect_0 : decode cX3_connect 0 = .ok (.aload_n 0, 1) := by decide +kernel
theorem dX3_connect_1 : decode cX3_connect 1 = .ok (.iload_n 1, 1) := by decide +kernel
theorem dX3_connect_2 : decode cX3_connect 2 = .ok (.invokevirtual 55, 3) := by decide +kernel
theorem dX3_connect_5 : decode cX3_connect 5 = .ok (.tableswitch 101 6 16 #[59, 79, 101, 59, 67, 59, 67, 59, 101, 59, 67], 59) := by decide +kernel
theorem dX3_connect_64 : decode cX3_connect 64 = .ok (.aload_n 0, 1) := by decide +kernel
theorem dX3_connect_65 : decode cX3_connect 65 = .ok (.iload_n 1, 1) := by decide +kernel
theorem dX3_connect_66 : decode cX3_connect 66 = .ok (.invokevirtual 76, 3) := by decide +kernel
theorem dX3_connect_69 : decode cX3_connect 69 = .ok (.goto 37, 3) := by decide +kernel
theorem dX3_connect_72 : decode cX3_connect 72 = .ok (.aload_n 0, 1) := by decide +kernel
theorem dX3_connect_73 : decode cX3_connect 73 = .ok (.aload_n 0, 1) := by decide +kernel
theorem dX3_connect_74 : decode cX3_connect 74 = .ok (.getfield 24, 3) := by decide +kernel
theorem dX3_connect_77 : decode cX3_connect 77 = .ok (.iload_n 1, 1) := by decide +kernel
theorem dX3_connect_78 : decode cX3_connect 78 = .ok (.invokevirtual 79, 3) := by decide +kernel
theorem dX3_connect_81 : decode cX3_connect 81 = .ok (.goto 25, 3) := by decide +kernel
theorem dX3_connect_84 : decode cX3_connect 84 = .ok (.aload_n 0, 1) := by decide +kernel
theorem dX3_connect_85 : decode cX3_connect 85 = .ok (.aload_n 0, 1) := by decide +kernel
theorem dX3_connect_86 : decode cX3_connect 86 = .ok (.getfield 27, 3) := by decide +kernel
theorem dX3_connect_89 : decode cX3_connect 89 = .ok (.iload_n 1, 1) := by decide +kernel
theorem dX3_connect_90 : decode cX3_connect 90 = .ok (.invokevirtual 79, 3) := by decide +kernel
theorem dX3_connect_93 : decode cX3_connect 93 = .ok (.aload_n 0, 1) := by decide +kernel
theorem dX3_connect_94 : decode cX3_connect 94 = .ok (.dup, 1) := by decide +kernel
theorem dX3_connect_95 : decode cX3_connect 95 = .ok (.getfield 52, 3) := by decide +kernel
theorem dX3_connect_98 : decode cX3_connect 98 = .ok (.iconst 1, 1) := by decide +kernel
theorem dX3_connect_99 : decode cX3_connect 99 = .ok (.isub, 1) := by decide +kernel
theorem dX3_connect_100 : decode cX3_connect 100 = .ok (.putfield 52, 3) := by decide +kernel
theorem dX3_connect_103 : decode cX3_connect 103 = .ok (.goto 3, 3) := by decide +kernel
theorem dX3_connect_106 : decode cX3_connect 106 = .ok (.return_, 1) := by decide +kernel
theorem dX3_connectOpener_0 : decode cX3_connectOpener 0 = .ok (.aload_n 0, 1) := by decide +kernel
theorem dX3_connectOpener_1 : decode cX3_connectOpener 1 = .ok (.getfield 52, 3) := by decide +kernel
theorem dX3_connectOpener_4 : decode cX3_connectOpener 4 = .ok (.iconst 5, 1) := by decide +kernel
theorem dX3_connectOpener_5 : decode cX3_connectOpener 5 = .ok (.if_icmp .ge 30, 3) := by decide +kernel
theorem dX3_connectOpener_8 : decode cX3_connectOpener 8 = .ok (.aload_n 0, 1) := by decide +kernel
theorem dX3_connectOpener_9 : decode cX3_connectOpener 9 = .ok (.getfield 24, 3) := by decide +kernel
theorem dX3_connectOpener_12 : decode cX3_connectOpener 12 = .ok (.iload_n 1, 1) := by decide +kernel
theorem dX3_connectOpener_13 : decode cX3_connectOpener 13 = .ok (.iconst (-1), 1) := by decide +kernel
theorem dX3_connectOpener_14 : decode cX3_connectOpener 14 = .ok (.iastore, 1) := by decide +kernel
theorem dX3_connectOpener_15 : decode cX3_connectOpener 15 = .ok (.aload_n 0, 1) := by decide +kernel
theorem dX3_connectOpener_16 : decode cX3_connectOpener 16 = .ok (.getfield 30, 3) := by decide +kernel
theorem dX3_connectOpener_19 : decode cX3_connectOpener 19 = .ok (.aload_n 0, 1) := by decide +kernel
theorem dX3_connectOpener_20 : decode cX3_connectOpener 20 = .ok (.getfield 52, 3) := by decide +kernel
theorem dX3_connectOpener_23 : decode cX3_connectOpener 23 = .ok (.iload_n 1, 1) := by decide +kernel
theorem dX3_connectOpener_24 : decode cX3_connectOpener 24 = .ok (.iastore, 1) := by decide +kernel
theorem dX3_connectOpener_25 : decode cX3_connectOpener 25 = .ok (.aload_n 0, 1) := by decide +kernel
theorem dX3_connectOpener_26 : decode cX3_connectOpener 26 = .ok (.dup, 1) := by decide +kernel
theorem dX3_connectOpener_27 : decode cX3_connectOpener 27 = .ok (.getfield 52, 3) := by decide +kernel
theorem dX3_connectOpener_30 : decode cX3_connectOpener 30 = .ok (.iconst 1, 1) := by decide +kernel
theorem dX3_connectOpener_31 : decode cX3_connectOpener 31 = .ok (.iadd, 1) := by decide +kernel
theorem dX3_connectOpener_32 : decode cX3_connectOpener 32 = .ok (.putfield 52, 3) := by decide +kernel
theorem dX3_connectOpener_35 : decode cX3_connectOpener 35 = .ok (.return_, 1) := by decide +kernel
theorem dX3_connectTo_0 : decode cX3_connectTo 0 = .ok (.aload_n 0, 1) := by decide +kernel
theorem dX3_connectTo_1 : decode cX3_connectTo 1 = .ok (.invokevirtual 72, 3) := by decide +kernel
theorem dX3_connectTo_4 : decode cX3_connectTo 4 = .ok (.istore_n 3, 1) := by decide +kernel
theorem dX3_connectTo_5 : decode cX3_connectTo 5 = .ok (.iload_n 3, 1) := by decide +kernel
theorem dX3_connectTo_6 : decode cX3_connectTo 6 = .ok (.ifCond .lt 20, 3) := by decide +kernel
theorem dX3_connectTo_9 : decode cX3_connectTo 9 = .ok (.iload_n 3, 1) := by decide +kernel
theorem dX3_connectTo_10 : decode cX3_connectTo 10 = .ok (.aload_n 1, 1) := by decide +kernel
theorem dX3_connectTo_11 : decode cX3_connectTo 11 = .ok (.arraylength, 1) := by decide +kernel
theorem dX3_connectTo_12 : decode cX3_connectTo 12 = .ok (.if_icmp .ge 14, 3) := by decide +kernel
theorem dX3_connectTo_15 : decode cX3_connectTo 15 = .ok (.aload_n 1, 1) := by decide +kernel
theorem dX3_connectTo_16 : decode cX3_connectTo 16 = .ok (.iload_n 3, 1) := by decide +kernel
theorem dX3_connectTo_17 : decode cX3_connectTo 17 = .ok (.iload_n 2, 1) := by decide +kernel
theorem dX3_connectTo_18 : decode cX3_connectTo 18 = .ok (.iastore, 1) := by decide +kernel
theorem dX3_connectTo_19 : decode cX3_connectTo 19 = .ok (.aload_n 0, 1) := by decide +kernel
theorem dX3_connectTo_20 : decode cX3_connectTo 20 = .ok (.getfield 21, 3) := by decide +kernel
theorem dX3_connectTo_23 : decode cX3_connectTo 23 = .ok (.iload_n 2, 1) := by decide +kernel
theorem dX3_connectTo_24 : decode cX3_connectTo 24 = .ok (.iload_n 3, 1) := by decide +kernel
theorem dX3_connectTo_25 : decode cX3_connectTo 25 = .ok (.iastore, 1) := by decide +kernel
theorem dX3_connectTo_26 : decode cX3_connectTo 26 = .ok (.return_, 1) := by decide +kernel
theorem dX4_init_0 : decode cX4_init 0 = .ok (.aload_n 0, 1) := by decide +kernel
theorem dX4_init_1 : decode cX4_init 1 = .ok (.invokespecial 3, 3) := by decide +kernel
theorem dX4_init_4 : decode cX4_init 4 = .ok (.aload_n 0, 1) := by decide +kernel
theorem dX4_init_5 : decode cX4_init 5 = .ok (.new 9, 3) := by decide +kernel
theorem dX4_init_8 : decode cX4_init 8 = .ok (.dup, 1) := by decide +kernel
theorem dX4_init_9 : decode cX4_init 9 = .ok (.invokespecial 11, 3) := by decide +kernel
theorem dX4_init_12 : decode cX4_init 12 = .ok (.putfield 12, 3) := by decide +kernel
theorem dX4_init_15 : decode cX4_init 15 = .ok (.aload_n 0, 1) := by decide +kernel
theorem dX4_init_16 : decode cX4_init 16 = .ok (.iconst 4, 1) := by decide +kernel
theorem dX4_init_17 : decode cX4_init 17 = .ok (.newarray .int, 2) := by decide +kernel
theorem dX4_init_19 : decode cX4_init 19 = .ok (.putfield 18, 3) := by decide +kernel
theorem dX4_init_22 : decode cX4_init 22 = .ok (.aload_n 0, 1) := by decide +kernel
theorem dX4_init_23 : decode cX4_init 23 = .ok (.bipush 8, 2) := by decide +kernel
theorem dX4_init_25 : decode cX4_init 25 = .ok (.newarray .int, 2) := by decide +kernel
theorem dX4_init_27 : decode cX4_init 27 = .ok (.putfield 22, 3) := by decide +kernel
theorem dX4_init_30 : decode cX4_init 30 = .ok (.aload_n 0, 1) := by decide +kernel
theorem dX4_init_31 : decode cX4_init 31 = .ok (.iconst 5, 1) := by decide +kernel
theorem dX4_init_32 : decode cX4_init 32 = .ok (.anewarray 25, 3) := by decide +kernel
theorem dX4_init_35 : decode cX4_init 35 = .ok (.putfield 27, 3) := by decide +kernel
theorem dX4_init_38 : decode cX4_init 38 = .ok (.aload_n 0, 1) := by decide +kernel
theorem dX4_init_39 : decode cX4_init 39 = .ok (.iconst (-1), 1) := by decide +kernel
theorem dX4_init_40 : decode cX4_init 40 = .ok (.putfield 31, 3) := by decide +kernel
theorem dX4_init_43 : decode cX4_init 43 = .ok (.aload_n 0, 1) := by decide +kernel
theorem dX4_init_44 : decode cX4_init 44 = .ok (.iconst 0, 1) := by decide +kernel
theorem dX4_init_45 : decode cX4_init 45 = .ok (.putfield 35, 3) := by decide +kernel
theorem dX4_init_48 : decode cX4_init 48 = .ok (.iconst 0, 1) := by decide +kernel
theorem dX4_init_49 : decode cX4_init 49 = .ok (.istore_n 1, 1) := by decide +kernel
theorem dX4_init_50 : decode cX4_init 50 = .ok (.iload_n 1, 1) := by decide +kernel
theorem dX4_init_51 : decode cX4_init 51 = .ok (.iconst 5, 1) := by decide +kernel
theorem dX4_init_52 : decode cX4_init 52 = .ok (.if_icmp .ge 22, 3) := by decide +kernel
theorem dX4_init_55 : decode cX4_init 55 = .ok (.aload_n 0, 1) := by decide +kernel
theorem dX4_init_56 : decode cX4_init 56 = .ok (.getfield 27, 3) := by decide +kernel
theorem dX4_init_59 : decode cX4_init 59 = .ok (.iload_n 1, 1) := by decide +kernel
theorem dX4_init_60 : decode cX4_init 60 = .ok (.new 25, 3) := by decide +kernel
theorem dX4_init_63 : decode cX4_init 63 = .ok (.dup, 1) := by decide +kernel
theorem dX4_init_64 : decode cX4_init 64 = .ok (.invokespecial 38, 3) := by decide +kernel
theorem dX4_init_67 : decode cX4_init 67 = .ok (.aastore, 1) := by decide +kernel
theorem dX4_init_68 : decode cX4_init 68 = .ok (.iinc 1 1, 3) := by decide +kernel
theorem dX4_init_71 : decode cX4_init 71 = .ok (.goto (-21), 3) := by decide +kernel
theorem dX4_init_74 : decode cX4_init 74 = .ok (.return_, 1) := by decide +kernel
theorem dX4_isUnderWay_0 : decode cX4_isUnderWay 0 = .ok (.aload_n 0, 1) := by decide +kernel
theorem dX4_isUnderWay_1 : decode cX4_isUnderWay 1 = .ok (.getfield 35, 3) := by decide +kernel
theorem dX4_isUnderWay_4 : decode cX4_isUnderWay 4 = .ok (.iconst 1, 1) := by decide +kernel
theorem dX4_isUnderWay_5 : decode cX4_isUnderWay 5 = .ok (.if_icmp .eq 11, 3) := by decide +kernel
theorem dX4_isUnderWay_8 : decode cX4_isUnderWay 8 = .ok (.aload_n 0, 1) := by decide +kernel
theorem dX4_isUnderWay_9 : decode cX4_isUnderWay 9 = .ok (.getfield 35, 3) := by decide +kernel
theorem dX4_isUnderWay_12 : decode cX4_isUnderWay 12 = .ok (.iconst 2, 1) := by decide +kernel
theorem dX4_isUnderWay_13 : decode cX4_isUnderWay 13 = .ok (.if_icmp .ne 7, 3) := by decide +kernel
theorem dX4_isUnderWay_16 : decode cX4_isUnderWay 16 = .ok (.iconst 1, 1) := by decide +kernel
theorem dX4_isUnderWay_17 : decode cX4_isUnderWay 17 = .ok (.goto 4, 3) := by decide +kernel
theorem dX4_isUnderWay_20 : decode cX4_isUnderWay 20 = .ok (.iconst 0, 1) := by decide +kernel
theorem dX4_isUnderWay_21 : decode cX4_isUnderWay 21 = .ok (.ireturn, 1) := by decide +kernel
theorem dX4_isInAttempt_0 : decode cX4_isInAttempt 0 = .ok (.aload_n 0, 1) := by decide +kernel
theorem dX4_isInAttempt_1 : decode cX4_isInAttempt 1 = .ok (.getfield 31, 3) := by decide +kernel
theorem dX4_isInAttempt_4 : decode cX4_isInAttempt 4 = .ok (.iconst (-1), 1) := by decide +kernel
theorem dX4_isInAttempt_5 : decode cX4_isInAttempt 5 = .ok (.if_icmp .eq 7, 3) := by decide +kernel
theorem dX4_isInAttempt_8 : decode cX4_isInAttempt 8 = .ok (.iconst 1, 1) := by decide +kernel
theorem dX4_isInAttempt_9 : decode cX4_isInAttempt 9 = .ok (.goto 4, 3) := by decide +kernel
theorem dX4_isInAttempt_12 : decode cX4_isInAttempt 12 = .ok (.iconst 0, 1) := by decide +kernel
theorem dX4_isInAttempt_13 : decode cX4_isInAttempt 13 = .ok (.ireturn, 1) := by decide +kernel
theorem dX4_hasWritten_0 : decode cX4_hasWritten 0 = .ok (.aload_n 0, 1) := by decide +kernel
theorem dX4_hasWritten_1 : decode cX4_hasWritten 1 = .ok (.getfield 39, 3) := by decide +kernel
theorem dX4_hasWritten_4 : decode cX4_hasWritten 4 = .ok (.iconst 1, 1) := by decide +kernel
theorem dX4_hasWritten_5 : decode cX4_hasWritten 5 = .ok (.iload_n 1, 1) := by decide +kernel
theorem dX4_hasWritten_6 : decode cX4_hasWritten 6 = .ok (.ishl, 1) := by decide +kernel
theorem dX4_hasWritten_7 : decode cX4_hasWritten 7 = .ok (.iand, 1) := by decide +kernel
theorem dX4_hasWritten_8 : decode cX4_hasWritten 8 = .ok (.ifCond .eq 7, 3) := by decide +kernel
theorem dX4_hasWritten_11 : decode cX4_hasWritten 11 = .ok (.iconst 1, 1) := by decide +kernel
theorem dX4_hasWritten_12 : decode cX4_hasWritten 12 = .ok (.goto 4, 3) := by decide +kernel
theorem dX4_hasWritten_15 : decode cX4_hasWritten 15 = .ok (.iconst 0, 1) := by decide +kernel
theorem dX4_hasWritten_16 : decode cX4_hasWritten 16 = .ok (.ireturn, 1) := by decide +kernel
theorem dX4_waitsFor_0 : decode cX4_waitsFor 0 = .ok (.aload_n 0, 1) := by decide +kernel
theorem dX4_waitsFor_1 : decode cX4_waitsFor 1 = .ok (.getfield 35, 3) := by decide +kernel
theorem dX4_waitsFor_4 : decode cX4_waitsFor 4 = .ok (.iconst 2, 1) := by decide +kernel
theorem dX4_waitsFor_5 : decode cX4_waitsFor 5 = .ok (.if_icmp .ne 16, 3) := by decide +kernel
theorem dX4_waitsFor_8 : decode cX4_waitsFor 8 = .ok (.aload_n 0, 1) := by decide +kernel
theorem dX4_waitsFor_9 : decode cX4_waitsFor 9 = .ok (.getfield 42, 3) := by decide +kernel
theorem dX4_waitsFor_12 : decode cX4_waitsFor 12 = .ok (.iload_n 1, 1) := by decide +kernel
theorem dX4_waitsFor_13 : decode cX4_waitsFor 13 = .ok (.iand, 1) := by decide +kernel
theorem dX4_waitsFor_14 : decode cX4_waitsFor 14 = .ok (.ifCond .eq 7, 3) := by decide +kernel
theorem dX4_waitsFor_17 : decode cX4_waitsFor 17 = .ok (.iconst 1, 1) := by decide +kernel
theorem dX4_waitsFor_18 : decode cX4_waitsFor 18 = .ok (.goto 4, 3) := by decide +kernel
theorem dX4_waitsFor_21 : decode cX4_waitsFor 21 = .ok (.iconst 0, 1) := by decide +kernel
theorem dX4_waitsFor_22 : decode cX4_waitsFor 22 = .ok (.ireturn, 1) := by decide +kernel
theorem dX4_registerValue_0 : decode cX4_registerValue 0 = .ok (.iload_n 1, 1) := by decide +kernel
theorem dX4_registerValue_1 : decode cX4_registerValue 1 = .ok (.invokestatic 45, 3) := by decide +kernel
theorem dX4_registerValue_4 : decode cX4_registerValue 4 = .ok (.ifCond .eq 12, 3) := by decide +kernel
theorem dX4_registerValue_7 : decode cX4_registerValue 7 = .ok (.aload_n 0, 1) := by decide +kernel
theorem dX4_registerValue_8 : decode cX4_registerValue 8 = .ok (.getfield 18, 3) := by decide +kernel
theorem dX4_registerValue_11 : decode cX4_registerValue 11 = .ok (.iload_n 1, 1) := by decide +kernel
theorem dX4_registerValue_12 : decode cX4_registerValue 12 = .ok (.iaload, 1) := by decide +kernel
theorem dX4_registerValue_13 : decode cX4_registerValue 13 = .ok (.goto 4, 3) := by decide +kernel
theorem dX4_registerValue_16 : decode cX4_registerValue 16 = .ok (.iconst 0, 1) := by decide +kernel
theorem dX4_registerValue_17 : decode cX4_registerValue 17 = .ok (.ireturn, 1) := by decide +kernel
theorem dX4_setRegister_0 : decode cX4_setRegister 0 = .ok (.iload_n 1, 1) := by decide +kernel
theorem dX4_setRegister_1 : decode cX4_setRegister 1 = .ok (.invokestatic 45, 3) := by decide +kernel
theorem dX4_setRegister_4 : decode cX4_setRegister 4 = .ok (.ifCond .eq 10, 3) := by decide +kernel
theorem dX4_setRegister_7 : decode cX4_setRegister 7 = .ok (.aload_n 0, 1) := by decide +kernel
theorem dX4_setRegister_8 : decode cX4_setRegister 8 = .ok (.getfield 18, 3) := by decide +kernel
theorem dX4_setRegister_11 : decode cX4_setRegister 11 = .ok (.iload_n 1, 1) := by decide +kernel
theorem dX4_setRegister_12 : decode cX4_setRegister 12 = .ok (.iload_n 2, 1) := by decide +kernel
theorem dX4_setRegister_13 : decode cX4_setRegister 13 = .ok (.iastore, 1) := by decide +kernel
theorem dX4_setRegister_14 : decode cX4_setRegister 14 = .ok (.return_, 1) := by decide +kernel
theorem dX4_begin_0 : decode cX4_begin 0 = .ok (.iconst 0, 1) := by decide +kernel
theorem dX4_begin_1 : decode cX4_begin 1 = .ok (.istore_n 1, 1) := by decide +kernel
theorem dX4_begin_2 : decode cX4_begin 2 = .ok (.iload_n 1, 1) := by decide +kernel
theorem dX4_begin_3 : decode cX4_begin 3 = .ok (.iconst 4, 1) := by decide +kernel
theorem dX4_begin_4 : decode cX4_begin 4 = .ok (.if_icmp .ge 16, 3) := by decide +kernel
theorem dX4_begin_7 : decode cX4_begin 7 = .ok (.aload_n 0, 1) := by decide +kernel
theorem dX4_begin_8 : decode cX4_begin 8 = .ok (.getfield 18, 3) := by decide +kernel
theorem dX4_begin_11 : decode cX4_begin 11 = .ok (.iload_n 1, 1) := by decide +kernel
theorem dX4_begin_12 : decode cX4_begin 12 = .ok (.iconst 0, 1) := by decide +kernel
theorem dX4_begin_13 : decode cX4_begin 13 = .ok (.iastore, 1) := by decide +kernel
theorem dX4_begin_14 : decode cX4_begin 14 = .ok (.iinc 1 1, 3) := by decide +kernel
theorem dX4_begin_17 : decode cX4_begin 17 = .ok (.goto (-15), 3) := by decide +kernel
theorem dX4_begin_20 : decode cX4_begin 20 = .ok (.aload_n 0, 1) := by decide +kernel
theorem dX4_begin_21 : decode cX4_begin 21 = .ok (.iconst 0, 1) := by decide +kernel
theorem dX4_begin_22 : decode cX4_begin 22 = .ok (.putfield 49, 3) := by decide +kernel
theorem dX4_begin_25 : decode cX4_begin 25 = .ok (.aload_n 0, 1) := by decide +kernel
theorem dX4_begin_26 : decode cX4_begin 26 = .ok (.iconst 0, 1) := by decide +kernel
theorem dX4_begin_27 : decode cX4_begin 27 = .ok (.putfield 52, 3) := by decide +kernel
theorem dX4_begin_30 : decode cX4_begin 30 = .ok (.aload_n 0, 1) := by decide +kernel
theorem dX4_begin_31 : decode cX4_begin 31 = .ok (.iconst 1, 1) := by decide +kernel
theorem dX4_begin_32 : decode cX4_begin 32 = .ok (.putfield 35, 3) := by decide +kernel
theorem dX4_begin_35 : decode cX4_begin 35 = .ok (.aload_n 0, 1) := by decide +kernel
theorem dX4_begin_36 : decode cX4_begin 36 = .ok (.iconst 0, 1) := by decide +kernel
theorem dX4_begin_37 : decode cX4_begin 37 = .ok (.invokevirtual 55, 3) := by decide +kernel
theorem dX4_begin_40 : decode cX4_begin 40 = .ok (.pop, 1) := by decide +kernel
theorem dX4_begin_41 : decode cX4_begin 41 = .ok (.return_, 1) := by decide +kernel
theorem dX4_goOnTo_0 : decode cX4_goOnTo 0 = .ok (.aload_n 0, 1) := by decide +kernel
theorem dX4_goOnTo_1 : decode cX4_goOnTo 1 = .ok (.iload_n 1, 1) := by decide +kernel
theorem dX4_goOnTo_2 : decode cX4_goOnTo 2 = .ok (.putfield 59, 3) := by decide +kernel
theorem dX4_goOnTo_5 : decode cX4_goOnTo 5 = .ok (.iload_n 1, 1) := by decide +kernel
theorem dX4_goOnTo_6 : decode cX4_goOnTo 6 = .ok (.aload_n 0, 1) := by decide +kernel
theorem dX4_goOnTo_7 : decode cX4_goOnTo 7 = .ok (.getfield 12, 3) := by decide +kernel
theorem dX4_goOnTo_10 : decode cX4_goOnTo 10 = .ok (.getfield 62, 3) := by decide +kernel
theorem dX4_goOnTo_13 : decode cX4_goOnTo 13 = .ok (.if_icmp .lt 8, 3) := by decide +kernel
theorem dX4_goOnTo_16 : decode cX4_goOnTo 16 = .ok (.aload_n 0, 1) := by decide +kernel
theorem dX4_goOnTo_17 : decode cX4_goOnTo 17 = .ok (.iconst 3, 1) := by decide +kernel
theorem dX4_goOnTo_18 : decode cX4_goOnTo 18 = .ok (.putfield 35, 3) := by decide +kernel
theorem dX4_goOnTo_21 : decode cX4_goOnTo 21 = .ok (.iconst 0, 1) := by decide +kernel
theorem dX4_goOnTo_22 : decode cX4_goOnTo 22 = .ok (.ireturn, 1) := by decide +kernel
theorem dX4_assign_0 : decode cX4_assign 0 = .ok (.aload_n 0, 1) := by decide +kernel
theorem dX4_assign_1 : decode cX4_assign 1 = .ok (.iload_n 1, 1) := by decide +kernel
theorem dX4_assign_2 : decode cX4_assign 2 = .ok (.iload_n 2, 1) := by decide +kernel
theorem dX4_assign_3 : decode cX4_assign 3 = .ok (.invokevirtual 65, 3) := by decide +kernel
theorem dX4_assign_6 : decode cX4_assign 6 = .ok (.aload_n 0, 1) := by decide +kernel
theorem dX4_assign_7 : decode cX4_assign 7 = .ok (.aload_n 0, 1) := by decide +kernel
theorem dX4_assign_8 : decode cX4_assign 8 = .ok (.getfield 59, 3) := by decide +kernel
theorem dX4_assign_11 : decode cX4_assign 11 = .ok (.iconst 1, 1) := by decide +kernel
theorem dX4_assign_12 : decode cX4_assign 12 = .ok (.iadd, 1) := by decide +kernel
theorem dX4_assign_13 : decode cX4_assign 13 = .ok (.invokevirtual 55, 3) := by decide +kernel
theorem dX4_assign_16 : decode cX4_assign 16 = .ok (.ireturn, 1) := by decide +kernel
theorem dX4_write_0 : decode cX4_write 0 = .ok (.iload_n 1, 1) := by decide +kernel
theorem dX4_write_1 : decode cX4_write 1 = .ok (.invokestatic 69, 3) := by decide +kernel
theorem dX4_write_4 : decode cX4_write 4 = .ok (.ifCond .eq 22, 3) := by decide +kernel
theorem dX4_write_7 : decode cX4_write 7 = .ok (.aload_n 0, 1) := by decide +kernel
theorem dX4_write_8 : decode cX4_write 8 = .ok (.getfield 22, 3) := by decide +kernel
theorem dX4_write_11 : decode cX4_write 11 = .ok (.iload_n 1, 1) := by decide +kernel
theorem dX4_write_12 : decode cX4_write 12 = .ok (.iload_n 2, 1) := by decide +kernel
theorem dX4_write_13 : decode cX4_write 13 = .ok (.iastore, 1) := by decide +kernel
theorem dX4_write_14 : decode cX4_write 14 = .ok (.aload_n 0, 1) := by decide +kernel
theorem dX4_write_15 : decode cX4_write 15 = .ok (.dup, 1) := by decide +kernel
theorem dX4_write_16 : decode cX4_write 16 = .ok (.getfield 39, 3) := by decide +kernel
theorem dX4_write_19 : decode cX4_write 19 = .ok (.iconst 1, 1) := by decide +kernel
theorem dX4_write_20 : decode cX4_write 20 = .ok (.iload_n 1, 1) := by decide +kernel
theorem dX4_write_21 : decode cX4_write 21 = .ok (.ishl, 1) := by decide +kernel
theorem dX4_write_22 : decode cX4_write 22 = .ok (.ior, 1) := by decide +kernel
theorem dX4_write_23 : decode cX4_write 23 = .ok (.putfield 39, 3) := by decide +kernel
theorem dX4_write_26 : decode cX4_write 26 = .ok (.aload_n 0, 1) := by decide +kernel
theorem dX4_write_27 : decode cX4_write 27 = .ok (.aload_n 0, 1) := by decide +kernel
theorem dX4_write_28 : decode cX4_write 28 = .ok (.getfield 59, 3) := by decide +kernel
theorem dX4_write_31 : decode cX4_write 31 = .ok (.iconst 1, 1) := by decide +kernel
theorem dX4_write_32 : decode cX4_write 32 = .ok (.iadd, 1) := by decide +kernel
theorem dX4_write_33 : decode cX4_write 33 = .ok (.invokevirtual 55, 3) := by decide +kernel
theorem dX4_write_36 : decode cX4_write 36 = .ok (.ireturn, 1) := by decide +kernel
theorem dX4_beginAttempt_0 : decode cX4_beginAttempt 0 = .ok (.aload_n 0, 1) := by decide +kernel
theorem dX4_beginAttempt_1 : decode cX4_beginAttempt 1 = .ok (.aload_n 0, 1) := by decide +kernel
theorem dX4_beginAttempt_2 : decode cX4_beginAttempt 2 = .ok (.getfield 52, 3) := by decide +kernel
theorem dX4_beginAttempt_5 : decode cX4_beginAttempt 5 = .ok (.putfield 31, 3) := by decide +kernel
theorem dX4_beginAttempt_8 : decode cX4_beginAttempt 8 = .ok (.aload_n 0, 1) := by decide +kernel
theorem dX4_beginAttempt_9 : decode cX4_beginAttempt 9 = .ok (.iload_n 1, 1) := by decide +kernel
theorem dX4_beginAttempt_10 : decode cX4_beginAttempt 10 = .ok (.putfield 72, 3) := by decide +kernel
theorem dX4_beginAttempt_13 : decode cX4_beginAttempt 13 = .ok (.aload_n 0, 1) := by decide +kernel
theorem dX4_beginAttempt_14 : decode cX4_beginAttempt 14 = .ok (.invokevirtual 75, 3) := by decide +kernel
theorem dX4_beginAttempt_17 : decode cX4_beginAttempt 17 = .ok (.ireturn, 1) := by decide +kernel
theorem dX4_noteAndGoOn_0 : decode cX4_noteAndGoOn 0 = .ok (.aload_n 0, 1) := by decide +kernel
theorem dX4_noteAndGoOn_1 : decode cX4_noteAndGoOn 1 = .ok (.getfield 52, 3) := by decide +kernel
theorem dX4_noteAndGoOn_4 : decode cX4_noteAndGoOn 4 = .ok (.iconst 5, 1) := by decide +kernel
theorem dX4_noteAndGoOn_5 : decode cX4_noteAndGoOn 5 = .ok (.if_icmp .ge 68, 3) := by decide +kernel
theorem dX4_noteAndGoOn_8 : decode cX4_noteAndGoOn 8 = .ok (.aload_n 0, 1) := by decide +kernel
theorem dX4_noteAndGoOn_9 : decode cX4_noteAndGoOn 9 = .ok (.getfield 27, 3) := by decide +kernel
theorem dX4_noteAndGoOn_12 : decode cX4_noteAndGoOn 12 = .ok (.aload_n 0, 1) := by decide +kernel
theorem dX4_noteAndGoOn_13 : decode cX4_noteAndGoOn 13 = .ok (.getfield 52, 3) := by decide +kernel
theorem dX4_noteAndGoOn_16 : decode cX4_noteAndGoOn 16 = .ok (.aaload, 1) := by decide +kernel
theorem dX4_noteAndGoOn_17 : decode cX4_noteAndGoOn 17 = .ok (.astore_n 1, 1) := by decide +kernel
theorem dX4_noteAndGoOn_18 : decode cX4_noteAndGoOn 18 = .ok (.aload_n 1, 1) := by decide +kernel
theorem dX4_noteAndGoOn_19 : decode cX4_noteAndGoOn 19 = .ok (.aload_n 0, 1) := by decide +kernel
theorem dX4_noteAndGoOn_20 : decode cX4_noteAndGoOn 20 = .ok (.getfield 59, 3) := by decide +kernel
theorem dX4_noteAndGoOn_23 : decode cX4_noteAndGoOn 23 = .ok (.putfield 79, 3) := by decide +kernel
theorem dX4_noteAndGoOn_26 : decode cX4_noteAndGoOn 26 = .ok (.aload_n 1, 1) := by decide +kernel
theorem dX4_noteAndGoOn_27 : decode cX4_noteAndGoOn 27 = .ok (.aload_n 0, 1) := by decide +kernel
theorem dX4_noteAndGoOn_28 : decode cX4_noteAndGoOn 28 = .ok (.getfield 39, 3) := by decide +kernel
theorem dX4_noteAndGoOn_31 : decode cX4_noteAndGoOn 31 = .ok (.putfield 80, 3) := by decide +kernel
theorem dX4_noteAndGoOn_34 : decode cX4_noteAndGoOn 34 = .ok (.aload_n 0, 1) := by decide +kernel
theorem dX4_noteAndGoOn_35 : decode cX4_noteAndGoOn 35 = .ok (.getfield 18, 3) := by decide +kernel
theorem dX4_noteAndGoOn_38 : decode cX4_noteAndGoOn 38 = .ok (.iconst 0, 1) := by decide +kernel
theorem dX4_noteAndGoOn_39 : decode cX4_noteAndGoOn 39 = .ok (.aload_n 1, 1) := by decide +kernel
theorem dX4_noteAndGoOn_40 : decode cX4_noteAndGoOn 40 = .ok (.getfield 81, 3) := by decide +kernel
theorem dX4_noteAndGoOn_43 : decode cX4_noteAndGoOn 43 = .ok (.iconst 0, 1) := by decide +kernel
theorem dX4_noteAndGoOn_44 : decode cX4_noteAndGoOn 44 = .ok (.iconst 4, 1) := by decide +kernel
theorem dX4_noteAndGoOn_45 : decode cX4_noteAndGoOn 45 = .ok (.invokestatic 82, 3) := by decide +kernel
theorem dX4_noteAndGoOn_48 : decode cX4_noteAndGoOn 48 = .ok (.aload_n 0, 1) := by decide +kernel
theorem dX4_noteAndGoOn_49 : decode cX4_noteAndGoOn 49 = .ok (.getfield 22, 3) := by decide +kernel
theorem dX4_noteAndGoOn_52 : decode cX4_noteAndGoOn 52 = .ok (.iconst 0, 1) := by decide +kernel
theorem dX4_noteAndGoOn_53 : decode cX4_noteAndGoOn 53 = .ok (.aload_n 1, 1) := by decide +kernel
theorem dX4_noteAndGoOn_54 : decode cX4_noteAndGoOn 54 = .ok (.getfield 88, 3) := by decide +kernel
theorem dX4_noteAndGoOn_57 : decode cX4_noteAndGoOn 57 = .ok (.iconst 0, 1) := by decide +kernel
theorem dX4_noteAndGoOn_58 : decode cX4_noteAndGoOn 58 = .ok (.bipush 8, 2) := by decide +kernel
theorem dX4_noteAndGoOn_60 : decode cX4_noteAndGoOn 60 = .ok (.invokestatic 82, 3) := by decide +kernel
theorem dX4_noteAndGoOn_63 : decode cX4_noteAndGoOn 63 = .ok (.aload_n 0, 1) := by decide +kernel
theorem dX4_noteAndGoOn_64 : decode cX4_noteAndGoOn 64 = .ok (.dup, 1) := by decide +kernel
theorem dX4_noteAndGoOn_65 : decode cX4_noteAndGoOn 65 = .ok (.getfield 52, 3) := by decide +kernel
theorem dX4_noteAndGoOn_68 : decode cX4_noteAndGoOn 68 = .ok (.iconst 1, 1) := by decide +kernel
theorem dX4_noteAndGoOn_69 : decode cX4_noteAndGoOn 69 = .ok (.iadd, 1) := by decide +kernel
theorem dX4_noteAndGoOn_70 : decode cX4_noteAndGoOn 70 = .ok (.putfield 52, 3) := by decide +kernel
theorem dX4_noteAndGoOn_73 : decode cX4_noteAndGoOn 73 = .ok (.aload_n 0, 1) := by decide +kernel
theorem dX4_noteAndGoOn_74 : decode cX4_noteAndGoOn 74 = .ok (.aload_n 0, 1) := by decide +kernel
theorem dX4_noteAndGoOn_75 : decode cX4_noteAndGoOn 75 = .ok (.getfield 59, 3) := by decide +kernel
theorem dX4_noteAndGoOn_78 : decode cX4_noteAndGoOn 78 = .ok (.iconst 1, 1) := by decide +kernel
theorem dX4_noteAndGoOn_79 : decode cX4_noteAndGoOn 79 = .ok (.iadd, 1) := by decide +kernel
theorem dX4_noteAndGoOn_80 : decode cX4_noteAndGoOn 80 = .ok (.invokevirtual 55, 3) := by decide +kernel
theorem dX4_noteAndGoOn_83 : decode cX4_noteAndGoOn 83 = .ok (.ireturn, 1) := by decide +kernel
theorem dX4_endFirstPart_0 : decode cX4_endFirstPart 0 = .ok (.aload_n 0, 1) := by decide +kernel
theorem dX4_endFirstPart_1 : decode cX4_endFirstPart 1 = .ok (.getfield 52, 3) := by decide +kernel
theorem dX4_endFirstPart_4 : decode cX4_endFirstPart 4 = .ok (.ifCond .le 13, 3) := by decide +kernel
theorem dX4_endFirstPart_7 : decode cX4_endFirstPart 7 = .ok (.aload_n 0, 1) := by decide +kernel
theorem dX4_endFirstPart_8 : decode cX4_endFirstPart 8 = .ok (.dup, 1) := by decide +kernel
theorem dX4_endFirstPart_9 : decode cX4_endFirstPart 9 = .ok (.getfield 52, 3) := by decide +kernel
theorem dX4_endFirstPart_12 : decode cX4_endFirstPart 12 = .ok (.iconst 1, 1) := by decide +kernel
theorem dX4_endFirstPart_13 : decode cX4_endFirstPart 13 = .ok (.isub, 1) := by decide +kernel
theorem dX4_endFirstPart_14 : decode cX4_endFirstPart 14 = .ok (.putfield 52, 3) := by decide +kernel
theorem dX4_endFirstPart_17 : decode cX4_endFirstPart 17 = .ok (.aload_n 0, 1) := by decide +kernel
theorem dX4_endFirstPart_18 : decode cX4_endFirstPart 18 = .ok (.aload_n 0, 1) := by decide +kernel
theorem dX4_endFirstPart_19 : decode cX4_endFirstPart 19 = .ok (.getfield 12, 3) := by decide +kernel
theorem dX4_endFirstPart_22 : decode cX4_endFirstPart 22 = .ok (.aload_n 0, 1) := by decide +kernel
theorem dX4_endFirstPart_23 : decode cX4_endFirstPart 23 = .ok (.getfield 59, 3) := by decide +kernel
theorem dX4_endFirstPart_26 : decode cX4_endFirstPart 26 = .ok (.invokevirtual 89, 3) := by decide +kernel
theorem dX4_endFirstPart_29 : decode cX4_endFirstPart 29 = .ok (.invokevirtual 55, 3) := by decide +kernel
theorem dX4_endFirstPart_32 : decode cX4_endFirstPart 32 = .ok (.ireturn, 1) := by decide +kernel
theorem dX4_latestFirstPart_0 : decode cX4_latestFirstPart 0 = .ok (.aload_n 0, 1) := by decide +kernel
theorem dX4_latestFirstPart_1 : decode cX4_latestFirstPart 1 = .ok (.getfield 52, 3) := by decide +kernel
theorem dX4_latestFirstPart_4 : decode cX4_latestFirstPart 4 = .ok (.iconst 1, 1) := by decide +kernel
theorem dX4_latestFirstPart_5 : decode cX4_latestFirstPart 5 = .ok (.isub, 1) := by decide +kernel
theorem dX4_latestFirstPart_6 : decode cX4_latestFirstPart 6 = .ok (.istore_n 2, 1) := by decide +kernel
theorem dX4_latestFirstPart_7 : decode cX4_latestFirstPart 7 = .ok (.iload_n 2, 1) := by decide +kernel
theorem dX4_latestFirstPart_8 : decode cX4_latestFirstPart 8 = .ok (.aload_n 0, 1) := by decide +kernel
theorem dX4_latestFirstPart_9 : decode cX4_latestFirstPart 9 = .ok (.getfield 31, 3) := by decide +kernel
theorem dX4_latestFirstPart_12 : decode cX4_latestFirstPart 12 = .ok (.if_icmp .le 36, 3) := by decide +kernel
theorem dX4_latestFirstPart_15 : decode cX4_latestFirstPart 15 = .ok (.iload_n 2, 1) := by decide +kernel
theorem dX4_latestFirstPart_16 : decode cX4_latestFirstPart 16 = .ok (.iconst 5, 1) := by decide +kernel
theorem dX4_latestFirstPart_17 : decode cX4_latestFirstPart 17 = .ok (.if_icmp .ge 25, 3) := by decide +kernel
theorem dX4_latestFirstPart_20 : decode cX4_latestFirstPart 20 = .ok (.aload_n 0, 1) := by decide +kernel
theorem dX4_latestFirstPart_21 : decode cX4_latestFirstPart 21 = .ok (.getfield 12, 3) := by decide +kernel
theorem dX4_latestFirstPart_24 : decode cX4_latestFirstPart 24 = .ok (.aload_n 0, 1) := by decide +kernel
theorem dX4_latestFirstPart_25 : decode cX4_latestFirstPart 25 = .ok (.getfield 27, 3) := by decide +kernel
theorem dX4_latestFirstPart_28 : decode cX4_latestFirstPart 28 = .ok (.iload_n 2, 1) := by decide +kernel
theorem dX4_latestFirstPart_29 : decode cX4_latestFirstPart 29 = .ok (.aaload, 1) := by decide +kernel
theorem dX4_latestFirstPart_30 : decode cX4_latestFirstPart 30 = .ok (.getfield 79, 3) := by decide +kernel
theorem dX4_latestFirstPart_33 : decode cX4_latestFirstPart 33 = .ok (.invokevirtual 92, 3) := by decide +kernel
theorem dX4_latestFirstPart_36 : decode cX4_latestFirstPart 36 = .ok (.iload_n 1, 1) := by decide +kernel
theorem dX4_latestFirstPart_37 : decode cX4_latestFirstPart 37 = .ok (.if_icmp .ne 5, 3) := by decide +kernel
theorem dX4_latestFirstPart_40 : decode cX4_latestFirstPart 40 = .ok (.iload_n 2, 1) := by decide +kernel
theorem dX4_latestFirstPart_41 : decode cX4_latestFirstPart 41 = .ok (.ireturn, 1) := by decide +kernel
theorem dX4_latestFirstPart_42 : decode cX4_latestFirstPart 42 = .ok (.iinc 2 (-1), 3) := by decide +kernel
theorem dX4_latestFirstPart_45 : decode cX4_latestFirstPart 45 = .ok (.goto (-38), 3) := by decide +kernel
theorem dX4_latestFirstPart_48 : decode cX4_latestFirstPart 48 = .ok (.iconst (-1), 1) := by decide +kernel
theorem dX4_latestFirstPart_49 : decode cX4_latestFirstPart 49 = .ok (.ireturn, 1) := by decide +kernel
theorem dX4_goBackTo_0 : decode cX4_goBackTo 0 = .ok (.iload_n 1, 1) := by decide +kernel
theorem dX4_goBackTo_1 : decode cX4_goBackTo 1 = .ok (.ifCond .lt 65, 3) := by decide +kernel
theorem dX4_goBackTo_4 : decode cX4_goBackTo 4 = .ok (.iload_n 1, 1) := by decide +kernel
theorem dX4_goBackTo_5 : decode cX4_goBackTo 5 = .ok (.iconst 5, 1) := by decide +kernel
theorem dX4_goBackTo_6 : decode cX4_goBackTo 6 = .ok (.if_icmp .ge 60, 3) := by decide +kernel
theorem dX4_goBackTo_9 : decode cX4_goBackTo 9 = .ok (.aload_n 0, 1) := by decide +kernel
theorem dX4_goBackTo_10 : decode cX4_goBackTo 10 = .ok (.getfield 27, 3) := by decide +kernel
theorem dX4_goBackTo_13 : decode cX4_goBackTo 13 = .ok (.iload_n 1, 1) := by decide +kernel
theorem dX4_goBackTo_14 : decode cX4_goBackTo 14 = .ok (.aaload, 1) := by decide +kernel
theorem dX4_goBackTo_15 : decode cX4_goBackTo 15 = .ok (.astore_n 2, 1) := by decide +kernel
theorem dX4_goBackTo_16 : decode cX4_goBackTo 16 = .ok (.aload_n 0, 1) := by decide +kernel
theorem dX4_goBackTo_17 : decode cX4_goBackTo 17 = .ok (.aload_n 2, 1) := by decide +kernel
theorem dX4_goBackTo_18 : decode cX4_goBackTo 18 = .ok (.getfield 79, 3) := by decide +kernel
theorem dX4_goBackTo_21 : decode cX4_goBackTo 21 = .ok (.putfield 59, 3) := by decide +kernel
theorem dX4_goBackTo_24 : decode cX4_goBackTo 24 = .ok (.aload_n 0, 1) := by decide +kernel
theorem dX4_goBackTo_25 : decode cX4_goBackTo 25 = .ok (.aload_n 2, 1) := by decide +kernel
theorem dX4_goBackTo_26 : decode cX4_goBackTo 26 = .ok (.getfield 80, 3) := by decide +kernel
theorem dX4_goBackTo_29 : decode cX4_goBackTo 29 = .ok (.putfield 39, 3) := by decide +kernel
theorem dX4_goBackTo_32 : decode cX4_goBackTo 32 = .ok (.aload_n 2, 1) := by decide +kernel
theorem dX4_goBackTo_33 : decode cX4_goBackTo 33 = .ok (.getfield 81, 3) := by decide +kernel
theorem dX4_goBackTo_36 : decode cX4_goBackTo 36 = .ok (.iconst 0, 1) := by decide +kernel
theorem dX4_goBackTo_37 : decode cX4_goBackTo 37 = .ok (.aload_n 0, 1) := by decide +kernel
theorem dX4_goBackTo_38 : decode cX4_goBackTo 38 = .ok (.getfield 18, 3) := by decide +kernel
theorem dX4_goBackTo_41 : decode cX4_goBackTo 41 = .ok (.iconst 0, 1) := by decide +kernel
theorem dX4_goBackTo_42 : decode cX4_goBackTo 42 = .ok (.iconst 4, 1) := by decide +kernel
theorem dX4_goBackTo_43 : decode cX4_goBackTo 43 = .ok (.invokestatic 82, 3) := by decide +kernel
theorem dX4_goBackTo_46 : decode cX4_goBackTo 46 = .ok (.aload_n 2, 1) := by decide +kernel
theorem dX4_goBackTo_47 : decode cX4_goBackTo 47 = .ok (.getfield 88, 3) := by decide +kernel
theorem dX4_goBackTo_50 : decode cX4_goBackTo 50 = .ok (.iconst 0, 1) := by decide +kernel
theorem dX4_goBackTo_51 : decode cX4_goBackTo 51 = .ok (.aload_n 0, 1) := by decide +kernel
theorem dX4_goBackTo_52 : decode cX4_goBackTo 52 = .ok (.getfield 22, 3) := by decide +kernel
theorem dX4_goBackTo_55 : decode cX4_goBackTo 55 = .ok (.iconst 0, 1) := by decide +kernel
theorem dX4_goBackTo_56 : decode cX4_goBackTo 56 = .ok (.bipush 8, 2) := by decide +kernel
theorem dX4_goBackTo_58 : decode cX4_goBackTo 58 = .ok (.invokestatic 82, 3) := by decide +kernel
theorem dX4_goBackTo_61 : decode cX4_goBackTo 61 = .ok (.aload_n 0, 1) := by decide +kernel
theorem dX4_goBackTo_62 : decode cX4_goBackTo 62 = .ok (.iload_n 1, 1) := by decide +kernel
theorem dX4_goBackTo_63 : decode cX4_goBackTo 63 = .ok (.putfield 52, 3) := by decide +kernel
theorem dX4_goBackTo_66 : decode cX4_goBackTo 66 = .ok (.return_, 1) := by decide +kernel
theorem dX4_handle_0 : decode cX4_handle 0 = .ok (.aload_n 0, 1) := by decide +kernel
theorem dX4_handle_1 : decode cX4_handle 1 = .ok (.iload_n 1, 1) := by decide +kernel
theorem dX4_handle_2 : decode cX4_handle 2 = .ok (.invokevirtual 95, 3) := by decide +kernel
theorem dX4_handle_5 : decode cX4_handle 5 = .ok (.aload_n 0, 1) := by decide +kernel
theorem dX4_handle_6 : decode cX4_handle 6 = .ok (.aload_n 0, 1) := by decide +kernel
theorem dX4_handle_7 : decode cX4_handle 7 = .ok (.getfield 12, 3) := by decide +kernel
theorem dX4_handle_10 : decode cX4_handle 10 = .ok (.aload_n 0, 1) := by decide +kernel
theorem dX4_handle_11 : decode cX4_handle 11 = .ok (.getfield 12, 3) := by decide +kernel
theorem dX4_handle_14 : decode cX4_handle 14 = .ok (.aload_n 0, 1) := by decide +kernel
theorem dX4_handle_15 : decode cX4_handle 15 = .ok (.getfield 59, 3) := by decide +kernel
theorem dX4_handle_18 : decode cX4_handle 18 = .ok (.invokevirtual 99, 3) := by decide +kernel
theorem dX4_handle_21 : decode cX4_handle 21 = .ok (.invokevirtual 102, 3) := by decide +kernel
theorem dX4_handle_24 : decode cX4_handle 24 = .ok (.iload_n 2, 1) := by decide +kernel
theorem dX4_handle_25 : decode cX4_handle 25 = .ok (.invokevirtual 65, 3) := by decide +kernel
theorem dX4_handle_28 : decode cX4_handle 28 = .ok (.aload_n 0, 1) := by decide +kernel
theorem dX4_handle_29 : decode cX4_handle 29 = .ok (.aload_n 0, 1) := by decide +kernel
theorem dX4_handle_30 : decode cX4_handle 30 = .ok (.getfield 12, 3) := by decide +kernel
theorem dX4_handle_33 : decode cX4_handle 33 = .ok (.aload_n 0, 1) := by decide +kernel
theorem dX4_handle_34 : decode cX4_handle 34 = .ok (.getfield 59, 3) := by decide +kernel
theorem dX4_handle_37 : decode cX4_handle 37 = .ok (.invokevirtual 105, 3) := by decide +kernel
theorem dX4_handle_40 : decode cX4_handle 40 = .ok (.invokevirtual 55, 3) := by decide +kernel
theorem dX4_handle_43 : decode cX4_handle 43 = .ok (.pop, 1) := by decide +kernel
theorem dX4_handle_44 : decode cX4_handle 44 = .ok (.return_, 1) := by decide +kernel
theorem dX4_fail_0 : decode cX4_fail 0 = .ok (.aload_n 0, 1) := by decide +kernel
theorem dX4_fail_1 : decode cX4_fail 1 = .ok (.iconst 0, 1) := by decide +kernel
theorem dX4_fail_2 : decode cX4_fail 2 = .ok (.iload_n 1, 1) := by decide +kernel
theorem dX4_fail_3 : decode cX4_fail 3 = .ok (.invokevirtual 65, 3) := by decide +kernel
theorem dX4_fail_6 : decode cX4_fail 6 = .ok (.aload_n 0, 1) := by decide +kernel
theorem dX4_fail_7 : decode cX4_fail 7 = .ok (.iconst 4, 1) := by decide +kernel
theorem dX4_fail_8 : decode cX4_fail 8 = .ok (.putfield 35, 3) := by decide +kernel
theorem dX4_fail_11 : decode cX4_fail 11 = .ok (.return_, 1) := by decide +kernel
theorem dX4_leaveAttempt_0 : decode cX4_leaveAttempt 0 = .ok (.aload_n 0, 1) := by decide +kernel
theorem dX4_leaveAttempt_1 : decode cX4_leaveAttempt 1 = .ok (.invokevirtual 108, 3) := by decide +kernel
theorem dX4_leaveAttempt_4 : decode cX4_leaveAttempt 4 = .ok (.ifCond .eq 11, 3) := by decide +kernel
theorem dX4_leaveAttempt_7 : decode cX4_leaveAttempt 7 = .ok (.aload_n 0, 1) := by decide +kernel
theorem dX4_leaveAttempt_8 : decode cX4_leaveAttempt 8 = .ok (.aload_n 0, 1) := by decide +kernel
theorem dX4_leaveAttempt_9 : decode cX4_leaveAttempt 9 = .ok (.getfield 31, 3) := by decide +kernel
theorem dX4_leaveAttempt_12 : decode cX4_leaveAttempt 12 = .ok (.putfield 52, 3) := by decide +kernel
theorem dX4_leaveAttempt_15 : decode cX4_leaveAttempt 15 = .ok (.aload_n 0, 1) := by decide +kernel
theorem dX4_leaveAttempt_16 : decode cX4_leaveAttempt 16 = .ok (.iconst (-1), 1) := by decide +kernel
theorem dX4_leaveAttempt_17 : decode cX4_leaveAttempt 17 = .ok (.putfield 31, 3) := by decide +kernel
theorem dX4_leaveAttempt_20 : decode cX4_leaveAttempt 20 = .ok (.aload_n 0, 1) := by decide +kernel
theorem dX4_leaveAttempt_21 : decode cX4_leaveAttempt 21 = .ok (.iconst 0, 1) := by decide +kernel
theorem dX4_leaveAttempt_22 : decode cX4_leaveAttempt 22 = .ok (.putfield 42, 3) := by decide +kernel
theorem dX4_leaveAttempt_25 : decode cX4_leaveAttempt 25 = .ok (.aload_n 0, 1) := by decide +kernel
theorem dX4_leaveAttempt_26 : decode cX4_leaveAttempt 26 = .ok (.iconst 0, 1) := by decide +kernel
theorem dX4_leaveAttempt_27 : decode cX4_leaveAttempt 27 = .ok (.putfield 39, 3) := by decide +kernel
theorem dX4_leaveAttempt_30 : decode cX4_leaveAttempt 30 = .ok (.return_, 1) := by decide +kernel
theorem dX4_undoAttempt_0 : decode cX4_undoAttempt 0 = .ok (.aload_n 0, 1) := by decide +kernel
theorem dX4_undoAttempt_1 : decode cX4_undoAttempt 1 = .ok (.aload_n 0, 1) := by decide +kernel
theorem dX4_undoAttempt_2 : decode cX4_undoAttempt 2 = .ok (.getfield 31, 3) := by decide +kernel
theorem dX4_undoAttempt_5 : decode cX4_undoAttempt 5 = .ok (.invokevirtual 95, 3) := by decide +kernel
theorem dX4_undoAttempt_8 : decode cX4_undoAttempt 8 = .ok (.aload_n 0, 1) := by decide +kernel
theorem dX4_undoAttempt_9 : decode cX4_undoAttempt 9 = .ok (.invokevirtual 112, 3) := by decide +kernel
theorem dX4_undoAttempt_12 : decode cX4_undoAttempt 12 = .ok (.return_, 1) := by decide +kernel
theorem dX4_discard_0 : decode cX4_discard 0 = .ok (.aload_n 0, 1) := by decide +kernel
theorem dX4_discard_1 : decode cX4_discard 1 = .ok (.invokevirtual 115, 3) := by decide +kernel
theorem dX4_discard_4 : decode cX4_discard 4 = .ok (.aload_n 0, 1) := by decide +kernel
theorem dX4_discard_5 : decode cX4_discard 5 = .ok (.dup, 1) := by decide +kernel
theorem dX4_discard_6 : decode cX4_discard 6 = .ok (.getfield 49, 3) := by decide +kernel
theorem dX4_discard_9 : decode cX4_discard 9 = .ok (.iconst 1, 1) := by decide +kernel
theorem dX4_discard_10 : decode cX4_discard 10 = .ok (.iadd, 1) := by decide +kernel
theorem dX4_discard_11 : decode cX4_discard 11 = .ok (.putfield 49, 3) := by decide +kernel
theorem dX4_discard_14 : decode cX4_discard 14 = .ok (.iconst 2, 1) := by decide +kernel
theorem dX4_discard_15 : decode cX4_discard 15 = .ok (.ireturn, 1) := by decide +kernel
theorem dX4_park_0 : decode cX4_park 0 = .ok (.aload_n 0, 1) := by decide +kernel
theorem dX4_park_1 : decode cX4_park 1 = .ok (.getfield 42, 3) := by decide +kernel
theorem dX4_park_4 : decode cX4_park 4 = .ok (.istore_n 1, 1) := by decide +kernel
theorem dX4_park_5 : decode cX4_park 5 = .ok (.aload_n 0, 1) := by decide +kernel
theorem dX4_park_6 : decode cX4_park 6 = .ok (.invokevirtual 115, 3) := by decide +kernel
theorem dX4_park_9 : decode cX4_park 9 = .ok (.aload_n 0, 1) := by decide +kernel
theorem dX4_park_10 : decode cX4_park 10 = .ok (.iload_n 1, 1) := by decide +kernel
theorem dX4_park_11 : decode cX4_park 11 = .ok (.putfield 42, 3) := by decide +kernel
theorem dX4_park_14 : decode cX4_park 14 = .ok (.aload_n 0, 1) := by decide +kernel
theorem dX4_park_15 : decode cX4_park 15 = .ok (.iconst 2, 1) := by decide +kernel
theorem dX4_park_16 : decode cX4_park 16 = .ok (.putfield 35, 3) := by decide +kernel
theorem dX4_park_19 : decode cX4_park 19 = .ok (.iconst 3, 1) := by decide +kernel
theorem dX4_park_20 : decode cX4_park 20 = .ok (.ireturn, 1) := by decide +kernel
theorem dX4_wakeUp_0 : decode cX4_wakeUp 0 = .ok (.aload_n 0, 1) := by decide +kernel
theorem dX4_wakeUp_1 : decode cX4_wakeUp 1 = .ok (.iconst 0, 1) := by decide +kernel
theorem dX4_wakeUp_2 : decode cX4_wakeUp 2 = .ok (.putfield 42, 3) := by decide +kernel
theorem dX4_wakeUp_5 : decode cX4_wakeUp 5 = .ok (.aload_n 0, 1) := by decide +kernel
theorem dX4_wakeUp_6 : decode cX4_wakeUp 6 = .ok (.iconst 1, 1) := by decide +kernel
theorem dX4_wakeUp_7 : decode cX4_wakeUp 7 = .ok (.putfield 35, 3) := by decide +kernel
theorem dX4_wakeUp_10 : decode cX4_wakeUp 10 = .ok (.return_, 1) := by decide +kernel
theorem dX5_init_0 : decode cX5_init 0 = .ok (.aload_n 0, 1) := by decide +kernel
theorem dX5_init_1 : decode cX5_init 1 = .ok (.invokespecial 1, 3) := by decide +kernel
theorem dX5_init_4 : decode cX5_init 4 = .ok (.aload_n 0, 1) := by decide +kernel
theorem dX5_init_5 : decode cX5_init 5 = .ok (.new 7, 3) := by decide +kernel
theorem dX5_init_8 : decode cX5_init 8 = .ok (.dup, 1) := by decide +kernel
theorem dX5_init_9 : decode cX5_init 9 = .ok (.invokespecial 9, 3) := by decide +kernel
theorem dX5_init_12 : decode cX5_init 12 = .ok (.putfield 10, 3) := by decide +kernel
theorem dX5_init_15 : decode cX5_init 15 = .ok (.aload_n 0, 1) := by decide +kernel
theorem dX5_init_16 : decode cX5_init 16 = .ok (.new 16, 3) := by decide +kernel
theorem dX5_init_19 : decode cX5_init 19 = .ok (.dup, 1) := by decide +kernel
theorem dX5_init_20 : decode cX5_init 20 = .ok (.invokespecial 18, 3) := by decide +kernel
theorem dX5_init_23 : decode cX5_init 23 = .ok (.putfield 19, 3) := by decide +kernel
theorem dX5_init_26 : decode cX5_init 26 = .ok (.aload_n 0, 1) := by decide +kernel
theorem dX5_init_27 : decode cX5_init 27 = .ok (.iconst 4, 1) := by decide +kernel
theorem dX5_init_28 : decode cX5_init 28 = .ok (.anewarray 23, 3) := by decide +kernel
theorem dX5_init_31 : decode cX5_init 31 = .ok (.putfield 25, 3) := by decide +kernel
theorem dX5_init_34 : decode cX5_init 34 = .ok (.iconst 0, 1) := by decide +kernel
theorem dX5_init_35 : decode cX5_init 35 = .ok (.istore_n 1, 1) := by decide +kernel
theorem dX5_init_36 : decode cX5_init 36 = .ok (.iload_n 1, 1) := by decide +kernel
theorem dX5_init_37 : decode cX5_init 37 = .ok (.iconst 4, 1) := by decide +kernel
theorem dX5_init_38 : decode cX5_init 38 = .ok (.if_icmp .ge 22, 3) := by decide +kernel
theorem dX5_init_41 : decode cX5_init 41 = .ok (.aload_n 0, 1) := by decide +kernel
theorem dX5_init_42 : decode cX5_init 42 = .ok (.getfield 25, 3) := by decide +kernel
theorem dX5_init_45 : decode cX5_init 45 = .ok (.iload_n 1, 1) := by decide +kernel
