theorem dX0_init_0 : decode cX0_init 0 = .ok (.aload_n 0, 1) := by decide +kernel
theorem dX0_init_1 : decode cX0_init 1 = .ok (.invokespecial 3, 3) := by decide +kernel
theorem dX0_init_4 : decode cX0_init 4 = .ok (.aload_n 0, 1) := by decide +kernel
theorem dX0_init_5 : decode cX0_init 5 = .ok (.bipush 40, 2) := by decide +kernel
theorem dX0_init_7 : decode cX0_init 7 = .ok (.newarray .int, 2) := by decide +kernel
theorem dX0_init_9 : decode cX0_init 9 = .ok (.putfield 9, 3) := by decide +kernel
theorem dX0_init_12 : decode cX0_init 12 = .ok (.aload_n 0, 1) := by decide +kernel
theorem dX0_init_13 : decode cX0_init 13 = .ok (.iconst 0, 1) := by decide +kernel
theorem dX0_init_14 : decode cX0_init 14 = .ok (.putfield 15, 3) := by decide +kernel
theorem dX0_init_17 : decode cX0_init 17 = .ok (.aload_n 0, 1) := by decide +kernel
theorem dX0_init_18 : decode cX0_init 18 = .ok (.iconst 0, 1) := by decide +kernel
theorem dX0_init_19 : decode cX0_init 19 = .ok (.putfield 19, 3) := by decide +kernel
theorem dX0_init_22 : decode cX0_init 22 = .ok (.aload_n 0, 1) := by decide +kernel
theorem dX0_init_23 : decode cX0_init 23 = .ok (.new 23, 3) := by decide +kernel
theorem dX0_init_26 : decode cX0_init 26 = .ok (.dup, 1) := by decide +kernel
theorem dX0_init_27 : decode cX0_init 27 = .ok (.aload_n 1, 1) := by decide +kernel
theorem dX0_init_28 : decode cX0_init 28 = .ok (.invokespecial 25, 3) := by decide +kernel
theorem dX0_init_31 : decode cX0_init 31 = .ok (.putfield 28, 3) := by decide +kernel
theorem dX0_init_34 : decode cX0_init 34 = .ok (.aload_n 0, 1) := by decide +kernel
theorem dX0_init_35 : decode cX0_init 35 = .ok (.new 23, 3) := by decide +kernel
theorem dX0_init_38 : decode cX0_init 38 = .ok (.dup, 1) := by decide +kernel
theorem dX0_init_39 : decode cX0_init 39 = .ok (.aload_n 1, 1) := by decide +kernel
theorem dX0_init_40 : decode cX0_init 40 = .ok (.invokespecial 25, 3) := by decide +kernel
theorem dX0_init_43 : decode cX0_init 43 = .ok (.putfield 32, 3) := by decide +kernel
theorem dX0_init_46 : decode cX0_init 46 = .ok (.return_, 1) := by decide +kernel
theorem dX0_begin_0 : decode cX0_begin 0 = .ok (.aload_n 0, 1) := by decide +kernel
theorem dX0_begin_1 : decode cX0_begin 1 = .ok (.iconst 1, 1) := by decide +kernel
theorem dX0_begin_2 : decode cX0_begin 2 = .ok (.putfield 19, 3) := by decide +kernel
theorem dX0_begin_5 : decode cX0_begin 5 = .ok (.aload_n 0, 1) := by decide +kernel
theorem dX0_begin_6 : decode cX0_begin 6 = .ok (.iconst 0, 1) := by decide +kernel
theorem dX0_begin_7 : decode cX0_begin 7 = .ok (.putfield 15, 3) := by decide +kernel
theorem dX0_begin_10 : decode cX0_begin 10 = .ok (.aload_n 0, 1) := by decide +kernel
theorem dX0_begin_11 : decode cX0_begin 11 = .ok (.getfield 32, 3) := by decide +kernel
theorem dX0_begin_14 : decode cX0_begin 14 = .ok (.aload_n 0, 1) := by decide +kernel
theorem dX0_begin_15 : decode cX0_begin 15 = .ok (.getfield 28, 3) := by decide +kernel
theorem dX0_begin_18 : decode cX0_begin 18 = .ok (.invokevirtual 35, 3) := by decide +kernel
theorem dX0_begin_21 : decode cX0_begin 21 = .ok (.return_, 1) := by decide +kernel
theorem dX0_leave_0 : decode cX0_leave 0 = .ok (.aload_n 0, 1) := by decide +kernel
theorem dX0_leave_1 : decode cX0_leave 1 = .ok (.iconst 0, 1) := by decide +kernel
theorem dX0_leave_2 : decode cX0_leave 2 = .ok (.putfield 19, 3) := by decide +kernel
theorem dX0_leave_5 : decode cX0_leave 5 = .ok (.return_, 1) := by decide +kernel
theorem dX0_become_0 : decode cX0_become 0 = .ok (.aload_n 0, 1) := by decide +kernel
theorem dX0_become_1 : decode cX0_become 1 = .ok (.aload_n 1, 1) := by decide +kernel
theorem dX0_become_2 : decode cX0_become 2 = .ok (.getfield 19, 3) := by decide +kernel
theorem dX0_become_5 : decode cX0_become 5 = .ok (.putfield 19, 3) := by decide +kernel
theorem dX0_become_8 : decode cX0_become 8 = .ok (.aload_n 0, 1) := by decide +kernel
theorem dX0_become_9 : decode cX0_become 9 = .ok (.aload_n 1, 1) := by decide +kernel
theorem dX0_become_10 : decode cX0_become 10 = .ok (.getfield 15, 3) := by decide +kernel
theorem dX0_become_13 : decode cX0_become 13 = .ok (.putfield 15, 3) := by decide +kernel
theorem dX0_become_16 : decode cX0_become 16 = .ok (.aload_n 0, 1) := by decide +kernel
theorem dX0_become_17 : decode cX0_become 17 = .ok (.getfield 28, 3) := by decide +kernel
theorem dX0_become_20 : decode cX0_become 20 = .ok (.aload_n 1, 1) := by decide +kernel
theorem dX0_become_21 : decode cX0_become 21 = .ok (.getfield 28, 3) := by decide +kernel
theorem dX0_become_24 : decode cX0_become 24 = .ok (.invokevirtual 35, 3) := by decide +kernel
theorem dX0_become_27 : decode cX0_become 27 = .ok (.aload_n 0, 1) := by decide +kernel
theorem dX0_become_28 : decode cX0_become 28 = .ok (.getfield 32, 3) := by decide +kernel
theorem dX0_become_31 : decode cX0_become 31 = .ok (.aload_n 1, 1) := by decide +kernel
theorem dX0_become_32 : decode cX0_become 32 = .ok (.getfield 32, 3) := by decide +kernel
theorem dX0_become_35 : decode cX0_become 35 = .ok (.invokevirtual 35, 3) := by decide +kernel
theorem dX0_become_38 : decode cX0_become 38 = .ok (.aload_n 1, 1) := by decide +kernel
theorem dX0_become_39 : decode cX0_become 39 = .ok (.getfield 9, 3) := by decide +kernel
theorem dX0_become_42 : decode cX0_become 42 = .ok (.iconst 0, 1) := by decide +kernel
theorem dX0_become_43 : decode cX0_become 43 = .ok (.aload_n 0, 1) := by decide +kernel
theorem dX0_become_44 : decode cX0_become 44 = .ok (.getfield 9, 3) := by decide +kernel
theorem dX0_become_47 : decode cX0_become 47 = .ok (.iconst 0, 1) := by decide +kernel
theorem dX0_become_48 : decode cX0_become 48 = .ok (.bipush 40, 2) := by decide +kernel
theorem dX0_become_50 : decode cX0_become 50 = .ok (.invokestatic 39, 3) := by decide +kernel
theorem dX0_become_53 : decode cX0_become 53 = .ok (.return_, 1) := by decide +kernel
theorem dX0_restack_0 : decode cX0_restack 0 = .ok (.aload_n 0, 1) := by decide +kernel
theorem dX0_restack_1 : decode cX0_restack 1 = .ok (.getfield 28, 3) := by decide +kernel
theorem dX0_restack_4 : decode cX0_restack 4 = .ok (.iload_n 1, 1) := by decide +kernel
theorem dX0_restack_5 : decode cX0_restack 5 = .ok (.iload_n 2, 1) := by decide +kernel
theorem dX0_restack_6 : decode cX0_restack 6 = .ok (.aload_n 0, 1) := by decide +kernel
theorem dX0_restack_7 : decode cX0_restack 7 = .ok (.getfield 28, 3) := by decide +kernel
theorem dX0_restack_10 : decode cX0_restack 10 = .ok (.iload_n 1, 1) := by decide +kernel
theorem dX0_restack_11 : decode cX0_restack 11 = .ok (.invokevirtual 45, 3) := by decide +kernel
theorem dX0_restack_14 : decode cX0_restack 14 = .ok (.invokevirtual 49, 3) := by decide +kernel
theorem dX0_restack_17 : decode cX0_restack 17 = .ok (.aload_n 0, 1) := by decide +kernel
theorem dX0_restack_18 : decode cX0_restack 18 = .ok (.getfield 32, 3) := by decide +kernel
theorem dX0_restack_21 : decode cX0_restack 21 = .ok (.iload_n 1, 1) := by decide +kernel
theorem dX0_restack_22 : decode cX0_restack 22 = .ok (.iload_n 2, 1) := by decide +kernel
theorem dX0_restack_23 : decode cX0_restack 23 = .ok (.aload_n 0, 1) := by decide +kernel
theorem dX0_restack_24 : decode cX0_restack 24 = .ok (.getfield 32, 3) := by decide +kernel
theorem dX0_restack_27 : decode cX0_restack 27 = .ok (.iload_n 1, 1) := by decide +kernel
theorem dX0_restack_28 : decode cX0_restack 28 = .ok (.invokevirtual 45, 3) := by decide +kernel
theorem dX0_restack_31 : decode cX0_restack 31 = .ok (.invokevirtual 49, 3) := by decide +kernel
theorem dX0_restack_34 : decode cX0_restack 34 = .ok (.return_, 1) := by decide +kernel
theorem dX0_hasRoom_0 : decode cX0_hasRoom 0 = .ok (.aload_n 0, 1) := by decide +kernel
theorem dX0_hasRoom_1 : decode cX0_hasRoom 1 = .ok (.getfield 15, 3) := by decide +kernel
theorem dX0_hasRoom_4 : decode cX0_hasRoom 4 = .ok (.iload_n 1, 1) := by decide +kernel
theorem dX0_hasRoom_5 : decode cX0_hasRoom 5 = .ok (.iadd, 1) := by decide +kernel
theorem dX0_hasRoom_6 : decode cX0_hasRoom 6 = .ok (.bipush 40, 2) := by decide +kernel
theorem dX0_hasRoom_8 : decode cX0_hasRoom 8 = .ok (.if_icmp .gt 7, 3) := by decide +kernel
theorem dX0_hasRoom_11 : decode cX0_hasRoom 11 = .ok (.iconst 1, 1) := by decide +kernel
theorem dX0_hasRoom_12 : decode cX0_hasRoom 12 = .ok (.goto 4, 3) := by decide +kernel
theorem dX0_hasRoom_15 : decode cX0_hasRoom 15 = .ok (.iconst 0, 1) := by decide +kernel
theorem dX0_hasRoom_16 : decode cX0_hasRoom 16 = .ok (.ireturn, 1) := by decide +kernel
theorem dX0_act_0 : decode cX0_act 0 = .ok (.aload_n 0, 1) := by decide +kernel
theorem dX0_act_1 : decode cX0_act 1 = .ok (.getfield 15, 3) := by decide +kernel
theorem dX0_act_4 : decode cX0_act 4 = .ok (.ifCond .lt 40, 3) := by decide +kernel
theorem dX0_act_7 : decode cX0_act 7 = .ok (.aload_n 0, 1) := by decide +kernel
theorem dX0_act_8 : decode cX0_act 8 = .ok (.getfield 15, 3) := by decide +kernel
theorem dX0_act_11 : decode cX0_act 11 = .ok (.bipush 40, 2) := by decide +kernel
theorem dX0_act_13 : decode cX0_act 13 = .ok (.if_icmp .ge 31, 3) := by decide +kernel
theorem dX0_act_16 : decode cX0_act 16 = .ok (.aload_n 0, 1) := by decide +kernel
theorem dX0_act_17 : decode cX0_act 17 = .ok (.getfield 9, 3) := by decide +kernel
theorem dX0_act_20 : decode cX0_act 20 = .ok (.aload_n 0, 1) := by decide +kernel
theorem dX0_act_21 : decode cX0_act 21 = .ok (.getfield 15, 3) := by decide +kernel
theorem dX0_act_24 : decode cX0_act 24 = .ok (.iload_n 1, 1) := by decide +kernel
theorem dX0_act_25 : decode cX0_act 25 = .ok (.iastore, 1) := by decide +kernel
theorem dX0_act_26 : decode cX0_act 26 = .ok (.aload_n 0, 1) := by decide +kernel
theorem dX0_act_27 : decode cX0_act 27 = .ok (.dup, 1) := by decide +kernel
theorem dX0_act_28 : decode cX0_act 28 = .ok (.getfield 15, 3) := by decide +kernel
theorem dX0_act_31 : decode cX0_act 31 = .ok (.iconst 1, 1) := by decide +kernel
theorem dX0_act_32 : decode cX0_act 32 = .ok (.iadd, 1) := by decide +kernel
theorem dX0_act_33 : decode cX0_act 33 = .ok (.putfield 15, 3) := by decide +kernel
theorem dX0_act_36 : decode cX0_act 36 = .ok (.aload_n 0, 1) := by decide +kernel
theorem dX0_act_37 : decode cX0_act 37 = .ok (.getfield 32, 3) := by decide +kernel
theorem dX0_act_40 : decode cX0_act 40 = .ok (.iload_n 1, 1) := by decide +kernel
theorem dX0_act_41 : decode cX0_act 41 = .ok (.invokevirtual 53, 3) := by decide +kernel
theorem dX0_act_44 : decode cX0_act 44 = .ok (.return_, 1) := by decide +kernel
theorem dX0_goBack_0 : decode cX0_goBack 0 = .ok (.aload_n 0, 1) := by decide +kernel
theorem dX0_goBack_1 : decode cX0_goBack 1 = .ok (.getfield 15, 3) := by decide +kernel
theorem dX0_goBack_4 : decode cX0_goBack 4 = .ok (.iload_n 1, 1) := by decide +kernel
theorem dX0_goBack_5 : decode cX0_goBack 5 = .ok (.isub, 1) := by decide +kernel
theorem dX0_goBack_6 : decode cX0_goBack 6 = .ok (.istore_n 2, 1) := by decide +kernel
theorem dX0_goBack_7 : decode cX0_goBack 7 = .ok (.aload_n 0, 1) := by decide +kernel
theorem dX0_goBack_8 : decode cX0_goBack 8 = .ok (.iload_n 1, 1) := by decide +kernel
theorem dX0_goBack_9 : decode cX0_goBack 9 = .ok (.putfield 15, 3) := by decide +kernel
theorem dX0_goBack_12 : decode cX0_goBack 12 = .ok (.aload_n 0, 1) := by decide +kernel
theorem dX0_goBack_13 : decode cX0_goBack 13 = .ok (.getfield 32, 3) := by decide +kernel
theorem dX0_goBack_16 : decode cX0_goBack 16 = .ok (.aload_n 0, 1) := by decide +kernel
theorem dX0_goBack_17 : decode cX0_goBack 17 = .ok (.getfield 28, 3) := by decide +kernel
theorem dX0_goBack_20 : decode cX0_goBack 20 = .ok (.invokevirtual 35, 3) := by decide +kernel
theorem dX0_goBack_23 : decode cX0_goBack 23 = .ok (.iconst 0, 1) := by decide +kernel
theorem dX0_goBack_24 : decode cX0_goBack 24 = .ok (.istore_n 3, 1) := by decide +kernel
theorem dX0_goBack_25 : decode cX0_goBack 25 = .ok (.iload_n 3, 1) := by decide +kernel
theorem dX0_goBack_26 : decode cX0_goBack 26 = .ok (.iload_n 1, 1) := by decide +kernel
theorem dX0_goBack_27 : decode cX0_goBack 27 = .ok (.if_icmp .ge 28, 3) := by decide +kernel
theorem dX0_goBack_30 : decode cX0_goBack 30 = .ok (.iload_n 3, 1) := by decide +kernel
theorem dX0_goBack_31 : decode cX0_goBack 31 = .ok (.bipush 40, 2) := by decide +kernel
theorem dX0_goBack_33 : decode cX0_goBack 33 = .ok (.if_icmp .ge 22, 3) := by decide +kernel
theorem dX0_goBack_36 : decode cX0_goBack 36 = .ok (.aload_n 0, 1) := by decide +kernel
theorem dX0_goBack_37 : decode cX0_goBack 37 = .ok (.getfield 32, 3) := by decide +kernel
theorem dX0_goBack_40 : decode cX0_goBack 40 = .ok (.aload_n 0, 1) := by decide +kernel
theorem dX0_goBack_41 : decode cX0_goBack 41 = .ok (.getfield 9, 3) := by decide +kernel
theorem dX0_goBack_44 : decode cX0_goBack 44 = .ok (.iload_n 3, 1) := by decide +kernel
theorem dX0_goBack_45 : decode cX0_goBack 45 = .ok (.iaload, 1) := by decide +kernel
theorem dX0_goBack_46 : decode cX0_goBack 46 = .ok (.invokevirtual 53, 3) := by decide +kernel
theorem dX0_goBack_49 : decode cX0_goBack 49 = .ok (.iinc 3 1, 3) := by decide +kernel
theorem dX0_goBack_52 : decode cX0_goBack 52 = .ok (.goto (-27), 3) := by decide +kernel
theorem dX0_goBack_55 : decode cX0_goBack 55 = .ok (.iload_n 2, 1) := by decide +kernel
theorem dX0_goBack_56 : decode cX0_goBack 56 = .ok (.ireturn, 1) := by decide +kernel
theorem dX1_init_0 : decode cX1_init 0 = .ok (.aload_n 0, 1) := by decide +kernel
theorem dX1_init_1 : decode cX1_init 1 = .ok (.invokespecial 3, 3) := by decide +kernel
theorem dX1_init_4 : decode cX1_init 4 = .ok (.aload_n 0, 1) := by decide +kernel
theorem dX1_init_5 : decode cX1_init 5 = .ok (.iconst 5, 1) := by decide +kernel
theorem dX1_init_6 : decode cX1_init 6 = .ok (.newarray .int, 2) := by decide +kernel
theorem dX1_init_8 : decode cX1_init 8 = .ok (.putfield 9, 3) := by decide +kernel
theorem dX1_init_11 : decode cX1_init 11 = .ok (.aload_n 0, 1) := by decide +kernel
theorem dX1_init_12 : decode cX1_init 12 = .ok (.iconst 5, 1) := by decide +kernel
theorem dX1_init_13 : decode cX1_init 13 = .ok (.newarray .int, 2) := by decide +kernel
theorem dX1_init_15 : decode cX1_init 15 = .ok (.putfield 15, 3) := by decide +kernel
theorem dX1_init_18 : decode cX1_init 18 = .ok (.aload_n 0, 1) := by decide +kernel
theorem dX1_init_19 : decode cX1_init 19 = .ok (.iconst 0, 1) := by decide +kernel
theorem dX1_init_20 : decode cX1_init 20 = .ok (.putfield 18, 3) := by decide +kernel
theorem dX1_init_23 : decode cX1_init 23 = .ok (.aload_n 0, 1) := by decide +kernel
theorem dX1_init_24 : decode cX1_init 24 = .ok (.iconst 0, 1) := by decide +kernel
theorem dX1_init_25 : decode cX1_init 25 = .ok (.putfield 22, 3) := by decide +kernel
theorem dX1_init_28 : decode cX1_init 28 = .ok (.aload_n 0, 1) := by decide +kernel
theorem dX1_init_29 : decode cX1_init 29 = .ok (.iconst 0, 1) := by decide +kernel
theorem dX1_init_30 : decode cX1_init 30 = .ok (.putfield 25, 3) := by decide +kernel
theorem dX1_init_33 : decode cX1_init 33 = .ok (.aload_n 0, 1) := by decide +kernel
theorem dX1_init_34 : decode cX1_init 34 = .ok (.iconst 0, 1) := by decide +kernel
theorem dX1_init_35 : decode cX1_init 35 = .ok (.putfield 29, 3) := by decide +kernel
theorem dX1_init_38 : decode cX1_init 38 = .ok (.aload_n 0, 1) := by decide +kernel
theorem dX1_init_39 : decode cX1_init 39 = .ok (.aload_n 1, 1) := by decide +kernel
theorem dX1_init_40 : decode cX1_init 40 = .ok (.putfield 32, 3) := by decide +kernel
theorem dX1_init_43 : decode cX1_init 43 = .ok (.return_, 1) := by decide +kernel
theorem dX1_clear_0 : decode cX1_clear 0 = .ok (.aload_n 0, 1) := by decide +kernel
theorem dX1_clear_1 : decode cX1_clear 1 = .ok (.iconst 0, 1) := by decide +kernel
theorem dX1_clear_2 : decode cX1_clear 2 = .ok (.putfield 18, 3) := by decide +kernel
theorem dX1_clear_5 : decode cX1_clear 5 = .ok (.aload_n 0, 1) := by decide +kernel
theorem dX1_clear_6 : decode cX1_clear 6 = .ok (.iconst 0, 1) := by decide +kernel
theorem dX1_clear_7 : decode cX1_clear 7 = .ok (.putfield 22, 3) := by decide +kernel
theorem dX1_clear_10 : decode cX1_clear 10 = .ok (.aload_n 0, 1) := by decide +kernel
theorem dX1_clear_11 : decode cX1_clear 11 = .ok (.iconst 0, 1) := by decide +kernel
theorem dX1_clear_12 : decode cX1_clear 12 = .ok (.putfield 25, 3) := by decide +kernel
theorem dX1_clear_15 : decode cX1_clear 15 = .ok (.aload_n 0, 1) := by decide +kernel
theorem dX1_clear_16 : decode cX1_clear 16 = .ok (.iconst 0, 1) := by decide +kernel
theorem dX1_clear_17 : decode cX1_clear 17 = .ok (.putfield 29, 3) := by decide +kernel
theorem dX1_clear_20 : decode cX1_clear 20 = .ok (.return_, 1) := by decide +kernel
theorem dX1_become_0 : decode cX1_become 0 = .ok (.iconst 0, 1) := by decide +kernel
theorem dX1_become_1 : decode cX1_become 1 = .ok (.istore_n 2, 1) := by decide +kernel
theorem dX1_become_2 : decode cX1_become 2 = .ok (.iload_n 2, 1) := by decide +kernel
theorem dX1_become_3 : decode cX1_become 3 = .ok (.iconst 5, 1) := by decide +kernel
theorem dX1_become_4 : decode cX1_become 4 = .ok (.if_icmp .ge 33, 3) := by decide +kernel
theorem dX1_become_7 : decode cX1_become 7 = .ok (.aload_n 0, 1) := by decide +kernel
theorem dX1_become_8 : decode cX1_become 8 = .ok (.getfield 9, 3) := by decide +kernel
theorem dX1_become_11 : decode cX1_become 11 = .ok (.iload_n 2, 1) := by decide +kernel
theorem dX1_become_12 : decode cX1_become 12 = .ok (.aload_n 1, 1) := by decide +kernel
theorem dX1_become_13 : decode cX1_become 13 = .ok (.getfield 9, 3) := by decide +kernel
theorem dX1_become_16 : decode cX1_become 16 = .ok (.iload_n 2, 1) := by decide +kernel
theorem dX1_become_17 : decode cX1_become 17 = .ok (.iaload, 1) := by decide +kernel
theorem dX1_become_18 : decode cX1_become 18 = .ok (.iastore, 1) := by decide +kernel
theorem dX1_become_19 : decode cX1_become 19 = .ok (.aload_n 0, 1) := by decide +kernel
theorem dX1_become_20 : decode cX1_become 20 = .ok (.getfield 15, 3) := by decide +kernel
theorem dX1_become_23 : decode cX1_become 23 = .ok (.iload_n 2, 1) := by decide +kernel
theorem dX1_become_24 : decode cX1_become 24 = .ok (.aload_n 1, 1) := by decide +kernel
theorem dX1_become_25 : decode cX1_become 25 = .ok (.getfield 15, 3) := by decide +kernel
theorem dX1_become_28 : decode cX1_become 28 = .ok (.iload_n 2, 1) := by decide +kernel
theorem dX1_become_29 : decode cX1_become 29 = .ok (.iaload, 1) := by decide +kernel
theorem dX1_become_30 : decode cX1_become 30 = .ok (.iastore, 1) := by decide +kernel
theorem dX1_become_31 : decode cX1_become 31 = .ok (.iinc 2 1, 3) := by decide +kernel
theorem dX1_become_34 : decode cX1_become 34 = .ok (.goto (-32), 3) := by decide +kernel
theorem dX1_become_37 : decode cX1_become 37 = .ok (.aload_n 0, 1) := by decide +kernel
theorem dX1_become_38 : decode cX1_become 38 = .ok (.aload_n 1, 1) := by decide +kernel
theorem dX1_become_39 : decode cX1_become 39 = .ok (.getfield 18, 3) := by decide +kernel
theorem dX1_become_42 : decode cX1_become 42 = .ok (.putfield 18, 3) := by decide +kernel
theorem dX1_become_45 : decode cX1_become 45 = .ok (.aload_n 0, 1) := by decide +kernel
theorem dX1_become_46 : decode cX1_become 46 = .ok (.aload_n 1, 1) := by decide +kernel
theorem dX1_become_47 : decode cX1_become 47 = .ok (.getfield 22, 3) := by decide +kernel
theorem dX1_become_50 : decode cX1_become 50 = .ok (.putfield 22, 3) := by decide +kernel
theorem dX1_become_53 : decode cX1_become 53 = .ok (.aload_n 0, 1) := by decide +kernel
theorem dX1_become_54 : decode cX1_become 54 = .ok (.aload_n 1, 1) := by decide +kernel
theorem dX1_become_55 : decode cX1_become 55 = .ok (.getfield 25, 3) := by decide +kernel
theorem dX1_become_58 : decode cX1_become 58 = .ok (.putfield 25, 3) := by decide +kernel
theorem dX1_become_61 : decode cX1_become 61 = .ok (.aload_n 0, 1) := by decide +kernel
theorem dX1_become_62 : decode cX1_become 62 = .ok (.aload_n 1, 1) := by decide +kernel
theorem dX1_become_63 : decode cX1_become 63 = .ok (.getfield 29, 3) := by decide +kernel
theorem dX1_become_66 : decode cX1_become 66 = .ok (.putfield 29, 3) := by decide +kernel
theorem dX1_become_69 : decode cX1_become 69 = .ok (.return_, 1) := by decide +kernel
theorem dX1_furnish_0 : decode cX1_furnish 0 = .ok (.iload_n 1, 1) := by decide +kernel
theorem dX1_furnish_1 : decode cX1_furnish 1 = .ok (.ifCond .lt 22, 3) := by decide +kernel
theorem dX1_furnish_4 : decode cX1_furnish 4 = .ok (.iload_n 1, 1) := by decide +kernel
theorem dX1_furnish_5 : decode cX1_furnish 5 = .ok (.iconst 5, 1) := by decide +kernel
theorem dX1_furnish_6 : decode cX1_furnish 6 = .ok (.if_icmp .ge 17, 3) := by decide +kernel
theorem dX1_furnish_9 : decode cX1_furnish 9 = .ok (.aload_n 0, 1) := by decide +kernel
theorem dX1_furnish_10 : decode cX1_furnish 10 = .ok (.getfield 9, 3) := by decide +kernel
theorem dX1_furnish_13 : decode cX1_furnish 13 = .ok (.iload_n 1, 1) := by decide +kernel
theorem dX1_furnish_14 : decode cX1_furnish 14 = .ok (.iload_n 2, 1) := by decide +kernel
theorem dX1_furnish_15 : decode cX1_furnish 15 = .ok (.iastore, 1) := by decide +kernel
theorem dX1_furnish_16 : decode cX1_furnish 16 = .ok (.aload_n 0, 1) := by decide +kernel
theorem dX1_furnish_17 : decode cX1_furnish 17 = .ok (.getfield 15, 3) := by decide +kernel
theorem dX1_furnish_20 : decode cX1_furnish 20 = .ok (.iload_n 1, 1) := by decide +kernel
theorem dX1_furnish_21 : decode cX1_furnish 21 = .ok (.iload_n 3, 1) := by decide +kernel
theorem dX1_furnish_22 : decode cX1_furnish 22 = .ok (.iastore, 1) := by decide +kernel
theorem dX1_furnish_23 : decode cX1_furnish 23 = .ok (.return_, 1) := by decide +kernel
theorem dX1_woodOf_0 : decode cX1_woodOf 0 = .ok (.aload_n 0, 1) := by decide +kernel
theorem dX1_woodOf_1 : decode cX1_woodOf 1 = .ok (.getfield 32, 3) := by decide +kernel
theorem dX1_woodOf_4 : decode cX1_woodOf 4 = .ok (.iload_n 1, 1) := by decide +kernel
theorem dX1_woodOf_5 : decode cX1_woodOf 5 = .ok (.invokevirtual 36, 3) := by decide +kernel
theorem dX1_woodOf_8 : decode cX1_woodOf 8 = .ok (.ifCond .eq 12, 3) := by decide +kernel
theorem dX1_woodOf_11 : decode cX1_woodOf 11 = .ok (.aload_n 0, 1) := by decide +kernel
theorem dX1_woodOf_12 : decode cX1_woodOf 12 = .ok (.getfield 9, 3) := by decide +kernel
theorem dX1_woodOf_15 : decode cX1_woodOf 15 = .ok (.iload_n 1, 1) := by decide +kernel
theorem dX1_woodOf_16 : decode cX1_woodOf 16 = .ok (.iaload, 1) := by decide +kernel
theorem dX1_woodOf_17 : decode cX1_woodOf 17 = .ok (.goto 4, 3) := by decide +kernel
theorem dX1_woodOf_20 : decode cX1_woodOf 20 = .ok (.iconst 0, 1) := by decide +kernel
theorem dX1_woodOf_21 : decode cX1_woodOf 21 = .ok (.ireturn, 1) := by decide +kernel
theorem dX1_wetOf_0 : decode cX1_wetOf 0 = .ok (.aload_n 0, 1) := by decide +kernel
theorem dX1_wetOf_1 : decode cX1_wetOf 1 = .ok (.getfield 32, 3) := by decide +kernel
theorem dX1_wetOf_4 : decode cX1_wetOf 4 = .ok (.iload_n 1, 1) := by decide +kernel
theorem dX1_wetOf_5 : decode cX1_wetOf 5 = .ok (.invokevirtual 36, 3) := by decide +kernel
theorem dX1_wetOf_8 : decode cX1_wetOf 8 = .ok (.ifCond .eq 12, 3) := by decide +kernel
theorem dX1_wetOf_11 : decode cX1_wetOf 11 = .ok (.aload_n 0, 1) := by decide +kernel
theorem dX1_wetOf_12 : decode cX1_wetOf 12 = .ok (.getfield 15, 3) := by decide +kernel
theorem dX1_wetOf_15 : decode cX1_wetOf 15 = .ok (.iload_n 1, 1) := by decide +kernel
theorem dX1_wetOf_16 : decode cX1_wetOf 16 = .ok (.iaload, 1) := by decide +kernel
theorem dX1_wetOf_17 : decode cX1_wetOf 17 = .ok (.goto 4, 3) := by decide +kernel
theorem dX1_wetOf_20 : decode cX1_wetOf 20 = .ok (.iconst 0, 1) := by decide +kernel
theorem dX1_wetOf_21 : decode cX1_wetOf 21 = .ok (.ireturn, 1) := by decide +kernel
theorem dX1_allWood_0 : decode cX1_allWood 0 = .ok (.iconst 0, 1) := by decide +kernel
theorem dX1_allWood_1 : decode cX1_allWood 1 = .ok (.istore_n 1, 1) := by decide +kernel
theorem dX1_allWood_2 : decode cX1_allWood 2 = .ok (.iconst 0, 1) := by decide +kernel
theorem dX1_allWood_3 : decode cX1_allWood 3 = .ok (.istore_n 2, 1) := by decide +kernel
theorem dX1_allWood_4 : decode cX1_allWood 4 = .ok (.iload_n 2, 1) := by decide +kernel
theorem dX1_allWood_5 : decode cX1_allWood 5 = .ok (.aload_n 0, 1) := by decide +kernel
theorem dX1_allWood_6 : decode cX1_allWood 6 = .ok (.getfield 32, 3) := by decide +kernel
theorem dX1_allWood_9 : decode cX1_allWood 9 = .ok (.getfield 42, 3) := by decide +kernel
theorem dX1_allWood_12 : decode cX1_allWood 12 = .ok (.if_icmp .ge 18, 3) := by decide +kernel
theorem dX1_allWood_15 : decode cX1_allWood 15 = .ok (.iload_n 1, 1) := by decide +kernel
theorem dX1_allWood_16 : decode cX1_allWood 16 = .ok (.aload_n 0, 1) := by decide +kernel
theorem dX1_allWood_17 : decode cX1_allWood 17 = .ok (.getfield 9, 3) := by decide +kernel
theorem dX1_allWood_20 : decode cX1_allWood 20 = .ok (.iload_n 2, 1) := by decide +kernel
theorem dX1_allWood_21 : decode cX1_allWood 21 = .ok (.iaload, 1) := by decide +kernel
theorem dX1_allWood_22 : decode cX1_allWood 22 = .ok (.iadd, 1) := by decide +kernel
theorem dX1_allWood_23 : decode cX1_allWood 23 = .ok (.istore_n 1, 1) := by decide +kernel
theorem dX1_allWood_24 : decode cX1_allWood 24 = .ok (.iinc 2 1, 3) := by decide +kernel
theorem dX1_allWood_27 : decode cX1_allWood 27 = .ok (.goto (-23), 3) := by decide +kernel
theorem dX1_allWood_30 : decode cX1_allWood 30 = .ok (.iload_n 1, 1) := by decide +kernel
theorem dX1_allWood_31 : decode cX1_allWood 31 = .ok (.ireturn, 1) := by decide +kernel
theorem dX1_burns_0 : decode cX1_burns 0 = .ok (.aload_n 0, 1) := by decide +kernel
theorem dX1_burns_1 : decode cX1_burns 1 = .ok (.getfield 32, 3) := by decide +kernel
theorem dX1_burns_4 : decode cX1_burns 4 = .ok (.iload_n 1, 1) := by decide +kernel
theorem dX1_burns_5 : decode cX1_burns 5 = .ok (.invokevirtual 36, 3) := by decide +kernel
theorem dX1_burns_8 : decode cX1_burns 8 = .ok (.ifCond .eq 18, 3) := by decide +kernel
theorem dX1_burns_11 : decode cX1_burns 11 = .ok (.aload_n 0, 1) := by decide +kernel
theorem dX1_burns_12 : decode cX1_burns 12 = .ok (.getfield 18, 3) := by decide +kernel
theorem dX1_burns_15 : decode cX1_burns 15 = .ok (.iload_n 1, 1) := by decide +kernel
theorem dX1_burns_16 : decode cX1_burns 16 = .ok (.ishr, 1) := by decide +kernel
theorem dX1_burns_17 : decode cX1_burns 17 = .ok (.iconst 1, 1) := by decide +kernel
theorem dX1_burns_18 : decode cX1_burns 18 = .ok (.iand, 1) := by decide +kernel
theorem dX1_burns_19 : decode cX1_burns 19 = .ok (.ifCond .eq 7, 3) := by decide +kernel
theorem dX1_burns_22 : decode cX1_burns 22 = .ok (.iconst 1, 1) := by decide +kernel
theorem dX1_burns_23 : decode cX1_burns 23 = .ok (.goto 4, 3) := by decide +kernel
theorem dX1_burns_26 : decode cX1_burns 26 = .ok (.iconst 0, 1) := by decide +kernel
theorem dX1_burns_27 : decode cX1_burns 27 = .ok (.ireturn, 1) := by decide +kernel
theorem dX1_catches_0 : decode cX1_catches 0 = .ok (.aload_n 0, 1) := by decide +kernel
theorem dX1_catches_1 : decode cX1_catches 1 = .ok (.getfield 32, 3) := by decide +kernel
theorem dX1_catches_4 : decode cX1_catches 4 = .ok (.iload_n 1, 1) := by decide +kernel
theorem dX1_catches_5 : decode cX1_catches 5 = .ok (.invokevirtual 36, 3) := by decide +kernel
theorem dX1_catches_8 : decode cX1_catches 8 = .ok (.ifCond .eq 37, 3) := by decide +kernel
theorem dX1_catches_11 : decode cX1_catches 11 = .ok (.aload_n 0, 1) := by decide +kernel
theorem dX1_catches_12 : decode cX1_catches 12 = .ok (.getfield 9, 3) := by decide +kernel
theorem dX1_catches_15 : decode cX1_catches 15 = .ok (.iload_n 1, 1) := by decide +kernel
theorem dX1_catches_16 : decode cX1_catches 16 = .ok (.iaload, 1) := by decide +kernel
theorem dX1_catches_17 : decode cX1_catches 17 = .ok (.ifCond .le 28, 3) := by decide +kernel
theorem dX1_catches_20 : decode cX1_catches 20 = .ok (.aload_n 0, 1) := by decide +kernel
theorem dX1_catches_21 : decode cX1_catches 21 = .ok (.getfield 15, 3) := by decide +kernel
theorem dX1_catches_24 : decode cX1_catches 24 = .ok (.iload_n 1, 1) := by decide +kernel
theorem dX1_catches_25 : decode cX1_catches 25 = .ok (.iaload, 1) := by decide +kernel
theorem dX1_catches_26 : decode cX1_catches 26 = .ok (.aload_n 0, 1) := by decide +kernel
theorem dX1_catches_27 : decode cX1_catches 27 = .ok (.getfield 32, 3) := by decide +kernel
theorem dX1_catches_30 : decode cX1_catches 30 = .ok (.getfield 45, 3) := by decide +kernel
theorem dX1_catches_33 : decode cX1_catches 33 = .ok (.iload_n 1, 1) := by decide +kernel
theorem dX1_catches_34 : decode cX1_catches 34 = .ok (.iaload, 1) := by decide +kernel
theorem dX1_catches_35 : decode cX1_catches 35 = .ok (.invokestatic 48, 3) := by decide +kernel
theorem dX1_catches_38 : decode cX1_catches 38 = .ok (.if_icmp .gt 7, 3) := by decide +kernel
theorem dX1_catches_41 : decode cX1_catches 41 = .ok (.iconst 1, 1) := by decide +kernel
theorem dX1_catches_42 : decode cX1_catches 42 = .ok (.goto 4, 3) := by decide +kernel
theorem dX1_catches_45 : decode cX1_catches 45 = .ok (.iconst 0, 1) := by decide +kernel
theorem dX1_catches_46 : decode cX1_catches 46 = .ok (.ireturn, 1) := by decide +kernel
theorem dX1_catching_0 : decode cX1_catching 0 = .ok (.iconst 0, 1) := by decide +kernel
theorem dX1_catching_1 : decode cX1_catching 1 = .ok (.istore_n 1, 1) := by decide +kernel
theorem dX1_catching_2 : decode cX1_catching 2 = .ok (.iconst 0, 1) := by decide +kernel
theorem dX1_catching_3 : decode cX1_catching 3 = .ok (.istore_n 2, 1) := by decide +kernel
theorem dX1_catching_4 : decode cX1_catching 4 = .ok (.iload_n 2, 1) := by decide +kernel
theorem dX1_catching_5 : decode cX1_catching 5 = .ok (.aload_n 0, 1) := by decide +kernel
theorem dX1_catching_6 : decode cX1_catching 6 = .ok (.getfield 32, 3) := by decide +kernel
theorem dX1_catching_9 : decode cX1_catching 9 = .ok (.getfield 42, 3) := by decide +kernel
theorem dX1_catching_12 : decode cX1_catching 12 = .ok (.if_icmp .ge 27, 3) := by decide +kernel
theorem dX1_catching_15 : decode cX1_catching 15 = .ok (.iload_n 1, 1) := by decide +kernel
theorem dX1_catching_16 : decode cX1_catching 16 = .ok (.aload_n 0, 1) := by decide +kernel
theorem dX1_catching_17 : decode cX1_catching 17 = .ok (.iload_n 2, 1) := by decide +kernel
theorem dX1_catching_18 : decode cX1_catching 18 = .ok (.invokevirtual 54, 3) := by decide +kernel
theorem dX1_catching_21 : decode cX1_catching 21 = .ok (.ifCond .eq 9, 3) := by decide +kernel
theorem dX1_catching_24 : decode cX1_catching 24 = .ok (.iconst 1, 1) := by decide +kernel
theorem dX1_catching_25 : decode cX1_catching 25 = .ok (.iload_n 2, 1) := by decide +kernel
theorem dX1_catching_26 : decode cX1_catching 26 = .ok (.ishl, 1) := by decide +kernel
theorem dX1_catching_27 : decode cX1_catching 27 = .ok (.goto 4, 3) := by decide +kernel
theorem dX1_catching_30 : decode cX1_catching 30 = .ok (.iconst 0, 1) := by decide +kernel
theorem dX1_catching_31 : decode cX1_catching 31 = .ok (.ior, 1) := by decide +kernel
theorem dX1_catching_32 : decode cX1_catching 32 = .ok (.istore_n 1, 1) := by decide +kernel
theorem dX1_catching_33 : decode cX1_catching 33 = .ok (.iinc 2 1, 3) := by decide +kernel
theorem dX1_catching_36 : decode cX1_catching 36 = .ok (.goto (-32), 3) := by decide +kernel
theorem dX1_catching_39 : decode cX1_catching 39 = .ok (.iload_n 1, 1) := by decide +kernel
theorem dX1_catching_40 : decode cX1_catching 40 = .ok (.ireturn, 1) := by decide +kernel
theorem dX1_alight_0 : decode cX1_alight 0 = .ok (.aload_n 0, 1) := by decide +kernel
theorem dX1_alight_1 : decode cX1_alight 1 = .ok (.getfield 18, 3) := by decide +kernel
theorem dX1_alight_4 : decode cX1_alight 4 = .ok (.invokestatic 57, 3) := by decide +kernel
theorem dX1_alight_7 : decode cX1_alight 7 = .ok (.ireturn, 1) := by decide +kernel
theorem dX1_canStrike_0 : decode cX1_canStrike 0 = .ok (.aload_n 0, 1) := by decide +kernel
theorem dX1_canStrike_1 : decode cX1_canStrike 1 = .ok (.getfield 25, 3) := by decide +kernel
theorem dX1_canStrike_4 : decode cX1_canStrike 4 = .ok (.ifCond .ne 15, 3) := by decide +kernel
theorem dX1_canStrike_7 : decode cX1_canStrike 7 = .ok (.aload_n 0, 1) := by decide +kernel
theorem dX1_canStrike_8 : decode cX1_canStrike 8 = .ok (.iload_n 1, 1) := by decide +kernel
theorem dX1_canStrike_9 : decode cX1_canStrike 9 = .ok (.invokevirtual 54, 3) := by decide +kernel
theorem dX1_canStrike_12 : decode cX1_canStrike 12 = .ok (.ifCond .eq 7, 3) := by decide +kernel
theorem dX1_canStrike_15 : decode cX1_canStrike 15 = .ok (.iconst 1, 1) := by decide +kernel
theorem dX1_canStrike_16 : decode cX1_canStrike 16 = .ok (.goto 4, 3) := by decide +kernel
theorem dX1_canStrike_19 : decode cX1_canStrike 19 = .ok (.iconst 0, 1) := by decide +kernel
theorem dX1_canStrike_20 : decode cX1_canStrike 20 = .ok (.ireturn, 1) := by decide +kernel
theorem dX1_canCarry_0 : decode cX1_canCarry 0 = .ok (.aload_n 0, 1) := by decide +kernel
theorem dX1_canCarry_1 : decode cX1_canCarry 1 = .ok (.getfield 29, 3) := by decide +kernel
theorem dX1_canCarry_4 : decode cX1_canCarry 4 = .ok (.ifCond .ne 64, 3) := by decide +kernel
theorem dX1_canCarry_7 : decode cX1_canCarry 7 = .ok (.aload_n 0, 1) := by decide +kernel
theorem dX1_canCarry_8 : decode cX1_canCarry 8 = .ok (.iload_n 1, 1) := by decide +kernel
theorem dX1_canCarry_9 : decode cX1_canCarry 9 = .ok (.invokevirtual 62, 3) := by decide +kernel
theorem dX1_canCarry_12 : decode cX1_canCarry 12 = .ok (.ifCond .eq 56, 3) := by decide +kernel
theorem dX1_canCarry_15 : decode cX1_canCarry 15 = .ok (.aload_n 0, 1) := by decide +kernel
theorem dX1_canCarry_16 : decode cX1_canCarry 16 = .ok (.getfield 32, 3) := by decide +kernel
theorem dX1_canCarry_19 : decode cX1_canCarry 19 = .ok (.iload_n 2, 1) := by decide +kernel
theorem dX1_canCarry_20 : decode cX1_canCarry 20 = .ok (.invokevirtual 36, 3) := by decide +kernel
theorem dX1_canCarry_23 : decode cX1_canCarry 23 = .ok (.ifCond .eq 45, 3) := by decide +kernel
theorem dX1_canCarry_26 : decode cX1_canCarry 26 = .ok (.aload_n 0, 1) := by decide +kernel
theorem dX1_canCarry_27 : decode cX1_canCarry 27 = .ok (.iload_n 2, 1) := by decide +kernel
theorem dX1_canCarry_28 : decode cX1_canCarry 28 = .ok (.invokevirtual 62, 3) := by decide +kernel
theorem dX1_canCarry_31 : decode cX1_canCarry 31 = .ok (.ifCond .ne 37, 3) := by decide +kernel
theorem dX1_canCarry_34 : decode cX1_canCarry 34 = .ok (.iload_n 1, 1) := by decide +kernel
theorem dX1_canCarry_35 : decode cX1_canCarry 35 = .ok (.iload_n 2, 1) := by decide +kernel
theorem dX1_canCarry_36 : decode cX1_canCarry 36 = .ok (.isub, 1) := by decide +kernel
theorem dX1_canCarry_37 : decode cX1_canCarry 37 = .ok (.invokestatic 65, 3) := by decide +kernel
theorem dX1_canCarry_40 : decode cX1_canCarry 40 = .ok (.iconst 3, 1) := by decide +kernel
theorem dX1_canCarry_41 : decode cX1_canCarry 41 = .ok (.aload_n 0, 1) := by decide +kernel
theorem dX1_canCarry_42 : decode cX1_canCarry 42 = .ok (.getfield 32, 3) := by decide +kernel
theorem dX1_canCarry_45 : decode cX1_canCarry 45 = .ok (.aload_n 0, 1) := by decide +kernel
theorem dX1_canCarry_46 : decode cX1_canCarry 46 = .ok (.getfield 22, 3) := by decide +kernel
theorem dX1_canCarry_49 : decode cX1_canCarry 49 = .ok (.invokevirtual 70, 3) := by decide +kernel
theorem dX1_canCarry_52 : decode cX1_canCarry 52 = .ok (.isub, 1) := by decide +kernel
theorem dX1_canCarry_53 : decode cX1_canCarry 53 = .ok (.if_icmp .gt 15, 3) := by decide +kernel
theorem dX1_canCarry_56 : decode cX1_canCarry 56 = .ok (.aload_n 0, 1) := by decide +kernel
theorem dX1_canCarry_57 : decode cX1_canCarry 57 = .ok (.iload_n 2, 1) := by decide +kernel
theorem dX1_canCarry_58 : decode cX1_canCarry 58 = .ok (.invokevirtual 54, 3) := by decide +kernel
theorem dX1_canCarry_61 : decode cX1_canCarry 61 = .ok (.ifCond .eq 7, 3) := by decide +kernel
theorem dX1_canCarry_64 : decode cX1_canCarry 64 = .ok (.iconst 1, 1) := by decide +kernel
theorem dX1_canCarry_65 : decode cX1_canCarry 65 = .ok (.goto 4, 3) := by decide +kernel
theorem dX1_canCarry_68 : decode cX1_canCarry 68 = .ok (.iconst 0, 1) := by decide +kernel
theorem dX1_canCarry_69 : decode cX1_canCarry 69 = .ok (.ireturn, 1) := by decide +kernel
theorem dX1_canMove_0 : decode cX1_canMove 0 = .ok (.iload_n 1, 1) := by decide +kernel
theorem dX1_canMove_1 : decode cX1_canMove 1 = .ok (.ifCond .lt 28, 3) := by decide +kernel
theorem dX1_canMove_4 : decode cX1_canMove 4 = .ok (.iload_n 1, 1) := by decide +kernel
theorem dX1_canMove_5 : decode cX1_canMove 5 = .ok (.bipush 36, 2) := by decide +kernel
theorem dX1_canMove_7 : decode cX1_canMove 7 = .ok (.if_icmp .ge 22, 3) := by decide +kernel
theorem dX1_canMove_10 : decode cX1_canMove 10 = .ok (.aload_n 0, 1) := by decide +kernel
theorem dX1_canMove_11 : decode cX1_canMove 11 = .ok (.iload_n 1, 1) := by decide +kernel
theorem dX1_canMove_12 : decode cX1_canMove 12 = .ok (.bipush 6, 2) := by decide +kernel
theorem dX1_canMove_14 : decode cX1_canMove 14 = .ok (.idiv, 1) := by decide +kernel
theorem dX1_canMove_15 : decode cX1_canMove 15 = .ok (.iload_n 1, 1) := by decide +kernel
theorem dX1_canMove_16 : decode cX1_canMove 16 = .ok (.bipush 6, 2) := by decide +kernel
theorem dX1_canMove_18 : decode cX1_canMove 18 = .ok (.irem, 1) := by decide +kernel
theorem dX1_canMove_19 : decode cX1_canMove 19 = .ok (.invokevirtual 73, 3) := by decide +kernel
theorem dX1_canMove_22 : decode cX1_canMove 22 = .ok (.ifCond .eq 7, 3) := by decide +kernel
theorem dX1_canMove_25 : decode cX1_canMove 25 = .ok (.iconst 1, 1) := by decide +kernel
theorem dX1_canMove_26 : decode cX1_canMove 26 = .ok (.goto 4, 3) := by decide +kernel
theorem dX1_canMove_29 : decode cX1_canMove 29 = .ok (.iconst 0, 1) := by decide +kernel
theorem dX1_canMove_30 : decode cX1_canMove 30 = .ok (.ireturn, 1) := by decide +kernel
theorem dX1_reachable_0 : decode cX1_reachable 0 = .ok (.iconst 0, 1) := by decide +kernel
theorem dX1_reachable_1 : decode cX1_reachable 1 = .ok (.istore_n 1, 1) := by decide +kernel
theorem dX1_reachable_2 : decode cX1_reachable 2 = .ok (.iconst 0, 1) := by decide +kernel
theorem dX1_reachable_3 : decode cX1_reachable 3 = .ok (.istore_n 2, 1) := by decide +kernel
theorem dX1_reachable_4 : decode cX1_reachable 4 = .ok (.iload_n 2, 1) := by decide +kernel
theorem dX1_reachable_5 : decode cX1_reachable 5 = .ok (.bipush 36, 2) := by decide +kernel
theorem dX1_reachable_7 : decode cX1_reachable 7 = .ok (.if_icmp .ge 30, 3) := by decide +kernel
theorem dX1_reachable_10 : decode cX1_reachable 10 = .ok (.iload_n 1, 1) := by decide +kernel
theorem dX1_reachable_11 : decode cX1_reachable 11 = .ok (.aload_n 0, 1) := by decide +kernel
theorem dX1_reachable_12 : decode cX1_reachable 12 = .ok (.iload_n 2, 1) := by decide +kernel
theorem dX1_reachable_13 : decode cX1_reachable 13 = .ok (.invokevirtual 77, 3) := by decide +kernel
theorem dX1_reachable_16 : decode cX1_reachable 16 = .ok (.ifCond .eq 12, 3) := by decide +kernel
theorem dX1_reachable_19 : decode cX1_reachable 19 = .ok (.iconst 1, 1) := by decide +kernel
theorem dX1_reachable_20 : decode cX1_reachable 20 = .ok (.iload_n 2, 1) := by decide +kernel
theorem dX1_reachable_21 : decode cX1_reachable 21 = .ok (.bipush 6, 2) := by decide +kernel
theorem dX1_reachable_23 : decode cX1_reachable 23 = .ok (.irem, 1) := by decide +kernel
theorem dX1_reachable_24 : decode cX1_reachable 24 = .ok (.ishl, 1) := by decide +kernel
theorem dX1_reachable_25 : decode cX1_reachable 25 = .ok (.goto 4, 3) := by decide +kernel
theorem dX1_reachable_28 : decode cX1_reachable 28 = .ok (.iconst 0, 1) := by decide +kernel
theorem dX1_reachable_29 : decode cX1_reachable 29 = .ok (.ior, 1) := by decide +kernel
theorem dX1_reachable_30 : decode cX1_reachable 30 = .ok (.istore_n 1, 1) := by decide +kernel
theorem dX1_reachable_31 : decode cX1_reachable 31 = .ok (.iinc 2 1, 3) := by decide +kernel
theorem dX1_reachable_34 : decode cX1_reachable 34 = .ok (.goto (-30), 3) := by decide +kernel
theorem dX1_reachable_37 : decode cX1_reachable 37 = .ok (.iload_n 1, 1) := by decide +kernel
theorem dX1_reachable_38 : decode cX1_reachable 38 = .ok (.ireturn, 1) := by decide +kernel
theorem dX1_light_0 : decode cX1_light 0 = .ok (.aload_n 0, 1) := by decide +kernel
theorem dX1_light_1 : decode cX1_light 1 = .ok (.iconst 1, 1) := by decide +kernel
theorem dX1_light_2 : decode cX1_light 2 = .ok (.putfield 25, 3) := by decide +kernel
theorem dX1_light_5 : decode cX1_light 5 = .ok (.aload_n 0, 1) := by decide +kernel
theorem dX1_light_6 : decode cX1_light 6 = .ok (.dup, 1) := by decide +kernel
theorem dX1_light_7 : decode cX1_light 7 = .ok (.getfield 18, 3) := by decide +kernel
theorem dX1_light_10 : decode cX1_light 10 = .ok (.iconst 1, 1) := by decide +kernel
theorem dX1_light_11 : decode cX1_light 11 = .ok (.iload_n 1, 1) := by decide +kernel
theorem dX1_light_12 : decode cX1_light 12 = .ok (.ishl, 1) := by decide +kernel
theorem dX1_light_13 : decode cX1_light 13 = .ok (.ior, 1) := by decide +kernel
theorem dX1_light_14 : decode cX1_light 14 = .ok (.putfield 18, 3) := by decide +kernel
theorem dX1_light_17 : decode cX1_light 17 = .ok (.return_, 1) := by decide +kernel
theorem dX1_bring_0 : decode cX1_bring 0 = .ok (.iload_n 1, 1) := by decide +kernel
theorem dX1_bring_1 : decode cX1_bring 1 = .ok (.bipush 36, 2) := by decide +kernel
theorem dX1_bring_3 : decode cX1_bring 3 = .ok (.if_icmp .eq 23, 3) := by decide +kernel
theorem dX1_bring_6 : decode cX1_bring 6 = .ok (.aload_n 0, 1) := by decide +kernel
theorem dX1_bring_7 : decode cX1_bring 7 = .ok (.iconst 1, 1) := by decide +kernel
theorem dX1_bring_8 : decode cX1_bring 8 = .ok (.putfield 29, 3) := by decide +kernel
theorem dX1_bring_11 : decode cX1_bring 11 = .ok (.aload_n 0, 1) := by decide +kernel
theorem dX1_bring_12 : decode cX1_bring 12 = .ok (.dup, 1) := by decide +kernel
theorem dX1_bring_13 : decode cX1_bring 13 = .ok (.getfield 18, 3) := by decide +kernel
theorem dX1_bring_16 : decode cX1_bring 16 = .ok (.iconst 1, 1) := by decide +kernel
theorem dX1_bring_17 : decode cX1_bring 17 = .ok (.iload_n 1, 1) := by decide +kernel
theorem dX1_bring_18 : decode cX1_bring 18 = .ok (.bipush 6, 2) := by decide +kernel
theorem dX1_bring_20 : decode cX1_bring 20 = .ok (.irem, 1) := by decide +kernel
theorem dX1_bring_21 : decode cX1_bring 21 = .ok (.ishl, 1) := by decide +kernel
theorem dX1_bring_22 : decode cX1_bring 22 = .ok (.ior, 1) := by decide +kernel
theorem dX1_bring_23 : decode cX1_bring 23 = .ok (.putfield 18, 3) := by decide +kernel
theorem dX1_bring_26 : decode cX1_bring 26 = .ok (.return_, 1) := by decide +kernel
theorem dX1_pass_0 : decode cX1_pass 0 = .ok (.aload_n 0, 1) := by decide +kernel
theorem dX1_pass_1 : decode cX1_pass 1 = .ok (.getfield 18, 3) := by decide +kernel
theorem dX1_pass_4 : decode cX1_pass 4 = .ok (.istore_n 1, 1) := by decide +kernel
theorem dX1_pass_5 : decode cX1_pass 5 = .ok (.iconst 0, 1) := by decide +kernel
theorem dX1_pass_6 : decode cX1_pass 6 = .ok (.istore_n 2, 1) := by decide +kernel
theorem dX1_pass_7 : decode cX1_pass 7 = .ok (.iload_n 2, 1) := by decide +kernel
theorem dX1_pass_8 : decode cX1_pass 8 = .ok (.aload_n 0, 1) := by decide +kernel
theorem dX1_pass_9 : decode cX1_pass 9 = .ok (.getfield 32, 3) := by decide +kernel
theorem dX1_pass_12 : decode cX1_pass 12 = .ok (.getfield 42, 3) := by decide +kernel
theorem dX1_pass_15 : decode cX1_pass 15 = .ok (.if_icmp .ge 52, 3) := by decide +kernel
theorem dX1_pass_18 : decode cX1_pass 18 = .ok (.iload_n 1, 1) := by decide +kernel
theorem dX1_pass_19 : decode cX1_pass 19 = .ok (.iload_n 2, 1) := by decide +kernel
theorem dX1_pass_20 : decode cX1_pass 20 = .ok (.ishr, 1) := by decide +kernel
theorem dX1_pass_21 : decode cX1_pass 21 = .ok (.iconst 1, 1) := by decide +kernel
theorem dX1_pass_22 : decode cX1_pass 22 = .ok (.iand, 1) := by decide +kernel
theorem dX1_pass_23 : decode cX1_pass 23 = .ok (.ifCond .eq 11, 3) := by decide +kernel
theorem dX1_pass_26 : decode cX1_pass 26 = .ok (.aload_n 0, 1) := by decide +kernel
theorem dX1_pass_27 : decode cX1_pass 27 = .ok (.iload_n 2, 1) := by decide +kernel
theorem dX1_pass_28 : decode cX1_pass 28 = .ok (.invokevirtual 80, 3) := by decide +kernel
theorem dX1_pass_31 : decode cX1_pass 31 = .ok (.goto 30, 3) := by decide +kernel
theorem dX1_pass_34 : decode cX1_pass 34 = .ok (.iload_n 1, 1) := by decide +kernel
theorem dX1_pass_35 : decode cX1_pass 35 = .ok (.iload_n 2, 1) := by decide +kernel
theorem dX1_pass_36 : decode cX1_pass 36 = .ok (.invokestatic 84, 3) := by decide +kernel
theorem dX1_pass_39 : decode cX1_pass 39 = .ok (.iand, 1) := by decide +kernel
theorem dX1_pass_40 : decode cX1_pass 40 = .ok (.ifCond .eq 21, 3) := by decide +kernel
theorem dX1_pass_43 : decode cX1_pass 43 = .ok (.aload_n 0, 1) := by decide +kernel
theorem dX1_pass_44 : decode cX1_pass 44 = .ok (.getfield 15, 3) := by decide +kernel
theorem dX1_pass_47 : decode cX1_pass 47 = .ok (.iload_n 2, 1) := by decide +kernel
theorem dX1_pass_48 : decode cX1_pass 48 = .ok (.iconst 0, 1) := by decide +kernel
theorem dX1_pass_49 : decode cX1_pass 49 = .ok (.aload_n 0, 1) := by decide +kernel
theorem dX1_pass_50 : decode cX1_pass 50 = .ok (.getfield 15, 3) := by decide +kernel
theorem dX1_pass_53 : decode cX1_pass 53 = .ok (.iload_n 2, 1) := by decide +kernel
theorem dX1_pass_54 : decode cX1_pass 54 = .ok (.iaload, 1) := by decide +kernel
theorem dX1_pass_55 : decode cX1_pass 55 = .ok (.iconst 1, 1) := by decide +kernel
theorem dX1_pass_56 : decode cX1_pass 56 = .ok (.isub, 1) := by decide +kernel
theorem dX1_pass_57 : decode cX1_pass 57 = .ok (.invokestatic 87, 3) := by decide +kernel
theorem dX1_pass_60 : decode cX1_pass 60 = .ok (.iastore, 1) := by decide +kernel
theorem dX1_pass_61 : decode cX1_pass 61 = .ok (.iinc 2 1, 3) := by decide +kernel
theorem dX1_pass_64 : decode cX1_pass 64 = .ok (.goto (-57), 3) := by decide +kernel
theorem dX1_pass_67 : decode cX1_pass 67 = .ok (.aload_n 0, 1) := by decide +kernel
theorem dX1_pass_68 : decode cX1_pass 68 = .ok (.dup, 1) := by decide +kernel
theorem dX1_pass_69 : decode cX1_pass 69 = .ok (.getfield 22, 3) := by decide +kernel
theorem dX1_pass_72 : decode cX1_pass 72 = .ok (.iconst 1, 1) := by decide +kernel
theorem dX1_pass_73 : decode cX1_pass 73 = .ok (.iadd, 1) := by decide +kernel
theorem dX1_pass_74 : decode cX1_pass 74 = .ok (.putfield 22, 3) := by decide +kernel
theorem dX1_pass_77 : decode cX1_pass 77 = .ok (.aload_n 0, 1) := by decide +kernel
theorem dX1_pass_78 : decode cX1_pass 78 = .ok (.iconst 0, 1) := by decide +kernel
theorem dX1_pass_79 : decode cX1_pass 79 = .ok (.putfield 29, 3) := by decide +kernel
theorem dX1_pass_82 : decode cX1_pass 82 = .ok (.return_, 1) := by decide +kernel
theorem dX1_feed_0 : decode cX1_feed 0 = .ok (.iload_n 1, 1) := by decide +kernel
theorem dX1_feed_1 : decode cX1_feed 1 = .ok (.ifCond .lt 8, 3) := by decide +kernel
theorem dX1_feed_4 : decode cX1_feed 4 = .ok (.iload_n 1, 1) := by decide +kernel
theorem dX1_feed_5 : decode cX1_feed 5 = .ok (.iconst 5, 1) := by decide +kernel
theorem dX1_feed_6 : decode cX1_feed 6 = .ok (.if_icmp .lt 4, 3) := by decide +kernel
theorem dX1_feed_9 : decode cX1_feed 9 = .ok (.return_, 1) := by decide +kernel
theorem dX1_feed_10 : decode cX1_feed 10 = .ok (.aload_n 0, 1) := by decide +kernel
theorem dX1_feed_11 : decode cX1_feed 11 = .ok (.getfield 9, 3) := by decide +kernel
theorem dX1_feed_14 : decode cX1_feed 14 = .ok (.iload_n 1, 1) := by decide +kernel
theorem dX1_feed_15 : decode cX1_feed 15 = .ok (.iconst 0, 1) := by decide +kernel
theorem dX1_feed_16 : decode cX1_feed 16 = .ok (.aload_n 0, 1) := by decide +kernel
theorem dX1_feed_17 : decode cX1_feed 17 = .ok (.getfield 9, 3) := by decide +kernel
theorem dX1_feed_20 : decode cX1_feed 20 = .ok (.iload_n 1, 1) := by decide +kernel
theorem dX1_feed_21 : decode cX1_feed 21 = .ok (.iaload, 1) := by decide +kernel
theorem dX1_feed_22 : decode cX1_feed 22 = .ok (.aload_n 0, 1) := by decide +kernel
theorem dX1_feed_23 : decode cX1_feed 23 = .ok (.getfield 32, 3) := by decide +kernel
theorem dX1_feed_26 : decode cX1_feed 26 = .ok (.getfield 45, 3) := by decide +kernel
theorem dX1_feed_29 : decode cX1_feed 29 = .ok (.iload_n 1, 1) := by decide +kernel
theorem dX1_feed_30 : decode cX1_feed 30 = .ok (.iaload, 1) := by decide +kernel
theorem dX1_feed_31 : decode cX1_feed 31 = .ok (.aload_n 0, 1) := by decide +kernel
theorem dX1_feed_32 : decode cX1_feed 32 = .ok (.getfield 22, 3) := by decide +kernel
theorem dX1_feed_35 : decode cX1_feed 35 = .ok (.invokestatic 91, 3) := by decide +kernel
theorem dX1_feed_38 : decode cX1_feed 38 = .ok (.isub, 1) := by decide +kernel
theorem dX1_feed_39 : decode cX1_feed 39 = .ok (.invokestatic 87, 3) := by decide +kernel
theorem dX1_feed_42 : decode cX1_feed 42 = .ok (.iastore, 1) := by decide +kernel
theorem dX1_feed_43 : decode cX1_feed 43 = .ok (.aload_n 0, 1) := by decide +kernel
theorem dX1_feed_44 : decode cX1_feed 44 = .ok (.getfield 9, 3) := by decide +kernel
theorem dX1_feed_47 : decode cX1_feed 47 = .ok (.iload_n 1, 1) := by decide +kernel
theorem dX1_feed_48 : decode cX1_feed 48 = .ok (.iaload, 1) := by decide +kernel
theorem dX1_feed_49 : decode cX1_feed 49 = .ok (.ifCond .ne 17, 3) := by decide +kernel
theorem dX1_feed_52 : decode cX1_feed 52 = .ok (.aload_n 0, 1) := by decide +kernel
theorem dX1_feed_53 : decode cX1_feed 53 = .ok (.dup, 1) := by decide +kernel
theorem dX1_feed_54 : decode cX1_feed 54 = .ok (.getfield 18, 3) := by decide +kernel
theorem dX1_feed_57 : decode cX1_feed 57 = .ok (.iconst 1, 1) := by decide +kernel
theorem dX1_feed_58 : decode cX1_feed 58 = .ok (.iload_n 1, 1) := by decide +kernel
theorem dX1_feed_59 : decode cX1_feed 59 = .ok (.ishl, 1) := by decide +kernel
theorem dX1_feed_60 : decode cX1_feed 60 = .ok (.iconst (-1), 1) := by decide +kernel
theorem dX1_feed_61 : decode cX1_feed 61 = .ok (.ixor, 1) := by decide +kernel
theorem dX1_feed_62 : decode cX1_feed 62 = .ok (.iand, 1) := by decide +kernel
theorem dX1_feed_63 : decode cX1_feed 63 = .ok (.putfield 18, 3) := by decide +kernel
theorem dX1_feed_66 : decode cX1_feed 66 = .ok (.return_, 1) := by decide +kernel
theorem dX1_beside_0 : decode cX1_beside 0 = .ok (.iconst 1, 1) := by decide +kernel
theorem dX1_beside_1 : decode cX1_beside 1 = .ok (.iload_n 0, 1) := by decide +kernel
theorem dX1_beside_2 : decode cX1_beside 2 = .ok (.ishl, 1) := by decide +kernel
theorem dX1_beside_3 : decode cX1_beside 3 = .ok (.iconst 1, 1) := by decide +kernel
theorem dX1_beside_4 : decode cX1_beside 4 = .ok (.ishr, 1) := by decide +kernel
theorem dX1_beside_5 : decode cX1_beside 5 = .ok (.iconst 1, 1) := by decide +kernel
theorem dX1_beside_6 : decode cX1_beside 6 = .ok (.iload_n 0, 1) := by decide +kernel
theorem dX1_beside_7 : decode cX1_beside 7 = .ok (.iconst 1, 1) := by decide +kernel
theorem dX1_beside_8 : decode cX1_beside 8 = .ok (.iadd, 1) := by decide +kernel
theorem dX1_beside_9 : decode cX1_beside 9 = .ok (.ishl, 1) := by decide +kernel
theorem dX1_beside_10 : decode cX1_beside 10 = .ok (.ior, 1) := by decide +kernel
theorem dX1_beside_11 : decode cX1_beside 11 = .ok (.ireturn, 1) := by decide +kernel
theorem dX1_act_0 : decode cX1_act 0 = .ok (.iload_n 1, 1) := by decide +kernel
theorem dX1_act_1 : decode cX1_act 1 = .ok (.bipush 40, 2) := by decide +kernel
theorem dX1_act_3 : decode cX1_act 3 = .ok (.if_icmp .lt 14, 3) := by decide +kernel
theorem dX1_act_6 : decode cX1_act 6 = .ok (.aload_n 0, 1) := by decide +kernel
theorem dX1_act_7 : decode cX1_act 7 = .ok (.iload_n 1, 1) := by decide +kernel
theorem dX1_act_8 : decode cX1_act 8 = .ok (.bipush 40, 2) := by decide +kernel
theorem dX1_act_10 : decode cX1_act 10 = .ok (.isub, 1) := by decide +kernel
theorem dX1_act_11 : decode cX1_act 11 = .ok (.invokevirtual 94, 3) := by decide +kernel
theorem dX1_act_14 : decode cX1_act 14 = .ok (.goto 21, 3) := by decide +kernel
theorem dX1_act_17 : decode cX1_act 17 = .ok (.iload_n 1, 1) := by decide +kernel
theorem dX1_act_18 : decode cX1_act 18 = .ok (.bipush 36, 2) := by decide +kernel
theorem dX1_act_20 : decode cX1_act 20 = .ok (.if_icmp .ne 10, 3) := by decide +kernel
theorem dX1_act_23 : decode cX1_act 23 = .ok (.aload_n 0, 1) := by decide +kernel
theorem dX1_act_24 : decode cX1_act 24 = .ok (.invokevirtual 97, 3) := by decide +kernel
theorem dX1_act_27 : decode cX1_act 27 = .ok (.goto 8, 3) := by decide +kernel
theorem dX1_act_30 : decode cX1_act 30 = .ok (.aload_n 0, 1) := by decide +kernel
theorem dX1_act_31 : decode cX1_act 31 = .ok (.iload_n 1, 1) := by decide +kernel
theorem dX1_act_32 : decode cX1_act 32 = .ok (.invokevirtual 100, 3) := by decide +kernel
theorem dX1_act_35 : decode cX1_act 35 = .ok (.return_, 1) := by decide +kernel
theorem dX1_wetBeside_0 : decode cX1_wetBeside 0 = .ok (.aload_n 0, 1) := by decide +kernel
theorem dX1_wetBeside_1 : decode cX1_wetBeside 1 = .ok (.iload_n 1, 1) := by decide +kernel
theorem dX1_wetBeside_2 : decode cX1_wetBeside 2 = .ok (.iconst 1, 1) := by decide +kernel
theorem dX1_wetBeside_3 : decode cX1_wetBeside 3 = .ok (.isub, 1) := by decide +kernel
theorem dX1_wetBeside_4 : decode cX1_wetBeside 4 = .ok (.invokevirtual 103, 3) := by decide +kernel
theorem dX1_wetBeside_7 : decode cX1_wetBeside 7 = .ok (.ifCond .le 7, 3) := by decide +kernel
theorem dX1_wetBeside_10 : decode cX1_wetBeside 10 = .ok (.iconst 1, 1) := by decide +kernel
theorem dX1_wetBeside_11 : decode cX1_wetBeside 11 = .ok (.goto 4, 3) := by decide +kernel
theorem dX1_wetBeside_14 : decode cX1_wetBeside 14 = .ok (.iconst 0, 1) := by decide +kernel
theorem dX1_wetBeside_15 : decode cX1_wetBeside 15 = .ok (.aload_n 0, 1) := by decide +kernel
theorem dX1_wetBeside_16 : decode cX1_wetBeside 16 = .ok (.iload_n 1, 1) := by decide +kernel
theorem dX1_wetBeside_17 : decode cX1_wetBeside 17 = .ok (.iconst 1, 1) := by decide +kernel
theorem dX1_wetBeside_18 : decode cX1_wetBeside 18 = .ok (.iadd, 1) := by decide +kernel
theorem dX1_wetBeside_19 : decode cX1_wetBeside 19 = .ok (.invokevirtual 103, 3) := by decide +kernel
theorem dX1_wetBeside_22 : decode cX1_wetBeside 22 = .ok (.ifCond .le 7, 3) := by decide +kernel
theorem dX1_wetBeside_25 : decode cX1_wetBeside 25 = .ok (.iconst 1, 1) := by decide +kernel
theorem dX1_wetBeside_26 : decode cX1_wetBeside 26 = .ok (.goto 4, 3) := by decide +kernel
theorem dX1_wetBeside_29 : decode cX1_wetBeside 29 = .ok (.iconst 0, 1) := by decide +kernel
theorem dX1_wetBeside_30 : decode cX1_wetBeside 30 = .ok (.iadd, 1) := by decide +kernel
theorem dX1_wetBeside_31 : decode cX1_wetBeside 31 = .ok (.ireturn, 1) := by decide +kernel
theorem dX1_woodFor_0 : decode cX1_woodFor 0 = .ok (.iconst 0, 1) := by decide +kernel
theorem dX1_woodFor_1 : decode cX1_woodFor 1 = .ok (.istore_n 3, 1) := by decide +kernel
theorem dX1_woodFor_2 : decode cX1_woodFor 2 = .ok (.iconst 0, 1) := by decide +kernel
theorem dX1_woodFor_3 : decode cX1_woodFor 3 = .ok (.istore 4, 2) := by decide +kernel
theorem dX1_woodFor_5 : decode cX1_woodFor 5 = .ok (.iload 4, 2) := by decide +kernel
theorem dX1_woodFor_7 : decode cX1_woodFor 7 = .ok (.iload_n 2, 1) := by decide +kernel
theorem dX1_woodFor_8 : decode cX1_woodFor 8 = .ok (.if_icmp .ge 30, 3) := by decide +kernel
theorem dX1_woodFor_11 : decode cX1_woodFor 11 = .ok (.iload_n 3, 1) := by decide +kernel
theorem dX1_woodFor_12 : decode cX1_woodFor 12 = .ok (.aload_n 0, 1) := by decide +kernel
theorem dX1_woodFor_13 : decode cX1_woodFor 13 = .ok (.getfield 32, 3) := by decide +kernel
theorem dX1_woodFor_16 : decode cX1_woodFor 16 = .ok (.iload_n 1, 1) := by decide +kernel
theorem dX1_woodFor_17 : decode cX1_woodFor 17 = .ok (.invokevirtual 106, 3) := by decide +kernel
theorem dX1_woodFor_20 : decode cX1_woodFor 20 = .ok (.aload_n 0, 1) := by decide +kernel
theorem dX1_woodFor_21 : decode cX1_woodFor 21 = .ok (.getfield 22, 3) := by decide +kernel
theorem dX1_woodFor_24 : decode cX1_woodFor 24 = .ok (.iload 4, 2) := by decide +kernel
theorem dX1_woodFor_26 : decode cX1_woodFor 26 = .ok (.iadd, 1) := by decide +kernel
theorem dX1_woodFor_27 : decode cX1_woodFor 27 = .ok (.invokestatic 91, 3) := by decide +kernel
theorem dX1_woodFor_30 : decode cX1_woodFor 30 = .ok (.iadd, 1) := by decide +kernel
theorem dX1_woodFor_31 : decode cX1_woodFor 31 = .ok (.istore_n 3, 1) := by decide +kernel
theorem dX1_woodFor_32 : decode cX1_woodFor 32 = .ok (.iinc 4 1, 3) := by decide +kernel
theorem dX1_woodFor_35 : decode cX1_woodFor 35 = .ok (.goto (-30), 3) := by decide +kernel
theorem dX1_woodFor_38 : decode cX1_woodFor 38 = .ok (.iload_n 3, 1) := by decide +kernel
theorem dX1_woodFor_39 : decode cX1_woodFor 39 = .ok (.ireturn, 1) := by decide +kernel
theorem dX1_woodLasts_0 : decode cX1_woodLasts 0 = .ok (.aload_n 0, 1) := by decide +kernel
theorem dX1_woodLasts_1 : decode cX1_woodLasts 1 = .ok (.iload_n 1, 1) := by decide +kernel
theorem dX1_woodLasts_2 : decode cX1_woodLasts 2 = .ok (.invokevirtual 109, 3) := by decide +kernel
theorem dX1_woodLasts_5 : decode cX1_woodLasts 5 = .ok (.istore_n 2, 1) := by decide +kernel
theorem dX1_woodLasts_6 : decode cX1_woodLasts 6 = .ok (.iconst 0, 1) := by decide +kernel
theorem dX1_woodLasts_7 : decode cX1_woodLasts 7 = .ok (.istore_n 3, 1) := by decide +kernel
theorem dX1_woodLasts_8 : decode cX1_woodLasts 8 = .ok (.iload_n 2, 1) := by decide +kernel
theorem dX1_woodLasts_9 : decode cX1_woodLasts 9 = .ok (.ifCond .le 35, 3) := by decide +kernel
theorem dX1_woodLasts_12 : decode cX1_woodLasts 12 = .ok (.iload_n 3, 1) := by decide +kernel
theorem dX1_woodLasts_13 : decode cX1_woodLasts 13 = .ok (.bipush 64, 2) := by decide +kernel
theorem dX1_woodLasts_15 : decode cX1_woodLasts 15 = .ok (.if_icmp .ge 29, 3) := by decide +kernel
theorem dX1_woodLasts_18 : decode cX1_woodLasts 18 = .ok (.iload_n 2, 1) := by decide +kernel
theorem dX1_woodLasts_19 : decode cX1_woodLasts 19 = .ok (.aload_n 0, 1) := by decide +kernel
theorem dX1_woodLasts_20 : decode cX1_woodLasts 20 = .ok (.getfield 32, 3) := by decide +kernel
theorem dX1_woodLasts_23 : decode cX1_woodLasts 23 = .ok (.iload_n 1, 1) := by decide +kernel
theorem dX1_woodLasts_24 : decode cX1_woodLasts 24 = .ok (.invokevirtual 106, 3) := by decide +kernel
theorem dX1_woodLasts_27 : decode cX1_woodLasts 27 = .ok (.aload_n 0, 1) := by decide +kernel
theorem dX1_woodLasts_28 : decode cX1_woodLasts 28 = .ok (.getfield 22, 3) := by decide +kernel
theorem dX1_woodLasts_31 : decode cX1_woodLasts 31 = .ok (.iload_n 3, 1) := by decide +kernel
theorem dX1_woodLasts_32 : decode cX1_woodLasts 32 = .ok (.iadd, 1) := by decide +kernel
theorem dX1_woodLasts_33 : decode cX1_woodLasts 33 = .ok (.invokestatic 91, 3) := by decide +kernel
theorem dX1_woodLasts_36 : decode cX1_woodLasts 36 = .ok (.isub, 1) := by decide +kernel
theorem dX1_woodLasts_37 : decode cX1_woodLasts 37 = .ok (.istore_n 2, 1) := by decide +kernel
theorem dX1_woodLasts_38 : decode cX1_woodLasts 38 = .ok (.iinc 3 1, 3) := by decide +kernel
theorem dX1_woodLasts_41 : decode cX1_woodLasts 41 = .ok (.goto (-33), 3) := by decide +kernel
theorem dX1_woodLasts_44 : decode cX1_woodLasts 44 = .ok (.iload_n 3, 1) := by decide +kernel
theorem dX1_woodLasts_45 : decode cX1_woodLasts 45 = .ok (.ireturn, 1) := by decide +kernel
theorem dX1_burnsOn_0 : decode cX1_burnsOn 0 = .ok (.aload_n 0, 1) := by decide +kernel
theorem dX1_burnsOn_1 : decode cX1_burnsOn 1 = .ok (.iload_n 1, 1) := by decide +kernel
theorem dX1_burnsOn_2 : decode cX1_burnsOn 2 = .ok (.invokevirtual 62, 3) := by decide +kernel
theorem dX1_burnsOn_5 : decode cX1_burnsOn 5 = .ok (.ifCond .eq 11, 3) := by decide +kernel
theorem dX1_burnsOn_8 : decode cX1_burnsOn 8 = .ok (.aload_n 0, 1) := by decide +kernel
theorem dX1_burnsOn_9 : decode cX1_burnsOn 9 = .ok (.iload_n 1, 1) := by decide +kernel
theorem dX1_burnsOn_10 : decode cX1_burnsOn 10 = .ok (.invokevirtual 112, 3) := by decide +kernel
theorem dX1_burnsOn_13 : decode cX1_burnsOn 13 = .ok (.goto 4, 3) := by decide +kernel
theorem dX1_burnsOn_16 : decode cX1_burnsOn 16 = .ok (.iconst 0, 1) := by decide +kernel
theorem dX1_burnsOn_17 : decode cX1_burnsOn 17 = .ok (.ireturn, 1) := by decide +kernel
theorem dX1_alightAfter_0 : decode cX1_alightAfter 0 = .ok (.iconst 0, 1) := by decide +kernel
theorem dX1_alightAfter_1 : decode cX1_alightAfter 1 = .ok (.istore_n 2, 1) := by decide +kernel
theorem dX1_alightAfter_2 : decode cX1_alightAfter 2 = .ok (.iconst 0, 1) := by decide +kernel
theorem dX1_alightAfter_3 : decode cX1_alightAfter 3 = .ok (.istore_n 3, 1) := by decide +kernel
theorem dX1_alightAfter_4 : decode cX1_alightAfter 4 = .ok (.iload_n 3, 1) := by decide +kernel
theorem dX1_alightAfter_5 : decode cX1_alightAfter 5 = .ok (.aload_n 0, 1) := by decide +kernel
theorem dX1_alightAfter_6 : decode cX1_alightAfter 6 = .ok (.getfield 32, 3) := by decide +kernel
theorem dX1_alightAfter_9 : decode cX1_alightAfter 9 = .ok (.getfield 42, 3) := by decide +kernel
theorem dX1_alightAfter_12 : decode cX1_alightAfter 12 = .ok (.if_icmp .ge 26, 3) := by decide +kernel
theorem dX1_alightAfter_15 : decode cX1_alightAfter 15 = .ok (.iload_n 2, 1) := by decide +kernel
theorem dX1_alightAfter_16 : decode cX1_alightAfter 16 = .ok (.aload_n 0, 1) := by decide +kernel
theorem dX1_alightAfter_17 : decode cX1_alightAfter 17 = .ok (.iload_n 3, 1) := by decide +kernel
theorem dX1_alightAfter_18 : decode cX1_alightAfter 18 = .ok (.invokevirtual 115, 3) := by decide +kernel
theorem dX1_alightAfter_21 : decode cX1_alightAfter 21 = .ok (.iload_n 1, 1) := by decide +kernel
theorem dX1_alightAfter_22 : decode cX1_alightAfter 22 = .ok (.if_icmp .le 7, 3) := by decide +kernel
theorem dX1_alightAfter_25 : decode cX1_alightAfter 25 = .ok (.iconst 1, 1) := by decide +kernel
theorem dX1_alightAfter_26 : decode cX1_alightAfter 26 = .ok (.goto 4, 3) := by decide +kernel
theorem dX1_alightAfter_29 : decode cX1_alightAfter 29 = .ok (.iconst 0, 1) := by decide +kernel
theorem dX1_alightAfter_30 : decode cX1_alightAfter 30 = .ok (.iadd, 1) := by decide +kernel
theorem dX1_alightAfter_31 : decode cX1_alightAfter 31 = .ok (.istore_n 2, 1) := by decide +kernel
theorem dX1_alightAfter_32 : decode cX1_alightAfter 32 = .ok (.iinc 3 1, 3) := by decide +kernel
theorem dX1_alightAfter_35 : decode cX1_alightAfter 35 = .ok (.goto (-31), 3) := by decide +kernel
theorem dX1_alightAfter_38 : decode cX1_alightAfter 38 = .ok (.iload_n 2, 1) := by decide +kernel
theorem dX1_alightAfter_39 : decode cX1_alightAfter 39 = .ok (.ireturn, 1) := by decide +kernel
theorem dX1_servesHour_0 : decode cX1_servesHour 0 = .ok (.iconst 0, 1) := by decide +kernel
theorem dX1_servesHour_1 : decode cX1_servesHour 1 = .ok (.istore_n 1, 1) := by decide +kernel
theorem dX1_servesHour_2 : decode cX1_servesHour 2 = .ok (.iload_n 1, 1) := by decide +kernel
theorem dX1_servesHour_3 : decode cX1_servesHour 3 = .ok (.aload_n 0, 1) := by decide +kernel
theorem dX1_servesHour_4 : decode cX1_servesHour 4 = .ok (.getfield 32, 3) := by decide +kernel
theorem dX1_servesHour_7 : decode cX1_servesHour 7 = .ok (.getfield 42, 3) := by decide +kernel
theorem dX1_servesHour_10 : decode cX1_servesHour 10 = .ok (.if_icmp .ge 38, 3) := by decide +kernel
theorem dX1_servesHour_13 : decode cX1_servesHour 13 = .ok (.aload_n 0, 1) := by decide +kernel
theorem dX1_servesHour_14 : decode cX1_servesHour 14 = .ok (.getfield 32, 3) := by decide +kernel
theorem dX1_servesHour_17 : decode cX1_servesHour 17 = .ok (.getfield 118, 3) := by decide +kernel
theorem dX1_servesHour_20 : decode cX1_servesHour 20 = .ok (.iload_n 1, 1) := by decide +kernel
theorem dX1_servesHour_21 : decode cX1_servesHour 21 = .ok (.iaload, 1) := by decide +kernel
theorem dX1_servesHour_22 : decode cX1_servesHour 22 = .ok (.aload_n 0, 1) := by decide +kernel
theorem dX1_servesHour_23 : decode cX1_servesHour 23 = .ok (.getfield 22, 3) := by decide +kernel
theorem dX1_servesHour_26 : decode cX1_servesHour 26 = .ok (.if_icmp .ne 16, 3) := by decide +kernel
theorem dX1_servesHour_29 : decode cX1_servesHour 29 = .ok (.aload_n 0, 1) := by decide +kernel
theorem dX1_servesHour_30 : decode cX1_servesHour 30 = .ok (.getfield 18, 3) := by decide +kernel
theorem dX1_servesHour_33 : decode cX1_servesHour 33 = .ok (.iload_n 1, 1) := by decide +kernel
theorem dX1_servesHour_34 : decode cX1_servesHour 34 = .ok (.ishr, 1) := by decide +kernel
theorem dX1_servesHour_35 : decode cX1_servesHour 35 = .ok (.iconst 1, 1) := by decide +kernel
theorem dX1_servesHour_36 : decode cX1_servesHour 36 = .ok (.iand, 1) := by decide +kernel
theorem dX1_servesHour_37 : decode cX1_servesHour 37 = .ok (.ifCond .ne 5, 3) := by decide +kernel
theorem dX1_servesHour_40 : decode cX1_servesHour 40 = .ok (.iconst 0, 1) := by decide +kernel
theorem dX1_servesHour_41 : decode cX1_servesHour 41 = .ok (.ireturn, 1) := by decide +kernel
theorem dX1_servesHour_42 : decode cX1_servesHour 42 = .ok (.iinc 1 1, 3) := by decide +kernel
theorem dX1_servesHour_45 : decode cX1_servesHour 45 = .ok (.goto (-43), 3) := by decide +kernel
theorem dX1_servesHour_48 : decode cX1_servesHour 48 = .ok (.iconst 1, 1) := by decide +kernel
theorem dX1_servesHour_49 : decode cX1_servesHour 49 = .ok (.ireturn, 1) := by decide +kernel
theorem dX2_byLetter_0 : decode cX2_byLetter 0 = .ok (.iload_n 0, 1) := by decide +kernel
theorem dX2_byLetter_1 : decode cX2_byLetter 1 = .ok (.tableswitch 95 100 116 #[89, 95, 95, 95, 83, 93, 95, 95, 95, 95, 95, 95, 85, 95, 95, 87, 91], 83) := by decide +kernel
theorem dX2_byLetter_84 : decode cX2_byLetter 84 = .ok (.iconst 0, 1) := by decide +kernel
theorem dX2_byLetter_85 : decode cX2_byLetter 85 = .ok (.ireturn, 1) := by decide +kernel
theorem dX2_byLetter_86 : decode cX2_byLetter 86 = .ok (.iconst 1, 1) := by decide +kernel
theorem dX2_byLetter_87 : decode cX2_byLetter 87 = .ok (.ireturn, 1) := by decide +kernel
theorem dX2_byLetter_88 : decode cX2_byLetter 88 = .ok (.iconst 2, 1) := by decide +kernel
theorem dX2_byLetter_89 : decode cX2_byLetter 89 = .ok (.ireturn, 1) := by decide +kernel
theorem dX2_byLetter_90 : decode cX2_byLetter 90 = .ok (.iconst 3, 1) := by decide +kernel
theorem dX2_byLetter_91 : decode cX2_byLetter 91 = .ok (.ireturn, 1) := by decide +kernel
theorem dX2_byLetter_92 : decode cX2_byLetter 92 = .ok (.iconst 4, 1) := by decide +kernel
theorem dX2_byLetter_93 : decode cX2_byLetter 93 = .ok (.ireturn, 1) := by decide +kernel
theorem dX2_byLetter_94 : decode cX2_byLetter 94 = .ok (.iconst 5, 1) := by decide +kernel
theorem dX2_byLetter_95 : decode cX2_byLetter 95 = .ok (.ireturn, 1) := by decide +kernel
theorem dX2_byLetter_96 : decode cX2_byLetter 96 = .ok (.bipush (-9), 2) := by decide +kernel
theorem dX2_byLetter_98 : decode cX2_byLetter 98 = .ok (.ireturn, 1) := by decide +kernel
theorem dX2_isOf_0 : decode cX2_isOf 0 = .ok (.iload_n 0, 1) := by decide +kernel
theorem dX2_isOf_1 : decode cX2_isOf 1 = .ok (.iload_n 1, 1) := by decide +kernel
theorem dX2_isOf_2 : decode cX2_isOf 2 = .ok (.if_icmp .eq 27, 3) := by decide +kernel
theorem dX2_isOf_5 : decode cX2_isOf 5 = .ok (.iload_n 1, 1) := by decide +kernel
theorem dX2_isOf_6 : decode cX2_isOf 6 = .ok (.ifCond .eq 23, 3) := by decide +kernel
theorem dX2_isOf_9 : decode cX2_isOf 9 = .ok (.iload_n 0, 1) := by decide +kernel
theorem dX2_isOf_10 : decode cX2_isOf 10 = .ok (.iconst 4, 1) := by decide +kernel
theorem dX2_isOf_11 : decode cX2_isOf 11 = .ok (.if_icmp .ne 8, 3) := by decide +kernel
theorem dX2_isOf_14 : decode cX2_isOf 14 = .ok (.iload_n 1, 1) := by decide +kernel
theorem dX2_isOf_15 : decode cX2_isOf 15 = .ok (.iconst 1, 1) := by decide +kernel
theorem dX2_isOf_16 : decode cX2_isOf 16 = .ok (.if_icmp .eq 13, 3) := by decide +kernel
theorem dX2_isOf_19 : decode cX2_isOf 19 = .ok (.iload_n 0, 1) := by decide +kernel
theorem dX2_isOf_20 : decode cX2_isOf 20 = .ok (.iconst 5, 1) := by decide +kernel
theorem dX2_isOf_21 : decode cX2_isOf 21 = .ok (.if_icmp .ne 12, 3) := by decide +kernel
theorem dX2_isOf_24 : decode cX2_isOf 24 = .ok (.iload_n 1, 1) := by decide +kernel
theorem dX2_isOf_25 : decode cX2_isOf 25 = .ok (.iconst 2, 1) := by decide +kernel
theorem dX2_isOf_26 : decode cX2_isOf 26 = .ok (.if_icmp .ne 7, 3) := by decide +kernel
theorem dX2_isOf_29 : decode cX2_isOf 29 = .ok (.iconst 1, 1) := by decide +kernel
theorem dX2_isOf_30 : decode cX2_isOf 30 = .ok (.goto 4, 3) := by decide +kernel
theorem dX2_isOf_33 : decode cX2_isOf 33 = .ok (.iconst 0, 1) := by decide +kernel
theorem dX2_isOf_34 : decode cX2_isOf 34 = .ok (.ireturn, 1) := by decide +kernel
theorem dX2_takes_0 : decode cX2_takes 0 = .ok (.iload_n 0, 1) := by decide +kernel
theorem dX2_takes_1 : decode cX2_takes 1 = .ok (.tableswitch 57 1 4 #[33, 57, 31, 45], 31) := by decide +kernel
theorem dX2_takes_32 : decode cX2_takes 32 = .ok (.iconst 2, 1) := by decide +kernel
theorem dX2_takes_33 : decode cX2_takes 33 = .ok (.ireturn, 1) := by decide +kernel
theorem dX2_takes_34 : decode cX2_takes 34 = .ok (.iload_n 1, 1) := by decide +kernel
theorem dX2_takes_35 : decode cX2_takes 35 = .ok (.iconst 2, 1) := by decide +kernel
theorem dX2_takes_36 : decode cX2_takes 36 = .ok (.irem, 1) := by decide +kernel
theorem dX2_takes_37 : decode cX2_takes 37 = .ok (.ifCond .ne 7, 3) := by decide +kernel
theorem dX2_takes_40 : decode cX2_takes 40 = .ok (.iconst 1, 1) := by decide +kernel
theorem dX2_takes_41 : decode cX2_takes 41 = .ok (.goto 4, 3) := by decide +kernel
theorem dX2_takes_44 : decode cX2_takes 44 = .ok (.iconst 0, 1) := by decide +kernel
theorem dX2_takes_45 : decode cX2_takes 45 = .ok (.ireturn, 1) := by decide +kernel
theorem dX2_takes_46 : decode cX2_takes 46 = .ok (.iload_n 1, 1) := by decide +kernel
theorem dX2_takes_47 : decode cX2_takes 47 = .ok (.iconst 4, 1) := by decide +kernel
theorem dX2_takes_48 : decode cX2_takes 48 = .ok (.irem, 1) := by decide +kernel
theorem dX2_takes_49 : decode cX2_takes 49 = .ok (.ifCond .ne 7, 3) := by decide +kernel
theorem dX2_takes_52 : decode cX2_takes 52 = .ok (.iconst 1, 1) := by decide +kernel
theorem dX2_takes_53 : decode cX2_takes 53 = .ok (.goto 4, 3) := by decide +kernel
theorem dX2_takes_56 : decode cX2_takes 56 = .ok (.iconst 0, 1) := by decide +kernel
theorem dX2_takes_57 : decode cX2_takes 57 = .ok (.ireturn, 1) := by decide +kernel
theorem dX2_takes_58 : decode cX2_takes 58 = .ok (.iconst 1, 1) := by decide +kernel
theorem dX2_takes_59 : decode cX2_takes 59 = .ok (.ireturn, 1) := by decide +kernel
theorem dX2_dampest_0 : decode cX2_dampest 0 = .ok (.iload_n 0, 1) := by decide +kernel
theorem dX2_dampest_1 : decode cX2_dampest 1 = .ok (.lookupswitch 31 #[(2, 27), (5, 29)], 27) := by decide +kernel
theorem dX2_dampest_28 : decode cX2_dampest 28 = .ok (.iconst 1, 1) := by decide +kernel
theorem dX2_dampest_29 : decode cX2_dampest 29 = .ok (.ireturn, 1) := by decide +kernel
theorem dX2_dampest_30 : decode cX2_dampest 30 = .ok (.iconst 3, 1) := by decide +kernel
theorem dX2_dampest_31 : decode cX2_dampest 31 = .ok (.ireturn, 1) := by decide +kernel
theorem dX2_dampest_32 : decode cX2_dampest 32 = .ok (.iconst 0, 1) := by decide +kernel
theorem dX2_dampest_33 : decode cX2_dampest 33 = .ok (.ireturn, 1) := by decide +kernel
theorem dX3_init_0 : decode cX3_init 0 = .ok (.aload_n 0, 1) := by decide +kernel
theorem dX3_init_1 : decode cX3_init 1 = .ok (.invokespecial 3, 3) := by decide +kernel
theorem dX3_init_4 : decode cX3_init 4 = .ok (.aload_n 0, 1) := by decide +kernel
theorem dX3_init_5 : decode cX3_init 5 = .ok (.iconst 5, 1) := by decide +kernel
theorem dX3_init_6 : decode cX3_init 6 = .ok (.newarray .int, 2) := by decide +kernel
theorem dX3_init_8 : decode cX3_init 8 = .ok (.putfield 9, 3) := by decide +kernel
theorem dX3_init_11 : decode cX3_init 11 = .ok (.aload_n 0, 1) := by decide +kernel
theorem dX3_init_12 : decode cX3_init 12 = .ok (.iconst 5, 1) := by decide +kernel
theorem dX3_init_13 : decode cX3_init 13 = .ok (.newarray .int, 2) := by decide +kernel
theorem dX3_init_15 : decode cX3_init 15 = .ok (.putfield 15, 3) := by decide +kernel
theorem dX3_init_18 : decode cX3_init 18 = .ok (.aload_n 0, 1) := by decide +kernel
theorem dX3_init_19 : decode cX3_init 19 = .ok (.bipush 6, 2) := by decide +kernel
theorem dX3_init_21 : decode cX3_init 21 = .ok (.newarray .int, 2) := by decide +kernel
theorem dX3_init_23 : decode cX3_init 23 = .ok (.putfield 18, 3) := by decide +kernel
theorem dX3_init_26 : decode cX3_init 26 = .ok (.aload_n 0, 1) := by decide +kernel
theorem dX3_init_27 : decode cX3_init 27 = .ok (.iconst 0, 1) := by decide +kernel
theorem dX3_init_28 : decode cX3_init 28 = .ok (.putfield 21, 3) := by decide +kernel
theorem dX3_init_31 : decode cX3_init 31 = .ok (.aload_n 0, 1) := by decide +kernel
theorem dX3_init_32 : decode cX3_init 32 = .ok (.iconst 0, 1) := by decide +kernel
theorem dX3_init_33 : decode cX3_init 33 = .ok (.putfield 25, 3) := by decide +kernel
theorem dX3_init_36 : decode cX3_init 36 = .ok (.return_, 1) := by decide +kernel
theorem dX3_clear_0 : decode cX3_clear 0 = .ok (.aload_n 0, 1) := by decide +kernel
theorem dX3_clear_1 : decode cX3_clear 1 = .ok (.iconst 0, 1) := by decide +kernel
theorem dX3_clear_2 : decode cX3_clear 2 = .ok (.putfield 25, 3) := by decide +kernel
theorem dX3_clear_5 : decode cX3_clear 5 = .ok (.aload_n 0, 1) := by decide +kernel
theorem dX3_clear_6 : decode cX3_clear 6 = .ok (.iconst 0, 1) := by decide +kernel
theorem dX3_clear_7 : decode cX3_clear 7 = .ok (.putfield 21, 3) := by decide +kernel
theorem dX3_clear_10 : decode cX3_clear 10 = .ok (.return_, 1) := by decide +kernel
theorem dX3_isEmpty_0 : decode cX3_isEmpty 0 = .ok (.aload_n 0, 1) := by decide +kernel
theorem dX3_isEmpty_1 : decode cX3_isEmpty 1 = .ok (.getfield 25, 3) := by decide +kernel
theorem dX3_isEmpty_4 : decode cX3_isEmpty 4 = .ok (.ifCond .gt 7, 3) := by decide +kernel
theorem dX3_isEmpty_7 : decode cX3_isEmpty 7 = .ok (.iconst 1, 1) := by decide +kernel
theorem dX3_isEmpty_8 : decode cX3_isEmpty 8 = .ok (.goto 4, 3) := by decide +kernel
theorem dX3_isEmpty_11 : decode cX3_isEmpty 11 = .ok (.iconst 0, 1) := by decide +kernel
theorem dX3_isEmpty_12 : decode cX3_isEmpty 12 = .ok (.ireturn, 1) := by decide +kernel
theorem dX3_isFull_0 : decode cX3_isFull 0 = .ok (.aload_n 0, 1) := by decide +kernel
theorem dX3_isFull_1 : decode cX3_isFull 1 = .ok (.getfield 25, 3) := by decide +kernel
theorem dX3_isFull_4 : decode cX3_isFull 4 = .ok (.iconst 5, 1) := by decide +kernel
theorem dX3_isFull_5 : decode cX3_isFull 5 = .ok (.if_icmp .lt 7, 3) := by decide +kernel
theorem dX3_isFull_8 : decode cX3_isFull 8 = .ok (.iconst 1, 1) := by decide +kernel
theorem dX3_isFull_9 : decode cX3_isFull 9 = .ok (.goto 4, 3) := by decide +kernel
theorem dX3_isFull_12 : decode cX3_isFull 12 = .ok (.iconst 0, 1) := by decide +kernel
theorem dX3_isFull_13 : decode cX3_isFull 13 = .ok (.ireturn, 1) := by decide +kernel
theorem dX3_has_0 : decode cX3_has 0 = .ok (.iload_n 1, 1) := by decide +kernel
theorem dX3_has_1 : decode cX3_has 1 = .ok (.ifCond .lt 15, 3) := by decide +kernel
theorem dX3_has_4 : decode cX3_has 4 = .ok (.iload_n 1, 1) := by decide +kernel
theorem dX3_has_5 : decode cX3_has 5 = .ok (.aload_n 0, 1) := by decide +kernel
theorem dX3_has_6 : decode cX3_has 6 = .ok (.getfield 25, 3) := by decide +kernel
theorem dX3_has_9 : decode cX3_has 9 = .ok (.if_icmp .ge 7, 3) := by decide +kernel
theorem dX3_has_12 : decode cX3_has 12 = .ok (.iconst 1, 1) := by decide +kernel
theorem dX3_has_13 : decode cX3_has 13 = .ok (.goto 4, 3) := by decide +kernel
theorem dX3_has_16 : decode cX3_has 16 = .ok (.iconst 0, 1) := by decide +kernel
theorem dX3_has_17 : decode cX3_has 17 = .ok (.ireturn, 1) := by decide +kernel
theorem dX3_allHouses_0 : decode cX3_allHouses 0 = .ok (.iconst 1, 1) := by decide +kernel
theorem dX3_allHouses_1 : decode cX3_allHouses 1 = .ok (.aload_n 0, 1) := by decide +kernel
theorem dX3_allHouses_2 : decode cX3_allHouses 2 = .ok (.getfield 25, 3) := by decide +kernel
theorem dX3_allHouses_5 : decode cX3_allHouses 5 = .ok (.ishl, 1) := by decide +kernel
theorem dX3_allHouses_6 : decode cX3_allHouses 6 = .ok (.iconst 1, 1) := by decide +kernel
theorem dX3_allHouses_7 : decode cX3_allHouses 7 = .ok (.isub, 1) := by decide +kernel
theorem dX3_allHouses_8 : decode cX3_allHouses 8 = .ok (.ireturn, 1) := by decide +kernel
theorem dX3_hasWinds_0 : decode cX3_hasWinds 0 = .ok (.aload_n 0, 1) := by decide +kernel
theorem dX3_hasWinds_1 : decode cX3_hasWinds 1 = .ok (.getfield 21, 3) := by decide +kernel
theorem dX3_hasWinds_4 : decode cX3_hasWinds 4 = .ok (.ifCond .le 7, 3) := by decide +kernel
theorem dX3_hasWinds_7 : decode cX3_hasWinds 7 = .ok (.iconst 1, 1) := by decide +kernel
theorem dX3_hasWinds_8 : decode cX3_hasWinds 8 = .ok (.goto 4, 3) := by decide +kernel
theorem dX3_hasWinds_11 : decode cX3_hasWinds 11 = .ok (.iconst 0, 1) := by decide +kernel
theorem dX3_hasWinds_12 : decode cX3_hasWinds 12 = .ok (.ireturn, 1) := by decide +kernel
theorem dX3_hasAllWinds_0 : decode cX3_hasAllWinds 0 = .ok (.aload_n 0, 1) := by decide +kernel
theorem dX3_hasAllWinds_1 : decode cX3_hasAllWinds 1 = .ok (.getfield 21, 3) := by decide +kernel
theorem dX3_hasAllWinds_4 : decode cX3_hasAllWinds 4 = .ok (.bipush 6, 2) := by decide +kernel
theorem dX3_hasAllWinds_6 : decode cX3_hasAllWinds 6 = .ok (.if_icmp .lt 7, 3) := by decide +kernel
theorem dX3_hasAllWinds_9 : decode cX3_hasAllWinds 9 = .ok (.iconst 1, 1) := by decide +kernel
theorem dX3_hasAllWinds_10 : decode cX3_hasAllWinds 10 = .ok (.goto 4, 3) := by decide +kernel
theorem dX3_hasAllWinds_13 : decode cX3_hasAllWinds 13 = .ok (.iconst 0, 1) := by decide +kernel
theorem dX3_hasAllWinds_14 : decode cX3_hasAllWinds 14 = .ok (.ireturn, 1) := by decide +kernel
theorem dX3_addWind_0 : decode cX3_addWind 0 = .ok (.aload_n 0, 1) := by decide +kernel
theorem dX3_addWind_1 : decode cX3_addWind 1 = .ok (.invokevirtual 28, 3) := by decide +kernel
theorem dX3_addWind_4 : decode cX3_addWind 4 = .ok (.ifCond .ne 23, 3) := by decide +kernel
theorem dX3_addWind_7 : decode cX3_addWind 7 = .ok (.aload_n 0, 1) := by decide +kernel
theorem dX3_addWind_8 : decode cX3_addWind 8 = .ok (.getfield 18, 3) := by decide +kernel
theorem dX3_addWind_11 : decode cX3_addWind 11 = .ok (.aload_n 0, 1) := by decide +kernel
theorem dX3_addWind_12 : decode cX3_addWind 12 = .ok (.getfield 21, 3) := by decide +kernel
theorem dX3_addWind_15 : decode cX3_addWind 15 = .ok (.iload_n 1, 1) := by decide +kernel
theorem dX3_addWind_16 : decode cX3_addWind 16 = .ok (.iastore, 1) := by decide +kernel
theorem dX3_addWind_17 : decode cX3_addWind 17 = .ok (.aload_n 0, 1) := by decide +kernel
theorem dX3_addWind_18 : decode cX3_addWind 18 = .ok (.dup, 1) := by decide +kernel
theorem dX3_addWind_19 : decode cX3_addWind 19 = .ok (.getfield 21, 3) := by decide +kernel
theorem dX3_addWind_22 : decode cX3_addWind 22 = .ok (.iconst 1, 1) := by decide +kernel
theorem dX3_addWind_23 : decode cX3_addWind 23 = .ok (.iadd, 1) := by decide +kernel
theorem dX3_addWind_24 : decode cX3_addWind 24 = .ok (.putfield 21, 3) := by decide +kernel
theorem dX3_addWind_27 : decode cX3_addWind 27 = .ok (.return_, 1) := by decide +kernel
theorem dX3_addHouse_0 : decode cX3_addHouse 0 = .ok (.aload_n 0, 1) := by decide +kernel
theorem dX3_addHouse_1 : decode cX3_addHouse 1 = .ok (.invokevirtual 32, 3) := by decide +kernel
theorem dX3_addHouse_4 : decode cX3_addHouse 4 = .ok (.ifCond .ne 33, 3) := by decide +kernel
theorem dX3_addHouse_7 : decode cX3_addHouse 7 = .ok (.aload_n 0, 1) := by decide +kernel
theorem dX3_addHouse_8 : decode cX3_addHouse 8 = .ok (.getfield 9, 3) := by decide +kernel
theorem dX3_addHouse_11 : decode cX3_addHouse 11 = .ok (.aload_n 0, 1) := by decide +kernel
theorem dX3_addHouse_12 : decode cX3_addHouse 12 = .ok (.getfield 25, 3) := by decide +kernel
theorem dX3_addHouse_15 : decode cX3_addHouse 15 = .ok (.iload_n 1, 1) := by decide +kernel
theorem dX3_addHouse_16 : decode cX3_addHouse 16 = .ok (.iastore, 1) := by decide +kernel
theorem dX3_addHouse_17 : decode cX3_addHouse 17 = .ok (.aload_n 0, 1) := by decide +kernel
theorem dX3_addHouse_18 : decode cX3_addHouse 18 = .ok (.getfield 15, 3) := by decide +kernel
theorem dX3_addHouse_21 : decode cX3_addHouse 21 = .ok (.aload_n 0, 1) := by decide +kernel
theorem dX3_addHouse_22 : decode cX3_addHouse 22 = .ok (.getfield 25, 3) := by decide +kernel
theorem dX3_addHouse_25 : decode cX3_addHouse 25 = .ok (.iload_n 2, 1) := by decide +kernel
theorem dX3_addHouse_26 : decode cX3_addHouse 26 = .ok (.iastore, 1) := by decide +kernel
theorem dX3_addHouse_27 : decode cX3_addHouse 27 = .ok (.aload_n 0, 1) := by decide +kernel
theorem dX3_addHouse_28 : decode cX3_addHouse 28 = .ok (.dup, 1) := by decide +kernel
theorem dX3_addHouse_29 : decode cX3_addHouse 29 = .ok (.getfield 25, 3) := by decide +kernel
theorem dX3_addHouse_32 : decode cX3_addHouse 32 = .ok (.iconst 1, 1) := by decide +kernel
theorem dX3_addHouse_33 : decode cX3_addHouse 33 = .ok (.iadd, 1) := by decide +kernel
theorem dX3_addHouse_34 : decode cX3_addHouse 34 = .ok (.putfield 25, 3) := by decide +kernel
theorem dX3_addHouse_37 : decode cX3_addHouse 37 = .ok (.return_, 1) := by decide +kernel
theorem dX3_kindOf_0 : decode cX3_kindOf 0 = .ok (.aload_n 0, 1) := by decide +kernel
theorem dX3_kindOf_1 : decode cX3_kindOf 1 = .ok (.iload_n 1, 1) := by decide +kernel
theorem dX3_kindOf_2 : decode cX3_kindOf 2 = .ok (.invokevirtual 35, 3) := by decide +kernel
theorem dX3_kindOf_5 : decode cX3_kindOf 5 = .ok (.ifCond .eq 12, 3) := by decide +kernel
theorem dX3_kindOf_8 : decode cX3_kindOf 8 = .ok (.aload_n 0, 1) := by decide +kernel
theorem dX3_kindOf_9 : decode cX3_kindOf 9 = .ok (.getfield 9, 3) := by decide +kernel
theorem dX3_kindOf_12 : decode cX3_kindOf 12 = .ok (.iload_n 1, 1) := by decide +kernel
theorem dX3_kindOf_13 : decode cX3_kindOf 13 = .ok (.iaload, 1) := by decide +kernel
theorem dX3_kindOf_14 : decode cX3_kindOf 14 = .ok (.goto 4, 3) := by decide +kernel
theorem dX3_kindOf_17 : decode cX3_kindOf 17 = .ok (.iconst 0, 1) := by decide +kernel
theorem dX3_kindOf_18 : decode cX3_kindOf 18 = .ok (.ireturn, 1) := by decide +kernel
theorem dX3_needOf_0 : decode cX3_needOf 0 = .ok (.aload_n 0, 1) := by decide +kernel
theorem dX3_needOf_1 : decode cX3_needOf 1 = .ok (.iload_n 1, 1) := by decide +kernel
theorem dX3_needOf_2 : decode cX3_needOf 2 = .ok (.invokevirtual 35, 3) := by decide +kernel
theorem dX3_needOf_5 : decode cX3_needOf 5 = .ok (.ifCond .eq 12, 3) := by decide +kernel
theorem dX3_needOf_8 : decode cX3_needOf 8 = .ok (.aload_n 0, 1) := by decide +kernel
theorem dX3_needOf_9 : decode cX3_needOf 9 = .ok (.getfield 15, 3) := by decide +kernel
theorem dX3_needOf_12 : decode cX3_needOf 12 = .ok (.iload_n 1, 1) := by decide +kernel
theorem dX3_needOf_13 : decode cX3_needOf 13 = .ok (.iaload, 1) := by decide +kernel
theorem dX3_needOf_14 : decode cX3_needOf 14 = .ok (.goto 5, 3) := by decide +kernel
theorem dX3_needOf_17 : decode cX3_needOf 17 = .ok (.bipush (-9), 2) := by decide +kernel
theorem dX3_needOf_19 : decode cX3_needOf 19 = .ok (.ireturn, 1) := by decide +kernel
theorem dX3_windAt_0 : decode cX3_windAt 0 = .ok (.iload_n 1, 1) := by decide +kernel
theorem dX3_windAt_1 : decode cX3_windAt 1 = .ok (.ifCond .lt 10, 3) := by decide +kernel
theorem dX3_windAt_4 : decode cX3_windAt 4 = .ok (.aload_n 0, 1) := by decide +kernel
theorem dX3_windAt_5 : decode cX3_windAt 5 = .ok (.invokevirtual 41, 3) := by decide +kernel
theorem dX3_windAt_8 : decode cX3_windAt 8 = .ok (.ifCond .ne 7, 3) := by decide +kernel
theorem dX3_windAt_11 : decode cX3_windAt 11 = .ok (.iconst 0, 1) := by decide +kernel
theorem dX3_windAt_12 : decode cX3_windAt 12 = .ok (.goto 14, 3) := by decide +kernel
theorem dX3_windAt_15 : decode cX3_windAt 15 = .ok (.aload_n 0, 1) := by decide +kernel
theorem dX3_windAt_16 : decode cX3_windAt 16 = .ok (.getfield 18, 3) := by decide +kernel
theorem dX3_windAt_19 : decode cX3_windAt 19 = .ok (.iload_n 1, 1) := by decide +kernel
theorem dX3_windAt_20 : decode cX3_windAt 20 = .ok (.aload_n 0, 1) := by decide +kernel
theorem dX3_windAt_21 : decode cX3_windAt 21 = .ok (.getfield 21, 3) := by decide +kernel
theorem dX3_windAt_24 : decode cX3_windAt 24 = .ok (.irem, 1) := by decide +kernel
theorem dX3_windAt_25 : decode cX3_windAt 25 = .ok (.iaload, 1) := by decide +kernel
theorem dX3_windAt_26 : decode cX3_windAt 26 = .ok (.ireturn, 1) := by decide +kernel
theorem dX3_countOf_0 : decode cX3_countOf 0 = .ok (.iconst 0, 1) := by decide +kernel
theorem dX3_countOf_1 : decode cX3_countOf 1 = .ok (.istore_n 2, 1) := by decide +kernel
theorem dX3_countOf_2 : decode cX3_countOf 2 = .ok (.iconst 0, 1) := by decide +kernel
theorem dX3_countOf_3 : decode cX3_countOf 3 = .ok (.istore_n 3, 1) := by decide +kernel
theorem dX3_countOf_4 : decode cX3_countOf 4 = .ok (.iload_n 3, 1) := by decide +kernel
theorem dX3_countOf_5 : decode cX3_countOf 5 = .ok (.aload_n 0, 1) := by decide +kernel
theorem dX3_countOf_6 : decode cX3_countOf 6 = .ok (.getfield 25, 3) := by decide +kernel
theorem dX3_countOf_9 : decode cX3_countOf 9 = .ok (.if_icmp .ge 30, 3) := by decide +kernel
theorem dX3_countOf_12 : decode cX3_countOf 12 = .ok (.iload_n 2, 1) := by decide +kernel
theorem dX3_countOf_13 : decode cX3_countOf 13 = .ok (.aload_n 0, 1) := by decide +kernel
theorem dX3_countOf_14 : decode cX3_countOf 14 = .ok (.getfield 9, 3) := by decide +kernel
theorem dX3_countOf_17 : decode cX3_countOf 17 = .ok (.iload_n 3, 1) := by decide +kernel
theorem dX3_countOf_18 : decode cX3_countOf 18 = .ok (.iaload, 1) := by decide +kernel
theorem dX3_countOf_19 : decode cX3_countOf 19 = .ok (.iload_n 1, 1) := by decide +kernel
theorem dX3_countOf_20 : decode cX3_countOf 20 = .ok (.invokestatic 44, 3) := by decide +kernel
theorem dX3_countOf_23 : decode cX3_countOf 23 = .ok (.ifCond .eq 7, 3) := by decide +kernel
theorem dX3_countOf_26 : decode cX3_countOf 26 = .ok (.iconst 1, 1) := by decide +kernel
theorem dX3_countOf_27 : decode cX3_countOf 27 = .ok (.goto 4, 3) := by decide +kernel
theorem dX3_countOf_30 : decode cX3_countOf 30 = .ok (.iconst 0, 1) := by decide +kernel
theorem dX3_countOf_31 : decode cX3_countOf 31 = .ok (.iadd, 1) := by decide +kernel
theorem dX3_countOf_32 : decode cX3_countOf 32 = .ok (.istore_n 2, 1) := by decide +kernel
theorem dX3_countOf_33 : decode cX3_countOf 33 = .ok (.iinc 3 1, 3) := by decide +kernel
theorem dX3_countOf_36 : decode cX3_countOf 36 = .ok (.goto (-32), 3) := by decide +kernel
theorem dX3_countOf_39 : decode cX3_countOf 39 = .ok (.iload_n 2, 1) := by decide +kernel
theorem dX3_countOf_40 : decode cX3_countOf 40 = .ok (.ireturn, 1) := by decide +kernel
theorem dX4_init_0 : decode cX4_init 0 = .ok (.aload_n 0, 1) := by decide +kernel
theorem dX4_init_1 : decode cX4_init 1 = .ok (.invokespecial 3, 3) := by decide +kernel
theorem dX4_init_4 : decode cX4_init 4 = .ok (.aload_n 0, 1) := by decide +kernel
theorem dX4_init_5 : decode cX4_init 5 = .ok (.iconst 5, 1) := by decide +kernel
theorem dX4_init_6 : decode cX4_init 6 = .ok (.anewarray 9, 3) := by decide +kernel
theorem dX4_init_9 : decode cX4_init 9 = .ok (.putfield 11, 3) := by decide +kernel
theorem dX4_init_12 : decode cX4_init 12 = .ok (.aload_n 0, 1) := by decide +kernel
theorem dX4_init_13 : decode cX4_init 13 = .ok (.aconst_null, 1) := by decide +kernel
theorem dX4_init_14 : decode cX4_init 14 = .ok (.putfield 17, 3) := by decide +kernel
theorem dX4_init_17 : decode cX4_init 17 = .ok (.aload_n 0, 1) := by decide +kernel
theorem dX4_init_18 : decode cX4_init 18 = .ok (.iconst 0, 1) := by decide +kernel
theorem dX4_init_19 : decode cX4_init 19 = .ok (.putfield 21, 3) := by decide +kernel
theorem dX4_init_22 : decode cX4_init 22 = .ok (.aload_n 0, 1) := by decide +kernel
theorem dX4_init_23 : decode cX4_init 23 = .ok (.iconst 0, 1) := by decide +kernel
theorem dX4_init_24 : decode cX4_init 24 = .ok (.putfield 25, 3) := by decide +kernel
theorem dX4_init_27 : decode cX4_init 27 = .ok (.aload_n 0, 1) := by decide +kernel
theorem dX4_init_28 : decode cX4_init 28 = .ok (.lconst 0, 1) := by decide +kernel
theorem dX4_init_29 : decode cX4_init 29 = .ok (.putfield 28, 3) := by decide +kernel
theorem dX4_init_32 : decode cX4_init 32 = .ok (.aload_n 0, 1) := by decide +kernel
theorem dX4_init_33 : decode cX4_init 33 = .ok (.lconst 1, 1) := by decide +kernel
theorem dX4_init_34 : decode cX4_init 34 = .ok (.putfield 32, 3) := by decide +kernel
theorem dX4_init_37 : decode cX4_init 37 = .ok (.iconst 0, 1) := by decide +kernel
theorem dX4_init_38 : decode cX4_init 38 = .ok (.istore_n 2, 1) := by decide +kernel
theorem dX4_init_39 : decode cX4_init 39 = .ok (.iload_n 2, 1) := by decide +kernel
theorem dX4_init_40 : decode cX4_init 40 = .ok (.iconst 4, 1) := by decide +kernel
theorem dX4_init_41 : decode cX4_init 41 = .ok (.if_icmp .gt 23, 3) := by decide +kernel
theorem dX4_init_44 : decode cX4_init 44 = .ok (.aload_n 0, 1) := by decide +kernel
theorem dX4_init_45 : decode cX4_init 45 = .ok (.getfield 11, 3) := by decide +kernel
theorem dX4_init_48 : decode cX4_init 48 = .ok (.iload_n 2, 1) := by decide +kernel
theorem dX4_init_49 : decode cX4_init 49 = .ok (.new 9, 3) := by decide +kernel
theorem dX4_init_52 : decode cX4_init 52 = .ok (.dup, 1) := by decide +kernel
theorem dX4_init_53 : decode cX4_init 53 = .ok (.aload_n 1, 1) := by decide +kernel
theorem dX4_init_54 : decode cX4_init 54 = .ok (.invokespecial 35, 3) := by decide +kernel
theorem dX4_init_57 : decode cX4_init 57 = .ok (.aastore, 1) := by decide +kernel
theorem dX4_init_58 : decode cX4_init 58 = .ok (.iinc 2 1, 3) := by decide +kernel
theorem dX4_init_61 : decode cX4_init 61 = .ok (.goto (-22), 3) := by decide +kernel
theorem dX4_init_64 : decode cX4_init 64 = .ok (.return_, 1) := by decide +kernel
theorem dX4_reckon_0 : decode cX4_reckon 0 = .ok (.aload_n 0, 1) := by decide +kernel
theorem dX4_reckon_1 : decode cX4_reckon 1 = .ok (.aload_n 3, 1) := by decide +kernel
theorem dX4_reckon_2 : decode cX4_reckon 2 = .ok (.putfield 17, 3) := by decide +kernel
theorem dX4_reckon_5 : decode cX4_reckon 5 = .ok (.aload_n 0, 1) := by decide +kernel
theorem dX4_reckon_6 : decode cX4_reckon 6 = .ok (.iload_n 2, 1) := by decide +kernel
theorem dX4_reckon_7 : decode cX4_reckon 7 = .ok (.putfield 21, 3) := by decide +kernel
theorem dX4_reckon_10 : decode cX4_reckon 10 = .ok (.aload_n 0, 1) := by decide +kernel
theorem dX4_reckon_11 : decode cX4_reckon 11 = .ok (.iload 4, 2) := by decide +kernel
theorem dX4_reckon_13 : decode cX4_reckon 13 = .ok (.putfield 25, 3) := by decide +kernel
theorem dX4_reckon_16 : decode cX4_reckon 16 = .ok (.aload_n 0, 1) := by decide +kernel
theorem dX4_reckon_17 : decode cX4_reckon 17 = .ok (.lconst 1, 1) := by decide +kernel
theorem dX4_reckon_18 : decode cX4_reckon 18 = .ok (.putfield 32, 3) := by decide +kernel
theorem dX4_reckon_21 : decode cX4_reckon 21 = .ok (.iconst 0, 1) := by decide +kernel
theorem dX4_reckon_22 : decode cX4_reckon 22 = .ok (.istore 5, 2) := by decide +kernel
theorem dX4_reckon_24 : decode cX4_reckon 24 = .ok (.iload 5, 2) := by decide +kernel
theorem dX4_reckon_26 : decode cX4_reckon 26 = .ok (.aload_n 3, 1) := by decide +kernel
theorem dX4_reckon_27 : decode cX4_reckon 27 = .ok (.getfield 38, 3) := by decide +kernel
theorem dX4_reckon_30 : decode cX4_reckon 30 = .ok (.if_icmp .ge 21, 3) := by decide +kernel
theorem dX4_reckon_33 : decode cX4_reckon 33 = .ok (.aload_n 0, 1) := by decide +kernel
theorem dX4_reckon_34 : decode cX4_reckon 34 = .ok (.dup, 1) := by decide +kernel
theorem dX4_reckon_35 : decode cX4_reckon 35 = .ok (.getfield 32, 3) := by decide +kernel
theorem dX4_reckon_38 : decode cX4_reckon 38 = .ok (.ldc2_w 43, 3) := by decide +kernel
theorem dX4_reckon_41 : decode cX4_reckon 41 = .ok (.lmul, 1) := by decide +kernel
theorem dX4_reckon_42 : decode cX4_reckon 42 = .ok (.putfield 32, 3) := by decide +kernel
theorem dX4_reckon_45 : decode cX4_reckon 45 = .ok (.iinc 5 1, 3) := by decide +kernel
theorem dX4_reckon_48 : decode cX4_reckon 48 = .ok (.goto (-24), 3) := by decide +kernel
theorem dX4_reckon_51 : decode cX4_reckon 51 = .ok (.aload_n 0, 1) := by decide +kernel
theorem dX4_reckon_52 : decode cX4_reckon 52 = .ok (.getfield 11, 3) := by decide +kernel
theorem dX4_reckon_55 : decode cX4_reckon 55 = .ok (.iconst 0, 1) := by decide +kernel
theorem dX4_reckon_56 : decode cX4_reckon 56 = .ok (.aaload, 1) := by decide +kernel
theorem dX4_reckon_57 : decode cX4_reckon 57 = .ok (.aload_n 1, 1) := by decide +kernel
theorem dX4_reckon_58 : decode cX4_reckon 58 = .ok (.invokevirtual 45, 3) := by decide +kernel
theorem dX4_reckon_61 : decode cX4_reckon 61 = .ok (.aload_n 0, 1) := by decide +kernel
theorem dX4_reckon_62 : decode cX4_reckon 62 = .ok (.aload_n 0, 1) := by decide +kernel
theorem dX4_reckon_63 : decode cX4_reckon 63 = .ok (.iconst 0, 1) := by decide +kernel
theorem dX4_reckon_64 : decode cX4_reckon 64 = .ok (.invokevirtual 49, 3) := by decide +kernel
theorem dX4_reckon_67 : decode cX4_reckon 67 = .ok (.putfield 28, 3) := by decide +kernel
theorem dX4_reckon_70 : decode cX4_reckon 70 = .ok (.return_, 1) := by decide +kernel
theorem dX4_casesFrom_0 : decode cX4_casesFrom 0 = .ok (.aload_n 0, 1) := by decide +kernel
theorem dX4_casesFrom_1 : decode cX4_casesFrom 1 = .ok (.getfield 17, 3) := by decide +kernel
theorem dX4_casesFrom_4 : decode cX4_casesFrom 4 = .ok (.ifnull 12, 3) := by decide +kernel
theorem dX4_casesFrom_7 : decode cX4_casesFrom 7 = .ok (.iload_n 1, 1) := by decide +kernel
theorem dX4_casesFrom_8 : decode cX4_casesFrom 8 = .ok (.ifCond .lt 8, 3) := by decide +kernel
theorem dX4_casesFrom_11 : decode cX4_casesFrom 11 = .ok (.iload_n 1, 1) := by decide +kernel
theorem dX4_casesFrom_12 : decode cX4_casesFrom 12 = .ok (.iconst 4, 1) := by decide +kernel
theorem dX4_casesFrom_13 : decode cX4_casesFrom 13 = .ok (.if_icmp .le 5, 3) := by decide +kernel
theorem dX4_casesFrom_16 : decode cX4_casesFrom 16 = .ok (.lconst 0, 1) := by decide +kernel
theorem dX4_casesFrom_17 : decode cX4_casesFrom 17 = .ok (.lreturn, 1) := by decide +kernel
theorem dX4_casesFrom_18 : decode cX4_casesFrom 18 = .ok (.iload_n 1, 1) := by decide +kernel
theorem dX4_casesFrom_19 : decode cX4_casesFrom 19 = .ok (.aload_n 0, 1) := by decide +kernel
theorem dX4_casesFrom_20 : decode cX4_casesFrom 20 = .ok (.getfield 17, 3) := by decide +kernel
theorem dX4_casesFrom_23 : decode cX4_casesFrom 23 = .ok (.getfield 38, 3) := by decide +kernel
theorem dX4_casesFrom_26 : decode cX4_casesFrom 26 = .ok (.if_icmp .lt 25, 3) := by decide +kernel
theorem dX4_casesFrom_29 : decode cX4_casesFrom 29 = .ok (.aload_n 0, 1) := by decide +kernel
theorem dX4_casesFrom_30 : decode cX4_casesFrom 30 = .ok (.getfield 11, 3) := by decide +kernel
theorem dX4_casesFrom_33 : decode cX4_casesFrom 33 = .ok (.iload_n 1, 1) := by decide +kernel
theorem dX4_casesFrom_34 : decode cX4_casesFrom 34 = .ok (.aaload, 1) := by decide +kernel
theorem dX4_casesFrom_35 : decode cX4_casesFrom 35 = .ok (.aload_n 0, 1) := by decide +kernel
theorem dX4_casesFrom_36 : decode cX4_casesFrom 36 = .ok (.getfield 21, 3) := by decide +kernel
theorem dX4_casesFrom_39 : decode cX4_casesFrom 39 = .ok (.invokevirtual 53, 3) := by decide +kernel
theorem dX4_casesFrom_42 : decode cX4_casesFrom 42 = .ok (.ifCond .eq 7, 3) := by decide +kernel
theorem dX4_casesFrom_45 : decode cX4_casesFrom 45 = .ok (.lconst 1, 1) := by decide +kernel
theorem dX4_casesFrom_46 : decode cX4_casesFrom 46 = .ok (.goto 4, 3) := by decide +kernel
theorem dX4_casesFrom_49 : decode cX4_casesFrom 49 = .ok (.lconst 0, 1) := by decide +kernel
theorem dX4_casesFrom_50 : decode cX4_casesFrom 50 = .ok (.lreturn, 1) := by decide +kernel
theorem dX4_casesFrom_51 : decode cX4_casesFrom 51 = .ok (.aload_n 0, 1) := by decide +kernel
theorem dX4_casesFrom_52 : decode cX4_casesFrom 52 = .ok (.getfield 17, 3) := by decide +kernel
theorem dX4_casesFrom_55 : decode cX4_casesFrom 55 = .ok (.iload_n 1, 1) := by decide +kernel
theorem dX4_casesFrom_56 : decode cX4_casesFrom 56 = .ok (.invokevirtual 57, 3) := by decide +kernel
theorem dX4_casesFrom_59 : decode cX4_casesFrom 59 = .ok (.istore_n 2, 1) := by decide +kernel
theorem dX4_casesFrom_60 : decode cX4_casesFrom 60 = .ok (.aload_n 0, 1) := by decide +kernel
theorem dX4_casesFrom_61 : decode cX4_casesFrom 61 = .ok (.getfield 11, 3) := by decide +kernel
theorem dX4_casesFrom_64 : decode cX4_casesFrom 64 = .ok (.iload_n 1, 1) := by decide +kernel
theorem dX4_casesFrom_65 : decode cX4_casesFrom 65 = .ok (.aaload, 1) := by decide +kernel
theorem dX4_casesFrom_66 : decode cX4_casesFrom 66 = .ok (.iload_n 2, 1) := by decide +kernel
theorem dX4_casesFrom_67 : decode cX4_casesFrom 67 = .ok (.invokevirtual 61, 3) := by decide +kernel
theorem dX4_casesFrom_70 : decode cX4_casesFrom 70 = .ok (.ifCond .ne 15, 3) := by decide +kernel
theorem dX4_casesFrom_73 : decode cX4_casesFrom 73 = .ok (.ldc2_w 43, 3) := by decide +kernel
theorem dX4_casesFrom_76 : decode cX4_casesFrom 76 = .ok (.aload_n 0, 1) := by decide +kernel
theorem dX4_casesFrom_77 : decode cX4_casesFrom 77 = .ok (.iload_n 1, 1) := by decide +kernel
theorem dX4_casesFrom_78 : decode cX4_casesFrom 78 = .ok (.bipush 36, 2) := by decide +kernel
theorem dX4_casesFrom_80 : decode cX4_casesFrom 80 = .ok (.invokevirtual 64, 3) := by decide +kernel
theorem dX4_casesFrom_83 : decode cX4_casesFrom 83 = .ok (.lmul, 1) := by decide +kernel
theorem dX4_casesFrom_84 : decode cX4_casesFrom 84 = .ok (.lreturn, 1) := by decide +kernel
theorem dX4_casesFrom_85 : decode cX4_casesFrom 85 = .ok (.aload_n 0, 1) := by decide +kernel
theorem dX4_casesFrom_86 : decode cX4_casesFrom 86 = .ok (.getfield 25, 3) := by decide +kernel
theorem dX4_casesFrom_89 : decode cX4_casesFrom 89 = .ok (.i2l, 1) := by decide +kernel
theorem dX4_casesFrom_90 : decode cX4_casesFrom 90 = .ok (.aload_n 0, 1) := by decide +kernel
theorem dX4_casesFrom_91 : decode cX4_casesFrom 91 = .ok (.iload_n 1, 1) := by decide +kernel
theorem dX4_casesFrom_92 : decode cX4_casesFrom 92 = .ok (.bipush 36, 2) := by decide +kernel
theorem dX4_casesFrom_94 : decode cX4_casesFrom 94 = .ok (.invokevirtual 64, 3) := by decide +kernel
theorem dX4_casesFrom_97 : decode cX4_casesFrom 97 = .ok (.lmul, 1) := by decide +kernel
theorem dX4_casesFrom_98 : decode cX4_casesFrom 98 = .ok (.bipush 12, 2) := by decide +kernel
theorem dX4_casesFrom_100 : decode cX4_casesFrom 100 = .ok (.aload_n 0, 1) := by decide +kernel
theorem dX4_casesFrom_101 : decode cX4_casesFrom 101 = .ok (.getfield 25, 3) := by decide +kernel
theorem dX4_casesFrom_104 : decode cX4_casesFrom 104 = .ok (.isub, 1) := by decide +kernel
theorem dX4_casesFrom_105 : decode cX4_casesFrom 105 = .ok (.i2l, 1) := by decide +kernel
theorem dX4_casesFrom_106 : decode cX4_casesFrom 106 = .ok (.aload_n 0, 1) := by decide +kernel
theorem dX4_casesFrom_107 : decode cX4_casesFrom 107 = .ok (.iload_n 1, 1) := by decide +kernel
theorem dX4_casesFrom_108 : decode cX4_casesFrom 108 = .ok (.iload_n 2, 1) := by decide +kernel
theorem dX4_casesFrom_109 : decode cX4_casesFrom 109 = .ok (.invokevirtual 64, 3) := by decide +kernel
theorem dX4_casesFrom_112 : decode cX4_casesFrom 112 = .ok (.lmul, 1) := by decide +kernel
theorem dX4_casesFrom_113 : decode cX4_casesFrom 113 = .ok (.ladd, 1) := by decide +kernel
theorem dX4_casesFrom_114 : decode cX4_casesFrom 114 = .ok (.lreturn, 1) := by decide +kernel
theorem dX4_casesBehind_0 : decode cX4_casesBehind 0 = .ok (.iload_n 1, 1) := by decide +kernel
theorem dX4_casesBehind_1 : decode cX4_casesBehind 1 = .ok (.ifCond .lt 8, 3) := by decide +kernel
theorem dX4_casesBehind_4 : decode cX4_casesBehind 4 = .ok (.iload_n 1, 1) := by decide +kernel
theorem dX4_casesBehind_5 : decode cX4_casesBehind 5 = .ok (.iconst 4, 1) := by decide +kernel
theorem dX4_casesBehind_6 : decode cX4_casesBehind 6 = .ok (.if_icmp .lt 5, 3) := by decide +kernel
theorem dX4_casesBehind_9 : decode cX4_casesBehind 9 = .ok (.lconst 0, 1) := by decide +kernel
theorem dX4_casesBehind_10 : decode cX4_casesBehind 10 = .ok (.lreturn, 1) := by decide +kernel
theorem dX4_casesBehind_11 : decode cX4_casesBehind 11 = .ok (.aload_n 0, 1) := by decide +kernel
theorem dX4_casesBehind_12 : decode cX4_casesBehind 12 = .ok (.getfield 11, 3) := by decide +kernel
theorem dX4_casesBehind_15 : decode cX4_casesBehind 15 = .ok (.iload_n 1, 1) := by decide +kernel
theorem dX4_casesBehind_16 : decode cX4_casesBehind 16 = .ok (.iconst 1, 1) := by decide +kernel
theorem dX4_casesBehind_17 : decode cX4_casesBehind 17 = .ok (.iadd, 1) := by decide +kernel
theorem dX4_casesBehind_18 : decode cX4_casesBehind 18 = .ok (.aaload, 1) := by decide +kernel
theorem dX4_casesBehind_19 : decode cX4_casesBehind 19 = .ok (.astore_n 3, 1) := by decide +kernel
theorem dX4_casesBehind_20 : decode cX4_casesBehind 20 = .ok (.aload_n 3, 1) := by decide +kernel
theorem dX4_casesBehind_21 : decode cX4_casesBehind 21 = .ok (.aload_n 0, 1) := by decide +kernel
theorem dX4_casesBehind_22 : decode cX4_casesBehind 22 = .ok (.getfield 11, 3) := by decide +kernel
theorem dX4_casesBehind_25 : decode cX4_casesBehind 25 = .ok (.iload_n 1, 1) := by decide +kernel
theorem dX4_casesBehind_26 : decode cX4_casesBehind 26 = .ok (.aaload, 1) := by decide +kernel
theorem dX4_casesBehind_27 : decode cX4_casesBehind 27 = .ok (.invokevirtual 45, 3) := by decide +kernel
theorem dX4_casesBehind_30 : decode cX4_casesBehind 30 = .ok (.aload_n 3, 1) := by decide +kernel
theorem dX4_casesBehind_31 : decode cX4_casesBehind 31 = .ok (.iload_n 2, 1) := by decide +kernel
theorem dX4_casesBehind_32 : decode cX4_casesBehind 32 = .ok (.invokevirtual 68, 3) := by decide +kernel
theorem dX4_casesBehind_35 : decode cX4_casesBehind 35 = .ok (.aload_n 3, 1) := by decide +kernel
theorem dX4_casesBehind_36 : decode cX4_casesBehind 36 = .ok (.invokevirtual 72, 3) := by decide +kernel
theorem dX4_casesBehind_39 : decode cX4_casesBehind 39 = .ok (.aload_n 0, 1) := by decide +kernel
theorem dX4_casesBehind_40 : decode cX4_casesBehind 40 = .ok (.iload_n 1, 1) := by decide +kernel
theorem dX4_casesBehind_41 : decode cX4_casesBehind 41 = .ok (.iconst 1, 1) := by decide +kernel
theorem dX4_casesBehind_42 : decode cX4_casesBehind 42 = .ok (.iadd, 1) := by decide +kernel
theorem dX4_casesBehind_43 : decode cX4_casesBehind 43 = .ok (.invokevirtual 49, 3) := by decide +kernel
theorem dX4_casesBehind_46 : decode cX4_casesBehind 46 = .ok (.lreturn, 1) := by decide +kernel
theorem dX5_init_0 : decode cX5_init 0 = .ok (.aload_n 0, 1) := by decide +kernel
theorem dX5_init_1 : decode cX5_init 1 = .ok (.invokespecial 3, 3) := by decide +kernel
theorem dX5_init_4 : decode cX5_init 4 = .ok (.aload_n 0, 1) := by decide +kernel
theorem dX5_init_5 : decode cX5_init 5 = .ok (.iconst 5, 1) := by decide +kernel
theorem dX5_init_6 : decode cX5_init 6 = .ok (.anewarray 9, 3) := by decide +kernel
theorem dX5_init_9 : decode cX5_init 9 = .ok (.putfield 11, 3) := by decide +kernel
theorem dX5_init_12 : decode cX5_init 12 = .ok (.aload_n 0, 1) := by decide +kernel
theorem dX5_init_13 : decode cX5_init 13 = .ok (.iconst 4, 1) := by decide +kernel
theorem dX5_init_14 : decode cX5_init 14 = .ok (.newarray .int, 2) := by decide +kernel
theorem dX5_init_16 : decode cX5_init 16 = .ok (.putfield 17, 3) := by decide +kernel
theorem dX5_init_19 : decode cX5_init 19 = .ok (.aload_n 0, 1) := by decide +kernel
theorem dX5_init_20 : decode cX5_init 20 = .ok (.iconst 4, 1) := by decide +kernel
theorem dX5_init_21 : decode cX5_init 21 = .ok (.newarray .int, 2) := by decide +kernel
theorem dX5_init_23 : decode cX5_init 23 = .ok (.putfield 21, 3) := by decide +kernel
theorem dX5_init_26 : decode cX5_init 26 = .ok (.aload_n 0, 1) := by decide +kernel
theorem dX5_init_27 : decode cX5_init 27 = .ok (.iconst 0, 1) := by decide +kernel
theorem dX5_init_28 : decode cX5_init 28 = .ok (.putfield 24, 3) := by decide +kernel
theorem dX5_init_31 : decode cX5_init 31 = .ok (.aload_n 0, 1) := by decide +kernel
theorem dX5_init_32 : decode cX5_init 32 = .ok (.iconst 0, 1) := by decide +kernel
theorem dX5_init_33 : decode cX5_init 33 = .ok (.putfield 28, 3) := by decide +kernel
theorem dX5_init_36 : decode cX5_init 36 = .ok (.aload_n 0, 1) := by decide +kernel
theorem dX5_init_37 : decode cX5_init 37 = .ok (.iconst 0, 1) := by decide +kernel
theorem dX5_init_38 : decode cX5_init 38 = .ok (.putfield 31, 3) := by decide +kernel
theorem dX5_init_41 : decode cX5_init 41 = .ok (.aload_n 0, 1) := by decide +kernel
theorem dX5_init_42 : decode cX5_init 42 = .ok (.iconst (-1), 1) := by decide +kernel
theorem dX5_init_43 : decode cX5_init 43 = .ok (.putfield 34, 3) := by decide +kernel
theorem dX5_init_46 : decode cX5_init 46 = .ok (.aload_n 0, 1) := by decide +kernel
theorem dX5_init_47 : decode cX5_init 47 = .ok (.iconst 0, 1) := by decide +kernel
theorem dX5_init_48 : decode cX5_init 48 = .ok (.putfield 37, 3) := by decide +kernel
theorem dX5_init_51 : decode cX5_init 51 = .ok (.aload_n 0, 1) := by decide +kernel
theorem dX5_init_52 : decode cX5_init 52 = .ok (.iconst 0, 1) := by decide +kernel
theorem dX5_init_53 : decode cX5_init 53 = .ok (.putfield 40, 3) := by decide +kernel
theorem dX5_init_56 : decode cX5_init 56 = .ok (.aload_n 0, 1) := by decide +kernel
theorem dX5_init_57 : decode cX5_init 57 = .ok (.iconst 0, 1) := by decide +kernel
theorem dX5_init_58 : decode cX5_init 58 = .ok (.putfield 43, 3) := by decide +kernel
theorem dX5_init_61 : decode cX5_init 61 = .ok (.iconst 0, 1) := by decide +kernel
theorem dX5_init_62 : decode cX5_init 62 = .ok (.istore_n 2, 1) := by decide +kernel
theorem dX5_init_63 : decode cX5_init 63 = .ok (.iload_n 2, 1) := by decide +kernel
theorem dX5_init_64 : decode cX5_init 64 = .ok (.iconst 4, 1) := by decide +kernel
theorem dX5_init_65 : decode cX5_init 65 = .ok (.if_icmp .gt 23, 3) := by decide +kernel
theorem dX5_init_68 : decode cX5_init 68 = .ok (.aload_n 0, 1) := by decide +kernel
theorem dX5_init_69 : decode cX5_init 69 = .ok (.getfield 11, 3) := by decide +kernel
theorem dX5_init_72 : decode cX5_init 72 = .ok (.iload_n 2, 1) := by decide +kernel
theorem dX5_init_73 : decode cX5_init 73 = .ok (.new 9, 3) := by decide +kernel
theorem dX5_init_76 : decode cX5_init 76 = .ok (.dup, 1) := by decide +kernel
theorem dX5_init_77 : decode cX5_init 77 = .ok (.aload_n 1, 1) := by decide +kernel
theorem dX5_init_78 : decode cX5_init 78 = .ok (.invokespecial 46, 3) := by decide +kernel
theorem dX5_init_81 : decode cX5_init 81 = .ok (.aastore, 1) := by decide +kernel
theorem dX5_init_82 : decode cX5_init 82 = .ok (.iinc 2 1, 3) := by decide +kernel
theorem dX5_init_85 : decode cX5_init 85 = .ok (.goto (-22), 3) := by decide +kernel
theorem dX5_init_88 : decode cX5_init 88 = .ok (.return_, 1) := by decide +kernel
theorem dX5_search_0 : decode cX5_search 0 = .ok (.aload_n 0, 1) := by decide +kernel
theorem dX5_search_1 : decode cX5_search 1 = .ok (.iconst 0, 1) := by decide +kernel
theorem dX5_search_2 : decode cX5_search 2 = .ok (.iload_n 2, 1) := by decide +kernel
theorem dX5_search_3 : decode cX5_search 3 = .ok (.iconst 4, 1) := by decide +kernel
theorem dX5_search_4 : decode cX5_search 4 = .ok (.invokestatic 49, 3) := by decide +kernel
theorem dX5_search_7 : decode cX5_search 7 = .ok (.invokestatic 55, 3) := by decide +kernel
theorem dX5_search_10 : decode cX5_search 10 = .ok (.putfield 31, 3) := by decide +kernel
theorem dX5_search_13 : decode cX5_search 13 = .ok (.aload_n 0, 1) := by decide +kernel
theorem dX5_search_14 : decode cX5_search 14 = .ok (.iload_n 3, 1) := by decide +kernel
theorem dX5_search_15 : decode cX5_search 15 = .ok (.putfield 24, 3) := by decide +kernel
theorem dX5_search_18 : decode cX5_search 18 = .ok (.aload_n 0, 1) := by decide +kernel
theorem dX5_search_19 : decode cX5_search 19 = .ok (.iload 4, 2) := by decide +kernel
theorem dX5_search_21 : decode cX5_search 21 = .ok (.putfield 28, 3) := by decide +kernel
theorem dX5_search_24 : decode cX5_search 24 = .ok (.aload_n 0, 1) := by decide +kernel
theorem dX5_search_25 : decode cX5_search 25 = .ok (.iconst (-1), 1) := by decide +kernel
theorem dX5_search_26 : decode cX5_search 26 = .ok (.putfield 34, 3) := by decide +kernel
theorem dX5_search_29 : decode cX5_search 29 = .ok (.aload_n 0, 1) := by decide +kernel
theorem dX5_search_30 : decode cX5_search 30 = .ok (.iconst 0, 1) := by decide +kernel
theorem dX5_search_31 : decode cX5_search 31 = .ok (.putfield 37, 3) := by decide +kernel
theorem dX5_search_34 : decode cX5_search 34 = .ok (.aload_n 0, 1) := by decide +kernel
theorem dX5_search_35 : decode cX5_search 35 = .ok (.iconst 0, 1) := by decide +kernel
theorem dX5_search_36 : decode cX5_search 36 = .ok (.putfield 40, 3) := by decide +kernel
theorem dX5_search_39 : decode cX5_search 39 = .ok (.aload_n 0, 1) := by decide +kernel
theorem dX5_search_40 : decode cX5_search 40 = .ok (.iconst 0, 1) := by decide +kernel
theorem dX5_search_41 : decode cX5_search 41 = .ok (.putfield 43, 3) := by decide +kernel
theorem dX5_search_44 : decode cX5_search 44 = .ok (.aload_n 0, 1) := by decide +kernel
theorem dX5_search_45 : decode cX5_search 45 = .ok (.getfield 11, 3) := by decide +kernel
theorem dX5_search_48 : decode cX5_search 48 = .ok (.iconst 0, 1) := by decide +kernel
theorem dX5_search_49 : decode cX5_search 49 = .ok (.aaload, 1) := by decide +kernel
theorem dX5_search_50 : decode cX5_search 50 = .ok (.aload_n 1, 1) := by decide +kernel
theorem dX5_search_51 : decode cX5_search 51 = .ok (.invokevirtual 58, 3) := by decide +kernel
theorem dX5_search_54 : decode cX5_search 54 = .ok (.aload_n 0, 1) := by decide +kernel
theorem dX5_search_55 : decode cX5_search 55 = .ok (.iconst 0, 1) := by decide +kernel
theorem dX5_search_56 : decode cX5_search 56 = .ok (.invokevirtual 62, 3) := by decide +kernel
theorem dX5_search_59 : decode cX5_search 59 = .ok (.return_, 1) := by decide +kernel
theorem dX5_isFound_0 : decode cX5_isFound 0 = .ok (.aload_n 0, 1) := by decide +kernel
theorem dX5_isFound_1 : decode cX5_isFound 1 = .ok (.getfield 34, 3) := by decide +kernel
theorem dX5_isFound_4 : decode cX5_isFound 4 = .ok (.ifCond .lt 7, 3) := by decide +kernel
theorem dX5_isFound_7 : decode cX5_isFound 7 = .ok (.iconst 1, 1) := by decide +kernel
theorem dX5_isFound_8 : decode cX5_isFound 8 = .ok (.goto 4, 3) := by decide +kernel
theorem dX5_isFound_11 : decode cX5_isFound 11 = .ok (.iconst 0, 1) := by decide +kernel
theorem dX5_isFound_12 : decode cX5_isFound 12 = .ok (.ireturn, 1) := by decide +kernel
theorem dX5_bestMove_0 : decode cX5_bestMove 0 = .ok (.iload_n 1, 1) := by decide +kernel
theorem dX5_bestMove_1 : decode cX5_bestMove 1 = .ok (.ifCond .lt 17, 3) := by decide +kernel
theorem dX5_bestMove_4 : decode cX5_bestMove 4 = .ok (.iload_n 1, 1) := by decide +kernel
theorem dX5_bestMove_5 : decode cX5_bestMove 5 = .ok (.iconst 4, 1) := by decide +kernel
theorem dX5_bestMove_6 : decode cX5_bestMove 6 = .ok (.if_icmp .ge 12, 3) := by decide +kernel
theorem dX5_bestMove_9 : decode cX5_bestMove 9 = .ok (.aload_n 0, 1) := by decide +kernel
theorem dX5_bestMove_10 : decode cX5_bestMove 10 = .ok (.getfield 21, 3) := by decide +kernel
theorem dX5_bestMove_13 : decode cX5_bestMove 13 = .ok (.iload_n 1, 1) := by decide +kernel
theorem dX5_bestMove_14 : decode cX5_bestMove 14 = .ok (.iaload, 1) := by decide +kernel
theorem dX5_bestMove_15 : decode cX5_bestMove 15 = .ok (.goto 5, 3) := by decide +kernel
theorem dX5_bestMove_18 : decode cX5_bestMove 18 = .ok (.bipush 36, 2) := by decide +kernel
theorem dX5_bestMove_20 : decode cX5_bestMove 20 = .ok (.ireturn, 1) := by decide +kernel
theorem dX5_walk_0 : decode cX5_walk 0 = .ok (.iload_n 1, 1) := by decide +kernel
theorem dX5_walk_1 : decode cX5_walk 1 = .ok (.ifCond .lt 8, 3) := by decide +kernel
theorem dX5_walk_4 : decode cX5_walk 4 = .ok (.iload_n 1, 1) := by decide +kernel
theorem dX5_walk_5 : decode cX5_walk 5 = .ok (.iconst 4, 1) := by decide +kernel
theorem dX5_walk_6 : decode cX5_walk 6 = .ok (.if_icmp .le 4, 3) := by decide +kernel
theorem dX5_walk_9 : decode cX5_walk 9 = .ok (.return_, 1) := by decide +kernel
theorem dX5_walk_10 : decode cX5_walk 10 = .ok (.aload_n 0, 1) := by decide +kernel
theorem dX5_walk_11 : decode cX5_walk 11 = .ok (.getfield 11, 3) := by decide +kernel
theorem dX5_walk_14 : decode cX5_walk 14 = .ok (.iload_n 1, 1) := by decide +kernel
theorem dX5_walk_15 : decode cX5_walk 15 = .ok (.aaload, 1) := by decide +kernel
theorem dX5_walk_16 : decode cX5_walk 16 = .ok (.astore_n 2, 1) := by decide +kernel
theorem dX5_walk_17 : decode cX5_walk 17 = .ok (.iload_n 1, 1) := by decide +kernel
theorem dX5_walk_18 : decode cX5_walk 18 = .ok (.aload_n 0, 1) := by decide +kernel
theorem dX5_walk_19 : decode cX5_walk 19 = .ok (.getfield 31, 3) := by decide +kernel
theorem dX5_walk_22 : decode cX5_walk 22 = .ok (.if_icmp .lt 9, 3) := by decide +kernel
theorem dX5_walk_25 : decode cX5_walk 25 = .ok (.aload_n 0, 1) := by decide +kernel
theorem dX5_walk_26 : decode cX5_walk 26 = .ok (.aload_n 2, 1) := by decide +kernel
theorem dX5_walk_27 : decode cX5_walk 27 = .ok (.invokevirtual 66, 3) := by decide +kernel
theorem dX5_walk_30 : decode cX5_walk 30 = .ok (.return_, 1) := by decide +kernel
theorem dX5_walk_31 : decode cX5_walk 31 = .ok (.iconst 0, 1) := by decide +kernel
theorem dX5_walk_32 : decode cX5_walk 32 = .ok (.istore_n 3, 1) := by decide +kernel
theorem dX5_walk_33 : decode cX5_walk 33 = .ok (.iload_n 3, 1) := by decide +kernel
theorem dX5_walk_34 : decode cX5_walk 34 = .ok (.bipush 36, 2) := by decide +kernel
theorem dX5_walk_36 : decode cX5_walk 36 = .ok (.if_icmp .gt 36, 3) := by decide +kernel
theorem dX5_walk_39 : decode cX5_walk 39 = .ok (.aload_n 0, 1) := by decide +kernel
theorem dX5_walk_40 : decode cX5_walk 40 = .ok (.invokevirtual 69, 3) := by decide +kernel
theorem dX5_walk_43 : decode cX5_walk 43 = .ok (.ifCond .ne 29, 3) := by decide +kernel
theorem dX5_walk_46 : decode cX5_walk 46 = .ok (.iload_n 3, 1) := by decide +kernel
theorem dX5_walk_47 : decode cX5_walk 47 = .ok (.bipush 36, 2) := by decide +kernel
theorem dX5_walk_49 : decode cX5_walk 49 = .ok (.if_icmp .eq 11, 3) := by decide +kernel
theorem dX5_walk_52 : decode cX5_walk 52 = .ok (.aload_n 2, 1) := by decide +kernel
theorem dX5_walk_53 : decode cX5_walk 53 = .ok (.iload_n 3, 1) := by decide +kernel
theorem dX5_walk_54 : decode cX5_walk 54 = .ok (.invokevirtual 73, 3) := by decide +kernel
theorem dX5_walk_57 : decode cX5_walk 57 = .ok (.ifCond .eq 9, 3) := by decide +kernel
theorem dX5_walk_60 : decode cX5_walk 60 = .ok (.aload_n 0, 1) := by decide +kernel
theorem dX5_walk_61 : decode cX5_walk 61 = .ok (.iload_n 1, 1) := by decide +kernel
theorem dX5_walk_62 : decode cX5_walk 62 = .ok (.iload_n 3, 1) := by decide +kernel
theorem dX5_walk_63 : decode cX5_walk 63 = .ok (.invokevirtual 77, 3) := by decide +kernel
theorem dX5_walk_66 : decode cX5_walk 66 = .ok (.iinc 3 1, 3) := by decide +kernel
theorem dX5_walk_69 : decode cX5_walk 69 = .ok (.goto (-36), 3) := by decide +kernel
theorem dX5_walk_72 : decode cX5_walk 72 = .ok (.return_, 1) := by decide +kernel
theorem dX5_take_0 : decode cX5_take 0 = .ok (.iload_n 1, 1) := by decide +kernel
theorem dX5_take_1 : decode cX5_take 1 = .ok (.ifCond .lt 8, 3) := by decide +kernel
theorem dX5_take_4 : decode cX5_take 4 = .ok (.iload_n 1, 1) := by decide +kernel
theorem dX5_take_5 : decode cX5_take 5 = .ok (.iconst 4, 1) := by decide +kernel
theorem dX5_take_6 : decode cX5_take 6 = .ok (.if_icmp .lt 4, 3) := by decide +kernel
theorem dX5_take_9 : decode cX5_take 9 = .ok (.return_, 1) := by decide +kernel
theorem dX5_take_10 : decode cX5_take 10 = .ok (.aload_n 0, 1) := by decide +kernel
theorem dX5_take_11 : decode cX5_take 11 = .ok (.getfield 11, 3) := by decide +kernel
theorem dX5_take_14 : decode cX5_take 14 = .ok (.iload_n 1, 1) := by decide +kernel
theorem dX5_take_15 : decode cX5_take 15 = .ok (.iconst 1, 1) := by decide +kernel
theorem dX5_take_16 : decode cX5_take 16 = .ok (.iadd, 1) := by decide +kernel
theorem dX5_take_17 : decode cX5_take 17 = .ok (.aaload, 1) := by decide +kernel
theorem dX5_take_18 : decode cX5_take 18 = .ok (.astore_n 3, 1) := by decide +kernel
theorem dX5_take_19 : decode cX5_take 19 = .ok (.aload_n 3, 1) := by decide +kernel
theorem dX5_take_20 : decode cX5_take 20 = .ok (.aload_n 0, 1) := by decide +kernel
theorem dX5_take_21 : decode cX5_take 21 = .ok (.getfield 11, 3) := by decide +kernel
theorem dX5_take_24 : decode cX5_take 24 = .ok (.iload_n 1, 1) := by decide +kernel
theorem dX5_take_25 : decode cX5_take 25 = .ok (.aaload, 1) := by decide +kernel
theorem dX5_take_26 : decode cX5_take 26 = .ok (.invokevirtual 58, 3) := by decide +kernel
theorem dX5_take_29 : decode cX5_take 29 = .ok (.aload_n 3, 1) := by decide +kernel
theorem dX5_take_30 : decode cX5_take 30 = .ok (.iload_n 2, 1) := by decide +kernel
theorem dX5_take_31 : decode cX5_take 31 = .ok (.invokevirtual 81, 3) := by decide +kernel
theorem dX5_take_34 : decode cX5_take 34 = .ok (.aload_n 0, 1) := by decide +kernel
theorem dX5_take_35 : decode cX5_take 35 = .ok (.getfield 24, 3) := by decide +kernel
theorem dX5_take_38 : decode cX5_take 38 = .ok (.iconst 3, 1) := by decide +kernel
theorem dX5_take_39 : decode cX5_take 39 = .ok (.if_icmp .ne 11, 3) := by decide +kernel
theorem dX5_take_42 : decode cX5_take 42 = .ok (.aload_n 3, 1) := by decide +kernel
theorem dX5_take_43 : decode cX5_take 43 = .ok (.invokevirtual 84, 3) := by decide +kernel
theorem dX5_take_46 : decode cX5_take 46 = .ok (.ifCond .ne 4, 3) := by decide +kernel
theorem dX5_take_49 : decode cX5_take 49 = .ok (.return_, 1) := by decide +kernel
theorem dX5_take_50 : decode cX5_take 50 = .ok (.aload_n 3, 1) := by decide +kernel
theorem dX5_take_51 : decode cX5_take 51 = .ok (.invokevirtual 87, 3) := by decide +kernel
theorem dX5_take_54 : decode cX5_take 54 = .ok (.aload_n 0, 1) := by decide +kernel
theorem dX5_take_55 : decode cX5_take 55 = .ok (.getfield 17, 3) := by decide +kernel
theorem dX5_take_58 : decode cX5_take 58 = .ok (.iload_n 1, 1) := by decide +kernel
theorem dX5_take_59 : decode cX5_take 59 = .ok (.iload_n 2, 1) := by decide +kernel
theorem dX5_take_60 : decode cX5_take 60 = .ok (.iastore, 1) := by decide +kernel
theorem dX5_take_61 : decode cX5_take 61 = .ok (.aload_n 0, 1) := by decide +kernel
theorem dX5_take_62 : decode cX5_take 62 = .ok (.iload_n 1, 1) := by decide +kernel
theorem dX5_take_63 : decode cX5_take 63 = .ok (.iconst 1, 1) := by decide +kernel
theorem dX5_take_64 : decode cX5_take 64 = .ok (.iadd, 1) := by decide +kernel
theorem dX5_take_65 : decode cX5_take 65 = .ok (.invokevirtual 62, 3) := by decide +kernel
theorem dX5_take_68 : decode cX5_take 68 = .ok (.return_, 1) := by decide +kernel
theorem dX5_isOver_0 : decode cX5_isOver 0 = .ok (.aload_n 0, 1) := by decide +kernel
theorem dX5_isOver_1 : decode cX5_isOver 1 = .ok (.invokevirtual 90, 3) := by decide +kernel
theorem dX5_isOver_4 : decode cX5_isOver 4 = .ok (.ifCond .eq 23, 3) := by decide +kernel
theorem dX5_isOver_7 : decode cX5_isOver 7 = .ok (.aload_n 0, 1) := by decide +kernel
theorem dX5_isOver_8 : decode cX5_isOver 8 = .ok (.getfield 24, 3) := by decide +kernel
theorem dX5_isOver_11 : decode cX5_isOver 11 = .ok (.iconst 1, 1) := by decide +kernel
theorem dX5_isOver_12 : decode cX5_isOver 12 = .ok (.if_icmp .eq 11, 3) := by decide +kernel
theorem dX5_isOver_15 : decode cX5_isOver 15 = .ok (.aload_n 0, 1) := by decide +kernel
theorem dX5_isOver_16 : decode cX5_isOver 16 = .ok (.getfield 24, 3) := by decide +kernel
theorem dX5_isOver_19 : decode cX5_isOver 19 = .ok (.iconst 3, 1) := by decide +kernel
theorem dX5_isOver_20 : decode cX5_isOver 20 = .ok (.if_icmp .ne 7, 3) := by decide +kernel
theorem dX5_isOver_23 : decode cX5_isOver 23 = .ok (.iconst 1, 1) := by decide +kernel
theorem dX5_isOver_24 : decode cX5_isOver 24 = .ok (.goto 4, 3) := by decide +kernel
theorem dX5_isOver_27 : decode cX5_isOver 27 = .ok (.iconst 0, 1) := by decide +kernel
theorem dX5_isOver_28 : decode cX5_isOver 28 = .ok (.ireturn, 1) := by decide +kernel
theorem dX5_weigh_0 : decode cX5_weigh 0 = .ok (.aload_n 0, 1) := by decide +kernel
theorem dX5_weigh_1 : decode cX5_weigh 1 = .ok (.dup, 1) := by decide +kernel
theorem dX5_weigh_2 : decode cX5_weigh 2 = .ok (.getfield 37, 3) := by decide +kernel
theorem dX5_weigh_5 : decode cX5_weigh 5 = .ok (.iconst 1, 1) := by decide +kernel
theorem dX5_weigh_6 : decode cX5_weigh 6 = .ok (.iadd, 1) := by decide +kernel
theorem dX5_weigh_7 : decode cX5_weigh 7 = .ok (.putfield 37, 3) := by decide +kernel
theorem dX5_weigh_10 : decode cX5_weigh 10 = .ok (.aload_n 0, 1) := by decide +kernel
theorem dX5_weigh_11 : decode cX5_weigh 11 = .ok (.dup, 1) := by decide +kernel
theorem dX5_weigh_12 : decode cX5_weigh 12 = .ok (.getfield 43, 3) := by decide +kernel
theorem dX5_weigh_15 : decode cX5_weigh 15 = .ok (.aload_n 1, 1) := by decide +kernel
theorem dX5_weigh_16 : decode cX5_weigh 16 = .ok (.getfield 93, 3) := by decide +kernel
theorem dX5_weigh_19 : decode cX5_weigh 19 = .ok (.ior, 1) := by decide +kernel
theorem dX5_weigh_20 : decode cX5_weigh 20 = .ok (.putfield 43, 3) := by decide +kernel
theorem dX5_weigh_23 : decode cX5_weigh 23 = .ok (.aload_n 0, 1) := by decide +kernel
theorem dX5_weigh_24 : decode cX5_weigh 24 = .ok (.dup, 1) := by decide +kernel
theorem dX5_weigh_25 : decode cX5_weigh 25 = .ok (.getfield 40, 3) := by decide +kernel
theorem dX5_weigh_28 : decode cX5_weigh 28 = .ok (.aload_n 1, 1) := by decide +kernel
theorem dX5_weigh_29 : decode cX5_weigh 29 = .ok (.aload_n 0, 1) := by decide +kernel
theorem dX5_weigh_30 : decode cX5_weigh 30 = .ok (.getfield 28, 3) := by decide +kernel
theorem dX5_weigh_33 : decode cX5_weigh 33 = .ok (.invokevirtual 96, 3) := by decide +kernel
theorem dX5_weigh_36 : decode cX5_weigh 36 = .ok (.ifCond .eq 7, 3) := by decide +kernel
theorem dX5_weigh_39 : decode cX5_weigh 39 = .ok (.iconst 1, 1) := by decide +kernel
theorem dX5_weigh_40 : decode cX5_weigh 40 = .ok (.goto 4, 3) := by decide +kernel
theorem dX5_weigh_43 : decode cX5_weigh 43 = .ok (.iconst 0, 1) := by decide +kernel
theorem dX5_weigh_44 : decode cX5_weigh 44 = .ok (.iadd, 1) := by decide +kernel
theorem dX5_weigh_45 : decode cX5_weigh 45 = .ok (.putfield 40, 3) := by decide +kernel
theorem dX5_weigh_48 : decode cX5_weigh 48 = .ok (.aload_n 0, 1) := by decide +kernel
theorem dX5_weigh_49 : decode cX5_weigh 49 = .ok (.aload_n 1, 1) := by decide +kernel
theorem dX5_weigh_50 : decode cX5_weigh 50 = .ok (.invokevirtual 99, 3) := by decide +kernel
theorem dX5_weigh_53 : decode cX5_weigh 53 = .ok (.istore_n 2, 1) := by decide +kernel
theorem dX5_weigh_54 : decode cX5_weigh 54 = .ok (.iload_n 2, 1) := by decide +kernel
theorem dX5_weigh_55 : decode cX5_weigh 55 = .ok (.aload_n 0, 1) := by decide +kernel
theorem dX5_weigh_56 : decode cX5_weigh 56 = .ok (.getfield 34, 3) := by decide +kernel
theorem dX5_weigh_59 : decode cX5_weigh 59 = .ok (.if_icmp .le 22, 3) := by decide +kernel
theorem dX5_weigh_62 : decode cX5_weigh 62 = .ok (.aload_n 0, 1) := by decide +kernel
theorem dX5_weigh_63 : decode cX5_weigh 63 = .ok (.iload_n 2, 1) := by decide +kernel
theorem dX5_weigh_64 : decode cX5_weigh 64 = .ok (.putfield 34, 3) := by decide +kernel
theorem dX5_weigh_67 : decode cX5_weigh 67 = .ok (.aload_n 0, 1) := by decide +kernel
theorem dX5_weigh_68 : decode cX5_weigh 68 = .ok (.getfield 17, 3) := by decide +kernel
theorem dX5_weigh_71 : decode cX5_weigh 71 = .ok (.iconst 0, 1) := by decide +kernel
theorem dX5_weigh_72 : decode cX5_weigh 72 = .ok (.aload_n 0, 1) := by decide +kernel
theorem dX5_weigh_73 : decode cX5_weigh 73 = .ok (.getfield 21, 3) := by decide +kernel
theorem dX5_weigh_76 : decode cX5_weigh 76 = .ok (.iconst 0, 1) := by decide +kernel
theorem dX5_weigh_77 : decode cX5_weigh 77 = .ok (.iconst 4, 1) := by decide +kernel
theorem dX5_weigh_78 : decode cX5_weigh 78 = .ok (.invokestatic 103, 3) := by decide +kernel
theorem dX5_weigh_81 : decode cX5_weigh 81 = .ok (.return_, 1) := by decide +kernel
theorem dX5_rankOf_0 : decode cX5_rankOf 0 = .ok (.aload_n 0, 1) := by decide +kernel
theorem dX5_rankOf_1 : decode cX5_rankOf 1 = .ok (.getfield 24, 3) := by decide +kernel
theorem dX5_rankOf_4 : decode cX5_rankOf 4 = .ok (.tableswitch 63 1 3 #[28, 45, 50], 28) := by decide +kernel
theorem dX5_rankOf_32 : decode cX5_rankOf 32 = .ok (.aload_n 1, 1) := by decide +kernel
theorem dX5_rankOf_33 : decode cX5_rankOf 33 = .ok (.aload_n 0, 1) := by decide +kernel
theorem dX5_rankOf_34 : decode cX5_rankOf 34 = .ok (.getfield 28, 3) := by decide +kernel
theorem dX5_rankOf_37 : decode cX5_rankOf 37 = .ok (.invokevirtual 96, 3) := by decide +kernel
theorem dX5_rankOf_40 : decode cX5_rankOf 40 = .ok (.ifCond .eq 7, 3) := by decide +kernel
theorem dX5_rankOf_43 : decode cX5_rankOf 43 = .ok (.iconst 0, 1) := by decide +kernel
theorem dX5_rankOf_44 : decode cX5_rankOf 44 = .ok (.goto 4, 3) := by decide +kernel
theorem dX5_rankOf_47 : decode cX5_rankOf 47 = .ok (.iconst (-1), 1) := by decide +kernel
theorem dX5_rankOf_48 : decode cX5_rankOf 48 = .ok (.ireturn, 1) := by decide +kernel
theorem dX5_rankOf_49 : decode cX5_rankOf 49 = .ok (.aload_n 1, 1) := by decide +kernel
theorem dX5_rankOf_50 : decode cX5_rankOf 50 = .ok (.invokevirtual 109, 3) := by decide +kernel
theorem dX5_rankOf_53 : decode cX5_rankOf 53 = .ok (.ireturn, 1) := by decide +kernel
theorem dX5_rankOf_54 : decode cX5_rankOf 54 = .ok (.aload_n 1, 1) := by decide +kernel
theorem dX5_rankOf_55 : decode cX5_rankOf 55 = .ok (.invokevirtual 84, 3) := by decide +kernel
theorem dX5_rankOf_58 : decode cX5_rankOf 58 = .ok (.ifCond .eq 7, 3) := by decide +kernel
theorem dX5_rankOf_61 : decode cX5_rankOf 61 = .ok (.iconst 0, 1) := by decide +kernel
theorem dX5_rankOf_62 : decode cX5_rankOf 62 = .ok (.goto 4, 3) := by decide +kernel
theorem dX5_rankOf_65 : decode cX5_rankOf 65 = .ok (.iconst (-1), 1) := by decide +kernel
theorem dX5_rankOf_66 : decode cX5_rankOf 66 = .ok (.ireturn, 1) := by decide +kernel
theorem dX5_rankOf_67 : decode cX5_rankOf 67 = .ok (.iconst (-1), 1) := by decide +kernel
theorem dX5_rankOf_68 : decode cX5_rankOf 68 = .ok (.ireturn, 1) := by decide +kernel
theorem dX6_init_0 : decode cX6_init 0 = .ok (.aload_n 0, 1) := by decide +kernel
theorem dX6_init_1 : decode cX6_init 1 = .ok (.invokespecial 3, 3) := by decide +kernel
theorem dX6_init_4 : decode cX6_init 4 = .ok (.return_, 1) := by decide +kernel
theorem dX6_read_0 : decode cX6_read 0 = .ok (.aload_n 2, 1) := by decide +kernel
theorem dX6_read_1 : decode cX6_read 1 = .ok (.invokevirtual 9, 3) := by decide +kernel
theorem dX6_read_4 : decode cX6_read 4 = .ok (.aload_n 3, 1) := by decide +kernel
theorem dX6_read_5 : decode cX6_read 5 = .ok (.invokevirtual 14, 3) := by decide +kernel
theorem dX6_read_8 : decode cX6_read 8 = .ok (.aload_n 1, 1) := by decide +kernel
theorem dX6_read_9 : decode cX6_read 9 = .ok (.iconst 0, 1) := by decide +kernel
theorem dX6_read_10 : decode cX6_read 10 = .ok (.invokestatic 17, 3) := by decide +kernel
theorem dX6_read_13 : decode cX6_read 13 = .ok (.istore 4, 2) := by decide +kernel
theorem dX6_read_15 : decode cX6_read 15 = .ok (.aload_n 1, 1) := by decide +kernel
theorem dX6_read_16 : decode cX6_read 16 = .ok (.iload 4, 2) := by decide +kernel
theorem dX6_read_18 : decode cX6_read 18 = .ok (.invokevirtual 23, 3) := by decide +kernel
theorem dX6_read_21 : decode cX6_read 21 = .ok (.bipush 118, 2) := by decide +kernel
theorem dX6_read_23 : decode cX6_read 23 = .ok (.if_icmp .eq 6, 3) := by decide +kernel
theorem dX6_read_26 : decode cX6_read 26 = .ok (.iload 4, 2) := by decide +kernel
theorem dX6_read_28 : decode cX6_read 28 = .ok (.ireturn, 1) := by decide +kernel
theorem dX6_read_29 : decode cX6_read 29 = .ok (.aload_n 1, 1) := by decide +kernel
theorem dX6_read_30 : decode cX6_read 30 = .ok (.iload 4, 2) := by decide +kernel
theorem dX6_read_32 : decode cX6_read 32 = .ok (.iconst 1, 1) := by decide +kernel
theorem dX6_read_33 : decode cX6_read 33 = .ok (.iadd, 1) := by decide +kernel
theorem dX6_read_34 : decode cX6_read 34 = .ok (.aload_n 2, 1) := by decide +kernel
theorem dX6_read_35 : decode cX6_read 35 = .ok (.invokestatic 29, 3) := by decide +kernel
theorem dX6_read_38 : decode cX6_read 38 = .ok (.istore 4, 2) := by decide +kernel
theorem dX6_read_40 : decode cX6_read 40 = .ok (.aload_n 2, 1) := by decide +kernel
theorem dX6_read_41 : decode cX6_read 41 = .ok (.invokevirtual 33, 3) := by decide +kernel
theorem dX6_read_44 : decode cX6_read 44 = .ok (.ifCond .ne 6, 3) := by decide +kernel
theorem dX6_read_47 : decode cX6_read 47 = .ok (.iload 4, 2) := by decide +kernel
theorem dX6_read_49 : decode cX6_read 49 = .ok (.ireturn, 1) := by decide +kernel
theorem dX6_read_50 : decode cX6_read 50 = .ok (.aload_n 1, 1) := by decide +kernel
theorem dX6_read_51 : decode cX6_read 51 = .ok (.iload 4, 2) := by decide +kernel
theorem dX6_read_53 : decode cX6_read 53 = .ok (.invokestatic 17, 3) := by decide +kernel
theorem dX6_read_56 : decode cX6_read 56 = .ok (.istore 4, 2) := by decide +kernel
theorem dX6_read_58 : decode cX6_read 58 = .ok (.iconst 0, 1) := by decide +kernel
theorem dX6_read_59 : decode cX6_read 59 = .ok (.istore 5, 2) := by decide +kernel
theorem dX6_read_61 : decode cX6_read 61 = .ok (.iload 5, 2) := by decide +kernel
theorem dX6_read_63 : decode cX6_read 63 = .ok (.iconst 5, 1) := by decide +kernel
theorem dX6_read_64 : decode cX6_read 64 = .ok (.if_icmp .ge 54, 3) := by decide +kernel
theorem dX6_read_67 : decode cX6_read 67 = .ok (.aload_n 1, 1) := by decide +kernel
theorem dX6_read_68 : decode cX6_read 68 = .ok (.iload 4, 2) := by decide +kernel
theorem dX6_read_70 : decode cX6_read 70 = .ok (.invokevirtual 37, 3) := by decide +kernel
theorem dX6_read_73 : decode cX6_read 73 = .ok (.ifCond .eq 45, 3) := by decide +kernel
theorem dX6_read_76 : decode cX6_read 76 = .ok (.aload_n 1, 1) := by decide +kernel
theorem dX6_read_77 : decode cX6_read 77 = .ok (.iload 4, 2) := by decide +kernel
theorem dX6_read_79 : decode cX6_read 79 = .ok (.invokestatic 41, 3) := by decide +kernel
theorem dX6_read_82 : decode cX6_read 82 = .ok (.istore 6, 2) := by decide +kernel
theorem dX6_read_84 : decode cX6_read 84 = .ok (.iload 6, 2) := by decide +kernel
theorem dX6_read_86 : decode cX6_read 86 = .ok (.bipush (-9), 2) := by decide +kernel
theorem dX6_read_88 : decode cX6_read 88 = .ok (.if_icmp .eq 6, 3) := by decide +kernel
theorem dX6_read_91 : decode cX6_read 91 = .ok (.iload 6, 2) := by decide +kernel
theorem dX6_read_93 : decode cX6_read 93 = .ok (.ireturn, 1) := by decide +kernel
theorem dX6_read_94 : decode cX6_read 94 = .ok (.aload_n 1, 1) := by decide +kernel
theorem dX6_read_95 : decode cX6_read 95 = .ok (.iload 4, 2) := by decide +kernel
theorem dX6_read_97 : decode cX6_read 97 = .ok (.aload_n 2, 1) := by decide +kernel
theorem dX6_read_98 : decode cX6_read 98 = .ok (.aload_n 3, 1) := by decide +kernel
theorem dX6_read_99 : decode cX6_read 99 = .ok (.invokestatic 44, 3) := by decide +kernel
theorem dX6_read_102 : decode cX6_read 102 = .ok (.aload_n 1, 1) := by decide +kernel
theorem dX6_read_103 : decode cX6_read 103 = .ok (.iload 4, 2) := by decide +kernel
theorem dX6_read_105 : decode cX6_read 105 = .ok (.iconst 4, 1) := by decide +kernel
theorem dX6_read_106 : decode cX6_read 106 = .ok (.iadd, 1) := by decide +kernel
theorem dX6_read_107 : decode cX6_read 107 = .ok (.invokestatic 17, 3) := by decide +kernel
theorem dX6_read_110 : decode cX6_read 110 = .ok (.istore 4, 2) := by decide +kernel
theorem dX6_read_112 : decode cX6_read 112 = .ok (.iinc 5 1, 3) := by decide +kernel
theorem dX6_read_115 : decode cX6_read 115 = .ok (.goto (-54), 3) := by decide +kernel
theorem dX6_read_118 : decode cX6_read 118 = .ok (.aload_n 1, 1) := by decide +kernel
theorem dX6_read_119 : decode cX6_read 119 = .ok (.iload 4, 2) := by decide +kernel
theorem dX6_read_121 : decode cX6_read 121 = .ok (.invokevirtual 37, 3) := by decide +kernel
theorem dX6_read_124 : decode cX6_read 124 = .ok (.ifCond .ne 10, 3) := by decide +kernel
theorem dX6_read_127 : decode cX6_read 127 = .ok (.aload_n 2, 1) := by decide +kernel
theorem dX6_read_128 : decode cX6_read 128 = .ok (.invokevirtual 48, 3) := by decide +kernel
theorem dX6_read_131 : decode cX6_read 131 = .ok (.ifCond .eq 8, 3) := by decide +kernel
theorem dX6_read_134 : decode cX6_read 134 = .ok (.iload 4, 2) := by decide +kernel
theorem dX6_read_136 : decode cX6_read 136 = .ok (.goto 5, 3) := by decide +kernel
theorem dX6_read_139 : decode cX6_read 139 = .ok (.bipush (-9), 2) := by decide +kernel
theorem dX6_read_141 : decode cX6_read 141 = .ok (.ireturn, 1) := by decide +kernel
theorem dX6_skipBlanks_0 : decode cX6_skipBlanks 0 = .ok (.iload_n 1, 1) := by decide +kernel
theorem dX6_skipBlanks_1 : decode cX6_skipBlanks 1 = .ok (.istore_n 2, 1) := by decide +kernel
theorem dX6_skipBlanks_2 : decode cX6_skipBlanks 2 = .ok (.iload_n 2, 1) := by decide +kernel
theorem dX6_skipBlanks_3 : decode cX6_skipBlanks 3 = .ok (.aload_n 0, 1) := by decide +kernel
theorem dX6_skipBlanks_4 : decode cX6_skipBlanks 4 = .ok (.getfield 51, 3) := by decide +kernel
theorem dX6_skipBlanks_7 : decode cX6_skipBlanks 7 = .ok (.if_icmp .ge 19, 3) := by decide +kernel
theorem dX6_skipBlanks_10 : decode cX6_skipBlanks 10 = .ok (.aload_n 0, 1) := by decide +kernel
theorem dX6_skipBlanks_11 : decode cX6_skipBlanks 11 = .ok (.iload_n 2, 1) := by decide +kernel
theorem dX6_skipBlanks_12 : decode cX6_skipBlanks 12 = .ok (.invokevirtual 23, 3) := by decide +kernel
theorem dX6_skipBlanks_15 : decode cX6_skipBlanks 15 = .ok (.bipush 32, 2) := by decide +kernel
theorem dX6_skipBlanks_17 : decode cX6_skipBlanks 17 = .ok (.if_icmp .ne 9, 3) := by decide +kernel
theorem dX6_skipBlanks_20 : decode cX6_skipBlanks 20 = .ok (.iinc 2 1, 3) := by decide +kernel
theorem dX6_skipBlanks_23 : decode cX6_skipBlanks 23 = .ok (.goto (-21), 3) := by decide +kernel
theorem dX6_skipBlanks_26 : decode cX6_skipBlanks 26 = .ok (.iload_n 2, 1) := by decide +kernel
theorem dX6_skipBlanks_27 : decode cX6_skipBlanks 27 = .ok (.ireturn, 1) := by decide +kernel
theorem dX6_readWinds_0 : decode cX6_readWinds 0 = .ok (.iload_n 1, 1) := by decide +kernel
theorem dX6_readWinds_1 : decode cX6_readWinds 1 = .ok (.istore_n 3, 1) := by decide +kernel
theorem dX6_readWinds_2 : decode cX6_readWinds 2 = .ok (.iload_n 3, 1) := by decide +kernel
theorem dX6_readWinds_3 : decode cX6_readWinds 3 = .ok (.aload_n 0, 1) := by decide +kernel
theorem dX6_readWinds_4 : decode cX6_readWinds 4 = .ok (.getfield 51, 3) := by decide +kernel
theorem dX6_readWinds_7 : decode cX6_readWinds 7 = .ok (.if_icmp .ge 40, 3) := by decide +kernel
theorem dX6_readWinds_10 : decode cX6_readWinds 10 = .ok (.aload_n 2, 1) := by decide +kernel
theorem dX6_readWinds_11 : decode cX6_readWinds 11 = .ok (.invokevirtual 55, 3) := by decide +kernel
theorem dX6_readWinds_14 : decode cX6_readWinds 14 = .ok (.ifCond .ne 33, 3) := by decide +kernel
theorem dX6_readWinds_17 : decode cX6_readWinds 17 = .ok (.aload_n 0, 1) := by decide +kernel
theorem dX6_readWinds_18 : decode cX6_readWinds 18 = .ok (.iload_n 3, 1) := by decide +kernel
theorem dX6_readWinds_19 : decode cX6_readWinds 19 = .ok (.invokevirtual 23, 3) := by decide +kernel
theorem dX6_readWinds_22 : decode cX6_readWinds 22 = .ok (.iconst 2, 1) := by decide +kernel
theorem dX6_readWinds_23 : decode cX6_readWinds 23 = .ok (.invokestatic 58, 3) := by decide +kernel
theorem dX6_readWinds_26 : decode cX6_readWinds 26 = .ok (.ifCond .eq 21, 3) := by decide +kernel
theorem dX6_readWinds_29 : decode cX6_readWinds 29 = .ok (.aload_n 2, 1) := by decide +kernel
theorem dX6_readWinds_30 : decode cX6_readWinds 30 = .ok (.aload_n 0, 1) := by decide +kernel
theorem dX6_readWinds_31 : decode cX6_readWinds 31 = .ok (.iload_n 3, 1) := by decide +kernel
theorem dX6_readWinds_32 : decode cX6_readWinds 32 = .ok (.invokevirtual 23, 3) := by decide +kernel
theorem dX6_readWinds_35 : decode cX6_readWinds 35 = .ok (.bipush 48, 2) := by decide +kernel
theorem dX6_readWinds_37 : decode cX6_readWinds 37 = .ok (.isub, 1) := by decide +kernel
theorem dX6_readWinds_38 : decode cX6_readWinds 38 = .ok (.invokevirtual 62, 3) := by decide +kernel
theorem dX6_readWinds_41 : decode cX6_readWinds 41 = .ok (.iinc 3 1, 3) := by decide +kernel
theorem dX6_readWinds_44 : decode cX6_readWinds 44 = .ok (.goto (-42), 3) := by decide +kernel
theorem dX6_readWinds_47 : decode cX6_readWinds 47 = .ok (.iload_n 3, 1) := by decide +kernel
theorem dX6_readWinds_48 : decode cX6_readWinds 48 = .ok (.ireturn, 1) := by decide +kernel
theorem dX6_faultOfHouse_0 : decode cX6_faultOfHouse 0 = .ok (.aload_n 0, 1) := by decide +kernel
theorem dX6_faultOfHouse_1 : decode cX6_faultOfHouse 1 = .ok (.iload_n 1, 1) := by decide +kernel
theorem dX6_faultOfHouse_2 : decode cX6_faultOfHouse 2 = .ok (.invokevirtual 23, 3) := by decide +kernel
theorem dX6_faultOfHouse_5 : decode cX6_faultOfHouse 5 = .ok (.invokestatic 66, 3) := by decide +kernel
theorem dX6_faultOfHouse_8 : decode cX6_faultOfHouse 8 = .ok (.bipush (-9), 2) := by decide +kernel
theorem dX6_faultOfHouse_10 : decode cX6_faultOfHouse 10 = .ok (.if_icmp .ne 5, 3) := by decide +kernel
theorem dX6_faultOfHouse_13 : decode cX6_faultOfHouse 13 = .ok (.iload_n 1, 1) := by decide +kernel
theorem dX6_faultOfHouse_14 : decode cX6_faultOfHouse 14 = .ok (.ireturn, 1) := by decide +kernel
theorem dX6_faultOfHouse_15 : decode cX6_faultOfHouse 15 = .ok (.aload_n 0, 1) := by decide +kernel
theorem dX6_faultOfHouse_16 : decode cX6_faultOfHouse 16 = .ok (.iload_n 1, 1) := by decide +kernel
theorem dX6_faultOfHouse_17 : decode cX6_faultOfHouse 17 = .ok (.iconst 1, 1) := by decide +kernel
theorem dX6_faultOfHouse_18 : decode cX6_faultOfHouse 18 = .ok (.iadd, 1) := by decide +kernel
theorem dX6_faultOfHouse_19 : decode cX6_faultOfHouse 19 = .ok (.invokevirtual 23, 3) := by decide +kernel
theorem dX6_faultOfHouse_22 : decode cX6_faultOfHouse 22 = .ok (.bipush 9, 2) := by decide +kernel
theorem dX6_faultOfHouse_24 : decode cX6_faultOfHouse 24 = .ok (.invokestatic 58, 3) := by decide +kernel
theorem dX6_faultOfHouse_27 : decode cX6_faultOfHouse 27 = .ok (.ifCond .ne 7, 3) := by decide +kernel
theorem dX6_faultOfHouse_30 : decode cX6_faultOfHouse 30 = .ok (.iload_n 1, 1) := by decide +kernel
theorem dX6_faultOfHouse_31 : decode cX6_faultOfHouse 31 = .ok (.iconst 1, 1) := by decide +kernel
theorem dX6_faultOfHouse_32 : decode cX6_faultOfHouse 32 = .ok (.iadd, 1) := by decide +kernel
theorem dX6_faultOfHouse_33 : decode cX6_faultOfHouse 33 = .ok (.ireturn, 1) := by decide +kernel
theorem dX6_faultOfHouse_34 : decode cX6_faultOfHouse 34 = .ok (.aload_n 0, 1) := by decide +kernel
theorem dX6_faultOfHouse_35 : decode cX6_faultOfHouse 35 = .ok (.iload_n 1, 1) := by decide +kernel
theorem dX6_faultOfHouse_36 : decode cX6_faultOfHouse 36 = .ok (.iconst 2, 1) := by decide +kernel
theorem dX6_faultOfHouse_37 : decode cX6_faultOfHouse 37 = .ok (.iadd, 1) := by decide +kernel
theorem dX6_faultOfHouse_38 : decode cX6_faultOfHouse 38 = .ok (.invokevirtual 23, 3) := by decide +kernel
theorem dX6_faultOfHouse_41 : decode cX6_faultOfHouse 41 = .ok (.iconst 3, 1) := by decide +kernel
theorem dX6_faultOfHouse_42 : decode cX6_faultOfHouse 42 = .ok (.invokestatic 58, 3) := by decide +kernel
theorem dX6_faultOfHouse_45 : decode cX6_faultOfHouse 45 = .ok (.ifCond .ne 7, 3) := by decide +kernel
theorem dX6_faultOfHouse_48 : decode cX6_faultOfHouse 48 = .ok (.iload_n 1, 1) := by decide +kernel
theorem dX6_faultOfHouse_49 : decode cX6_faultOfHouse 49 = .ok (.iconst 2, 1) := by decide +kernel
theorem dX6_faultOfHouse_50 : decode cX6_faultOfHouse 50 = .ok (.iadd, 1) := by decide +kernel
theorem dX6_faultOfHouse_51 : decode cX6_faultOfHouse 51 = .ok (.ireturn, 1) := by decide +kernel
theorem dX6_faultOfHouse_52 : decode cX6_faultOfHouse 52 = .ok (.aload_n 0, 1) := by decide +kernel
theorem dX6_faultOfHouse_53 : decode cX6_faultOfHouse 53 = .ok (.iload_n 1, 1) := by decide +kernel
theorem dX6_faultOfHouse_54 : decode cX6_faultOfHouse 54 = .ok (.iconst 3, 1) := by decide +kernel
theorem dX6_faultOfHouse_55 : decode cX6_faultOfHouse 55 = .ok (.iadd, 1) := by decide +kernel
theorem dX6_faultOfHouse_56 : decode cX6_faultOfHouse 56 = .ok (.invokevirtual 23, 3) := by decide +kernel
theorem dX6_faultOfHouse_59 : decode cX6_faultOfHouse 59 = .ok (.bipush 45, 2) := by decide +kernel
theorem dX6_faultOfHouse_61 : decode cX6_faultOfHouse 61 = .ok (.if_icmp .eq 22, 3) := by decide +kernel
theorem dX6_faultOfHouse_64 : decode cX6_faultOfHouse 64 = .ok (.aload_n 0, 1) := by decide +kernel
theorem dX6_faultOfHouse_65 : decode cX6_faultOfHouse 65 = .ok (.iload_n 1, 1) := by decide +kernel
theorem dX6_faultOfHouse_66 : decode cX6_faultOfHouse 66 = .ok (.iconst 3, 1) := by decide +kernel
theorem dX6_faultOfHouse_67 : decode cX6_faultOfHouse 67 = .ok (.iadd, 1) := by decide +kernel
theorem dX6_faultOfHouse_68 : decode cX6_faultOfHouse 68 = .ok (.invokevirtual 23, 3) := by decide +kernel
theorem dX6_faultOfHouse_71 : decode cX6_faultOfHouse 71 = .ok (.bipush 9, 2) := by decide +kernel
theorem dX6_faultOfHouse_73 : decode cX6_faultOfHouse 73 = .ok (.invokestatic 58, 3) := by decide +kernel
theorem dX6_faultOfHouse_76 : decode cX6_faultOfHouse 76 = .ok (.ifCond .ne 7, 3) := by decide +kernel
theorem dX6_faultOfHouse_79 : decode cX6_faultOfHouse 79 = .ok (.iload_n 1, 1) := by decide +kernel
theorem dX6_faultOfHouse_80 : decode cX6_faultOfHouse 80 = .ok (.iconst 3, 1) := by decide +kernel
theorem dX6_faultOfHouse_81 : decode cX6_faultOfHouse 81 = .ok (.iadd, 1) := by decide +kernel
theorem dX6_faultOfHouse_82 : decode cX6_faultOfHouse 82 = .ok (.ireturn, 1) := by decide +kernel
theorem dX6_faultOfHouse_83 : decode cX6_faultOfHouse 83 = .ok (.bipush (-9), 2) := by decide +kernel
theorem dX6_faultOfHouse_85 : decode cX6_faultOfHouse 85 = .ok (.ireturn, 1) := by decide +kernel
theorem dX6_addHouse_0 : decode cX6_addHouse 0 = .ok (.aload_n 0, 1) := by decide +kernel
theorem dX6_addHouse_1 : decode cX6_addHouse 1 = .ok (.iload_n 1, 1) := by decide +kernel
theorem dX6_addHouse_2 : decode cX6_addHouse 2 = .ok (.iconst 3, 1) := by decide +kernel
theorem dX6_addHouse_3 : decode cX6_addHouse 3 = .ok (.iadd, 1) := by decide +kernel
theorem dX6_addHouse_4 : decode cX6_addHouse 4 = .ok (.invokevirtual 23, 3) := by decide +kernel
theorem dX6_addHouse_7 : decode cX6_addHouse 7 = .ok (.istore 4, 2) := by decide +kernel
theorem dX6_addHouse_9 : decode cX6_addHouse 9 = .ok (.aload_n 3, 1) := by decide +kernel
theorem dX6_addHouse_10 : decode cX6_addHouse 10 = .ok (.aload_n 2, 1) := by decide +kernel
theorem dX6_addHouse_11 : decode cX6_addHouse 11 = .ok (.getfield 71, 3) := by decide +kernel
theorem dX6_addHouse_14 : decode cX6_addHouse 14 = .ok (.aload_n 0, 1) := by decide +kernel
theorem dX6_addHouse_15 : decode cX6_addHouse 15 = .ok (.iload_n 1, 1) := by decide +kernel
theorem dX6_addHouse_16 : decode cX6_addHouse 16 = .ok (.iconst 1, 1) := by decide +kernel
theorem dX6_addHouse_17 : decode cX6_addHouse 17 = .ok (.iadd, 1) := by decide +kernel
theorem dX6_addHouse_18 : decode cX6_addHouse 18 = .ok (.invokevirtual 23, 3) := by decide +kernel
theorem dX6_addHouse_21 : decode cX6_addHouse 21 = .ok (.bipush 48, 2) := by decide +kernel
theorem dX6_addHouse_23 : decode cX6_addHouse 23 = .ok (.isub, 1) := by decide +kernel
theorem dX6_addHouse_24 : decode cX6_addHouse 24 = .ok (.aload_n 0, 1) := by decide +kernel
theorem dX6_addHouse_25 : decode cX6_addHouse 25 = .ok (.iload_n 1, 1) := by decide +kernel
theorem dX6_addHouse_26 : decode cX6_addHouse 26 = .ok (.iconst 2, 1) := by decide +kernel
theorem dX6_addHouse_27 : decode cX6_addHouse 27 = .ok (.iadd, 1) := by decide +kernel
theorem dX6_addHouse_28 : decode cX6_addHouse 28 = .ok (.invokevirtual 23, 3) := by decide +kernel
theorem dX6_addHouse_31 : decode cX6_addHouse 31 = .ok (.bipush 48, 2) := by decide +kernel
theorem dX6_addHouse_33 : decode cX6_addHouse 33 = .ok (.isub, 1) := by decide +kernel
theorem dX6_addHouse_34 : decode cX6_addHouse 34 = .ok (.invokevirtual 74, 3) := by decide +kernel
theorem dX6_addHouse_37 : decode cX6_addHouse 37 = .ok (.aload_n 2, 1) := by decide +kernel
theorem dX6_addHouse_38 : decode cX6_addHouse 38 = .ok (.aload_n 0, 1) := by decide +kernel
theorem dX6_addHouse_39 : decode cX6_addHouse 39 = .ok (.iload_n 1, 1) := by decide +kernel
theorem dX6_addHouse_40 : decode cX6_addHouse 40 = .ok (.invokevirtual 23, 3) := by decide +kernel
theorem dX6_addHouse_43 : decode cX6_addHouse 43 = .ok (.invokestatic 66, 3) := by decide +kernel
theorem dX6_addHouse_46 : decode cX6_addHouse 46 = .ok (.iload 4, 2) := by decide +kernel
theorem dX6_addHouse_48 : decode cX6_addHouse 48 = .ok (.bipush 45, 2) := by decide +kernel
theorem dX6_addHouse_50 : decode cX6_addHouse 50 = .ok (.if_icmp .ne 8, 3) := by decide +kernel
theorem dX6_addHouse_53 : decode cX6_addHouse 53 = .ok (.bipush (-9), 2) := by decide +kernel
theorem dX6_addHouse_55 : decode cX6_addHouse 55 = .ok (.goto 8, 3) := by decide +kernel
theorem dX6_addHouse_58 : decode cX6_addHouse 58 = .ok (.iload 4, 2) := by decide +kernel
theorem dX6_addHouse_60 : decode cX6_addHouse 60 = .ok (.bipush 48, 2) := by decide +kernel
theorem dX6_addHouse_62 : decode cX6_addHouse 62 = .ok (.isub, 1) := by decide +kernel
theorem dX6_addHouse_63 : decode cX6_addHouse 63 = .ok (.invokevirtual 78, 3) := by decide +kernel
theorem dX6_addHouse_66 : decode cX6_addHouse 66 = .ok (.return_, 1) := by decide +kernel
theorem dX6_isFigure_0 : decode cX6_isFigure 0 = .ok (.iload_n 0, 1) := by decide +kernel
theorem dX6_isFigure_1 : decode cX6_isFigure 1 = .ok (.bipush 48, 2) := by decide +kernel
theorem dX6_isFigure_3 : decode cX6_isFigure 3 = .ok (.if_icmp .lt 15, 3) := by decide +kernel
theorem dX6_isFigure_6 : decode cX6_isFigure 6 = .ok (.iload_n 0, 1) := by decide +kernel
theorem dX6_isFigure_7 : decode cX6_isFigure 7 = .ok (.bipush 48, 2) := by decide +kernel
theorem dX6_isFigure_9 : decode cX6_isFigure 9 = .ok (.iload_n 1, 1) := by decide +kernel
theorem dX6_isFigure_10 : decode cX6_isFigure 10 = .ok (.iadd, 1) := by decide +kernel
theorem dX6_isFigure_11 : decode cX6_isFigure 11 = .ok (.if_icmp .gt 7, 3) := by decide +kernel
theorem dX6_isFigure_14 : decode cX6_isFigure 14 = .ok (.iconst 1, 1) := by decide +kernel
theorem dX6_isFigure_15 : decode cX6_isFigure 15 = .ok (.goto 4, 3) := by decide +kernel
theorem dX6_isFigure_18 : decode cX6_isFigure 18 = .ok (.iconst 0, 1) := by decide +kernel
theorem dX6_isFigure_19 : decode cX6_isFigure 19 = .ok (.ireturn, 1) := by decide +kernel
theorem dX7_init_0 : decode cX7_init 0 = .ok (.aload_n 0, 1) := by decide +kernel
theorem dX7_init_1 : decode cX7_init 1 = .ok (.invokespecial 3, 3) := by decide +kernel
theorem dX7_init_4 : decode cX7_init 4 = .ok (.aload_n 0, 1) := by decide +kernel
theorem dX7_init_5 : decode cX7_init 5 = .ok (.bipush 40, 2) := by decide +kernel
theorem dX7_init_7 : decode cX7_init 7 = .ok (.newarray .int, 2) := by decide +kernel
theorem dX7_init_9 : decode cX7_init 9 = .ok (.putfield 9, 3) := by decide +kernel
theorem dX7_init_12 : decode cX7_init 12 = .ok (.aload_n 0, 1) := by decide +kernel
theorem dX7_init_13 : decode cX7_init 13 = .ok (.iconst (-1), 1) := by decide +kernel
theorem dX7_init_14 : decode cX7_init 14 = .ok (.putfield 15, 3) := by decide +kernel
theorem dX7_init_17 : decode cX7_init 17 = .ok (.return_, 1) := by decide +kernel
theorem dX7_isThere_0 : decode cX7_isThere 0 = .ok (.aload_n 0, 1) := by decide +kernel
theorem dX7_isThere_1 : decode cX7_isThere 1 = .ok (.getfield 15, 3) := by decide +kernel
theorem dX7_isThere_4 : decode cX7_isThere 4 = .ok (.ifCond .lt 7, 3) := by decide +kernel
theorem dX7_isThere_7 : decode cX7_isThere 7 = .ok (.iconst 1, 1) := by decide +kernel
theorem dX7_isThere_8 : decode cX7_isThere 8 = .ok (.goto 4, 3) := by decide +kernel
theorem dX7_isThere_11 : decode cX7_isThere 11 = .ok (.iconst 0, 1) := by decide +kernel
theorem dX7_isThere_12 : decode cX7_isThere 12 = .ok (.ireturn, 1) := by decide +kernel
theorem dX7_has_0 : decode cX7_has 0 = .ok (.iload_n 1, 1) := by decide +kernel
theorem dX7_has_1 : decode cX7_has 1 = .ok (.ifCond .lt 15, 3) := by decide +kernel
theorem dX7_has_4 : decode cX7_has 4 = .ok (.iload_n 1, 1) := by decide +kernel
theorem dX7_has_5 : decode cX7_has 5 = .ok (.aload_n 0, 1) := by decide +kernel
theorem dX7_has_6 : decode cX7_has 6 = .ok (.getfield 15, 3) := by decide +kernel
theorem dX7_has_9 : decode cX7_has 9 = .ok (.if_icmp .ge 7, 3) := by decide +kernel
theorem dX7_has_12 : decode cX7_has 12 = .ok (.iconst 1, 1) := by decide +kernel
theorem dX7_has_13 : decode cX7_has 13 = .ok (.goto 4, 3) := by decide +kernel
theorem dX7_has_16 : decode cX7_has 16 = .ok (.iconst 0, 1) := by decide +kernel
theorem dX7_has_17 : decode cX7_has 17 = .ok (.ireturn, 1) := by decide +kernel
theorem dX7_hasSpan_0 : decode cX7_hasSpan 0 = .ok (.iload_n 1, 1) := by decide +kernel
theorem dX7_hasSpan_1 : decode cX7_hasSpan 1 = .ok (.ifCond .lt 21, 3) := by decide +kernel
theorem dX7_hasSpan_4 : decode cX7_hasSpan 4 = .ok (.iload_n 2, 1) := by decide +kernel
theorem dX7_hasSpan_5 : decode cX7_hasSpan 5 = .ok (.ifCond .lt 17, 3) := by decide +kernel
theorem dX7_hasSpan_8 : decode cX7_hasSpan 8 = .ok (.iload_n 1, 1) := by decide +kernel
theorem dX7_hasSpan_9 : decode cX7_hasSpan 9 = .ok (.aload_n 0, 1) := by decide +kernel
theorem dX7_hasSpan_10 : decode cX7_hasSpan 10 = .ok (.getfield 15, 3) := by decide +kernel
theorem dX7_hasSpan_13 : decode cX7_hasSpan 13 = .ok (.iload_n 2, 1) := by decide +kernel
theorem dX7_hasSpan_14 : decode cX7_hasSpan 14 = .ok (.isub, 1) := by decide +kernel
theorem dX7_hasSpan_15 : decode cX7_hasSpan 15 = .ok (.if_icmp .gt 7, 3) := by decide +kernel
theorem dX7_hasSpan_18 : decode cX7_hasSpan 18 = .ok (.iconst 1, 1) := by decide +kernel
theorem dX7_hasSpan_19 : decode cX7_hasSpan 19 = .ok (.goto 4, 3) := by decide +kernel
theorem dX7_hasSpan_22 : decode cX7_hasSpan 22 = .ok (.iconst 0, 1) := by decide +kernel
theorem dX7_hasSpan_23 : decode cX7_hasSpan 23 = .ok (.ireturn, 1) := by decide +kernel
theorem dX7_begin_0 : decode cX7_begin 0 = .ok (.iload_n 1, 1) := by decide +kernel
theorem dX7_begin_1 : decode cX7_begin 1 = .ok (.ifCond .lt 9, 3) := by decide +kernel
theorem dX7_begin_4 : decode cX7_begin 4 = .ok (.iload_n 1, 1) := by decide +kernel
theorem dX7_begin_5 : decode cX7_begin 5 = .ok (.bipush 40, 2) := by decide +kernel
theorem dX7_begin_7 : decode cX7_begin 7 = .ok (.if_icmp .le 4, 3) := by decide +kernel
theorem dX7_begin_10 : decode cX7_begin 10 = .ok (.return_, 1) := by decide +kernel
theorem dX7_begin_11 : decode cX7_begin 11 = .ok (.aload_n 0, 1) := by decide +kernel
theorem dX7_begin_12 : decode cX7_begin 12 = .ok (.iload_n 1, 1) := by decide +kernel
theorem dX7_begin_13 : decode cX7_begin 13 = .ok (.putfield 15, 3) := by decide +kernel
theorem dX7_begin_16 : decode cX7_begin 16 = .ok (.iconst 0, 1) := by decide +kernel
theorem dX7_begin_17 : decode cX7_begin 17 = .ok (.istore_n 2, 1) := by decide +kernel
theorem dX7_begin_18 : decode cX7_begin 18 = .ok (.iload_n 2, 1) := by decide +kernel
theorem dX7_begin_19 : decode cX7_begin 19 = .ok (.iload_n 1, 1) := by decide +kernel
theorem dX7_begin_20 : decode cX7_begin 20 = .ok (.if_icmp .ge 16, 3) := by decide +kernel
theorem dX7_begin_23 : decode cX7_begin 23 = .ok (.aload_n 0, 1) := by decide +kernel
theorem dX7_begin_24 : decode cX7_begin 24 = .ok (.getfield 9, 3) := by decide +kernel
theorem dX7_begin_27 : decode cX7_begin 27 = .ok (.iload_n 2, 1) := by decide +kernel
theorem dX7_begin_28 : decode cX7_begin 28 = .ok (.iconst 0, 1) := by decide +kernel
theorem dX7_begin_29 : decode cX7_begin 29 = .ok (.iastore, 1) := by decide +kernel
theorem dX7_begin_30 : decode cX7_begin 30 = .ok (.iinc 2 1, 3) := by decide +kernel
theorem dX7_begin_33 : decode cX7_begin 33 = .ok (.goto (-15), 3) := by decide +kernel
theorem dX7_begin_36 : decode cX7_begin 36 = .ok (.return_, 1) := by decide +kernel
theorem dX7_end_0 : decode cX7_end 0 = .ok (.aload_n 0, 1) := by decide +kernel
theorem dX7_end_1 : decode cX7_end 1 = .ok (.iconst (-1), 1) := by decide +kernel
theorem dX7_end_2 : decode cX7_end 2 = .ok (.putfield 15, 3) := by decide +kernel
theorem dX7_end_5 : decode cX7_end 5 = .ok (.return_, 1) := by decide +kernel
theorem dX7_get_0 : decode cX7_get 0 = .ok (.aload_n 0, 1) := by decide +kernel
theorem dX7_get_1 : decode cX7_get 1 = .ok (.iload_n 1, 1) := by decide +kernel
theorem dX7_get_2 : decode cX7_get 2 = .ok (.invokevirtual 19, 3) := by decide +kernel
theorem dX7_get_5 : decode cX7_get 5 = .ok (.ifCond .eq 12, 3) := by decide +kernel
theorem dX7_get_8 : decode cX7_get 8 = .ok (.aload_n 0, 1) := by decide +kernel
theorem dX7_get_9 : decode cX7_get 9 = .ok (.getfield 9, 3) := by decide +kernel
theorem dX7_get_12 : decode cX7_get 12 = .ok (.iload_n 1, 1) := by decide +kernel
theorem dX7_get_13 : decode cX7_get 13 = .ok (.iaload, 1) := by decide +kernel
theorem dX7_get_14 : decode cX7_get 14 = .ok (.goto 4, 3) := by decide +kernel
theorem dX7_get_17 : decode cX7_get 17 = .ok (.iconst 0, 1) := by decide +kernel
theorem dX7_get_18 : decode cX7_get 18 = .ok (.ireturn, 1) := by decide +kernel
theorem dX7_set_0 : decode cX7_set 0 = .ok (.aload_n 0, 1) := by decide +kernel
theorem dX7_set_1 : decode cX7_set 1 = .ok (.iload_n 1, 1) := by decide +kernel
theorem dX7_set_2 : decode cX7_set 2 = .ok (.invokevirtual 19, 3) := by decide +kernel
theorem dX7_set_5 : decode cX7_set 5 = .ok (.ifCond .eq 10, 3) := by decide +kernel
theorem dX7_set_8 : decode cX7_set 8 = .ok (.aload_n 0, 1) := by decide +kernel
theorem dX7_set_9 : decode cX7_set 9 = .ok (.getfield 9, 3) := by decide +kernel
theorem dX7_set_12 : decode cX7_set 12 = .ok (.iload_n 1, 1) := by decide +kernel
theorem dX7_set_13 : decode cX7_set 13 = .ok (.iload_n 2, 1) := by decide +kernel
theorem dX7_set_14 : decode cX7_set 14 = .ok (.iastore, 1) := by decide +kernel
theorem dX7_set_15 : decode cX7_set 15 = .ok (.return_, 1) := by decide +kernel
theorem dX7_lacks_0 : decode cX7_lacks 0 = .ok (.aload_n 0, 1) := by decide +kernel
theorem dX7_lacks_1 : decode cX7_lacks 1 = .ok (.invokevirtual 23, 3) := by decide +kernel
theorem dX7_lacks_4 : decode cX7_lacks 4 = .ok (.ifCond .ne 5, 3) := by decide +kernel
theorem dX7_lacks_7 : decode cX7_lacks 7 = .ok (.iconst 1, 1) := by decide +kernel
theorem dX7_lacks_8 : decode cX7_lacks 8 = .ok (.ireturn, 1) := by decide +kernel
theorem dX7_lacks_9 : decode cX7_lacks 9 = .ok (.aload_n 0, 1) := by decide +kernel
theorem dX7_lacks_10 : decode cX7_lacks 10 = .ok (.iload_n 1, 1) := by decide +kernel
theorem dX7_lacks_11 : decode cX7_lacks 11 = .ok (.invokevirtual 19, 3) := by decide +kernel
theorem dX7_lacks_14 : decode cX7_lacks 14 = .ok (.ifCond .eq 7, 3) := by decide +kernel
theorem dX7_lacks_17 : decode cX7_lacks 17 = .ok (.iconst 0, 1) := by decide +kernel
theorem dX7_lacks_18 : decode cX7_lacks 18 = .ok (.goto 4, 3) := by decide +kernel
theorem dX7_lacks_21 : decode cX7_lacks 21 = .ok (.iconst 2, 1) := by decide +kernel
theorem dX7_lacks_22 : decode cX7_lacks 22 = .ok (.ireturn, 1) := by decide +kernel
theorem dX7_lacksSizeOrRange_0 : decode cX7_lacksSizeOrRange 0 = .ok (.aload_n 0, 1) := by decide +kernel
theorem dX7_lacksSizeOrRange_1 : decode cX7_lacksSizeOrRange 1 = .ok (.invokevirtual 23, 3) := by decide +kernel
theorem dX7_lacksSizeOrRange_4 : decode cX7_lacksSizeOrRange 4 = .ok (.ifCond .ne 5, 3) := by decide +kernel
theorem dX7_lacksSizeOrRange_7 : decode cX7_lacksSizeOrRange 7 = .ok (.iconst 1, 1) := by decide +kernel
theorem dX7_lacksSizeOrRange_8 : decode cX7_lacksSizeOrRange 8 = .ok (.ireturn, 1) := by decide +kernel
theorem dX7_lacksSizeOrRange_9 : decode cX7_lacksSizeOrRange 9 = .ok (.aload_n 0, 1) := by decide +kernel
theorem dX7_lacksSizeOrRange_10 : decode cX7_lacksSizeOrRange 10 = .ok (.getfield 15, 3) := by decide +kernel
theorem dX7_lacksSizeOrRange_13 : decode cX7_lacksSizeOrRange 13 = .ok (.iload_n 1, 1) := by decide +kernel
theorem dX7_lacksSizeOrRange_14 : decode cX7_lacksSizeOrRange 14 = .ok (.if_icmp .lt 11, 3) := by decide +kernel
theorem dX7_lacksSizeOrRange_17 : decode cX7_lacksSizeOrRange 17 = .ok (.aload_n 0, 1) := by decide +kernel
theorem dX7_lacksSizeOrRange_18 : decode cX7_lacksSizeOrRange 18 = .ok (.getfield 15, 3) := by decide +kernel
theorem dX7_lacksSizeOrRange_21 : decode cX7_lacksSizeOrRange 21 = .ok (.iload_n 2, 1) := by decide +kernel
theorem dX7_lacksSizeOrRange_22 : decode cX7_lacksSizeOrRange 22 = .ok (.if_icmp .le 5, 3) := by decide +kernel
theorem dX7_lacksSizeOrRange_25 : decode cX7_lacksSizeOrRange 25 = .ok (.iconst 5, 1) := by decide +kernel
theorem dX7_lacksSizeOrRange_26 : decode cX7_lacksSizeOrRange 26 = .ok (.ireturn, 1) := by decide +kernel
theorem dX7_lacksSizeOrRange_27 : decode cX7_lacksSizeOrRange 27 = .ok (.iconst 0, 1) := by decide +kernel
theorem dX7_lacksSizeOrRange_28 : decode cX7_lacksSizeOrRange 28 = .ok (.istore 4, 2) := by decide +kernel
theorem dX7_lacksSizeOrRange_30 : decode cX7_lacksSizeOrRange 30 = .ok (.iload 4, 2) := by decide +kernel
theorem dX7_lacksSizeOrRange_32 : decode cX7_lacksSizeOrRange 32 = .ok (.aload_n 0, 1) := by decide +kernel
theorem dX7_lacksSizeOrRange_33 : decode cX7_lacksSizeOrRange 33 = .ok (.getfield 15, 3) := by decide +kernel
theorem dX7_lacksSizeOrRange_36 : decode cX7_lacksSizeOrRange 36 = .ok (.if_icmp .ge 32, 3) := by decide +kernel
theorem dX7_lacksSizeOrRange_39 : decode cX7_lacksSizeOrRange 39 = .ok (.aload_n 0, 1) := by decide +kernel
theorem dX7_lacksSizeOrRange_40 : decode cX7_lacksSizeOrRange 40 = .ok (.getfield 9, 3) := by decide +kernel
theorem dX7_lacksSizeOrRange_43 : decode cX7_lacksSizeOrRange 43 = .ok (.iload 4, 2) := by decide +kernel
theorem dX7_lacksSizeOrRange_45 : decode cX7_lacksSizeOrRange 45 = .ok (.iaload, 1) := by decide +kernel
theorem dX7_lacksSizeOrRange_46 : decode cX7_lacksSizeOrRange 46 = .ok (.ifCond .lt 14, 3) := by decide +kernel
theorem dX7_lacksSizeOrRange_49 : decode cX7_lacksSizeOrRange 49 = .ok (.aload_n 0, 1) := by decide +kernel
theorem dX7_lacksSizeOrRange_50 : decode cX7_lacksSizeOrRange 50 = .ok (.getfield 9, 3) := by decide +kernel
theorem dX7_lacksSizeOrRange_53 : decode cX7_lacksSizeOrRange 53 = .ok (.iload 4, 2) := by decide +kernel
theorem dX7_lacksSizeOrRange_55 : decode cX7_lacksSizeOrRange 55 = .ok (.iaload, 1) := by decide +kernel
theorem dX7_lacksSizeOrRange_56 : decode cX7_lacksSizeOrRange 56 = .ok (.iload_n 3, 1) := by decide +kernel
theorem dX7_lacksSizeOrRange_57 : decode cX7_lacksSizeOrRange 57 = .ok (.if_icmp .le 5, 3) := by decide +kernel
theorem dX7_lacksSizeOrRange_60 : decode cX7_lacksSizeOrRange 60 = .ok (.iconst 3, 1) := by decide +kernel
theorem dX7_lacksSizeOrRange_61 : decode cX7_lacksSizeOrRange 61 = .ok (.ireturn, 1) := by decide +kernel
theorem dX7_lacksSizeOrRange_62 : decode cX7_lacksSizeOrRange 62 = .ok (.iinc 4 1, 3) := by decide +kernel
theorem dX7_lacksSizeOrRange_65 : decode cX7_lacksSizeOrRange 65 = .ok (.goto (-35), 3) := by decide +kernel
theorem dX7_lacksSizeOrRange_68 : decode cX7_lacksSizeOrRange 68 = .ok (.iconst 0, 1) := by decide +kernel
theorem dX7_lacksSizeOrRange_69 : decode cX7_lacksSizeOrRange 69 = .ok (.ireturn, 1) := by decide +kernel
theorem dX7_sum_0 : decode cX7_sum 0 = .ok (.lconst 0, 1) := by decide +kernel
theorem dX7_sum_1 : decode cX7_sum 1 = .ok (.lstore_n 1, 1) := by decide +kernel
theorem dX7_sum_2 : decode cX7_sum 2 = .ok (.iconst 0, 1) := by decide +kernel
theorem dX7_sum_3 : decode cX7_sum 3 = .ok (.istore_n 3, 1) := by decide +kernel
theorem dX7_sum_4 : decode cX7_sum 4 = .ok (.iload_n 3, 1) := by decide +kernel
theorem dX7_sum_5 : decode cX7_sum 5 = .ok (.aload_n 0, 1) := by decide +kernel
theorem dX7_sum_6 : decode cX7_sum 6 = .ok (.getfield 15, 3) := by decide +kernel
theorem dX7_sum_9 : decode cX7_sum 9 = .ok (.if_icmp .ge 19, 3) := by decide +kernel
theorem dX7_sum_12 : decode cX7_sum 12 = .ok (.lload_n 1, 1) := by decide +kernel
theorem dX7_sum_13 : decode cX7_sum 13 = .ok (.aload_n 0, 1) := by decide +kernel
theorem dX7_sum_14 : decode cX7_sum 14 = .ok (.getfield 9, 3) := by decide +kernel
theorem dX7_sum_17 : decode cX7_sum 17 = .ok (.iload_n 3, 1) := by decide +kernel
theorem dX7_sum_18 : decode cX7_sum 18 = .ok (.iaload, 1) := by decide +kernel
theorem dX7_sum_19 : decode cX7_sum 19 = .ok (.i2l, 1) := by decide +kernel
theorem dX7_sum_20 : decode cX7_sum 20 = .ok (.ladd, 1) := by decide +kernel
theorem dX7_sum_21 : decode cX7_sum 21 = .ok (.lstore_n 1, 1) := by decide +kernel
theorem dX7_sum_22 : decode cX7_sum 22 = .ok (.iinc 3 1, 3) := by decide +kernel
theorem dX7_sum_25 : decode cX7_sum 25 = .ok (.goto (-21), 3) := by decide +kernel
theorem dX7_sum_28 : decode cX7_sum 28 = .ok (.lload_n 1, 1) := by decide +kernel
theorem dX7_sum_29 : decode cX7_sum 29 = .ok (.lreturn, 1) := by decide +kernel
theorem dX7_union_0 : decode cX7_union 0 = .ok (.iconst 0, 1) := by decide +kernel
theorem dX7_union_1 : decode cX7_union 1 = .ok (.istore_n 1, 1) := by decide +kernel
theorem dX7_union_2 : decode cX7_union 2 = .ok (.iconst 0, 1) := by decide +kernel
theorem dX7_union_3 : decode cX7_union 3 = .ok (.istore_n 2, 1) := by decide +kernel
theorem dX7_union_4 : decode cX7_union 4 = .ok (.iload_n 2, 1) := by decide +kernel
theorem dX7_union_5 : decode cX7_union 5 = .ok (.aload_n 0, 1) := by decide +kernel
theorem dX7_union_6 : decode cX7_union 6 = .ok (.getfield 15, 3) := by decide +kernel
theorem dX7_union_9 : decode cX7_union 9 = .ok (.if_icmp .ge 18, 3) := by decide +kernel
theorem dX7_union_12 : decode cX7_union 12 = .ok (.iload_n 1, 1) := by decide +kernel
theorem dX7_union_13 : decode cX7_union 13 = .ok (.aload_n 0, 1) := by decide +kernel
theorem dX7_union_14 : decode cX7_union 14 = .ok (.getfield 9, 3) := by decide +kernel
theorem dX7_union_17 : decode cX7_union 17 = .ok (.iload_n 2, 1) := by decide +kernel
theorem dX7_union_18 : decode cX7_union 18 = .ok (.iaload, 1) := by decide +kernel
theorem dX7_union_19 : decode cX7_union 19 = .ok (.ior, 1) := by decide +kernel
theorem dX7_union_20 : decode cX7_union 20 = .ok (.istore_n 1, 1) := by decide +kernel
theorem dX7_union_21 : decode cX7_union 21 = .ok (.iinc 2 1, 3) := by decide +kernel
theorem dX7_union_24 : decode cX7_union 24 = .ok (.goto (-20), 3) := by decide +kernel
theorem dX7_union_27 : decode cX7_union 27 = .ok (.iload_n 1, 1) := by decide +kernel
theorem dX7_union_28 : decode cX7_union 28 = .ok (.ireturn, 1) := by decide +kernel
theorem dX7_digestOnto_0 : decode cX7_digestOnto 0 = .ok (.ldc2_w 27, 3) := by decide +kernel
theorem dX7_digestOnto_3 : decode cX7_digestOnto 3 = .ok (.lload_n 1, 1) := by decide +kernel
theorem dX7_digestOnto_4 : decode cX7_digestOnto 4 = .ok (.lmul, 1) := by decide +kernel
theorem dX7_digestOnto_5 : decode cX7_digestOnto 5 = .ok (.aload_n 0, 1) := by decide +kernel
theorem dX7_digestOnto_6 : decode cX7_digestOnto 6 = .ok (.getfield 15, 3) := by decide +kernel
theorem dX7_digestOnto_9 : decode cX7_digestOnto 9 = .ok (.i2l, 1) := by decide +kernel
theorem dX7_digestOnto_10 : decode cX7_digestOnto 10 = .ok (.ladd, 1) := by decide +kernel
theorem dX7_digestOnto_11 : decode cX7_digestOnto 11 = .ok (.lstore_n 3, 1) := by decide +kernel
theorem dX7_digestOnto_12 : decode cX7_digestOnto 12 = .ok (.iconst 0, 1) := by decide +kernel
theorem dX7_digestOnto_13 : decode cX7_digestOnto 13 = .ok (.istore 5, 2) := by decide +kernel
theorem dX7_digestOnto_15 : decode cX7_digestOnto 15 = .ok (.iload 5, 2) := by decide +kernel
theorem dX7_digestOnto_17 : decode cX7_digestOnto 17 = .ok (.aload_n 0, 1) := by decide +kernel
theorem dX7_digestOnto_18 : decode cX7_digestOnto 18 = .ok (.getfield 15, 3) := by decide +kernel
theorem dX7_digestOnto_21 : decode cX7_digestOnto 21 = .ok (.if_icmp .ge 24, 3) := by decide +kernel
theorem dX7_digestOnto_24 : decode cX7_digestOnto 24 = .ok (.ldc2_w 27, 3) := by decide +kernel
theorem dX7_digestOnto_27 : decode cX7_digestOnto 27 = .ok (.lload_n 3, 1) := by decide +kernel
theorem dX7_digestOnto_28 : decode cX7_digestOnto 28 = .ok (.lmul, 1) := by decide +kernel
theorem dX7_digestOnto_29 : decode cX7_digestOnto 29 = .ok (.aload_n 0, 1) := by decide +kernel
theorem dX7_digestOnto_30 : decode cX7_digestOnto 30 = .ok (.getfield 9, 3) := by decide +kernel
theorem dX7_digestOnto_33 : decode cX7_digestOnto 33 = .ok (.iload 5, 2) := by decide +kernel
theorem dX7_digestOnto_35 : decode cX7_digestOnto 35 = .ok (.iaload, 1) := by decide +kernel
theorem dX7_digestOnto_36 : decode cX7_digestOnto 36 = .ok (.i2l, 1) := by decide +kernel
theorem dX7_digestOnto_37 : decode cX7_digestOnto 37 = .ok (.ladd, 1) := by decide +kernel
theorem dX7_digestOnto_38 : decode cX7_digestOnto 38 = .ok (.lstore_n 3, 1) := by decide +kernel
theorem dX7_digestOnto_39 : decode cX7_digestOnto 39 = .ok (.iinc 5 1, 3) := by decide +kernel
theorem dX7_digestOnto_42 : decode cX7_digestOnto 42 = .ok (.goto (-27), 3) := by decide +kernel
theorem dX7_digestOnto_45 : decode cX7_digestOnto 45 = .ok (.lload_n 3, 1) := by decide +kernel
theorem dX7_digestOnto_46 : decode cX7_digestOnto 46 = .ok (.lreturn, 1) := by decide +kernel
theorem dX8_init_0 : decode cX8_init 0 = .ok (.aload_n 0, 1) := by decide +kernel
theorem dX8_init_1 : decode cX8_init 1 = .ok (.invokespecial 3, 3) := by decide +kernel
theorem dX8_init_4 : decode cX8_init 4 = .ok (.aload_n 0, 1) := by decide +kernel
theorem dX8_init_5 : decode cX8_init 5 = .ok (.bipush 6, 2) := by decide +kernel
theorem dX8_init_7 : decode cX8_init 7 = .ok (.anewarray 9, 3) := by decide +kernel
theorem dX8_init_10 : decode cX8_init 10 = .ok (.putfield 11, 3) := by decide +kernel
theorem dX8_init_13 : decode cX8_init 13 = .ok (.aload_n 0, 1) := by decide +kernel
theorem dX8_init_14 : decode cX8_init 14 = .ok (.aconst_null, 1) := by decide +kernel
theorem dX8_init_15 : decode cX8_init 15 = .ok (.putfield 17, 3) := by decide +kernel
theorem dX8_init_18 : decode cX8_init 18 = .ok (.aload_n 0, 1) := by decide +kernel
theorem dX8_init_19 : decode cX8_init 19 = .ok (.iconst 0, 1) := by decide +kernel
theorem dX8_init_20 : decode cX8_init 20 = .ok (.putfield 21, 3) := by decide +kernel
theorem dX8_init_23 : decode cX8_init 23 = .ok (.aload_n 0, 1) := by decide +kernel
theorem dX8_init_24 : decode cX8_init 24 = .ok (.iconst 0, 1) := by decide +kernel
theorem dX8_init_25 : decode cX8_init 25 = .ok (.putfield 25, 3) := by decide +kernel
theorem dX8_init_28 : decode cX8_init 28 = .ok (.aload_n 0, 1) := by decide +kernel
theorem dX8_init_29 : decode cX8_init 29 = .ok (.aload_n 1, 1) := by decide +kernel
theorem dX8_init_30 : decode cX8_init 30 = .ok (.putfield 28, 3) := by decide +kernel
theorem dX8_init_33 : decode cX8_init 33 = .ok (.iconst 0, 1) := by decide +kernel
theorem dX8_init_34 : decode cX8_init 34 = .ok (.istore_n 2, 1) := by decide +kernel
theorem dX8_init_35 : decode cX8_init 35 = .ok (.iload_n 2, 1) := by decide +kernel
theorem dX8_init_36 : decode cX8_init 36 = .ok (.iconst 5, 1) := by decide +kernel
theorem dX8_init_37 : decode cX8_init 37 = .ok (.if_icmp .gt 23, 3) := by decide +kernel
theorem dX8_init_40 : decode cX8_init 40 = .ok (.aload_n 0, 1) := by decide +kernel
theorem dX8_init_41 : decode cX8_init 41 = .ok (.getfield 11, 3) := by decide +kernel
theorem dX8_init_44 : decode cX8_init 44 = .ok (.iload_n 2, 1) := by decide +kernel
theorem dX8_init_45 : decode cX8_init 45 = .ok (.new 9, 3) := by decide +kernel
theorem dX8_init_48 : decode cX8_init 48 = .ok (.dup, 1) := by decide +kernel
theorem dX8_init_49 : decode cX8_init 49 = .ok (.aload_n 1, 1) := by decide +kernel
theorem dX8_init_50 : decode cX8_init 50 = .ok (.invokespecial 32, 3) := by decide +kernel
theorem dX8_init_53 : decode cX8_init 53 = .ok (.aastore, 1) := by decide +kernel
theorem dX8_init_54 : decode cX8_init 54 = .ok (.iinc 2 1, 3) := by decide +kernel
theorem dX8_init_57 : decode cX8_init 57 = .ok (.goto (-22), 3) := by decide +kernel
theorem dX8_init_60 : decode cX8_init 60 = .ok (.return_, 1) := by decide +kernel
theorem dX8_search_0 : decode cX8_search 0 = .ok (.aload_n 0, 1) := by decide +kernel
theorem dX8_search_1 : decode cX8_search 1 = .ok (.aload_n 2, 1) := by decide +kernel
theorem dX8_search_2 : decode cX8_search 2 = .ok (.putfield 17, 3) := by decide +kernel
theorem dX8_search_5 : decode cX8_search 5 = .ok (.aload_n 0, 1) := by decide +kernel
theorem dX8_search_6 : decode cX8_search 6 = .ok (.iconst 0, 1) := by decide +kernel
theorem dX8_search_7 : decode cX8_search 7 = .ok (.putfield 21, 3) := by decide +kernel
theorem dX8_search_10 : decode cX8_search 10 = .ok (.aload_n 0, 1) := by decide +kernel
theorem dX8_search_11 : decode cX8_search 11 = .ok (.iconst 0, 1) := by decide +kernel
theorem dX8_search_12 : decode cX8_search 12 = .ok (.putfield 25, 3) := by decide +kernel
theorem dX8_search_15 : decode cX8_search 15 = .ok (.iconst 0, 1) := by decide +kernel
theorem dX8_search_16 : decode cX8_search 16 = .ok (.istore_n 3, 1) := by decide +kernel
theorem dX8_search_17 : decode cX8_search 17 = .ok (.iload_n 3, 1) := by decide +kernel
theorem dX8_search_18 : decode cX8_search 18 = .ok (.aload_n 0, 1) := by decide +kernel
theorem dX8_search_19 : decode cX8_search 19 = .ok (.getfield 28, 3) := by decide +kernel
theorem dX8_search_22 : decode cX8_search 22 = .ok (.getfield 35, 3) := by decide +kernel
theorem dX8_search_25 : decode cX8_search 25 = .ok (.if_icmp .ge 73, 3) := by decide +kernel
theorem dX8_search_28 : decode cX8_search 28 = .ok (.aload_n 1, 1) := by decide +kernel
theorem dX8_search_29 : decode cX8_search 29 = .ok (.iload_n 3, 1) := by decide +kernel
theorem dX8_search_30 : decode cX8_search 30 = .ok (.invokevirtual 40, 3) := by decide +kernel
theorem dX8_search_33 : decode cX8_search 33 = .ok (.ifCond .eq 59, 3) := by decide +kernel
theorem dX8_search_36 : decode cX8_search 36 = .ok (.aload_n 0, 1) := by decide +kernel
theorem dX8_search_37 : decode cX8_search 37 = .ok (.getfield 21, 3) := by decide +kernel
theorem dX8_search_40 : decode cX8_search 40 = .ok (.istore 4, 2) := by decide +kernel
theorem dX8_search_42 : decode cX8_search 42 = .ok (.aload_n 0, 1) := by decide +kernel
theorem dX8_search_43 : decode cX8_search 43 = .ok (.getfield 11, 3) := by decide +kernel
theorem dX8_search_46 : decode cX8_search 46 = .ok (.iconst 0, 1) := by decide +kernel
theorem dX8_search_47 : decode cX8_search 47 = .ok (.aaload, 1) := by decide +kernel
theorem dX8_search_48 : decode cX8_search 48 = .ok (.aload_n 1, 1) := by decide +kernel
theorem dX8_search_49 : decode cX8_search 49 = .ok (.invokevirtual 44, 3) := by decide +kernel
theorem dX8_search_52 : decode cX8_search 52 = .ok (.aload_n 0, 1) := by decide +kernel
theorem dX8_search_53 : decode cX8_search 53 = .ok (.getfield 11, 3) := by decide +kernel
theorem dX8_search_56 : decode cX8_search 56 = .ok (.iconst 0, 1) := by decide +kernel
theorem dX8_search_57 : decode cX8_search 57 = .ok (.aaload, 1) := by decide +kernel
theorem dX8_search_58 : decode cX8_search 58 = .ok (.iload_n 3, 1) := by decide +kernel
theorem dX8_search_59 : decode cX8_search 59 = .ok (.invokevirtual 48, 3) := by decide +kernel
theorem dX8_search_62 : decode cX8_search 62 = .ok (.aload_n 0, 1) := by decide +kernel
theorem dX8_search_63 : decode cX8_search 63 = .ok (.iconst 0, 1) := by decide +kernel
theorem dX8_search_64 : decode cX8_search 64 = .ok (.invokevirtual 52, 3) := by decide +kernel
theorem dX8_search_67 : decode cX8_search 67 = .ok (.aload_n 0, 1) := by decide +kernel
theorem dX8_search_68 : decode cX8_search 68 = .ok (.dup, 1) := by decide +kernel
theorem dX8_search_69 : decode cX8_search 69 = .ok (.getfield 25, 3) := by decide +kernel
theorem dX8_search_72 : decode cX8_search 72 = .ok (.aload_n 0, 1) := by decide +kernel
theorem dX8_search_73 : decode cX8_search 73 = .ok (.getfield 21, 3) := by decide +kernel
theorem dX8_search_76 : decode cX8_search 76 = .ok (.iload 4, 2) := by decide +kernel
theorem dX8_search_78 : decode cX8_search 78 = .ok (.if_icmp .le 9, 3) := by decide +kernel
theorem dX8_search_81 : decode cX8_search 81 = .ok (.iconst 1, 1) := by decide +kernel
theorem dX8_search_82 : decode cX8_search 82 = .ok (.iload_n 3, 1) := by decide +kernel
theorem dX8_search_83 : decode cX8_search 83 = .ok (.ishl, 1) := by decide +kernel
theorem dX8_search_84 : decode cX8_search 84 = .ok (.goto 4, 3) := by decide +kernel
theorem dX8_search_87 : decode cX8_search 87 = .ok (.iconst 0, 1) := by decide +kernel
theorem dX8_search_88 : decode cX8_search 88 = .ok (.ior, 1) := by decide +kernel
theorem dX8_search_89 : decode cX8_search 89 = .ok (.putfield 25, 3) := by decide +kernel
theorem dX8_search_92 : decode cX8_search 92 = .ok (.iinc 3 1, 3) := by decide +kernel
theorem dX8_search_95 : decode cX8_search 95 = .ok (.goto (-78), 3) := by decide +kernel
theorem dX8_search_98 : decode cX8_search 98 = .ok (.return_, 1) := by decide +kernel
theorem dX8_walk_0 : decode cX8_walk 0 = .ok (.aload_n 0, 1) := by decide +kernel
theorem dX8_walk_1 : decode cX8_walk 1 = .ok (.getfield 17, 3) := by decide +kernel
theorem dX8_walk_4 : decode cX8_walk 4 = .ok (.ifnull 12, 3) := by decide +kernel
theorem dX8_walk_7 : decode cX8_walk 7 = .ok (.iload_n 1, 1) := by decide +kernel
theorem dX8_walk_8 : decode cX8_walk 8 = .ok (.ifCond .lt 8, 3) := by decide +kernel
theorem dX8_walk_11 : decode cX8_walk 11 = .ok (.iload_n 1, 1) := by decide +kernel
theorem dX8_walk_12 : decode cX8_walk 12 = .ok (.iconst 5, 1) := by decide +kernel
theorem dX8_walk_13 : decode cX8_walk 13 = .ok (.if_icmp .le 4, 3) := by decide +kernel
theorem dX8_walk_16 : decode cX8_walk 16 = .ok (.return_, 1) := by decide +kernel
theorem dX8_walk_17 : decode cX8_walk 17 = .ok (.iload_n 1, 1) := by decide +kernel
theorem dX8_walk_18 : decode cX8_walk 18 = .ok (.aload_n 0, 1) := by decide +kernel
theorem dX8_walk_19 : decode cX8_walk 19 = .ok (.getfield 17, 3) := by decide +kernel
theorem dX8_walk_22 : decode cX8_walk 22 = .ok (.getfield 55, 3) := by decide +kernel
theorem dX8_walk_25 : decode cX8_walk 25 = .ok (.if_icmp .lt 14, 3) := by decide +kernel
theorem dX8_walk_28 : decode cX8_walk 28 = .ok (.aload_n 0, 1) := by decide +kernel
theorem dX8_walk_29 : decode cX8_walk 29 = .ok (.dup, 1) := by decide +kernel
theorem dX8_walk_30 : decode cX8_walk 30 = .ok (.getfield 21, 3) := by decide +kernel
theorem dX8_walk_33 : decode cX8_walk 33 = .ok (.iconst 1, 1) := by decide +kernel
theorem dX8_walk_34 : decode cX8_walk 34 = .ok (.iadd, 1) := by decide +kernel
theorem dX8_walk_35 : decode cX8_walk 35 = .ok (.putfield 21, 3) := by decide +kernel
theorem dX8_walk_38 : decode cX8_walk 38 = .ok (.return_, 1) := by decide +kernel
theorem dX8_walk_39 : decode cX8_walk 39 = .ok (.iconst 0, 1) := by decide +kernel
theorem dX8_walk_40 : decode cX8_walk 40 = .ok (.istore_n 2, 1) := by decide +kernel
theorem dX8_walk_41 : decode cX8_walk 41 = .ok (.iload_n 2, 1) := by decide +kernel
theorem dX8_walk_42 : decode cX8_walk 42 = .ok (.bipush 36, 2) := by decide +kernel
theorem dX8_walk_44 : decode cX8_walk 44 = .ok (.if_icmp .gt 34, 3) := by decide +kernel
theorem dX8_walk_47 : decode cX8_walk 47 = .ok (.iload_n 2, 1) := by decide +kernel
theorem dX8_walk_48 : decode cX8_walk 48 = .ok (.bipush 36, 2) := by decide +kernel
theorem dX8_walk_50 : decode cX8_walk 50 = .ok (.if_icmp .eq 16, 3) := by decide +kernel
theorem dX8_walk_53 : decode cX8_walk 53 = .ok (.aload_n 0, 1) := by decide +kernel
theorem dX8_walk_54 : decode cX8_walk 54 = .ok (.getfield 11, 3) := by decide +kernel
theorem dX8_walk_57 : decode cX8_walk 57 = .ok (.iload_n 1, 1) := by decide +kernel
theorem dX8_walk_58 : decode cX8_walk 58 = .ok (.aaload, 1) := by decide +kernel
theorem dX8_walk_59 : decode cX8_walk 59 = .ok (.iload_n 2, 1) := by decide +kernel
theorem dX8_walk_60 : decode cX8_walk 60 = .ok (.invokevirtual 60, 3) := by decide +kernel
theorem dX8_walk_63 : decode cX8_walk 63 = .ok (.ifCond .eq 9, 3) := by decide +kernel
theorem dX8_walk_66 : decode cX8_walk 66 = .ok (.aload_n 0, 1) := by decide +kernel
theorem dX8_walk_67 : decode cX8_walk 67 = .ok (.iload_n 1, 1) := by decide +kernel
theorem dX8_walk_68 : decode cX8_walk 68 = .ok (.iload_n 2, 1) := by decide +kernel
theorem dX8_walk_69 : decode cX8_walk 69 = .ok (.invokevirtual 63, 3) := by decide +kernel
theorem dX8_walk_72 : decode cX8_walk 72 = .ok (.iinc 2 1, 3) := by decide +kernel
theorem dX8_walk_75 : decode cX8_walk 75 = .ok (.goto (-34), 3) := by decide +kernel
theorem dX8_walk_78 : decode cX8_walk 78 = .ok (.return_, 1) := by decide +kernel
theorem dX8_take_0 : decode cX8_take 0 = .ok (.aload_n 0, 1) := by decide +kernel
theorem dX8_take_1 : decode cX8_take 1 = .ok (.getfield 17, 3) := by decide +kernel
theorem dX8_take_4 : decode cX8_take 4 = .ok (.ifnull 12, 3) := by decide +kernel
theorem dX8_take_7 : decode cX8_take 7 = .ok (.iload_n 1, 1) := by decide +kernel
theorem dX8_take_8 : decode cX8_take 8 = .ok (.ifCond .lt 8, 3) := by decide +kernel
theorem dX8_take_11 : decode cX8_take 11 = .ok (.iload_n 1, 1) := by decide +kernel
theorem dX8_take_12 : decode cX8_take 12 = .ok (.iconst 5, 1) := by decide +kernel
theorem dX8_take_13 : decode cX8_take 13 = .ok (.if_icmp .lt 4, 3) := by decide +kernel
theorem dX8_take_16 : decode cX8_take 16 = .ok (.return_, 1) := by decide +kernel
theorem dX8_take_17 : decode cX8_take 17 = .ok (.aload_n 0, 1) := by decide +kernel
theorem dX8_take_18 : decode cX8_take 18 = .ok (.getfield 11, 3) := by decide +kernel
theorem dX8_take_21 : decode cX8_take 21 = .ok (.iload_n 1, 1) := by decide +kernel
theorem dX8_take_22 : decode cX8_take 22 = .ok (.iconst 1, 1) := by decide +kernel
theorem dX8_take_23 : decode cX8_take 23 = .ok (.iadd, 1) := by decide +kernel
theorem dX8_take_24 : decode cX8_take 24 = .ok (.aaload, 1) := by decide +kernel
theorem dX8_take_25 : decode cX8_take 25 = .ok (.astore_n 3, 1) := by decide +kernel
theorem dX8_take_26 : decode cX8_take 26 = .ok (.aload_n 3, 1) := by decide +kernel
theorem dX8_take_27 : decode cX8_take 27 = .ok (.aload_n 0, 1) := by decide +kernel
theorem dX8_take_28 : decode cX8_take 28 = .ok (.getfield 11, 3) := by decide +kernel
theorem dX8_take_31 : decode cX8_take 31 = .ok (.iload_n 1, 1) := by decide +kernel
theorem dX8_take_32 : decode cX8_take 32 = .ok (.aaload, 1) := by decide +kernel
theorem dX8_take_33 : decode cX8_take 33 = .ok (.invokevirtual 44, 3) := by decide +kernel
theorem dX8_take_36 : decode cX8_take 36 = .ok (.aload_n 3, 1) := by decide +kernel
theorem dX8_take_37 : decode cX8_take 37 = .ok (.iload_n 2, 1) := by decide +kernel
theorem dX8_take_38 : decode cX8_take 38 = .ok (.invokevirtual 67, 3) := by decide +kernel
theorem dX8_take_41 : decode cX8_take 41 = .ok (.aload_n 3, 1) := by decide +kernel
theorem dX8_take_42 : decode cX8_take 42 = .ok (.invokevirtual 70, 3) := by decide +kernel
theorem dX8_take_45 : decode cX8_take 45 = .ok (.aload_n 3, 1) := by decide +kernel
theorem dX8_take_46 : decode cX8_take 46 = .ok (.getfield 73, 3) := by decide +kernel
theorem dX8_take_49 : decode cX8_take 49 = .ok (.aload_n 0, 1) := by decide +kernel
theorem dX8_take_50 : decode cX8_take 50 = .ok (.getfield 17, 3) := by decide +kernel
theorem dX8_take_53 : decode cX8_take 53 = .ok (.iload_n 1, 1) := by decide +kernel
theorem dX8_take_54 : decode cX8_take 54 = .ok (.invokevirtual 76, 3) := by decide +kernel
theorem dX8_take_57 : decode cX8_take 57 = .ok (.if_icmp .ne 10, 3) := by decide +kernel
theorem dX8_take_60 : decode cX8_take 60 = .ok (.aload_n 0, 1) := by decide +kernel
theorem dX8_take_61 : decode cX8_take 61 = .ok (.iload_n 1, 1) := by decide +kernel
theorem dX8_take_62 : decode cX8_take 62 = .ok (.iconst 1, 1) := by decide +kernel
theorem dX8_take_63 : decode cX8_take 63 = .ok (.iadd, 1) := by decide +kernel
theorem dX8_take_64 : decode cX8_take 64 = .ok (.invokevirtual 52, 3) := by decide +kernel
theorem dX8_take_67 : decode cX8_take 67 = .ok (.return_, 1) := by decide +kernel
theorem dX9_init_0 : decode cX9_init 0 = .ok (.aload_n 0, 1) := by decide +kernel
theorem dX9_init_1 : decode cX9_init 1 = .ok (.invokespecial 3, 3) := by decide +kernel
theorem dX9_init_4 : decode cX9_init 4 = .ok (.aload_n 0, 1) := by decide +kernel
theorem dX9_init_5 : decode cX9_init 5 = .ok (.bipush 60, 2) := by decide +kernel
theorem dX9_init_7 : decode cX9_init 7 = .ok (.newarray .byte, 2) := by decide +kernel
theorem dX9_init_9 : decode cX9_init 9 = .ok (.putfield 9, 3) := by decide +kernel
theorem dX9_init_12 : decode cX9_init 12 = .ok (.aload_n 0, 1) := by decide +kernel
theorem dX9_init_13 : decode cX9_init 13 = .ok (.iconst (-1), 1) := by decide +kernel
theorem dX9_init_14 : decode cX9_init 14 = .ok (.putfield 15, 3) := by decide +kernel
theorem dX9_init_17 : decode cX9_init 17 = .ok (.return_, 1) := by decide +kernel
theorem dX9_isThere_0 : decode cX9_isThere 0 = .ok (.aload_n 0, 1) := by decide +kernel
theorem dX9_isThere_1 : decode cX9_isThere 1 = .ok (.getfield 15, 3) := by decide +kernel
theorem dX9_isThere_4 : decode cX9_isThere 4 = .ok (.ifCond .lt 7, 3) := by decide +kernel
theorem dX9_isThere_7 : decode cX9_isThere 7 = .ok (.iconst 1, 1) := by decide +kernel
theorem dX9_isThere_8 : decode cX9_isThere 8 = .ok (.goto 4, 3) := by decide +kernel
theorem dX9_isThere_11 : decode cX9_isThere 11 = .ok (.iconst 0, 1) := by decide +kernel
theorem dX9_isThere_12 : decode cX9_isThere 12 = .ok (.ireturn, 1) := by decide +kernel
theorem dX9_has_0 : decode cX9_has 0 = .ok (.iload_n 1, 1) := by decide +kernel
theorem dX9_has_1 : decode cX9_has 1 = .ok (.ifCond .lt 15, 3) := by decide +kernel
theorem dX9_has_4 : decode cX9_has 4 = .ok (.iload_n 1, 1) := by decide +kernel
theorem dX9_has_5 : decode cX9_has 5 = .ok (.aload_n 0, 1) := by decide +kernel
theorem dX9_has_6 : decode cX9_has 6 = .ok (.getfield 15, 3) := by decide +kernel
theorem dX9_has_9 : decode cX9_has 9 = .ok (.if_icmp .ge 7, 3) := by decide +kernel
theorem dX9_has_12 : decode cX9_has 12 = .ok (.iconst 1, 1) := by decide +kernel
theorem dX9_has_13 : decode cX9_has 13 = .ok (.goto 4, 3) := by decide +kernel
theorem dX9_has_16 : decode cX9_has 16 = .ok (.iconst 0, 1) := by decide +kernel
theorem dX9_has_17 : decode cX9_has 17 = .ok (.ireturn, 1) := by decide +kernel
theorem dX9_begin_0 : decode cX9_begin 0 = .ok (.iload_n 1, 1) := by decide +kernel
theorem dX9_begin_1 : decode cX9_begin 1 = .ok (.ifCond .lt 9, 3) := by decide +kernel
theorem dX9_begin_4 : decode cX9_begin 4 = .ok (.iload_n 1, 1) := by decide +kernel
theorem dX9_begin_5 : decode cX9_begin 5 = .ok (.bipush 60, 2) := by decide +kernel
theorem dX9_begin_7 : decode cX9_begin 7 = .ok (.if_icmp .le 4, 3) := by decide +kernel
theorem dX9_begin_10 : decode cX9_begin 10 = .ok (.return_, 1) := by decide +kernel
theorem dX9_begin_11 : decode cX9_begin 11 = .ok (.aload_n 0, 1) := by decide +kernel
theorem dX9_begin_12 : decode cX9_begin 12 = .ok (.iload_n 1, 1) := by decide +kernel
theorem dX9_begin_13 : decode cX9_begin 13 = .ok (.putfield 15, 3) := by decide +kernel
theorem dX9_begin_16 : decode cX9_begin 16 = .ok (.iconst 0, 1) := by decide +kernel
theorem dX9_begin_17 : decode cX9_begin 17 = .ok (.istore_n 2, 1) := by decide +kernel
theorem dX9_begin_18 : decode cX9_begin 18 = .ok (.iload_n 2, 1) := by decide +kernel
theorem dX9_begin_19 : decode cX9_begin 19 = .ok (.iload_n 1, 1) := by decide +kernel
theorem dX9_begin_20 : decode cX9_begin 20 = .ok (.if_icmp .ge 17, 3) := by decide +kernel
theorem dX9_begin_23 : decode cX9_begin 23 = .ok (.aload_n 0, 1) := by decide +kernel
theorem dX9_begin_24 : decode cX9_begin 24 = .ok (.getfield 9, 3) := by decide +kernel
theorem dX9_begin_27 : decode cX9_begin 27 = .ok (.iload_n 2, 1) := by decide +kernel
theorem dX9_begin_28 : decode cX9_begin 28 = .ok (.bipush 32, 2) := by decide +kernel
theorem dX9_begin_30 : decode cX9_begin 30 = .ok (.bastore, 1) := by decide +kernel
theorem dX9_begin_31 : decode cX9_begin 31 = .ok (.iinc 2 1, 3) := by decide +kernel
theorem dX9_begin_34 : decode cX9_begin 34 = .ok (.goto (-16), 3) := by decide +kernel
theorem dX9_begin_37 : decode cX9_begin 37 = .ok (.return_, 1) := by decide +kernel
theorem dX9_get_0 : decode cX9_get 0 = .ok (.aload_n 0, 1) := by decide +kernel
theorem dX9_get_1 : decode cX9_get 1 = .ok (.iload_n 1, 1) := by decide +kernel
theorem dX9_get_2 : decode cX9_get 2 = .ok (.invokevirtual 19, 3) := by decide +kernel
theorem dX9_get_5 : decode cX9_get 5 = .ok (.ifCond .eq 12, 3) := by decide +kernel
theorem dX9_get_8 : decode cX9_get 8 = .ok (.aload_n 0, 1) := by decide +kernel
theorem dX9_get_9 : decode cX9_get 9 = .ok (.getfield 9, 3) := by decide +kernel
theorem dX9_get_12 : decode cX9_get 12 = .ok (.iload_n 1, 1) := by decide +kernel
theorem dX9_get_13 : decode cX9_get 13 = .ok (.baload, 1) := by decide +kernel
theorem dX9_get_14 : decode cX9_get 14 = .ok (.goto 6, 3) := by decide +kernel
theorem dX9_get_17 : decode cX9_get 17 = .ok (.sipush 1000, 3) := by decide +kernel
theorem dX9_get_20 : decode cX9_get 20 = .ok (.ireturn, 1) := by decide +kernel
theorem dX9_set_0 : decode cX9_set 0 = .ok (.aload_n 0, 1) := by decide +kernel
theorem dX9_set_1 : decode cX9_set 1 = .ok (.iload_n 1, 1) := by decide +kernel
theorem dX9_set_2 : decode cX9_set 2 = .ok (.invokevirtual 19, 3) := by decide +kernel
theorem dX9_set_5 : decode cX9_set 5 = .ok (.ifCond .eq 11, 3) := by decide +kernel
theorem dX9_set_8 : decode cX9_set 8 = .ok (.aload_n 0, 1) := by decide +kernel
theorem dX9_set_9 : decode cX9_set 9 = .ok (.getfield 9, 3) := by decide +kernel
theorem dX9_set_12 : decode cX9_set 12 = .ok (.iload_n 1, 1) := by decide +kernel
theorem dX9_set_13 : decode cX9_set 13 = .ok (.iload_n 2, 1) := by decide +kernel
theorem dX9_set_14 : decode cX9_set 14 = .ok (.i2b, 1) := by decide +kernel
theorem dX9_set_15 : decode cX9_set 15 = .ok (.bastore, 1) := by decide +kernel
theorem dX9_set_16 : decode cX9_set 16 = .ok (.return_, 1) := by decide +kernel
theorem dX9_digestOnto_0 : decode cX9_digestOnto 0 = .ok (.ldc2_w 23, 3) := by decide +kernel
theorem dX9_digestOnto_3 : decode cX9_digestOnto 3 = .ok (.lload_n 1, 1) := by decide +kernel
theorem dX9_digestOnto_4 : decode cX9_digestOnto 4 = .ok (.lmul, 1) := by decide +kernel
theorem dX9_digestOnto_5 : decode cX9_digestOnto 5 = .ok (.aload_n 0, 1) := by decide +kernel
theorem dX9_digestOnto_6 : decode cX9_digestOnto 6 = .ok (.getfield 15, 3) := by decide +kernel
theorem dX9_digestOnto_9 : decode cX9_digestOnto 9 = .ok (.i2l, 1) := by decide +kernel
theorem dX9_digestOnto_10 : decode cX9_digestOnto 10 = .ok (.ladd, 1) := by decide +kernel
theorem dX9_digestOnto_11 : decode cX9_digestOnto 11 = .ok (.lstore_n 3, 1) := by decide +kernel
theorem dX9_digestOnto_12 : decode cX9_digestOnto 12 = .ok (.iconst 0, 1) := by decide +kernel
theorem dX9_digestOnto_13 : decode cX9_digestOnto 13 = .ok (.istore 5, 2) := by decide +kernel
theorem dX9_digestOnto_15 : decode cX9_digestOnto 15 = .ok (.iload 5, 2) := by decide +kernel
theorem dX9_digestOnto_17 : decode cX9_digestOnto 17 = .ok (.aload_n 0, 1) := by decide +kernel
theorem dX9_digestOnto_18 : decode cX9_digestOnto 18 = .ok (.getfield 15, 3) := by decide +kernel
theorem dX9_digestOnto_21 : decode cX9_digestOnto 21 = .ok (.if_icmp .ge 24, 3) := by decide +kernel
theorem dX9_digestOnto_24 : decode cX9_digestOnto 24 = .ok (.ldc2_w 23, 3) := by decide +kernel
theorem dX9_digestOnto_27 : decode cX9_digestOnto 27 = .ok (.lload_n 3, 1) := by decide +kernel
theorem dX9_digestOnto_28 : decode cX9_digestOnto 28 = .ok (.lmul, 1) := by decide +kernel
theorem dX9_digestOnto_29 : decode cX9_digestOnto 29 = .ok (.aload_n 0, 1) := by decide +kernel
theorem dX9_digestOnto_30 : decode cX9_digestOnto 30 = .ok (.getfield 9, 3) := by decide +kernel
theorem dX9_digestOnto_33 : decode cX9_digestOnto 33 = .ok (.iload 5, 2) := by decide +kernel
theorem dX9_digestOnto_35 : decode cX9_digestOnto 35 = .ok (.baload, 1) := by decide +kernel
theorem dX9_digestOnto_36 : decode cX9_digestOnto 36 = .ok (.i2l, 1) := by decide +kernel
theorem dX9_digestOnto_37 : decode cX9_digestOnto 37 = .ok (.ladd, 1) := by decide +kernel
theorem dX9_digestOnto_38 : decode cX9_digestOnto 38 = .ok (.lstore_n 3, 1) := by decide +kernel
theorem dX9_digestOnto_39 : decode cX9_digestOnto 39 = .ok (.iinc 5 1, 3) := by decide +kernel
theorem dX9_digestOnto_42 : decode cX9_digestOnto 42 = .ok (.goto (-27), 3) := by decide +kernel
theorem dX9_digestOnto_45 : decode cX9_digestOnto 45 = .ok (.lload_n 3, 1) := by decide +kernel
theorem dX9_digestOnto_46 : decode cX9_digestOnto 46 = .ok (.lreturn, 1) := by decide +kernel
theorem dJ6_bitCount_0f7a4_0 : decode cJ6_bitCount_0f7a4 0 = .ok (.iload_n 0, 1) := by decide +kernel
theorem dJ6_bitCount_0f7a4_1 : decode cJ6_bitCount_0f7a4 1 = .ok (.iload_n 0, 1) := by decide +kernel
theorem dJ6_bitCount_0f7a4_2 : decode cJ6_bitCount_0f7a4 2 = .ok (.iconst 1, 1) := by decide +kernel
theorem dJ6_bitCount_0f7a4_3 : decode cJ6_bitCount_0f7a4 3 = .ok (.iushr, 1) := by decide +kernel
theorem dJ6_bitCount_0f7a4_4 : decode cJ6_bitCount_0f7a4 4 = .ok (.ldc_w 265, 3) := by decide +kernel
theorem dJ6_bitCount_0f7a4_7 : decode cJ6_bitCount_0f7a4 7 = .ok (.iand, 1) := by decide +kernel
theorem dJ6_bitCount_0f7a4_8 : decode cJ6_bitCount_0f7a4 8 = .ok (.isub, 1) := by decide +kernel
theorem dJ6_bitCount_0f7a4_9 : decode cJ6_bitCount_0f7a4 9 = .ok (.istore_n 0, 1) := by decide +kernel
theorem dJ6_bitCount_0f7a4_10 : decode cJ6_bitCount_0f7a4 10 = .ok (.iload_n 0, 1) := by decide +kernel
theorem dJ6_bitCount_0f7a4_11 : decode cJ6_bitCount_0f7a4 11 = .ok (.ldc_w 266, 3) := by decide +kernel
theorem dJ6_bitCount_0f7a4_14 : decode cJ6_bitCount_0f7a4 14 = .ok (.iand, 1) := by decide +kernel
theorem dJ6_bitCount_0f7a4_15 : decode cJ6_bitCount_0f7a4 15 = .ok (.iload_n 0, 1) := by decide +kernel
theorem dJ6_bitCount_0f7a4_16 : decode cJ6_bitCount_0f7a4 16 = .ok (.iconst 2, 1) := by decide +kernel
theorem dJ6_bitCount_0f7a4_17 : decode cJ6_bitCount_0f7a4 17 = .ok (.iushr, 1) := by decide +kernel
theorem dJ6_bitCount_0f7a4_18 : decode cJ6_bitCount_0f7a4 18 = .ok (.ldc_w 266, 3) := by decide +kernel
theorem dJ6_bitCount_0f7a4_21 : decode cJ6_bitCount_0f7a4 21 = .ok (.iand, 1) := by decide +kernel
theorem dJ6_bitCount_0f7a4_22 : decode cJ6_bitCount_0f7a4 22 = .ok (.iadd, 1) := by decide +kernel
theorem dJ6_bitCount_0f7a4_23 : decode cJ6_bitCount_0f7a4 23 = .ok (.istore_n 0, 1) := by decide +kernel
theorem dJ6_bitCount_0f7a4_24 : decode cJ6_bitCount_0f7a4 24 = .ok (.iload_n 0, 1) := by decide +kernel
theorem dJ6_bitCount_0f7a4_25 : decode cJ6_bitCount_0f7a4 25 = .ok (.iload_n 0, 1) := by decide +kernel
theorem dJ6_bitCount_0f7a4_26 : decode cJ6_bitCount_0f7a4 26 = .ok (.iconst 4, 1) := by decide +kernel
theorem dJ6_bitCount_0f7a4_27 : decode cJ6_bitCount_0f7a4 27 = .ok (.iushr, 1) := by decide +kernel
theorem dJ6_bitCount_0f7a4_28 : decode cJ6_bitCount_0f7a4 28 = .ok (.iadd, 1) := by decide +kernel
theorem dJ6_bitCount_0f7a4_29 : decode cJ6_bitCount_0f7a4 29 = .ok (.ldc_w 267, 3) := by decide +kernel
theorem dJ6_bitCount_0f7a4_32 : decode cJ6_bitCount_0f7a4 32 = .ok (.iand, 1) := by decide +kernel
theorem dJ6_bitCount_0f7a4_33 : decode cJ6_bitCount_0f7a4 33 = .ok (.istore_n 0, 1) := by decide +kernel
theorem dJ6_bitCount_0f7a4_34 : decode cJ6_bitCount_0f7a4 34 = .ok (.iload_n 0, 1) := by decide +kernel
theorem dJ6_bitCount_0f7a4_35 : decode cJ6_bitCount_0f7a4 35 = .ok (.iload_n 0, 1) := by decide +kernel
theorem dJ6_bitCount_0f7a4_36 : decode cJ6_bitCount_0f7a4 36 = .ok (.bipush 8, 2) := by decide +kernel
theorem dJ6_bitCount_0f7a4_38 : decode cJ6_bitCount_0f7a4 38 = .ok (.iushr, 1) := by decide +kernel
theorem dJ6_bitCount_0f7a4_39 : decode cJ6_bitCount_0f7a4 39 = .ok (.iadd, 1) := by decide +kernel
theorem dJ6_bitCount_0f7a4_40 : decode cJ6_bitCount_0f7a4 40 = .ok (.istore_n 0, 1) := by decide +kernel
theorem dJ6_bitCount_0f7a4_41 : decode cJ6_bitCount_0f7a4 41 = .ok (.iload_n 0, 1) := by decide +kernel
theorem dJ6_bitCount_0f7a4_42 : decode cJ6_bitCount_0f7a4 42 = .ok (.iload_n 0, 1) := by decide +kernel
theorem dJ6_bitCount_0f7a4_43 : decode cJ6_bitCount_0f7a4 43 = .ok (.bipush 16, 2) := by decide +kernel
theorem dJ6_bitCount_0f7a4_45 : decode cJ6_bitCount_0f7a4 45 = .ok (.iushr, 1) := by decide +kernel
theorem dJ6_bitCount_0f7a4_46 : decode cJ6_bitCount_0f7a4 46 = .ok (.iadd, 1) := by decide +kernel
theorem dJ6_bitCount_0f7a4_47 : decode cJ6_bitCount_0f7a4 47 = .ok (.istore_n 0, 1) := by decide +kernel
theorem dJ6_bitCount_0f7a4_48 : decode cJ6_bitCount_0f7a4 48 = .ok (.iload_n 0, 1) := by decide +kernel
theorem dJ6_bitCount_0f7a4_49 : decode cJ6_bitCount_0f7a4 49 = .ok (.bipush 63, 2) := by decide +kernel
theorem dJ6_bitCount_0f7a4_51 : decode cJ6_bitCount_0f7a4 51 = .ok (.iand, 1) := by decide +kernel
theorem dJ6_bitCount_0f7a4_52 : decode cJ6_bitCount_0f7a4 52 = .ok (.ireturn, 1) := by decide +kernel
theorem dJ9_abs_0f7a4_0 : decode cJ9_abs_0f7a4 0 = .ok (.iload_n 0, 1) := by decide +kernel
theorem dJ9_abs_0f7a4_1 : decode cJ9_abs_0f7a4 1 = .ok (.ifCond .ge 8, 3) := by decide +kernel
theorem dJ9_abs_0f7a4_4 : decode cJ9_abs_0f7a4 4 = .ok (.iload_n 0, 1) := by decide +kernel
theorem dJ9_abs_0f7a4_5 : decode cJ9_abs_0f7a4 5 = .ok (.ineg, 1) := by decide +kernel
theorem dJ9_abs_0f7a4_6 : decode cJ9_abs_0f7a4 6 = .ok (.goto 4, 3) := by decide +kernel
theorem dJ9_abs_0f7a4_9 : decode cJ9_abs_0f7a4 9 = .ok (.iload_n 0, 1) := by decide +kernel
theorem dJ9_abs_0f7a4_10 : decode cJ9_abs_0f7a4 10 = .ok (.ireturn, 1) := by decide +kernel
theorem dJ9_max_7cf53_0 : decode cJ9_max_7cf53 0 = .ok (.iload_n 0, 1) := by decide +kernel
theorem dJ9_max_7cf53_1 : decode cJ9_max_7cf53 1 = .ok (.iload_n 1, 1) := by decide +kernel
theorem dJ9_max_7cf53_2 : decode cJ9_max_7cf53 2 = .ok (.if_icmp .lt 7, 3) := by decide +kernel
theorem dJ9_max_7cf53_5 : decode cJ9_max_7cf53 5 = .ok (.iload_n 0, 1) := by decide +kernel
theorem dJ9_max_7cf53_6 : decode cJ9_max_7cf53 6 = .ok (.goto 4, 3) := by decide +kernel
theorem dJ9_max_7cf53_9 : decode cJ9_max_7cf53 9 = .ok (.iload_n 1, 1) := by decide +kernel
theorem dJ9_max_7cf53_10 : decode cJ9_max_7cf53 10 = .ok (.ireturn, 1) := by decide +kernel
theorem dJ9_min_7cf53_0 : decode cJ9_min_7cf53 0 = .ok (.iload_n 0, 1) := by decide +kernel
theorem dJ9_min_7cf53_1 : decode cJ9_min_7cf53 1 = .ok (.iload_n 1, 1) := by decide +kernel
theorem dJ9_min_7cf53_2 : decode cJ9_min_7cf53 2 = .ok (.if_icmp .gt 7, 3) := by decide +kernel
theorem dJ9_min_7cf53_5 : decode cJ9_min_7cf53 5 = .ok (.iload_n 0, 1) := by decide +kernel
theorem dJ9_min_7cf53_6 : decode cJ9_min_7cf53 6 = .ok (.goto 4, 3) := by decide +kernel
theorem dJ9_min_7cf53_9 : decode cJ9_min_7cf53 9 = .ok (.iload_n 1, 1) := by decide +kernel
theorem dJ9_min_7cf53_10 : decode cJ9_min_7cf53 10 = .ok (.ireturn, 1) := by decide +kernel
