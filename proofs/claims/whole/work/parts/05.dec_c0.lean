theorem dX0_init_0 : decode cX0_init 0 = .ok (.aload_n 0, 1) := by decide +kernel
theorem dX0_init_1 : decode cX0_init 1 = .ok (.invokespecial 1, 3) := by decide +kernel
theorem dX0_init_4 : decode cX0_init 4 = .ok (.aload_n 0, 1) := by decide +kernel
theorem dX0_init_5 : decode cX0_init 5 = .ok (.iload_n 1, 1) := by decide +kernel
theorem dX0_init_6 : decode cX0_init 6 = .ok (.newarray .int, 2) := by decide +kernel
theorem dX0_init_8 : decode cX0_init 8 = .ok (.putfield 7, 3) := by decide +kernel
theorem dX0_init_11 : decode cX0_init 11 = .ok (.return_, 1) := by decide +kernel
theorem dX0_add_0 : decode cX0_add 0 = .ok (.aload_n 0, 1) := by decide +kernel
theorem dX0_add_1 : decode cX0_add 1 = .ok (.getfield 13, 3) := by decide +kernel
theorem dX0_add_4 : decode cX0_add 4 = .ok (.aload_n 0, 1) := by decide +kernel
theorem dX0_add_5 : decode cX0_add 5 = .ok (.getfield 7, 3) := by decide +kernel
theorem dX0_add_8 : decode cX0_add 8 = .ok (.arraylength, 1) := by decide +kernel
theorem dX0_add_9 : decode cX0_add 9 = .ok (.if_icmp .ge 13, 3) := by decide +kernel
theorem dX0_add_12 : decode cX0_add 12 = .ok (.aload_n 0, 1) := by decide +kernel
theorem dX0_add_13 : decode cX0_add 13 = .ok (.getfield 7, 3) := by decide +kernel
theorem dX0_add_16 : decode cX0_add 16 = .ok (.aload_n 0, 1) := by decide +kernel
theorem dX0_add_17 : decode cX0_add 17 = .ok (.getfield 13, 3) := by decide +kernel
theorem dX0_add_20 : decode cX0_add 20 = .ok (.iload_n 1, 1) := by decide +kernel
theorem dX0_add_21 : decode cX0_add 21 = .ok (.iastore, 1) := by decide +kernel
theorem dX0_add_22 : decode cX0_add 22 = .ok (.aload_n 0, 1) := by decide +kernel
theorem dX0_add_23 : decode cX0_add 23 = .ok (.dup, 1) := by decide +kernel
theorem dX0_add_24 : decode cX0_add 24 = .ok (.getfield 13, 3) := by decide +kernel
theorem dX0_add_27 : decode cX0_add 27 = .ok (.iconst 1, 1) := by decide +kernel
theorem dX0_add_28 : decode cX0_add 28 = .ok (.iadd, 1) := by decide +kernel
theorem dX0_add_29 : decode cX0_add 29 = .ok (.putfield 13, 3) := by decide +kernel
theorem dX0_add_32 : decode cX0_add 32 = .ok (.return_, 1) := by decide +kernel
theorem dX0_addWith_0 : decode cX0_addWith 0 = .ok (.aload_n 0, 1) := by decide +kernel
theorem dX0_addWith_1 : decode cX0_addWith 1 = .ok (.getfield 13, 3) := by decide +kernel
theorem dX0_addWith_4 : decode cX0_addWith 4 = .ok (.aload_n 0, 1) := by decide +kernel
theorem dX0_addWith_5 : decode cX0_addWith 5 = .ok (.getfield 7, 3) := by decide +kernel
theorem dX0_addWith_8 : decode cX0_addWith 8 = .ok (.arraylength, 1) := by decide +kernel
theorem dX0_addWith_9 : decode cX0_addWith 9 = .ok (.iconst 1, 1) := by decide +kernel
theorem dX0_addWith_10 : decode cX0_addWith 10 = .ok (.isub, 1) := by decide +kernel
theorem dX0_addWith_11 : decode cX0_addWith 11 = .ok (.if_icmp .ge 25, 3) := by decide +kernel
theorem dX0_addWith_14 : decode cX0_addWith 14 = .ok (.aload_n 0, 1) := by decide +kernel
theorem dX0_addWith_15 : decode cX0_addWith 15 = .ok (.getfield 7, 3) := by decide +kernel
theorem dX0_addWith_18 : decode cX0_addWith 18 = .ok (.aload_n 0, 1) := by decide +kernel
theorem dX0_addWith_19 : decode cX0_addWith 19 = .ok (.getfield 13, 3) := by decide +kernel
theorem dX0_addWith_22 : decode cX0_addWith 22 = .ok (.iload_n 1, 1) := by decide +kernel
theorem dX0_addWith_23 : decode cX0_addWith 23 = .ok (.iastore, 1) := by decide +kernel
theorem dX0_addWith_24 : decode cX0_addWith 24 = .ok (.aload_n 0, 1) := by decide +kernel
theorem dX0_addWith_25 : decode cX0_addWith 25 = .ok (.getfield 7, 3) := by decide +kernel
theorem dX0_addWith_28 : decode cX0_addWith 28 = .ok (.aload_n 0, 1) := by decide +kernel
theorem dX0_addWith_29 : decode cX0_addWith 29 = .ok (.getfield 13, 3) := by decide +kernel
theorem dX0_addWith_32 : decode cX0_addWith 32 = .ok (.iconst 1, 1) := by decide +kernel
theorem dX0_addWith_33 : decode cX0_addWith 33 = .ok (.iadd, 1) := by decide +kernel
theorem dX0_addWith_34 : decode cX0_addWith 34 = .ok (.iload_n 2, 1) := by decide +kernel
theorem dX0_addWith_35 : decode cX0_addWith 35 = .ok (.iastore, 1) := by decide +kernel
theorem dX0_addWith_36 : decode cX0_addWith 36 = .ok (.aload_n 0, 1) := by decide +kernel
theorem dX0_addWith_37 : decode cX0_addWith 37 = .ok (.dup, 1) := by decide +kernel
theorem dX0_addWith_38 : decode cX0_addWith 38 = .ok (.getfield 13, 3) := by decide +kernel
theorem dX0_addWith_41 : decode cX0_addWith 41 = .ok (.iconst 2, 1) := by decide +kernel
theorem dX0_addWith_42 : decode cX0_addWith 42 = .ok (.iadd, 1) := by decide +kernel
theorem dX0_addWith_43 : decode cX0_addWith 43 = .ok (.putfield 13, 3) := by decide +kernel
theorem dX0_addWith_46 : decode cX0_addWith 46 = .ok (.return_, 1) := by decide +kernel
theorem dX0_addWithTwo_0 : decode cX0_addWithTwo 0 = .ok (.aload_n 0, 1) := by decide +kernel
theorem dX0_addWithTwo_1 : decode cX0_addWithTwo 1 = .ok (.getfield 13, 3) := by decide +kernel
theorem dX0_addWithTwo_4 : decode cX0_addWithTwo 4 = .ok (.aload_n 0, 1) := by decide +kernel
theorem dX0_addWithTwo_5 : decode cX0_addWithTwo 5 = .ok (.getfield 7, 3) := by decide +kernel
theorem dX0_addWithTwo_8 : decode cX0_addWithTwo 8 = .ok (.arraylength, 1) := by decide +kernel
theorem dX0_addWithTwo_9 : decode cX0_addWithTwo 9 = .ok (.iconst 2, 1) := by decide +kernel
theorem dX0_addWithTwo_10 : decode cX0_addWithTwo 10 = .ok (.isub, 1) := by decide +kernel
theorem dX0_addWithTwo_11 : decode cX0_addWithTwo 11 = .ok (.if_icmp .ge 37, 3) := by decide +kernel
theorem dX0_addWithTwo_14 : decode cX0_addWithTwo 14 = .ok (.aload_n 0, 1) := by decide +kernel
theorem dX0_addWithTwo_15 : decode cX0_addWithTwo 15 = .ok (.getfield 7, 3) := by decide +kernel
theorem dX0_addWithTwo_18 : decode cX0_addWithTwo 18 = .ok (.aload_n 0, 1) := by decide +kernel
theorem dX0_addWithTwo_19 : decode cX0_addWithTwo 19 = .ok (.getfield 13, 3) := by decide +kernel
theorem dX0_addWithTwo_22 : decode cX0_addWithTwo 22 = .ok (.iload_n 1, 1) := by decide +kernel
theorem dX0_addWithTwo_23 : decode cX0_addWithTwo 23 = .ok (.iastore, 1) := by decide +kernel
theorem dX0_addWithTwo_24 : decode cX0_addWithTwo 24 = .ok (.aload_n 0, 1) := by decide +kernel
theorem dX0_addWithTwo_25 : decode cX0_addWithTwo 25 = .ok (.getfield 7, 3) := by decide +kernel
theorem dX0_addWithTwo_28 : decode cX0_addWithTwo 28 = .ok (.aload_n 0, 1) := by decide +kernel
theorem dX0_addWithTwo_29 : decode cX0_addWithTwo 29 = .ok (.getfield 13, 3) := by decide +kernel
theorem dX0_addWithTwo_32 : decode cX0_addWithTwo 32 = .ok (.iconst 1, 1) := by decide +kernel
theorem dX0_addWithTwo_33 : decode cX0_addWithTwo 33 = .ok (.iadd, 1) := by decide +kernel
theorem dX0_addWithTwo_34 : decode cX0_addWithTwo 34 = .ok (.iload_n 2, 1) := by decide +kernel
theorem dX0_addWithTwo_35 : decode cX0_addWithTwo 35 = .ok (.iastore, 1) := by decide +kernel
theorem dX0_addWithTwo_36 : decode cX0_addWithTwo 36 = .ok (.aload_n 0, 1) := by decide +kernel
theorem dX0_addWithTwo_37 : decode cX0_addWithTwo 37 = .ok (.getfield 7, 3) := by decide +kernel
theorem dX0_addWithTwo_40 : decode cX0_addWithTwo 40 = .ok (.aload_n 0, 1) := by decide +kernel
theorem dX0_addWithTwo_41 : decode cX0_addWithTwo 41 = .ok (.getfield 13, 3) := by decide +kernel
theorem dX0_addWithTwo_44 : decode cX0_addWithTwo 44 = .ok (.iconst 2, 1) := by decide +kernel
theorem dX0_addWithTwo_45 : decode cX0_addWithTwo 45 = .ok (.iadd, 1) := by decide +kernel
theorem dX0_addWithTwo_46 : decode cX0_addWithTwo 46 = .ok (.iload_n 3, 1) := by decide +kernel
theorem dX0_addWithTwo_47 : decode cX0_addWithTwo 47 = .ok (.iastore, 1) := by decide +kernel
theorem dX0_addWithTwo_48 : decode cX0_addWithTwo 48 = .ok (.aload_n 0, 1) := by decide +kernel
theorem dX0_addWithTwo_49 : decode cX0_addWithTwo 49 = .ok (.dup, 1) := by decide +kernel
theorem dX0_addWithTwo_50 : decode cX0_addWithTwo 50 = .ok (.getfield 13, 3) := by decide +kernel
theorem dX0_addWithTwo_53 : decode cX0_addWithTwo 53 = .ok (.iconst 3, 1) := by decide +kernel
theorem dX0_addWithTwo_54 : decode cX0_addWithTwo 54 = .ok (.iadd, 1) := by decide +kernel
theorem dX0_addWithTwo_55 : decode cX0_addWithTwo 55 = .ok (.putfield 13, 3) := by decide +kernel
theorem dX0_addWithTwo_58 : decode cX0_addWithTwo 58 = .ok (.return_, 1) := by decide +kernel
theorem dX0_set_0 : decode cX0_set 0 = .ok (.iload_n 1, 1) := by decide +kernel
theorem dX0_set_1 : decode cX0_set 1 = .ok (.ifCond .lt 19, 3) := by decide +kernel
theorem dX0_set_4 : decode cX0_set 4 = .ok (.iload_n 1, 1) := by decide +kernel
theorem dX0_set_5 : decode cX0_set 5 = .ok (.aload_n 0, 1) := by decide +kernel
theorem dX0_set_6 : decode cX0_set 6 = .ok (.getfield 7, 3) := by decide +kernel
theorem dX0_set_9 : decode cX0_set 9 = .ok (.arraylength, 1) := by decide +kernel
theorem dX0_set_10 : decode cX0_set 10 = .ok (.if_icmp .ge 10, 3) := by decide +kernel
theorem dX0_set_13 : decode cX0_set 13 = .ok (.aload_n 0, 1) := by decide +kernel
theorem dX0_set_14 : decode cX0_set 14 = .ok (.getfield 7, 3) := by decide +kernel
theorem dX0_set_17 : decode cX0_set 17 = .ok (.iload_n 1, 1) := by decide +kernel
theorem dX0_set_18 : decode cX0_set 18 = .ok (.iload_n 2, 1) := by decide +kernel
theorem dX0_set_19 : decode cX0_set 19 = .ok (.iastore, 1) := by decide +kernel
theorem dX0_set_20 : decode cX0_set 20 = .ok (.return_, 1) := by decide +kernel
theorem dX0_at_0 : decode cX0_at 0 = .ok (.iload_n 1, 1) := by decide +kernel
theorem dX0_at_1 : decode cX0_at 1 = .ok (.ifCond .lt 29, 3) := by decide +kernel
theorem dX0_at_4 : decode cX0_at 4 = .ok (.iload_n 1, 1) := by decide +kernel
theorem dX0_at_5 : decode cX0_at 5 = .ok (.aload_n 0, 1) := by decide +kernel
theorem dX0_at_6 : decode cX0_at 6 = .ok (.getfield 13, 3) := by decide +kernel
theorem dX0_at_9 : decode cX0_at 9 = .ok (.if_icmp .ge 21, 3) := by decide +kernel
theorem dX0_at_12 : decode cX0_at 12 = .ok (.iload_n 1, 1) := by decide +kernel
theorem dX0_at_13 : decode cX0_at 13 = .ok (.aload_n 0, 1) := by decide +kernel
theorem dX0_at_14 : decode cX0_at 14 = .ok (.getfield 7, 3) := by decide +kernel
theorem dX0_at_17 : decode cX0_at 17 = .ok (.arraylength, 1) := by decide +kernel
theorem dX0_at_18 : decode cX0_at 18 = .ok (.if_icmp .ge 12, 3) := by decide +kernel
theorem dX0_at_21 : decode cX0_at 21 = .ok (.aload_n 0, 1) := by decide +kernel
theorem dX0_at_22 : decode cX0_at 22 = .ok (.getfield 7, 3) := by decide +kernel
theorem dX0_at_25 : decode cX0_at 25 = .ok (.iload_n 1, 1) := by decide +kernel
theorem dX0_at_26 : decode cX0_at 26 = .ok (.iaload, 1) := by decide +kernel
theorem dX0_at_27 : decode cX0_at 27 = .ok (.goto 4, 3) := by decide +kernel
theorem dX0_at_30 : decode cX0_at 30 = .ok (.iconst (-1), 1) := by decide +kernel
theorem dX0_at_31 : decode cX0_at 31 = .ok (.ireturn, 1) := by decide +kernel
theorem dX0_fits_0 : decode cX0_fits 0 = .ok (.aload_n 0, 1) := by decide +kernel
theorem dX0_fits_1 : decode cX0_fits 1 = .ok (.getfield 13, 3) := by decide +kernel
theorem dX0_fits_4 : decode cX0_fits 4 = .ok (.aload_n 0, 1) := by decide +kernel
theorem dX0_fits_5 : decode cX0_fits 5 = .ok (.getfield 7, 3) := by decide +kernel
theorem dX0_fits_8 : decode cX0_fits 8 = .ok (.arraylength, 1) := by decide +kernel
theorem dX0_fits_9 : decode cX0_fits 9 = .ok (.if_icmp .gt 7, 3) := by decide +kernel
theorem dX0_fits_12 : decode cX0_fits 12 = .ok (.iconst 1, 1) := by decide +kernel
theorem dX0_fits_13 : decode cX0_fits 13 = .ok (.goto 4, 3) := by decide +kernel
theorem dX0_fits_16 : decode cX0_fits 16 = .ok (.iconst 0, 1) := by decide +kernel
theorem dX0_fits_17 : decode cX0_fits 17 = .ok (.ireturn, 1) := by decide +kernel
theorem dX1_init_0 : decode cX1_init 0 = .ok (.aload_n 0, 1) := by decide +kernel
theorem dX1_init_1 : decode cX1_init 1 = .ok (.invokespecial 3, 3) := by decide +kernel
theorem dX1_init_4 : decode cX1_init 4 = .ok (.aload_n 0, 1) := by decide +kernel
theorem dX1_init_5 : decode cX1_init 5 = .ok (.aload_n 1, 1) := by decide +kernel
theorem dX1_init_6 : decode cX1_init 6 = .ok (.putfield 9, 3) := by decide +kernel
theorem dX1_init_9 : decode cX1_init 9 = .ok (.aload_n 0, 1) := by decide +kernel
theorem dX1_init_10 : decode cX1_init 10 = .ok (.aload_n 2, 1) := by decide +kernel
theorem dX1_init_11 : decode cX1_init 11 = .ok (.putfield 15, 3) := by decide +kernel
theorem dX1_init_14 : decode cX1_init 14 = .ok (.aload_n 0, 1) := by decide +kernel
theorem dX1_init_15 : decode cX1_init 15 = .ok (.iload_n 3, 1) := by decide +kernel
theorem dX1_init_16 : decode cX1_init 16 = .ok (.putfield 19, 3) := by decide +kernel
theorem dX1_init_19 : decode cX1_init 19 = .ok (.return_, 1) := by decide +kernel
theorem dX1_begin_0 : decode cX1_begin 0 = .ok (.aload_n 0, 1) := by decide +kernel
theorem dX1_begin_1 : decode cX1_begin 1 = .ok (.getfield 15, 3) := by decide +kernel
theorem dX1_begin_4 : decode cX1_begin 4 = .ok (.iconst 0, 1) := by decide +kernel
theorem dX1_begin_5 : decode cX1_begin 5 = .ok (.invokevirtual 23, 3) := by decide +kernel
theorem dX1_begin_8 : decode cX1_begin 8 = .ok (.aload_n 0, 1) := by decide +kernel
theorem dX1_begin_9 : decode cX1_begin 9 = .ok (.aload_n 0, 1) := by decide +kernel
theorem dX1_begin_10 : decode cX1_begin 10 = .ok (.getfield 19, 3) := by decide +kernel
theorem dX1_begin_13 : decode cX1_begin 13 = .ok (.putfield 29, 3) := by decide +kernel
theorem dX1_begin_16 : decode cX1_begin 16 = .ok (.aload_n 0, 1) := by decide +kernel
theorem dX1_begin_17 : decode cX1_begin 17 = .ok (.iconst 0, 1) := by decide +kernel
theorem dX1_begin_18 : decode cX1_begin 18 = .ok (.putfield 32, 3) := by decide +kernel
theorem dX1_begin_21 : decode cX1_begin 21 = .ok (.aload_n 0, 1) := by decide +kernel
theorem dX1_begin_22 : decode cX1_begin 22 = .ok (.iconst 0, 1) := by decide +kernel
theorem dX1_begin_23 : decode cX1_begin 23 = .ok (.putfield 35, 3) := by decide +kernel
theorem dX1_begin_26 : decode cX1_begin 26 = .ok (.return_, 1) := by decide +kernel
theorem dX1_takeCells_0 : decode cX1_takeCells 0 = .ok (.aload_n 0, 1) := by decide +kernel
theorem dX1_takeCells_1 : decode cX1_takeCells 1 = .ok (.getfield 29, 3) := by decide +kernel
theorem dX1_takeCells_4 : decode cX1_takeCells 4 = .ok (.iconst 4, 1) := by decide +kernel
theorem dX1_takeCells_5 : decode cX1_takeCells 5 = .ok (.if_icmp .ge 16, 3) := by decide +kernel
theorem dX1_takeCells_8 : decode cX1_takeCells 8 = .ok (.aload_n 0, 1) := by decide +kernel
theorem dX1_takeCells_9 : decode cX1_takeCells 9 = .ok (.getfield 9, 3) := by decide +kernel
theorem dX1_takeCells_12 : decode cX1_takeCells 12 = .ok (.bipush 9, 2) := by decide +kernel
theorem dX1_takeCells_14 : decode cX1_takeCells 14 = .ok (.iload_n 1, 1) := by decide +kernel
theorem dX1_takeCells_15 : decode cX1_takeCells 15 = .ok (.invokevirtual 38, 3) := by decide +kernel
theorem dX1_takeCells_18 : decode cX1_takeCells 18 = .ok (.goto 13, 3) := by decide +kernel
theorem dX1_takeCells_21 : decode cX1_takeCells 21 = .ok (.aload_n 0, 1) := by decide +kernel
theorem dX1_takeCells_22 : decode cX1_takeCells 22 = .ok (.dup, 1) := by decide +kernel
theorem dX1_takeCells_23 : decode cX1_takeCells 23 = .ok (.getfield 29, 3) := by decide +kernel
theorem dX1_takeCells_26 : decode cX1_takeCells 26 = .ok (.iconst 4, 1) := by decide +kernel
theorem dX1_takeCells_27 : decode cX1_takeCells 27 = .ok (.isub, 1) := by decide +kernel
theorem dX1_takeCells_28 : decode cX1_takeCells 28 = .ok (.putfield 29, 3) := by decide +kernel
theorem dX1_takeCells_31 : decode cX1_takeCells 31 = .ok (.return_, 1) := by decide +kernel
theorem dX1_enter_0 : decode cX1_enter 0 = .ok (.aload_n 0, 1) := by decide +kernel
theorem dX1_enter_1 : decode cX1_enter 1 = .ok (.getfield 32, 3) := by decide +kernel
theorem dX1_enter_4 : decode cX1_enter 4 = .ok (.bipush 40, 2) := by decide +kernel
theorem dX1_enter_6 : decode cX1_enter 6 = .ok (.if_icmp .lt 15, 3) := by decide +kernel
theorem dX1_enter_9 : decode cX1_enter 9 = .ok (.aload_n 0, 1) := by decide +kernel
theorem dX1_enter_10 : decode cX1_enter 10 = .ok (.getfield 9, 3) := by decide +kernel
theorem dX1_enter_13 : decode cX1_enter 13 = .ok (.bipush 8, 2) := by decide +kernel
theorem dX1_enter_15 : decode cX1_enter 15 = .ok (.invokevirtual 44, 3) := by decide +kernel
theorem dX1_enter_18 : decode cX1_enter 18 = .ok (.goto 13, 3) := by decide +kernel
theorem dX1_enter_21 : decode cX1_enter 21 = .ok (.aload_n 0, 1) := by decide +kernel
theorem dX1_enter_22 : decode cX1_enter 22 = .ok (.dup, 1) := by decide +kernel
theorem dX1_enter_23 : decode cX1_enter 23 = .ok (.getfield 32, 3) := by decide +kernel
theorem dX1_enter_26 : decode cX1_enter 26 = .ok (.iconst 1, 1) := by decide +kernel
theorem dX1_enter_27 : decode cX1_enter 27 = .ok (.iadd, 1) := by decide +kernel
theorem dX1_enter_28 : decode cX1_enter 28 = .ok (.putfield 32, 3) := by decide +kernel
theorem dX1_enter_31 : decode cX1_enter 31 = .ok (.return_, 1) := by decide +kernel
theorem dX1_leave_0 : decode cX1_leave 0 = .ok (.aload_n 0, 1) := by decide +kernel
theorem dX1_leave_1 : decode cX1_leave 1 = .ok (.dup, 1) := by decide +kernel
theorem dX1_leave_2 : decode cX1_leave 2 = .ok (.getfield 32, 3) := by decide +kernel
theorem dX1_leave_5 : decode cX1_leave 5 = .ok (.iconst 1, 1) := by decide +kernel
theorem dX1_leave_6 : decode cX1_leave 6 = .ok (.isub, 1) := by decide +kernel
theorem dX1_leave_7 : decode cX1_leave 7 = .ok (.putfield 32, 3) := by decide +kernel
theorem dX1_leave_10 : decode cX1_leave 10 = .ok (.return_, 1) := by decide +kernel
theorem dX1_inFrame_0 : decode cX1_inFrame 0 = .ok (.iload_n 1, 1) := by decide +kernel
theorem dX1_inFrame_1 : decode cX1_inFrame 1 = .ok (.ifCond .ge 14, 3) := by decide +kernel
theorem dX1_inFrame_4 : decode cX1_inFrame 4 = .ok (.iload_n 1, 1) := by decide +kernel
theorem dX1_inFrame_5 : decode cX1_inFrame 5 = .ok (.iconst 2, 1) := by decide +kernel
theorem dX1_inFrame_6 : decode cX1_inFrame 6 = .ok (.iadd, 1) := by decide +kernel
theorem dX1_inFrame_7 : decode cX1_inFrame 7 = .ok (.aload_n 0, 1) := by decide +kernel
theorem dX1_inFrame_8 : decode cX1_inFrame 8 = .ok (.getfield 35, 3) := by decide +kernel
theorem dX1_inFrame_11 : decode cX1_inFrame 11 = .ok (.iadd, 1) := by decide +kernel
theorem dX1_inFrame_12 : decode cX1_inFrame 12 = .ok (.goto 9, 3) := by decide +kernel
theorem dX1_inFrame_15 : decode cX1_inFrame 15 = .ok (.iload_n 1, 1) := by decide +kernel
theorem dX1_inFrame_16 : decode cX1_inFrame 16 = .ok (.aload_n 0, 1) := by decide +kernel
theorem dX1_inFrame_17 : decode cX1_inFrame 17 = .ok (.getfield 35, 3) := by decide +kernel
theorem dX1_inFrame_20 : decode cX1_inFrame 20 = .ok (.iadd, 1) := by decide +kernel
theorem dX1_inFrame_21 : decode cX1_inFrame 21 = .ok (.ireturn, 1) := by decide +kernel
theorem dX2_init_0 : decode cX2_init 0 = .ok (.aload_n 0, 1) := by decide +kernel
theorem dX2_init_1 : decode cX2_init 1 = .ok (.invokespecial 3, 3) := by decide +kernel
theorem dX2_init_4 : decode cX2_init 4 = .ok (.aload_n 0, 1) := by decide +kernel
theorem dX2_init_5 : decode cX2_init 5 = .ok (.aload_n 1, 1) := by decide +kernel
theorem dX2_init_6 : decode cX2_init 6 = .ok (.putfield 9, 3) := by decide +kernel
theorem dX2_init_9 : decode cX2_init 9 = .ok (.aload_n 0, 1) := by decide +kernel
theorem dX2_init_10 : decode cX2_init 10 = .ok (.aload_n 1, 1) := by decide +kernel
theorem dX2_init_11 : decode cX2_init 11 = .ok (.getfield 15, 3) := by decide +kernel
theorem dX2_init_14 : decode cX2_init 14 = .ok (.putfield 21, 3) := by decide +kernel
theorem dX2_init_17 : decode cX2_init 17 = .ok (.aload_n 0, 1) := by decide +kernel
theorem dX2_init_18 : decode cX2_init 18 = .ok (.aload_n 1, 1) := by decide +kernel
theorem dX2_init_19 : decode cX2_init 19 = .ok (.getfield 22, 3) := by decide +kernel
theorem dX2_init_22 : decode cX2_init 22 = .ok (.putfield 26, 3) := by decide +kernel
theorem dX2_init_25 : decode cX2_init 25 = .ok (.aload_n 0, 1) := by decide +kernel
theorem dX2_init_26 : decode cX2_init 26 = .ok (.sipush 512, 3) := by decide +kernel
theorem dX2_init_29 : decode cX2_init 29 = .ok (.newarray .int, 2) := by decide +kernel
theorem dX2_init_31 : decode cX2_init 31 = .ok (.putfield 27, 3) := by decide +kernel
theorem dX2_init_34 : decode cX2_init 34 = .ok (.aload_n 0, 1) := by decide +kernel
theorem dX2_init_35 : decode cX2_init 35 = .ok (.sipush 512, 3) := by decide +kernel
theorem dX2_init_38 : decode cX2_init 38 = .ok (.newarray .int, 2) := by decide +kernel
theorem dX2_init_40 : decode cX2_init 40 = .ok (.putfield 31, 3) := by decide +kernel
theorem dX2_init_43 : decode cX2_init 43 = .ok (.aload_n 0, 1) := by decide +kernel
theorem dX2_init_44 : decode cX2_init 44 = .ok (.sipush 512, 3) := by decide +kernel
theorem dX2_init_47 : decode cX2_init 47 = .ok (.newarray .int, 2) := by decide +kernel
theorem dX2_init_49 : decode cX2_init 49 = .ok (.putfield 34, 3) := by decide +kernel
theorem dX2_init_52 : decode cX2_init 52 = .ok (.return_, 1) := by decide +kernel
theorem dX2_begin_0 : decode cX2_begin 0 = .ok (.aload_n 0, 1) := by decide +kernel
theorem dX2_begin_1 : decode cX2_begin 1 = .ok (.aload_n 1, 1) := by decide +kernel
theorem dX2_begin_2 : decode cX2_begin 2 = .ok (.getfield 37, 3) := by decide +kernel
theorem dX2_begin_5 : decode cX2_begin 5 = .ok (.putfield 43, 3) := by decide +kernel
theorem dX2_begin_8 : decode cX2_begin 8 = .ok (.aload_n 0, 1) := by decide +kernel
theorem dX2_begin_9 : decode cX2_begin 9 = .ok (.aload_n 1, 1) := by decide +kernel
theorem dX2_begin_10 : decode cX2_begin 10 = .ok (.getfield 44, 3) := by decide +kernel
theorem dX2_begin_13 : decode cX2_begin 13 = .ok (.putfield 48, 3) := by decide +kernel
theorem dX2_begin_16 : decode cX2_begin 16 = .ok (.aload_n 0, 1) := by decide +kernel
theorem dX2_begin_17 : decode cX2_begin 17 = .ok (.iconst 0, 1) := by decide +kernel
theorem dX2_begin_18 : decode cX2_begin 18 = .ok (.putfield 49, 3) := by decide +kernel
theorem dX2_begin_21 : decode cX2_begin 21 = .ok (.aload_n 0, 1) := by decide +kernel
theorem dX2_begin_22 : decode cX2_begin 22 = .ok (.iconst (-1), 1) := by decide +kernel
theorem dX2_begin_23 : decode cX2_begin 23 = .ok (.putfield 53, 3) := by decide +kernel
theorem dX2_begin_26 : decode cX2_begin 26 = .ok (.return_, 1) := by decide +kernel
theorem dX2_expression_0 : decode cX2_expression 0 = .ok (.aload_n 0, 1) := by decide +kernel
theorem dX2_expression_1 : decode cX2_expression 1 = .ok (.getfield 49, 3) := by decide +kernel
theorem dX2_expression_4 : decode cX2_expression 4 = .ok (.istore_n 2, 1) := by decide +kernel
theorem dX2_expression_5 : decode cX2_expression 5 = .ok (.iconst (-1), 1) := by decide +kernel
theorem dX2_expression_6 : decode cX2_expression 6 = .ok (.istore_n 3, 1) := by decide +kernel
theorem dX2_expression_7 : decode cX2_expression 7 = .ok (.iconst 0, 1) := by decide +kernel
theorem dX2_expression_8 : decode cX2_expression 8 = .ok (.istore 4, 2) := by decide +kernel
theorem dX2_expression_10 : decode cX2_expression 10 = .ok (.iload 4, 2) := by decide +kernel
theorem dX2_expression_12 : decode cX2_expression 12 = .ok (.aload_n 0, 1) := by decide +kernel
theorem dX2_expression_13 : decode cX2_expression 13 = .ok (.getfield 21, 3) := by decide +kernel
theorem dX2_expression_16 : decode cX2_expression 16 = .ok (.getfield 56, 3) := by decide +kernel
theorem dX2_expression_19 : decode cX2_expression 19 = .ok (.if_icmp .gt 71, 3) := by decide +kernel
theorem dX2_expression_22 : decode cX2_expression 22 = .ok (.aload_n 0, 1) := by decide +kernel
theorem dX2_expression_23 : decode cX2_expression 23 = .ok (.invokevirtual 61, 3) := by decide +kernel
theorem dX2_expression_26 : decode cX2_expression 26 = .ok (.aload_n 0, 1) := by decide +kernel
theorem dX2_expression_27 : decode cX2_expression 27 = .ok (.invokevirtual 64, 3) := by decide +kernel
theorem dX2_expression_30 : decode cX2_expression 30 = .ok (.istore_n 3, 1) := by decide +kernel
theorem dX2_expression_31 : decode cX2_expression 31 = .ok (.aload_n 0, 1) := by decide +kernel
theorem dX2_expression_32 : decode cX2_expression 32 = .ok (.iload_n 3, 1) := by decide +kernel
theorem dX2_expression_33 : decode cX2_expression 33 = .ok (.iload_n 2, 1) := by decide +kernel
theorem dX2_expression_34 : decode cX2_expression 34 = .ok (.invokevirtual 68, 3) := by decide +kernel
theorem dX2_expression_37 : decode cX2_expression 37 = .ok (.istore_n 3, 1) := by decide +kernel
theorem dX2_expression_38 : decode cX2_expression 38 = .ok (.aload_n 0, 1) := by decide +kernel
theorem dX2_expression_39 : decode cX2_expression 39 = .ok (.iload_n 1, 1) := by decide +kernel
theorem dX2_expression_40 : decode cX2_expression 40 = .ok (.invokevirtual 72, 3) := by decide +kernel
theorem dX2_expression_43 : decode cX2_expression 43 = .ok (.aload_n 0, 1) := by decide +kernel
theorem dX2_expression_44 : decode cX2_expression 44 = .ok (.getfield 21, 3) := by decide +kernel
theorem dX2_expression_47 : decode cX2_expression 47 = .ok (.getfield 76, 3) := by decide +kernel
theorem dX2_expression_50 : decode cX2_expression 50 = .ok (.invokestatic 79, 3) := by decide +kernel
theorem dX2_expression_53 : decode cX2_expression 53 = .ok (.istore 5, 2) := by decide +kernel
theorem dX2_expression_55 : decode cX2_expression 55 = .ok (.aload_n 0, 1) := by decide +kernel
theorem dX2_expression_56 : decode cX2_expression 56 = .ok (.iload_n 3, 1) := by decide +kernel
theorem dX2_expression_57 : decode cX2_expression 57 = .ok (.iload_n 2, 1) := by decide +kernel
theorem dX2_expression_58 : decode cX2_expression 58 = .ok (.iload 5, 2) := by decide +kernel
theorem dX2_expression_60 : decode cX2_expression 60 = .ok (.invokevirtual 83, 3) := by decide +kernel
theorem dX2_expression_63 : decode cX2_expression 63 = .ok (.istore_n 3, 1) := by decide +kernel
theorem dX2_expression_64 : decode cX2_expression 64 = .ok (.iload 5, 2) := by decide +kernel
theorem dX2_expression_66 : decode cX2_expression 66 = .ok (.ifCond .ne 6, 3) := by decide +kernel
theorem dX2_expression_69 : decode cX2_expression 69 = .ok (.goto 21, 3) := by decide +kernel
theorem dX2_expression_72 : decode cX2_expression 72 = .ok (.aload_n 0, 1) := by decide +kernel
theorem dX2_expression_73 : decode cX2_expression 73 = .ok (.iload_n 3, 1) := by decide +kernel
theorem dX2_expression_74 : decode cX2_expression 74 = .ok (.invokevirtual 87, 3) := by decide +kernel
theorem dX2_expression_77 : decode cX2_expression 77 = .ok (.aload_n 0, 1) := by decide +kernel
theorem dX2_expression_78 : decode cX2_expression 78 = .ok (.getfield 21, 3) := by decide +kernel
theorem dX2_expression_81 : decode cX2_expression 81 = .ok (.invokevirtual 90, 3) := by decide +kernel
theorem dX2_expression_84 : decode cX2_expression 84 = .ok (.iinc 4 1, 3) := by decide +kernel
theorem dX2_expression_87 : decode cX2_expression 87 = .ok (.goto (-77), 3) := by decide +kernel
theorem dX2_expression_90 : decode cX2_expression 90 = .ok (.aload_n 0, 1) := by decide +kernel
theorem dX2_expression_91 : decode cX2_expression 91 = .ok (.iload_n 2, 1) := by decide +kernel
theorem dX2_expression_92 : decode cX2_expression 92 = .ok (.putfield 49, 3) := by decide +kernel
theorem dX2_expression_95 : decode cX2_expression 95 = .ok (.iload_n 3, 1) := by decide +kernel
theorem dX2_expression_96 : decode cX2_expression 96 = .ok (.ireturn, 1) := by decide +kernel
theorem dX2_rankOf_0 : decode cX2_rankOf 0 = .ok (.iload_n 0, 1) := by decide +kernel
theorem dX2_rankOf_1 : decode cX2_rankOf 1 = .ok (.ifCond .lt 19, 3) := by decide +kernel
theorem dX2_rankOf_4 : decode cX2_rankOf 4 = .ok (.iload_n 0, 1) := by decide +kernel
theorem dX2_rankOf_5 : decode cX2_rankOf 5 = .ok (.getstatic 93, 3) := by decide +kernel
theorem dX2_rankOf_8 : decode cX2_rankOf 8 = .ok (.arraylength, 1) := by decide +kernel
theorem dX2_rankOf_9 : decode cX2_rankOf 9 = .ok (.if_icmp .ge 11, 3) := by decide +kernel
theorem dX2_rankOf_12 : decode cX2_rankOf 12 = .ok (.getstatic 93, 3) := by decide +kernel
theorem dX2_rankOf_15 : decode cX2_rankOf 15 = .ok (.iload_n 0, 1) := by decide +kernel
theorem dX2_rankOf_16 : decode cX2_rankOf 16 = .ok (.iaload, 1) := by decide +kernel
theorem dX2_rankOf_17 : decode cX2_rankOf 17 = .ok (.goto 4, 3) := by decide +kernel
theorem dX2_rankOf_20 : decode cX2_rankOf 20 = .ok (.iconst 0, 1) := by decide +kernel
theorem dX2_rankOf_21 : decode cX2_rankOf 21 = .ok (.ireturn, 1) := by decide +kernel
theorem dX2_push_0 : decode cX2_push 0 = .ok (.aload_n 0, 1) := by decide +kernel
theorem dX2_push_1 : decode cX2_push 1 = .ok (.getfield 49, 3) := by decide +kernel
theorem dX2_push_4 : decode cX2_push 4 = .ok (.aload_n 0, 1) := by decide +kernel
theorem dX2_push_5 : decode cX2_push 5 = .ok (.getfield 27, 3) := by decide +kernel
theorem dX2_push_8 : decode cX2_push 8 = .ok (.arraylength, 1) := by decide +kernel
theorem dX2_push_9 : decode cX2_push 9 = .ok (.if_icmp .ge 43, 3) := by decide +kernel
theorem dX2_push_12 : decode cX2_push 12 = .ok (.aload_n 0, 1) := by decide +kernel
theorem dX2_push_13 : decode cX2_push 13 = .ok (.getfield 27, 3) := by decide +kernel
theorem dX2_push_16 : decode cX2_push 16 = .ok (.aload_n 0, 1) := by decide +kernel
theorem dX2_push_17 : decode cX2_push 17 = .ok (.getfield 49, 3) := by decide +kernel
theorem dX2_push_20 : decode cX2_push 20 = .ok (.iload_n 1, 1) := by decide +kernel
theorem dX2_push_21 : decode cX2_push 21 = .ok (.iastore, 1) := by decide +kernel
theorem dX2_push_22 : decode cX2_push 22 = .ok (.aload_n 0, 1) := by decide +kernel
theorem dX2_push_23 : decode cX2_push 23 = .ok (.getfield 31, 3) := by decide +kernel
theorem dX2_push_26 : decode cX2_push 26 = .ok (.aload_n 0, 1) := by decide +kernel
theorem dX2_push_27 : decode cX2_push 27 = .ok (.getfield 49, 3) := by decide +kernel
theorem dX2_push_30 : decode cX2_push 30 = .ok (.iload_n 2, 1) := by decide +kernel
theorem dX2_push_31 : decode cX2_push 31 = .ok (.iastore, 1) := by decide +kernel
theorem dX2_push_32 : decode cX2_push 32 = .ok (.aload_n 0, 1) := by decide +kernel
theorem dX2_push_33 : decode cX2_push 33 = .ok (.getfield 34, 3) := by decide +kernel
theorem dX2_push_36 : decode cX2_push 36 = .ok (.aload_n 0, 1) := by decide +kernel
theorem dX2_push_37 : decode cX2_push 37 = .ok (.getfield 49, 3) := by decide +kernel
theorem dX2_push_40 : decode cX2_push 40 = .ok (.iload_n 3, 1) := by decide +kernel
theorem dX2_push_41 : decode cX2_push 41 = .ok (.iastore, 1) := by decide +kernel
theorem dX2_push_42 : decode cX2_push 42 = .ok (.aload_n 0, 1) := by decide +kernel
theorem dX2_push_43 : decode cX2_push 43 = .ok (.dup, 1) := by decide +kernel
theorem dX2_push_44 : decode cX2_push 44 = .ok (.getfield 49, 3) := by decide +kernel
theorem dX2_push_47 : decode cX2_push 47 = .ok (.iconst 1, 1) := by decide +kernel
theorem dX2_push_48 : decode cX2_push 48 = .ok (.iadd, 1) := by decide +kernel
theorem dX2_push_49 : decode cX2_push 49 = .ok (.putfield 49, 3) := by decide +kernel
theorem dX2_push_52 : decode cX2_push 52 = .ok (.return_, 1) := by decide +kernel
theorem dX2_openOnes_0 : decode cX2_openOnes 0 = .ok (.iconst 0, 1) := by decide +kernel
theorem dX2_openOnes_1 : decode cX2_openOnes 1 = .ok (.istore_n 1, 1) := by decide +kernel
theorem dX2_openOnes_2 : decode cX2_openOnes 2 = .ok (.iload_n 1, 1) := by decide +kernel
theorem dX2_openOnes_3 : decode cX2_openOnes 3 = .ok (.bipush 40, 2) := by decide +kernel
theorem dX2_openOnes_5 : decode cX2_openOnes 5 = .ok (.if_icmp .gt 82, 3) := by decide +kernel
theorem dX2_openOnes_8 : decode cX2_openOnes 8 = .ok (.aload_n 0, 1) := by decide +kernel
theorem dX2_openOnes_9 : decode cX2_openOnes 9 = .ok (.getfield 21, 3) := by decide +kernel
theorem dX2_openOnes_12 : decode cX2_openOnes 12 = .ok (.getfield 76, 3) := by decide +kernel
theorem dX2_openOnes_15 : decode cX2_openOnes 15 = .ok (.bipush 22, 2) := by decide +kernel
theorem dX2_openOnes_17 : decode cX2_openOnes 17 = .ok (.if_icmp .ne 8, 3) := by decide +kernel
theorem dX2_openOnes_20 : decode cX2_openOnes 20 = .ok (.bipush 24, 2) := by decide +kernel
theorem dX2_openOnes_22 : decode cX2_openOnes 22 = .ok (.goto 10, 3) := by decide +kernel
theorem dX2_openOnes_25 : decode cX2_openOnes 25 = .ok (.aload_n 0, 1) := by decide +kernel
theorem dX2_openOnes_26 : decode cX2_openOnes 26 = .ok (.getfield 21, 3) := by decide +kernel
theorem dX2_openOnes_29 : decode cX2_openOnes 29 = .ok (.getfield 76, 3) := by decide +kernel
theorem dX2_openOnes_32 : decode cX2_openOnes 32 = .ok (.istore_n 2, 1) := by decide +kernel
theorem dX2_openOnes_33 : decode cX2_openOnes 33 = .ok (.iload_n 2, 1) := by decide +kernel
theorem dX2_openOnes_34 : decode cX2_openOnes 34 = .ok (.bipush 24, 2) := by decide +kernel
theorem dX2_openOnes_36 : decode cX2_openOnes 36 = .ok (.if_icmp .lt 9, 3) := by decide +kernel
theorem dX2_openOnes_39 : decode cX2_openOnes 39 = .ok (.iload_n 2, 1) := by decide +kernel
theorem dX2_openOnes_40 : decode cX2_openOnes 40 = .ok (.bipush 26, 2) := by decide +kernel
theorem dX2_openOnes_42 : decode cX2_openOnes 42 = .ok (.if_icmp .le 4, 3) := by decide +kernel
theorem dX2_openOnes_45 : decode cX2_openOnes 45 = .ok (.return_, 1) := by decide +kernel
theorem dX2_openOnes_46 : decode cX2_openOnes 46 = .ok (.aload_n 0, 1) := by decide +kernel
theorem dX2_openOnes_47 : decode cX2_openOnes 47 = .ok (.getfield 9, 3) := by decide +kernel
theorem dX2_openOnes_50 : decode cX2_openOnes 50 = .ok (.invokevirtual 96, 3) := by decide +kernel
theorem dX2_openOnes_53 : decode cX2_openOnes 53 = .ok (.aload_n 0, 1) := by decide +kernel
theorem dX2_openOnes_54 : decode cX2_openOnes 54 = .ok (.getfield 9, 3) := by decide +kernel
theorem dX2_openOnes_57 : decode cX2_openOnes 57 = .ok (.aload_n 0, 1) := by decide +kernel
theorem dX2_openOnes_58 : decode cX2_openOnes 58 = .ok (.getfield 21, 3) := by decide +kernel
theorem dX2_openOnes_61 : decode cX2_openOnes 61 = .ok (.getfield 99, 3) := by decide +kernel
theorem dX2_openOnes_64 : decode cX2_openOnes 64 = .ok (.invokevirtual 102, 3) := by decide +kernel
theorem dX2_openOnes_67 : decode cX2_openOnes 67 = .ok (.aload_n 0, 1) := by decide +kernel
theorem dX2_openOnes_68 : decode cX2_openOnes 68 = .ok (.iload_n 2, 1) := by decide +kernel
theorem dX2_openOnes_69 : decode cX2_openOnes 69 = .ok (.iconst (-1), 1) := by decide +kernel
theorem dX2_openOnes_70 : decode cX2_openOnes 70 = .ok (.iconst (-1), 1) := by decide +kernel
theorem dX2_openOnes_71 : decode cX2_openOnes 71 = .ok (.invokevirtual 105, 3) := by decide +kernel
theorem dX2_openOnes_74 : decode cX2_openOnes 74 = .ok (.aload_n 0, 1) := by decide +kernel
theorem dX2_openOnes_75 : decode cX2_openOnes 75 = .ok (.getfield 21, 3) := by decide +kernel
theorem dX2_openOnes_78 : decode cX2_openOnes 78 = .ok (.invokevirtual 90, 3) := by decide +kernel
theorem dX2_openOnes_81 : decode cX2_openOnes 81 = .ok (.iinc 1 1, 3) := by decide +kernel
theorem dX2_openOnes_84 : decode cX2_openOnes 84 = .ok (.goto (-82), 3) := by decide +kernel
theorem dX2_openOnes_87 : decode cX2_openOnes 87 = .ok (.return_, 1) := by decide +kernel
theorem dX2_closeOnes_0 : decode cX2_closeOnes 0 = .ok (.iload_n 1, 1) := by decide +kernel
theorem dX2_closeOnes_1 : decode cX2_closeOnes 1 = .ok (.istore_n 3, 1) := by decide +kernel
theorem dX2_closeOnes_2 : decode cX2_closeOnes 2 = .ok (.aload_n 0, 1) := by decide +kernel
theorem dX2_closeOnes_3 : decode cX2_closeOnes 3 = .ok (.getfield 49, 3) := by decide +kernel
theorem dX2_closeOnes_6 : decode cX2_closeOnes 6 = .ok (.iconst 1, 1) := by decide +kernel
theorem dX2_closeOnes_7 : decode cX2_closeOnes 7 = .ok (.isub, 1) := by decide +kernel
theorem dX2_closeOnes_8 : decode cX2_closeOnes 8 = .ok (.istore 4, 2) := by decide +kernel
theorem dX2_closeOnes_10 : decode cX2_closeOnes 10 = .ok (.iload 4, 2) := by decide +kernel
theorem dX2_closeOnes_12 : decode cX2_closeOnes 12 = .ok (.iload_n 2, 1) := by decide +kernel
theorem dX2_closeOnes_13 : decode cX2_closeOnes 13 = .ok (.if_icmp .lt 97, 3) := by decide +kernel
theorem dX2_closeOnes_16 : decode cX2_closeOnes 16 = .ok (.iload 4, 2) := by decide +kernel
theorem dX2_closeOnes_18 : decode cX2_closeOnes 18 = .ok (.ifCond .lt 92, 3) := by decide +kernel
theorem dX2_closeOnes_21 : decode cX2_closeOnes 21 = .ok (.iload 4, 2) := by decide +kernel
theorem dX2_closeOnes_23 : decode cX2_closeOnes 23 = .ok (.aload_n 0, 1) := by decide +kernel
theorem dX2_closeOnes_24 : decode cX2_closeOnes 24 = .ok (.getfield 27, 3) := by decide +kernel
theorem dX2_closeOnes_27 : decode cX2_closeOnes 27 = .ok (.arraylength, 1) := by decide +kernel
theorem dX2_closeOnes_28 : decode cX2_closeOnes 28 = .ok (.if_icmp .ge 82, 3) := by decide +kernel
theorem dX2_closeOnes_31 : decode cX2_closeOnes 31 = .ok (.aload_n 0, 1) := by decide +kernel
theorem dX2_closeOnes_32 : decode cX2_closeOnes 32 = .ok (.getfield 27, 3) := by decide +kernel
theorem dX2_closeOnes_35 : decode cX2_closeOnes 35 = .ok (.iload 4, 2) := by decide +kernel
theorem dX2_closeOnes_37 : decode cX2_closeOnes 37 = .ok (.iaload, 1) := by decide +kernel
theorem dX2_closeOnes_38 : decode cX2_closeOnes 38 = .ok (.bipush 24, 2) := by decide +kernel
theorem dX2_closeOnes_40 : decode cX2_closeOnes 40 = .ok (.if_icmp .lt 70, 3) := by decide +kernel
theorem dX2_closeOnes_43 : decode cX2_closeOnes 43 = .ok (.aload_n 0, 1) := by decide +kernel
theorem dX2_closeOnes_44 : decode cX2_closeOnes 44 = .ok (.getfield 27, 3) := by decide +kernel
theorem dX2_closeOnes_47 : decode cX2_closeOnes 47 = .ok (.iload 4, 2) := by decide +kernel
theorem dX2_closeOnes_49 : decode cX2_closeOnes 49 = .ok (.iaload, 1) := by decide +kernel
theorem dX2_closeOnes_50 : decode cX2_closeOnes 50 = .ok (.bipush 26, 2) := by decide +kernel
theorem dX2_closeOnes_52 : decode cX2_closeOnes 52 = .ok (.if_icmp .le 6, 3) := by decide +kernel
theorem dX2_closeOnes_55 : decode cX2_closeOnes 55 = .ok (.goto 55, 3) := by decide +kernel
theorem dX2_closeOnes_58 : decode cX2_closeOnes 58 = .ok (.aload_n 0, 1) := by decide +kernel
theorem dX2_closeOnes_59 : decode cX2_closeOnes 59 = .ok (.getfield 48, 3) := by decide +kernel
theorem dX2_closeOnes_62 : decode cX2_closeOnes 62 = .ok (.aload_n 0, 1) := by decide +kernel
theorem dX2_closeOnes_63 : decode cX2_closeOnes 63 = .ok (.getfield 27, 3) := by decide +kernel
theorem dX2_closeOnes_66 : decode cX2_closeOnes 66 = .ok (.iload 4, 2) := by decide +kernel
theorem dX2_closeOnes_68 : decode cX2_closeOnes 68 = .ok (.iaload, 1) := by decide +kernel
theorem dX2_closeOnes_69 : decode cX2_closeOnes 69 = .ok (.invokevirtual 109, 3) := by decide +kernel
theorem dX2_closeOnes_72 : decode cX2_closeOnes 72 = .ok (.aload_n 0, 1) := by decide +kernel
theorem dX2_closeOnes_73 : decode cX2_closeOnes 73 = .ok (.getfield 43, 3) := by decide +kernel
theorem dX2_closeOnes_76 : decode cX2_closeOnes 76 = .ok (.bipush 6, 2) := by decide +kernel
theorem dX2_closeOnes_78 : decode cX2_closeOnes 78 = .ok (.aload_n 0, 1) := by decide +kernel
theorem dX2_closeOnes_79 : decode cX2_closeOnes 79 = .ok (.getfield 27, 3) := by decide +kernel
theorem dX2_closeOnes_82 : decode cX2_closeOnes 82 = .ok (.iload 4, 2) := by decide +kernel
theorem dX2_closeOnes_84 : decode cX2_closeOnes 84 = .ok (.iaload, 1) := by decide +kernel
theorem dX2_closeOnes_85 : decode cX2_closeOnes 85 = .ok (.iload_n 3, 1) := by decide +kernel
theorem dX2_closeOnes_86 : decode cX2_closeOnes 86 = .ok (.iconst (-1), 1) := by decide +kernel
theorem dX2_closeOnes_87 : decode cX2_closeOnes 87 = .ok (.invokevirtual 116, 3) := by decide +kernel
theorem dX2_closeOnes_90 : decode cX2_closeOnes 90 = .ok (.istore_n 3, 1) := by decide +kernel
theorem dX2_closeOnes_91 : decode cX2_closeOnes 91 = .ok (.aload_n 0, 1) := by decide +kernel
theorem dX2_closeOnes_92 : decode cX2_closeOnes 92 = .ok (.getfield 9, 3) := by decide +kernel
theorem dX2_closeOnes_95 : decode cX2_closeOnes 95 = .ok (.invokevirtual 119, 3) := by decide +kernel
theorem dX2_closeOnes_98 : decode cX2_closeOnes 98 = .ok (.aload_n 0, 1) := by decide +kernel
theorem dX2_closeOnes_99 : decode cX2_closeOnes 99 = .ok (.iload 4, 2) := by decide +kernel
theorem dX2_closeOnes_101 : decode cX2_closeOnes 101 = .ok (.putfield 49, 3) := by decide +kernel
theorem dX2_closeOnes_104 : decode cX2_closeOnes 104 = .ok (.iinc 4 (-1), 3) := by decide +kernel
theorem dX2_closeOnes_107 : decode cX2_closeOnes 107 = .ok (.goto (-97), 3) := by decide +kernel
theorem dX2_closeOnes_110 : decode cX2_closeOnes 110 = .ok (.iload_n 3, 1) := by decide +kernel
theorem dX2_closeOnes_111 : decode cX2_closeOnes 111 = .ok (.ireturn, 1) := by decide +kernel
theorem dX2_settle_0 : decode cX2_settle 0 = .ok (.aload_n 0, 1) := by decide +kernel
theorem dX2_settle_1 : decode cX2_settle 1 = .ok (.getfield 21, 3) := by decide +kernel
theorem dX2_settle_4 : decode cX2_settle 4 = .ok (.getfield 76, 3) := by decide +kernel
theorem dX2_settle_7 : decode cX2_settle 7 = .ok (.iload_n 1, 1) := by decide +kernel
theorem dX2_settle_8 : decode cX2_settle 8 = .ok (.if_icmp .eq 21, 3) := by decide +kernel
theorem dX2_settle_11 : decode cX2_settle 11 = .ok (.iload_n 1, 1) := by decide +kernel
theorem dX2_settle_12 : decode cX2_settle 12 = .ok (.bipush 55, 2) := by decide +kernel
theorem dX2_settle_14 : decode cX2_settle 14 = .ok (.if_icmp .ne 19, 3) := by decide +kernel
theorem dX2_settle_17 : decode cX2_settle 17 = .ok (.aload_n 0, 1) := by decide +kernel
theorem dX2_settle_18 : decode cX2_settle 18 = .ok (.getfield 21, 3) := by decide +kernel
theorem dX2_settle_21 : decode cX2_settle 21 = .ok (.getfield 76, 3) := by decide +kernel
theorem dX2_settle_24 : decode cX2_settle 24 = .ok (.bipush 50, 2) := by decide +kernel
theorem dX2_settle_26 : decode cX2_settle 26 = .ok (.if_icmp .ne 7, 3) := by decide +kernel
theorem dX2_settle_29 : decode cX2_settle 29 = .ok (.iconst 1, 1) := by decide +kernel
theorem dX2_settle_30 : decode cX2_settle 30 = .ok (.goto 4, 3) := by decide +kernel
theorem dX2_settle_33 : decode cX2_settle 33 = .ok (.iconst 0, 1) := by decide +kernel
theorem dX2_settle_34 : decode cX2_settle 34 = .ok (.istore_n 2, 1) := by decide +kernel
theorem dX2_settle_35 : decode cX2_settle 35 = .ok (.iload_n 2, 1) := by decide +kernel
theorem dX2_settle_36 : decode cX2_settle 36 = .ok (.ifCond .ne 24, 3) := by decide +kernel
theorem dX2_settle_39 : decode cX2_settle 39 = .ok (.aload_n 0, 1) := by decide +kernel
theorem dX2_settle_40 : decode cX2_settle 40 = .ok (.getfield 21, 3) := by decide +kernel
theorem dX2_settle_43 : decode cX2_settle 43 = .ok (.getfield 76, 3) := by decide +kernel
theorem dX2_settle_46 : decode cX2_settle 46 = .ok (.invokestatic 79, 3) := by decide +kernel
theorem dX2_settle_49 : decode cX2_settle 49 = .ok (.ifCond .ne 11, 3) := by decide +kernel
theorem dX2_settle_52 : decode cX2_settle 52 = .ok (.aload_n 0, 1) := by decide +kernel
theorem dX2_settle_53 : decode cX2_settle 53 = .ok (.getfield 21, 3) := by decide +kernel
theorem dX2_settle_56 : decode cX2_settle 56 = .ok (.iconst 2, 1) := by decide +kernel
theorem dX2_settle_57 : decode cX2_settle 57 = .ok (.invokevirtual 122, 3) := by decide +kernel
theorem dX2_settle_60 : decode cX2_settle 60 = .ok (.aload_n 0, 1) := by decide +kernel
theorem dX2_settle_61 : decode cX2_settle 61 = .ok (.getfield 53, 3) := by decide +kernel
theorem dX2_settle_64 : decode cX2_settle 64 = .ok (.ifCond .lt 20, 3) := by decide +kernel
theorem dX2_settle_67 : decode cX2_settle 67 = .ok (.aload_n 0, 1) := by decide +kernel
theorem dX2_settle_68 : decode cX2_settle 68 = .ok (.getfield 21, 3) := by decide +kernel
theorem dX2_settle_71 : decode cX2_settle 71 = .ok (.iconst 5, 1) := by decide +kernel
theorem dX2_settle_72 : decode cX2_settle 72 = .ok (.aload_n 0, 1) := by decide +kernel
theorem dX2_settle_73 : decode cX2_settle 73 = .ok (.getfield 53, 3) := by decide +kernel
theorem dX2_settle_76 : decode cX2_settle 76 = .ok (.invokevirtual 125, 3) := by decide +kernel
theorem dX2_settle_79 : decode cX2_settle 79 = .ok (.aload_n 0, 1) := by decide +kernel
theorem dX2_settle_80 : decode cX2_settle 80 = .ok (.iconst (-1), 1) := by decide +kernel
theorem dX2_settle_81 : decode cX2_settle 81 = .ok (.putfield 53, 3) := by decide +kernel
theorem dX2_settle_84 : decode cX2_settle 84 = .ok (.return_, 1) := by decide +kernel
theorem dX2_openTwo_0 : decode cX2_openTwo 0 = .ok (.aload_n 0, 1) := by decide +kernel
theorem dX2_openTwo_1 : decode cX2_openTwo 1 = .ok (.getfield 21, 3) := by decide +kernel
theorem dX2_openTwo_4 : decode cX2_openTwo 4 = .ok (.getfield 76, 3) := by decide +kernel
theorem dX2_openTwo_7 : decode cX2_openTwo 7 = .ok (.istore_n 2, 1) := by decide +kernel
theorem dX2_openTwo_8 : decode cX2_openTwo 8 = .ok (.iconst (-1), 1) := by decide +kernel
theorem dX2_openTwo_9 : decode cX2_openTwo 9 = .ok (.istore_n 3, 1) := by decide +kernel
theorem dX2_openTwo_10 : decode cX2_openTwo 10 = .ok (.aload_n 0, 1) := by decide +kernel
theorem dX2_openTwo_11 : decode cX2_openTwo 11 = .ok (.getfield 9, 3) := by decide +kernel
theorem dX2_openTwo_14 : decode cX2_openTwo 14 = .ok (.aload_n 0, 1) := by decide +kernel
theorem dX2_openTwo_15 : decode cX2_openTwo 15 = .ok (.getfield 21, 3) := by decide +kernel
theorem dX2_openTwo_18 : decode cX2_openTwo 18 = .ok (.getfield 99, 3) := by decide +kernel
theorem dX2_openTwo_21 : decode cX2_openTwo 21 = .ok (.invokevirtual 102, 3) := by decide +kernel
theorem dX2_openTwo_24 : decode cX2_openTwo 24 = .ok (.iload_n 2, 1) := by decide +kernel
theorem dX2_openTwo_25 : decode cX2_openTwo 25 = .ok (.bipush 8, 2) := by decide +kernel
theorem dX2_openTwo_27 : decode cX2_openTwo 27 = .ok (.if_icmp .ne 26, 3) := by decide +kernel
theorem dX2_openTwo_30 : decode cX2_openTwo 30 = .ok (.aload_n 0, 1) := by decide +kernel
theorem dX2_openTwo_31 : decode cX2_openTwo 31 = .ok (.getfield 48, 3) := by decide +kernel
theorem dX2_openTwo_34 : decode cX2_openTwo 34 = .ok (.bipush 31, 2) := by decide +kernel
theorem dX2_openTwo_36 : decode cX2_openTwo 36 = .ok (.iconst 0, 1) := by decide +kernel
theorem dX2_openTwo_37 : decode cX2_openTwo 37 = .ok (.invokevirtual 129, 3) := by decide +kernel
theorem dX2_openTwo_40 : decode cX2_openTwo 40 = .ok (.aload_n 0, 1) := by decide +kernel
theorem dX2_openTwo_41 : decode cX2_openTwo 41 = .ok (.getfield 48, 3) := by decide +kernel
theorem dX2_openTwo_44 : decode cX2_openTwo 44 = .ok (.getfield 132, 3) := by decide +kernel
theorem dX2_openTwo_47 : decode cX2_openTwo 47 = .ok (.iconst 1, 1) := by decide +kernel
theorem dX2_openTwo_48 : decode cX2_openTwo 48 = .ok (.isub, 1) := by decide +kernel
theorem dX2_openTwo_49 : decode cX2_openTwo 49 = .ok (.istore_n 3, 1) := by decide +kernel
theorem dX2_openTwo_50 : decode cX2_openTwo 50 = .ok (.goto 57, 3) := by decide +kernel
theorem dX2_openTwo_53 : decode cX2_openTwo 53 = .ok (.iload_n 2, 1) := by decide +kernel
theorem dX2_openTwo_54 : decode cX2_openTwo 54 = .ok (.bipush 9, 2) := by decide +kernel
theorem dX2_openTwo_56 : decode cX2_openTwo 56 = .ok (.if_icmp .ne 51, 3) := by decide +kernel
theorem dX2_openTwo_59 : decode cX2_openTwo 59 = .ok (.aload_n 0, 1) := by decide +kernel
theorem dX2_openTwo_60 : decode cX2_openTwo 60 = .ok (.getfield 48, 3) := by decide +kernel
theorem dX2_openTwo_63 : decode cX2_openTwo 63 = .ok (.bipush 31, 2) := by decide +kernel
theorem dX2_openTwo_65 : decode cX2_openTwo 65 = .ok (.aload_n 0, 1) := by decide +kernel
theorem dX2_openTwo_66 : decode cX2_openTwo 66 = .ok (.getfield 48, 3) := by decide +kernel
theorem dX2_openTwo_69 : decode cX2_openTwo 69 = .ok (.getfield 132, 3) := by decide +kernel
theorem dX2_openTwo_72 : decode cX2_openTwo 72 = .ok (.bipush 6, 2) := by decide +kernel
theorem dX2_openTwo_74 : decode cX2_openTwo 74 = .ok (.iadd, 1) := by decide +kernel
theorem dX2_openTwo_75 : decode cX2_openTwo 75 = .ok (.invokevirtual 129, 3) := by decide +kernel
theorem dX2_openTwo_78 : decode cX2_openTwo 78 = .ok (.aload_n 0, 1) := by decide +kernel
theorem dX2_openTwo_79 : decode cX2_openTwo 79 = .ok (.getfield 48, 3) := by decide +kernel
theorem dX2_openTwo_82 : decode cX2_openTwo 82 = .ok (.iconst 1, 1) := by decide +kernel
theorem dX2_openTwo_83 : decode cX2_openTwo 83 = .ok (.iconst 1, 1) := by decide +kernel
theorem dX2_openTwo_84 : decode cX2_openTwo 84 = .ok (.invokevirtual 129, 3) := by decide +kernel
theorem dX2_openTwo_87 : decode cX2_openTwo 87 = .ok (.aload_n 0, 1) := by decide +kernel
theorem dX2_openTwo_88 : decode cX2_openTwo 88 = .ok (.getfield 48, 3) := by decide +kernel
theorem dX2_openTwo_91 : decode cX2_openTwo 91 = .ok (.bipush 30, 2) := by decide +kernel
theorem dX2_openTwo_93 : decode cX2_openTwo 93 = .ok (.iconst 0, 1) := by decide +kernel
theorem dX2_openTwo_94 : decode cX2_openTwo 94 = .ok (.invokevirtual 129, 3) := by decide +kernel
theorem dX2_openTwo_97 : decode cX2_openTwo 97 = .ok (.aload_n 0, 1) := by decide +kernel
theorem dX2_openTwo_98 : decode cX2_openTwo 98 = .ok (.getfield 48, 3) := by decide +kernel
theorem dX2_openTwo_101 : decode cX2_openTwo 101 = .ok (.getfield 132, 3) := by decide +kernel
theorem dX2_openTwo_104 : decode cX2_openTwo 104 = .ok (.iconst 1, 1) := by decide +kernel
theorem dX2_openTwo_105 : decode cX2_openTwo 105 = .ok (.isub, 1) := by decide +kernel
theorem dX2_openTwo_106 : decode cX2_openTwo 106 = .ok (.istore_n 3, 1) := by decide +kernel
theorem dX2_openTwo_107 : decode cX2_openTwo 107 = .ok (.aload_n 0, 1) := by decide +kernel
theorem dX2_openTwo_108 : decode cX2_openTwo 108 = .ok (.iload_n 2, 1) := by decide +kernel
theorem dX2_openTwo_109 : decode cX2_openTwo 109 = .ok (.iload_n 1, 1) := by decide +kernel
theorem dX2_openTwo_110 : decode cX2_openTwo 110 = .ok (.iload_n 3, 1) := by decide +kernel
theorem dX2_openTwo_111 : decode cX2_openTwo 111 = .ok (.invokevirtual 105, 3) := by decide +kernel
theorem dX2_openTwo_114 : decode cX2_openTwo 114 = .ok (.return_, 1) := by decide +kernel
theorem dX2_joinAll_0 : decode cX2_joinAll 0 = .ok (.iload_n 1, 1) := by decide +kernel
theorem dX2_joinAll_1 : decode cX2_joinAll 1 = .ok (.istore 4, 2) := by decide +kernel
theorem dX2_joinAll_3 : decode cX2_joinAll 3 = .ok (.aload_n 0, 1) := by decide +kernel
theorem dX2_joinAll_4 : decode cX2_joinAll 4 = .ok (.getfield 49, 3) := by decide +kernel
theorem dX2_joinAll_7 : decode cX2_joinAll 7 = .ok (.iconst 1, 1) := by decide +kernel
theorem dX2_joinAll_8 : decode cX2_joinAll 8 = .ok (.isub, 1) := by decide +kernel
theorem dX2_joinAll_9 : decode cX2_joinAll 9 = .ok (.istore 5, 2) := by decide +kernel
theorem dX2_joinAll_11 : decode cX2_joinAll 11 = .ok (.iload 5, 2) := by decide +kernel
theorem dX2_joinAll_13 : decode cX2_joinAll 13 = .ok (.iload_n 2, 1) := by decide +kernel
theorem dX2_joinAll_14 : decode cX2_joinAll 14 = .ok (.if_icmp .lt 112, 3) := by decide +kernel
theorem dX2_joinAll_17 : decode cX2_joinAll 17 = .ok (.iload 5, 2) := by decide +kernel
theorem dX2_joinAll_19 : decode cX2_joinAll 19 = .ok (.ifCond .lt 107, 3) := by decide +kernel
theorem dX2_joinAll_22 : decode cX2_joinAll 22 = .ok (.iload 5, 2) := by decide +kernel
theorem dX2_joinAll_24 : decode cX2_joinAll 24 = .ok (.aload_n 0, 1) := by decide +kernel
theorem dX2_joinAll_25 : decode cX2_joinAll 25 = .ok (.getfield 27, 3) := by decide +kernel
theorem dX2_joinAll_28 : decode cX2_joinAll 28 = .ok (.arraylength, 1) := by decide +kernel
theorem dX2_joinAll_29 : decode cX2_joinAll 29 = .ok (.if_icmp .ge 97, 3) := by decide +kernel
theorem dX2_joinAll_32 : decode cX2_joinAll 32 = .ok (.aload_n 0, 1) := by decide +kernel
theorem dX2_joinAll_33 : decode cX2_joinAll 33 = .ok (.getfield 27, 3) := by decide +kernel
theorem dX2_joinAll_36 : decode cX2_joinAll 36 = .ok (.iload 5, 2) := by decide +kernel
theorem dX2_joinAll_38 : decode cX2_joinAll 38 = .ok (.iaload, 1) := by decide +kernel
theorem dX2_joinAll_39 : decode cX2_joinAll 39 = .ok (.istore 6, 2) := by decide +kernel
theorem dX2_joinAll_41 : decode cX2_joinAll 41 = .ok (.iload 6, 2) := by decide +kernel
theorem dX2_joinAll_43 : decode cX2_joinAll 43 = .ok (.invokestatic 79, 3) := by decide +kernel
theorem dX2_joinAll_46 : decode cX2_joinAll 46 = .ok (.iload_n 3, 1) := by decide +kernel
theorem dX2_joinAll_47 : decode cX2_joinAll 47 = .ok (.if_icmp .ge 6, 3) := by decide +kernel
theorem dX2_joinAll_50 : decode cX2_joinAll 50 = .ok (.goto 76, 3) := by decide +kernel
theorem dX2_joinAll_53 : decode cX2_joinAll 53 = .ok (.iload 6, 2) := by decide +kernel
theorem dX2_joinAll_55 : decode cX2_joinAll 55 = .ok (.bipush 8, 2) := by decide +kernel
theorem dX2_joinAll_57 : decode cX2_joinAll 57 = .ok (.if_icmp .eq 10, 3) := by decide +kernel
theorem dX2_joinAll_60 : decode cX2_joinAll 60 = .ok (.iload 6, 2) := by decide +kernel
theorem dX2_joinAll_62 : decode cX2_joinAll 62 = .ok (.bipush 9, 2) := by decide +kernel
theorem dX2_joinAll_64 : decode cX2_joinAll 64 = .ok (.if_icmp .ne 19, 3) := by decide +kernel
theorem dX2_joinAll_67 : decode cX2_joinAll 67 = .ok (.aload_n 0, 1) := by decide +kernel
theorem dX2_joinAll_68 : decode cX2_joinAll 68 = .ok (.iload 6, 2) := by decide +kernel
theorem dX2_joinAll_70 : decode cX2_joinAll 70 = .ok (.aload_n 0, 1) := by decide +kernel
theorem dX2_joinAll_71 : decode cX2_joinAll 71 = .ok (.getfield 34, 3) := by decide +kernel
theorem dX2_joinAll_74 : decode cX2_joinAll 74 = .ok (.iload 5, 2) := by decide +kernel
theorem dX2_joinAll_76 : decode cX2_joinAll 76 = .ok (.iaload, 1) := by decide +kernel
theorem dX2_joinAll_77 : decode cX2_joinAll 77 = .ok (.invokevirtual 133, 3) := by decide +kernel
theorem dX2_joinAll_80 : decode cX2_joinAll 80 = .ok (.goto 12, 3) := by decide +kernel
theorem dX2_joinAll_83 : decode cX2_joinAll 83 = .ok (.aload_n 0, 1) := by decide +kernel
theorem dX2_joinAll_84 : decode cX2_joinAll 84 = .ok (.getfield 48, 3) := by decide +kernel
theorem dX2_joinAll_87 : decode cX2_joinAll 87 = .ok (.iload 6, 2) := by decide +kernel
theorem dX2_joinAll_89 : decode cX2_joinAll 89 = .ok (.invokevirtual 109, 3) := by decide +kernel
theorem dX2_joinAll_92 : decode cX2_joinAll 92 = .ok (.aload_n 0, 1) := by decide +kernel
theorem dX2_joinAll_93 : decode cX2_joinAll 93 = .ok (.getfield 43, 3) := by decide +kernel
theorem dX2_joinAll_96 : decode cX2_joinAll 96 = .ok (.bipush 7, 2) := by decide +kernel
theorem dX2_joinAll_98 : decode cX2_joinAll 98 = .ok (.iload 6, 2) := by decide +kernel
theorem dX2_joinAll_100 : decode cX2_joinAll 100 = .ok (.aload_n 0, 1) := by decide +kernel
theorem dX2_joinAll_101 : decode cX2_joinAll 101 = .ok (.getfield 31, 3) := by decide +kernel
theorem dX2_joinAll_104 : decode cX2_joinAll 104 = .ok (.iload 5, 2) := by decide +kernel
theorem dX2_joinAll_106 : decode cX2_joinAll 106 = .ok (.iaload, 1) := by decide +kernel
theorem dX2_joinAll_107 : decode cX2_joinAll 107 = .ok (.iload 4, 2) := by decide +kernel
theorem dX2_joinAll_109 : decode cX2_joinAll 109 = .ok (.invokevirtual 116, 3) := by decide +kernel
theorem dX2_joinAll_112 : decode cX2_joinAll 112 = .ok (.istore 4, 2) := by decide +kernel
theorem dX2_joinAll_114 : decode cX2_joinAll 114 = .ok (.aload_n 0, 1) := by decide +kernel
theorem dX2_joinAll_115 : decode cX2_joinAll 115 = .ok (.iload 5, 2) := by decide +kernel
theorem dX2_joinAll_117 : decode cX2_joinAll 117 = .ok (.putfield 49, 3) := by decide +kernel
theorem dX2_joinAll_120 : decode cX2_joinAll 120 = .ok (.iinc 5 (-1), 3) := by decide +kernel
theorem dX2_joinAll_123 : decode cX2_joinAll 123 = .ok (.goto (-112), 3) := by decide +kernel
theorem dX2_joinAll_126 : decode cX2_joinAll 126 = .ok (.iload 4, 2) := by decide +kernel
theorem dX2_joinAll_128 : decode cX2_joinAll 128 = .ok (.ireturn, 1) := by decide +kernel
theorem dX2_endChoice_0 : decode cX2_endChoice 0 = .ok (.aload_n 0, 1) := by decide +kernel
theorem dX2_endChoice_1 : decode cX2_endChoice 1 = .ok (.getfield 48, 3) := by decide +kernel
theorem dX2_endChoice_4 : decode cX2_endChoice 4 = .ok (.getfield 132, 3) := by decide +kernel
theorem dX2_endChoice_7 : decode cX2_endChoice 7 = .ok (.bipush 6, 2) := by decide +kernel
theorem dX2_endChoice_9 : decode cX2_endChoice 9 = .ok (.iadd, 1) := by decide +kernel
theorem dX2_endChoice_10 : decode cX2_endChoice 10 = .ok (.istore_n 3, 1) := by decide +kernel
theorem dX2_endChoice_11 : decode cX2_endChoice 11 = .ok (.aload_n 0, 1) := by decide +kernel
theorem dX2_endChoice_12 : decode cX2_endChoice 12 = .ok (.getfield 48, 3) := by decide +kernel
theorem dX2_endChoice_15 : decode cX2_endChoice 15 = .ok (.getfield 132, 3) := by decide +kernel
theorem dX2_endChoice_18 : decode cX2_endChoice 18 = .ok (.bipush 8, 2) := by decide +kernel
theorem dX2_endChoice_20 : decode cX2_endChoice 20 = .ok (.iadd, 1) := by decide +kernel
theorem dX2_endChoice_21 : decode cX2_endChoice 21 = .ok (.istore 4, 2) := by decide +kernel
theorem dX2_endChoice_23 : decode cX2_endChoice 23 = .ok (.aload_n 0, 1) := by decide +kernel
theorem dX2_endChoice_24 : decode cX2_endChoice 24 = .ok (.getfield 48, 3) := by decide +kernel
theorem dX2_endChoice_27 : decode cX2_endChoice 27 = .ok (.bipush 31, 2) := by decide +kernel
theorem dX2_endChoice_29 : decode cX2_endChoice 29 = .ok (.iload_n 3, 1) := by decide +kernel
theorem dX2_endChoice_30 : decode cX2_endChoice 30 = .ok (.invokevirtual 129, 3) := by decide +kernel
theorem dX2_endChoice_33 : decode cX2_endChoice 33 = .ok (.aload_n 0, 1) := by decide +kernel
theorem dX2_endChoice_34 : decode cX2_endChoice 34 = .ok (.getfield 48, 3) := by decide +kernel
theorem dX2_endChoice_37 : decode cX2_endChoice 37 = .ok (.iconst 1, 1) := by decide +kernel
theorem dX2_endChoice_38 : decode cX2_endChoice 38 = .ok (.iconst 1, 1) := by decide +kernel
theorem dX2_endChoice_39 : decode cX2_endChoice 39 = .ok (.invokevirtual 129, 3) := by decide +kernel
theorem dX2_endChoice_42 : decode cX2_endChoice 42 = .ok (.aload_n 0, 1) := by decide +kernel
theorem dX2_endChoice_43 : decode cX2_endChoice 43 = .ok (.getfield 48, 3) := by decide +kernel
theorem dX2_endChoice_46 : decode cX2_endChoice 46 = .ok (.bipush 30, 2) := by decide +kernel
theorem dX2_endChoice_48 : decode cX2_endChoice 48 = .ok (.iload 4, 2) := by decide +kernel
theorem dX2_endChoice_50 : decode cX2_endChoice 50 = .ok (.invokevirtual 129, 3) := by decide +kernel
theorem dX2_endChoice_53 : decode cX2_endChoice 53 = .ok (.aload_n 0, 1) := by decide +kernel
theorem dX2_endChoice_54 : decode cX2_endChoice 54 = .ok (.getfield 48, 3) := by decide +kernel
theorem dX2_endChoice_57 : decode cX2_endChoice 57 = .ok (.iconst 1, 1) := by decide +kernel
theorem dX2_endChoice_58 : decode cX2_endChoice 58 = .ok (.iconst 0, 1) := by decide +kernel
theorem dX2_endChoice_59 : decode cX2_endChoice 59 = .ok (.invokevirtual 129, 3) := by decide +kernel
theorem dX2_endChoice_62 : decode cX2_endChoice 62 = .ok (.aload_n 0, 1) := by decide +kernel
theorem dX2_endChoice_63 : decode cX2_endChoice 63 = .ok (.getfield 48, 3) := by decide +kernel
theorem dX2_endChoice_66 : decode cX2_endChoice 66 = .ok (.iload_n 2, 1) := by decide +kernel
theorem dX2_endChoice_67 : decode cX2_endChoice 67 = .ok (.iload_n 1, 1) := by decide +kernel
theorem dX2_endChoice_68 : decode cX2_endChoice 68 = .ok (.bipush 8, 2) := by decide +kernel
theorem dX2_endChoice_70 : decode cX2_endChoice 70 = .ok (.if_icmp .ne 7, 3) := by decide +kernel
theorem dX2_endChoice_73 : decode cX2_endChoice 73 = .ok (.iload_n 3, 1) := by decide +kernel
theorem dX2_endChoice_74 : decode cX2_endChoice 74 = .ok (.goto 5, 3) := by decide +kernel
theorem dX2_endChoice_77 : decode cX2_endChoice 77 = .ok (.iload 4, 2) := by decide +kernel
theorem dX2_endChoice_79 : decode cX2_endChoice 79 = .ok (.invokevirtual 136, 3) := by decide +kernel
theorem dX2_endChoice_82 : decode cX2_endChoice 82 = .ok (.return_, 1) := by decide +kernel
theorem dX2_operand_0 : decode cX2_operand 0 = .ok (.aload_n 0, 1) := by decide +kernel
theorem dX2_operand_1 : decode cX2_operand 1 = .ok (.getfield 21, 3) := by decide +kernel
theorem dX2_operand_4 : decode cX2_operand 4 = .ok (.getfield 76, 3) := by decide +kernel
theorem dX2_operand_7 : decode cX2_operand 7 = .ok (.tableswitch 73 40 49 #[58, 53, 73, 73, 73, 73, 73, 73, 63, 68], 53) := by decide +kernel
theorem dX2_operand_60 : decode cX2_operand 60 = .ok (.aload_n 0, 1) := by decide +kernel
theorem dX2_operand_61 : decode cX2_operand 61 = .ok (.invokevirtual 139, 3) := by decide +kernel
theorem dX2_operand_64 : decode cX2_operand 64 = .ok (.ireturn, 1) := by decide +kernel
theorem dX2_operand_65 : decode cX2_operand 65 = .ok (.aload_n 0, 1) := by decide +kernel
theorem dX2_operand_66 : decode cX2_operand 66 = .ok (.invokevirtual 142, 3) := by decide +kernel
theorem dX2_operand_69 : decode cX2_operand 69 = .ok (.ireturn, 1) := by decide +kernel
theorem dX2_operand_70 : decode cX2_operand 70 = .ok (.aload_n 0, 1) := by decide +kernel
theorem dX2_operand_71 : decode cX2_operand 71 = .ok (.invokevirtual 145, 3) := by decide +kernel
theorem dX2_operand_74 : decode cX2_operand 74 = .ok (.ireturn, 1) := by decide +kernel
theorem dX2_operand_75 : decode cX2_operand 75 = .ok (.aload_n 0, 1) := by decide +kernel
theorem dX2_operand_76 : decode cX2_operand 76 = .ok (.invokevirtual 148, 3) := by decide +kernel
theorem dX2_operand_79 : decode cX2_operand 79 = .ok (.ireturn, 1) := by decide +kernel
theorem dX2_operand_80 : decode cX2_operand 80 = .ok (.aload_n 0, 1) := by decide +kernel
theorem dX2_operand_81 : decode cX2_operand 81 = .ok (.getfield 21, 3) := by decide +kernel
theorem dX2_operand_84 : decode cX2_operand 84 = .ok (.iconst 2, 1) := by decide +kernel
theorem dX2_operand_85 : decode cX2_operand 85 = .ok (.invokevirtual 122, 3) := by decide +kernel
theorem dX2_operand_88 : decode cX2_operand 88 = .ok (.iconst (-1), 1) := by decide +kernel
theorem dX2_operand_89 : decode cX2_operand 89 = .ok (.ireturn, 1) := by decide +kernel
theorem dX2_number_0 : decode cX2_number 0 = .ok (.aload_n 0, 1) := by decide +kernel
theorem dX2_number_1 : decode cX2_number 1 = .ok (.getfield 9, 3) := by decide +kernel
theorem dX2_number_4 : decode cX2_number 4 = .ok (.aload_n 0, 1) := by decide +kernel
theorem dX2_number_5 : decode cX2_number 5 = .ok (.getfield 21, 3) := by decide +kernel
theorem dX2_number_8 : decode cX2_number 8 = .ok (.getfield 99, 3) := by decide +kernel
theorem dX2_number_11 : decode cX2_number 11 = .ok (.invokevirtual 102, 3) := by decide +kernel
theorem dX2_number_14 : decode cX2_number 14 = .ok (.aload_n 0, 1) := by decide +kernel
theorem dX2_number_15 : decode cX2_number 15 = .ok (.getfield 21, 3) := by decide +kernel
theorem dX2_number_18 : decode cX2_number 18 = .ok (.getfield 151, 3) := by decide +kernel
theorem dX2_number_21 : decode cX2_number 21 = .ok (.ldc2_w 154, 3) := by decide +kernel
theorem dX2_number_24 : decode cX2_number 24 = .ok (.lcmp, 1) := by decide +kernel
theorem dX2_number_25 : decode cX2_number 25 = .ok (.ifCond .le 12, 3) := by decide +kernel
theorem dX2_number_28 : decode cX2_number 28 = .ok (.aload_n 0, 1) := by decide +kernel
theorem dX2_number_29 : decode cX2_number 29 = .ok (.getfield 21, 3) := by decide +kernel
theorem dX2_number_32 : decode cX2_number 32 = .ok (.bipush 11, 2) := by decide +kernel
theorem dX2_number_34 : decode cX2_number 34 = .ok (.invokevirtual 122, 3) := by decide +kernel
theorem dX2_number_37 : decode cX2_number 37 = .ok (.aload_n 0, 1) := by decide +kernel
theorem dX2_number_38 : decode cX2_number 38 = .ok (.getfield 21, 3) := by decide +kernel
theorem dX2_number_41 : decode cX2_number 41 = .ok (.getfield 151, 3) := by decide +kernel
theorem dX2_number_44 : decode cX2_number 44 = .ok (.l2i, 1) := by decide +kernel
theorem dX2_number_45 : decode cX2_number 45 = .ok (.istore_n 1, 1) := by decide +kernel
theorem dX2_number_46 : decode cX2_number 46 = .ok (.aload_n 0, 1) := by decide +kernel
theorem dX2_number_47 : decode cX2_number 47 = .ok (.getfield 48, 3) := by decide +kernel
theorem dX2_number_50 : decode cX2_number 50 = .ok (.iconst 1, 1) := by decide +kernel
theorem dX2_number_51 : decode cX2_number 51 = .ok (.iload_n 1, 1) := by decide +kernel
theorem dX2_number_52 : decode cX2_number 52 = .ok (.invokevirtual 129, 3) := by decide +kernel
theorem dX2_number_55 : decode cX2_number 55 = .ok (.aload_n 0, 1) := by decide +kernel
theorem dX2_number_56 : decode cX2_number 56 = .ok (.getfield 21, 3) := by decide +kernel
theorem dX2_number_59 : decode cX2_number 59 = .ok (.invokevirtual 90, 3) := by decide +kernel
theorem dX2_number_62 : decode cX2_number 62 = .ok (.aload_n 0, 1) := by decide +kernel
theorem dX2_number_63 : decode cX2_number 63 = .ok (.getfield 43, 3) := by decide +kernel
theorem dX2_number_66 : decode cX2_number 66 = .ok (.iconst 1, 1) := by decide +kernel
theorem dX2_number_67 : decode cX2_number 67 = .ok (.iload_n 1, 1) := by decide +kernel
theorem dX2_number_68 : decode cX2_number 68 = .ok (.iconst (-1), 1) := by decide +kernel
theorem dX2_number_69 : decode cX2_number 69 = .ok (.iconst (-1), 1) := by decide +kernel
theorem dX2_number_70 : decode cX2_number 70 = .ok (.invokevirtual 116, 3) := by decide +kernel
theorem dX2_number_73 : decode cX2_number 73 = .ok (.ireturn, 1) := by decide +kernel
theorem dX2_reading_0 : decode cX2_reading 0 = .ok (.aload_n 0, 1) := by decide +kernel
theorem dX2_reading_1 : decode cX2_reading 1 = .ok (.getfield 9, 3) := by decide +kernel
theorem dX2_reading_4 : decode cX2_reading 4 = .ok (.aload_n 0, 1) := by decide +kernel
theorem dX2_reading_5 : decode cX2_reading 5 = .ok (.getfield 21, 3) := by decide +kernel
theorem dX2_reading_8 : decode cX2_reading 8 = .ok (.getfield 99, 3) := by decide +kernel
theorem dX2_reading_11 : decode cX2_reading 11 = .ok (.invokevirtual 102, 3) := by decide +kernel
theorem dX2_reading_14 : decode cX2_reading 14 = .ok (.aload_n 0, 1) := by decide +kernel
theorem dX2_reading_15 : decode cX2_reading 15 = .ok (.getfield 21, 3) := by decide +kernel
theorem dX2_reading_18 : decode cX2_reading 18 = .ok (.invokevirtual 90, 3) := by decide +kernel
theorem dX2_reading_21 : decode cX2_reading 21 = .ok (.aload_n 0, 1) := by decide +kernel
theorem dX2_reading_22 : decode cX2_reading 22 = .ok (.getfield 21, 3) := by decide +kernel
theorem dX2_reading_25 : decode cX2_reading 25 = .ok (.bipush 49, 2) := by decide +kernel
theorem dX2_reading_27 : decode cX2_reading 27 = .ok (.invokevirtual 156, 3) := by decide +kernel
theorem dX2_reading_30 : decode cX2_reading 30 = .ok (.aload_n 0, 1) := by decide +kernel
theorem dX2_reading_31 : decode cX2_reading 31 = .ok (.getfield 9, 3) := by decide +kernel
theorem dX2_reading_34 : decode cX2_reading 34 = .ok (.invokevirtual 96, 3) := by decide +kernel
theorem dX2_reading_37 : decode cX2_reading 37 = .ok (.aload_n 0, 1) := by decide +kernel
theorem dX2_reading_38 : decode cX2_reading 38 = .ok (.getfield 21, 3) := by decide +kernel
theorem dX2_reading_41 : decode cX2_reading 41 = .ok (.invokevirtual 90, 3) := by decide +kernel
theorem dX2_reading_44 : decode cX2_reading 44 = .ok (.aload_n 0, 1) := by decide +kernel
theorem dX2_reading_45 : decode cX2_reading 45 = .ok (.getfield 21, 3) := by decide +kernel
theorem dX2_reading_48 : decode cX2_reading 48 = .ok (.bipush 50, 2) := by decide +kernel
theorem dX2_reading_50 : decode cX2_reading 50 = .ok (.invokevirtual 156, 3) := by decide +kernel
theorem dX2_reading_53 : decode cX2_reading 53 = .ok (.aload_n 0, 1) := by decide +kernel
theorem dX2_reading_54 : decode cX2_reading 54 = .ok (.getfield 9, 3) := by decide +kernel
theorem dX2_reading_57 : decode cX2_reading 57 = .ok (.invokevirtual 119, 3) := by decide +kernel
theorem dX2_reading_60 : decode cX2_reading 60 = .ok (.aload_n 0, 1) := by decide +kernel
theorem dX2_reading_61 : decode cX2_reading 61 = .ok (.getfield 21, 3) := by decide +kernel
theorem dX2_reading_64 : decode cX2_reading 64 = .ok (.invokevirtual 90, 3) := by decide +kernel
theorem dX2_reading_67 : decode cX2_reading 67 = .ok (.aload_n 0, 1) := by decide +kernel
theorem dX2_reading_68 : decode cX2_reading 68 = .ok (.getfield 48, 3) := by decide +kernel
theorem dX2_reading_71 : decode cX2_reading 71 = .ok (.bipush 35, 2) := by decide +kernel
theorem dX2_reading_73 : decode cX2_reading 73 = .ok (.invokevirtual 109, 3) := by decide +kernel
theorem dX2_reading_76 : decode cX2_reading 76 = .ok (.aload_n 0, 1) := by decide +kernel
theorem dX2_reading_77 : decode cX2_reading 77 = .ok (.getfield 43, 3) := by decide +kernel
theorem dX2_reading_80 : decode cX2_reading 80 = .ok (.iconst 5, 1) := by decide +kernel
theorem dX2_reading_81 : decode cX2_reading 81 = .ok (.iconst 0, 1) := by decide +kernel
theorem dX2_reading_82 : decode cX2_reading 82 = .ok (.iconst (-1), 1) := by decide +kernel
theorem dX2_reading_83 : decode cX2_reading 83 = .ok (.iconst (-1), 1) := by decide +kernel
theorem dX2_reading_84 : decode cX2_reading 84 = .ok (.invokevirtual 116, 3) := by decide +kernel
theorem dX2_reading_87 : decode cX2_reading 87 = .ok (.ireturn, 1) := by decide +kernel
theorem dX2_bracketed_0 : decode cX2_bracketed 0 = .ok (.aload_n 0, 1) := by decide +kernel
theorem dX2_bracketed_1 : decode cX2_bracketed 1 = .ok (.getfield 21, 3) := by decide +kernel
theorem dX2_bracketed_4 : decode cX2_bracketed 4 = .ok (.bipush 49, 2) := by decide +kernel
theorem dX2_bracketed_6 : decode cX2_bracketed 6 = .ok (.invokevirtual 156, 3) := by decide +kernel
theorem dX2_bracketed_9 : decode cX2_bracketed 9 = .ok (.aload_n 0, 1) := by decide +kernel
theorem dX2_bracketed_10 : decode cX2_bracketed 10 = .ok (.getfield 9, 3) := by decide +kernel
theorem dX2_bracketed_13 : decode cX2_bracketed 13 = .ok (.invokevirtual 96, 3) := by decide +kernel
theorem dX2_bracketed_16 : decode cX2_bracketed 16 = .ok (.aload_n 0, 1) := by decide +kernel
theorem dX2_bracketed_17 : decode cX2_bracketed 17 = .ok (.getfield 21, 3) := by decide +kernel
theorem dX2_bracketed_20 : decode cX2_bracketed 20 = .ok (.invokevirtual 90, 3) := by decide +kernel
theorem dX2_bracketed_23 : decode cX2_bracketed 23 = .ok (.aload_n 0, 1) := by decide +kernel
theorem dX2_bracketed_24 : decode cX2_bracketed 24 = .ok (.bipush 50, 2) := by decide +kernel
theorem dX2_bracketed_26 : decode cX2_bracketed 26 = .ok (.invokevirtual 159, 3) := by decide +kernel
theorem dX2_bracketed_29 : decode cX2_bracketed 29 = .ok (.istore_n 1, 1) := by decide +kernel
theorem dX2_bracketed_30 : decode cX2_bracketed 30 = .ok (.aload_n 0, 1) := by decide +kernel
theorem dX2_bracketed_31 : decode cX2_bracketed 31 = .ok (.getfield 9, 3) := by decide +kernel
theorem dX2_bracketed_34 : decode cX2_bracketed 34 = .ok (.invokevirtual 119, 3) := by decide +kernel
theorem dX2_bracketed_37 : decode cX2_bracketed 37 = .ok (.aload_n 0, 1) := by decide +kernel
theorem dX2_bracketed_38 : decode cX2_bracketed 38 = .ok (.getfield 21, 3) := by decide +kernel
theorem dX2_bracketed_41 : decode cX2_bracketed 41 = .ok (.invokevirtual 90, 3) := by decide +kernel
theorem dX2_bracketed_44 : decode cX2_bracketed 44 = .ok (.iload_n 1, 1) := by decide +kernel
theorem dX2_bracketed_45 : decode cX2_bracketed 45 = .ok (.ireturn, 1) := by decide +kernel
theorem dX2_named_0 : decode cX2_named 0 = .ok (.aload_n 0, 1) := by decide +kernel
theorem dX2_named_1 : decode cX2_named 1 = .ok (.getfield 21, 3) := by decide +kernel
theorem dX2_named_4 : decode cX2_named 4 = .ok (.getfield 99, 3) := by decide +kernel
theorem dX2_named_7 : decode cX2_named 7 = .ok (.istore_n 1, 1) := by decide +kernel
theorem dX2_named_8 : decode cX2_named 8 = .ok (.aload_n 0, 1) := by decide +kernel
theorem dX2_named_9 : decode cX2_named 9 = .ok (.getfield 26, 3) := by decide +kernel
theorem dX2_named_12 : decode cX2_named 12 = .ok (.aload_n 0, 1) := by decide +kernel
theorem dX2_named_13 : decode cX2_named 13 = .ok (.getfield 21, 3) := by decide +kernel
theorem dX2_named_16 : decode cX2_named 16 = .ok (.getfield 162, 3) := by decide +kernel
theorem dX2_named_19 : decode cX2_named 19 = .ok (.iconst 0, 1) := by decide +kernel
theorem dX2_named_20 : decode cX2_named 20 = .ok (.invokevirtual 165, 3) := by decide +kernel
theorem dX2_named_23 : decode cX2_named 23 = .ok (.istore_n 2, 1) := by decide +kernel
theorem dX2_named_24 : decode cX2_named 24 = .ok (.iload_n 2, 1) := by decide +kernel
theorem dX2_named_25 : decode cX2_named 25 = .ok (.ifCond .ge 12, 3) := by decide +kernel
theorem dX2_named_28 : decode cX2_named 28 = .ok (.aload_n 0, 1) := by decide +kernel
theorem dX2_named_29 : decode cX2_named 29 = .ok (.getfield 21, 3) := by decide +kernel
theorem dX2_named_32 : decode cX2_named 32 = .ok (.iconst 3, 1) := by decide +kernel
theorem dX2_named_33 : decode cX2_named 33 = .ok (.iload_n 1, 1) := by decide +kernel
theorem dX2_named_34 : decode cX2_named 34 = .ok (.invokevirtual 125, 3) := by decide +kernel
theorem dX2_named_37 : decode cX2_named 37 = .ok (.aload_n 0, 1) := by decide +kernel
theorem dX2_named_38 : decode cX2_named 38 = .ok (.getfield 9, 3) := by decide +kernel
theorem dX2_named_41 : decode cX2_named 41 = .ok (.iload_n 1, 1) := by decide +kernel
theorem dX2_named_42 : decode cX2_named 42 = .ok (.invokevirtual 102, 3) := by decide +kernel
theorem dX2_named_45 : decode cX2_named 45 = .ok (.aload_n 0, 1) := by decide +kernel
theorem dX2_named_46 : decode cX2_named 46 = .ok (.getfield 21, 3) := by decide +kernel
theorem dX2_named_49 : decode cX2_named 49 = .ok (.invokevirtual 90, 3) := by decide +kernel
theorem dX2_named_52 : decode cX2_named 52 = .ok (.aload_n 0, 1) := by decide +kernel
theorem dX2_named_53 : decode cX2_named 53 = .ok (.getfield 21, 3) := by decide +kernel
theorem dX2_named_56 : decode cX2_named 56 = .ok (.getfield 76, 3) := by decide +kernel
theorem dX2_named_59 : decode cX2_named 59 = .ok (.bipush 49, 2) := by decide +kernel
theorem dX2_named_61 : decode cX2_named 61 = .ok (.if_icmp .ne 10, 3) := by decide +kernel
theorem dX2_named_64 : decode cX2_named 64 = .ok (.aload_n 0, 1) := by decide +kernel
theorem dX2_named_65 : decode cX2_named 65 = .ok (.iload_n 2, 1) := by decide +kernel
theorem dX2_named_66 : decode cX2_named 66 = .ok (.iload_n 1, 1) := by decide +kernel
theorem dX2_named_67 : decode cX2_named 67 = .ok (.invokevirtual 171, 3) := by decide +kernel
theorem dX2_named_70 : decode cX2_named 70 = .ok (.ireturn, 1) := by decide +kernel
theorem dX2_named_71 : decode cX2_named 71 = .ok (.aload_n 0, 1) := by decide +kernel
theorem dX2_named_72 : decode cX2_named 72 = .ok (.getfield 21, 3) := by decide +kernel
theorem dX2_named_75 : decode cX2_named 75 = .ok (.getfield 76, 3) := by decide +kernel
theorem dX2_named_78 : decode cX2_named 78 = .ok (.bipush 53, 2) := by decide +kernel
theorem dX2_named_80 : decode cX2_named 80 = .ok (.if_icmp .ne 61, 3) := by decide +kernel
theorem dX2_named_83 : decode cX2_named 83 = .ok (.aload_n 0, 1) := by decide +kernel
theorem dX2_named_84 : decode cX2_named 84 = .ok (.iload_n 2, 1) := by decide +kernel
theorem dX2_named_85 : decode cX2_named 85 = .ok (.iload_n 1, 1) := by decide +kernel
theorem dX2_named_86 : decode cX2_named 86 = .ok (.invokevirtual 174, 3) := by decide +kernel
theorem dX2_named_89 : decode cX2_named 89 = .ok (.istore_n 3, 1) := by decide +kernel
theorem dX2_named_90 : decode cX2_named 90 = .ok (.aload_n 0, 1) := by decide +kernel
theorem dX2_named_91 : decode cX2_named 91 = .ok (.getfield 48, 3) := by decide +kernel
theorem dX2_named_94 : decode cX2_named 94 = .ok (.bipush 6, 2) := by decide +kernel
theorem dX2_named_96 : decode cX2_named 96 = .ok (.aload_n 0, 1) := by decide +kernel
theorem dX2_named_97 : decode cX2_named 97 = .ok (.getfield 26, 3) := by decide +kernel
theorem dX2_named_100 : decode cX2_named 100 = .ok (.iload_n 2, 1) := by decide +kernel
theorem dX2_named_101 : decode cX2_named 101 = .ok (.invokevirtual 177, 3) := by decide +kernel
theorem dX2_named_104 : decode cX2_named 104 = .ok (.aload_n 0, 1) := by decide +kernel
theorem dX2_named_105 : decode cX2_named 105 = .ok (.getfield 26, 3) := by decide +kernel
theorem dX2_named_108 : decode cX2_named 108 = .ok (.iload_n 2, 1) := by decide +kernel
theorem dX2_named_109 : decode cX2_named 109 = .ok (.invokevirtual 180, 3) := by decide +kernel
theorem dX2_named_112 : decode cX2_named 112 = .ok (.invokevirtual 183, 3) := by decide +kernel
theorem dX2_named_115 : decode cX2_named 115 = .ok (.aload_n 0, 1) := by decide +kernel
theorem dX2_named_116 : decode cX2_named 116 = .ok (.getfield 43, 3) := by decide +kernel
theorem dX2_named_119 : decode cX2_named 119 = .ok (.iconst 4, 1) := by decide +kernel
theorem dX2_named_120 : decode cX2_named 120 = .ok (.aload_n 0, 1) := by decide +kernel
theorem dX2_named_121 : decode cX2_named 121 = .ok (.getfield 26, 3) := by decide +kernel
theorem dX2_named_124 : decode cX2_named 124 = .ok (.iload_n 2, 1) := by decide +kernel
theorem dX2_named_125 : decode cX2_named 125 = .ok (.invokevirtual 177, 3) := by decide +kernel
theorem dX2_named_128 : decode cX2_named 128 = .ok (.iload_n 3, 1) := by decide +kernel
theorem dX2_named_129 : decode cX2_named 129 = .ok (.aload_n 0, 1) := by decide +kernel
theorem dX2_named_130 : decode cX2_named 130 = .ok (.getfield 26, 3) := by decide +kernel
theorem dX2_named_133 : decode cX2_named 133 = .ok (.iload_n 2, 1) := by decide +kernel
theorem dX2_named_134 : decode cX2_named 134 = .ok (.invokevirtual 180, 3) := by decide +kernel
theorem dX2_named_137 : decode cX2_named 137 = .ok (.invokevirtual 116, 3) := by decide +kernel
theorem dX2_named_140 : decode cX2_named 140 = .ok (.ireturn, 1) := by decide +kernel
theorem dX2_named_141 : decode cX2_named 141 = .ok (.aload_n 0, 1) := by decide +kernel
theorem dX2_named_142 : decode cX2_named 142 = .ok (.getfield 26, 3) := by decide +kernel
theorem dX2_named_145 : decode cX2_named 145 = .ok (.iload_n 2, 1) := by decide +kernel
theorem dX2_named_146 : decode cX2_named 146 = .ok (.invokevirtual 186, 3) := by decide +kernel
theorem dX2_named_149 : decode cX2_named 149 = .ok (.ifCond .ne 8, 3) := by decide +kernel
theorem dX2_named_152 : decode cX2_named 152 = .ok (.aload_n 0, 1) := by decide +kernel
theorem dX2_named_153 : decode cX2_named 153 = .ok (.iload_n 1, 1) := by decide +kernel
theorem dX2_named_154 : decode cX2_named 154 = .ok (.putfield 53, 3) := by decide +kernel
theorem dX2_named_157 : decode cX2_named 157 = .ok (.aload_n 0, 1) := by decide +kernel
theorem dX2_named_158 : decode cX2_named 158 = .ok (.iload_n 2, 1) := by decide +kernel
theorem dX2_named_159 : decode cX2_named 159 = .ok (.invokevirtual 190, 3) := by decide +kernel
theorem dX2_named_162 : decode cX2_named 162 = .ok (.ireturn, 1) := by decide +kernel
theorem dX2_variable_0 : decode cX2_variable 0 = .ok (.aload_n 0, 1) := by decide +kernel
theorem dX2_variable_1 : decode cX2_variable 1 = .ok (.getfield 26, 3) := by decide +kernel
theorem dX2_variable_4 : decode cX2_variable 4 = .ok (.iload_n 1, 1) := by decide +kernel
theorem dX2_variable_5 : decode cX2_variable 5 = .ok (.invokevirtual 177, 3) := by decide +kernel
theorem dX2_variable_8 : decode cX2_variable 8 = .ok (.istore_n 2, 1) := by decide +kernel
theorem dX2_variable_9 : decode cX2_variable 9 = .ok (.aload_n 0, 1) := by decide +kernel
theorem dX2_variable_10 : decode cX2_variable 10 = .ok (.getfield 26, 3) := by decide +kernel
theorem dX2_variable_13 : decode cX2_variable 13 = .ok (.iload_n 1, 1) := by decide +kernel
theorem dX2_variable_14 : decode cX2_variable 14 = .ok (.iconst 3, 1) := by decide +kernel
theorem dX2_variable_15 : decode cX2_variable 15 = .ok (.invokevirtual 193, 3) := by decide +kernel
theorem dX2_variable_18 : decode cX2_variable 18 = .ok (.ifCond .eq 31, 3) := by decide +kernel
theorem dX2_variable_21 : decode cX2_variable 21 = .ok (.aload_n 0, 1) := by decide +kernel
theorem dX2_variable_22 : decode cX2_variable 22 = .ok (.getfield 48, 3) := by decide +kernel
theorem dX2_variable_25 : decode cX2_variable 25 = .ok (.iconst 4, 1) := by decide +kernel
theorem dX2_variable_26 : decode cX2_variable 26 = .ok (.iload_n 2, 1) := by decide +kernel
theorem dX2_variable_27 : decode cX2_variable 27 = .ok (.invokevirtual 129, 3) := by decide +kernel
theorem dX2_variable_30 : decode cX2_variable 30 = .ok (.aload_n 0, 1) := by decide +kernel
theorem dX2_variable_31 : decode cX2_variable 31 = .ok (.getfield 43, 3) := by decide +kernel
theorem dX2_variable_34 : decode cX2_variable 34 = .ok (.iconst 3, 1) := by decide +kernel
theorem dX2_variable_35 : decode cX2_variable 35 = .ok (.aload_n 0, 1) := by decide +kernel
theorem dX2_variable_36 : decode cX2_variable 36 = .ok (.getfield 9, 3) := by decide +kernel
theorem dX2_variable_39 : decode cX2_variable 39 = .ok (.iload_n 2, 1) := by decide +kernel
theorem dX2_variable_40 : decode cX2_variable 40 = .ok (.invokevirtual 197, 3) := by decide +kernel
theorem dX2_variable_43 : decode cX2_variable 43 = .ok (.iconst (-1), 1) := by decide +kernel
theorem dX2_variable_44 : decode cX2_variable 44 = .ok (.iconst (-1), 1) := by decide +kernel
theorem dX2_variable_45 : decode cX2_variable 45 = .ok (.invokevirtual 116, 3) := by decide +kernel
theorem dX2_variable_48 : decode cX2_variable 48 = .ok (.ireturn, 1) := by decide +kernel
theorem dX2_variable_49 : decode cX2_variable 49 = .ok (.aload_n 0, 1) := by decide +kernel
theorem dX2_variable_50 : decode cX2_variable 50 = .ok (.getfield 48, 3) := by decide +kernel
theorem dX2_variable_53 : decode cX2_variable 53 = .ok (.iconst 2, 1) := by decide +kernel
theorem dX2_variable_54 : decode cX2_variable 54 = .ok (.iload_n 2, 1) := by decide +kernel
theorem dX2_variable_55 : decode cX2_variable 55 = .ok (.invokevirtual 129, 3) := by decide +kernel
theorem dX2_variable_58 : decode cX2_variable 58 = .ok (.aload_n 0, 1) := by decide +kernel
theorem dX2_variable_59 : decode cX2_variable 59 = .ok (.getfield 43, 3) := by decide +kernel
theorem dX2_variable_62 : decode cX2_variable 62 = .ok (.iconst 2, 1) := by decide +kernel
theorem dX2_variable_63 : decode cX2_variable 63 = .ok (.iload_n 2, 1) := by decide +kernel
theorem dX2_variable_64 : decode cX2_variable 64 = .ok (.iconst (-1), 1) := by decide +kernel
theorem dX2_variable_65 : decode cX2_variable 65 = .ok (.iconst (-1), 1) := by decide +kernel
theorem dX2_variable_66 : decode cX2_variable 66 = .ok (.invokevirtual 116, 3) := by decide +kernel
theorem dX2_variable_69 : decode cX2_variable 69 = .ok (.ireturn, 1) := by decide +kernel
theorem dX2_index_0 : decode cX2_index 0 = .ok (.aload_n 0, 1) := by decide +kernel
theorem dX2_index_1 : decode cX2_index 1 = .ok (.getfield 26, 3) := by decide +kernel
theorem dX2_index_4 : decode cX2_index 4 = .ok (.iload_n 1, 1) := by decide +kernel
theorem dX2_index_5 : decode cX2_index 5 = .ok (.iconst 1, 1) := by decide +kernel
theorem dX2_index_6 : decode cX2_index 6 = .ok (.invokevirtual 193, 3) := by decide +kernel
theorem dX2_index_9 : decode cX2_index 9 = .ok (.ifCond .ne 12, 3) := by decide +kernel
theorem dX2_index_12 : decode cX2_index 12 = .ok (.aload_n 0, 1) := by decide +kernel
theorem dX2_index_13 : decode cX2_index 13 = .ok (.getfield 21, 3) := by decide +kernel
theorem dX2_index_16 : decode cX2_index 16 = .ok (.iconst 5, 1) := by decide +kernel
theorem dX2_index_17 : decode cX2_index 17 = .ok (.iload_n 2, 1) := by decide +kernel
theorem dX2_index_18 : decode cX2_index 18 = .ok (.invokevirtual 125, 3) := by decide +kernel
theorem dX2_index_21 : decode cX2_index 21 = .ok (.aload_n 0, 1) := by decide +kernel
theorem dX2_index_22 : decode cX2_index 22 = .ok (.getfield 9, 3) := by decide +kernel
theorem dX2_index_25 : decode cX2_index 25 = .ok (.invokevirtual 96, 3) := by decide +kernel
theorem dX2_index_28 : decode cX2_index 28 = .ok (.aload_n 0, 1) := by decide +kernel
theorem dX2_index_29 : decode cX2_index 29 = .ok (.getfield 21, 3) := by decide +kernel
theorem dX2_index_32 : decode cX2_index 32 = .ok (.invokevirtual 90, 3) := by decide +kernel
theorem dX2_index_35 : decode cX2_index 35 = .ok (.aload_n 0, 1) := by decide +kernel
theorem dX2_index_36 : decode cX2_index 36 = .ok (.bipush 54, 2) := by decide +kernel
theorem dX2_index_38 : decode cX2_index 38 = .ok (.invokevirtual 159, 3) := by decide +kernel
theorem dX2_index_41 : decode cX2_index 41 = .ok (.istore_n 3, 1) := by decide +kernel
theorem dX2_index_42 : decode cX2_index 42 = .ok (.aload_n 0, 1) := by decide +kernel
theorem dX2_index_43 : decode cX2_index 43 = .ok (.getfield 9, 3) := by decide +kernel
theorem dX2_index_46 : decode cX2_index 46 = .ok (.invokevirtual 119, 3) := by decide +kernel
theorem dX2_index_49 : decode cX2_index 49 = .ok (.aload_n 0, 1) := by decide +kernel
theorem dX2_index_50 : decode cX2_index 50 = .ok (.getfield 21, 3) := by decide +kernel
theorem dX2_index_53 : decode cX2_index 53 = .ok (.invokevirtual 90, 3) := by decide +kernel
theorem dX2_index_56 : decode cX2_index 56 = .ok (.iload_n 3, 1) := by decide +kernel
theorem dX2_index_57 : decode cX2_index 57 = .ok (.ireturn, 1) := by decide +kernel
theorem dX2_call_0 : decode cX2_call 0 = .ok (.aload_n 0, 1) := by decide +kernel
theorem dX2_call_1 : decode cX2_call 1 = .ok (.getfield 26, 3) := by decide +kernel
theorem dX2_call_4 : decode cX2_call 4 = .ok (.iload_n 1, 1) := by decide +kernel
theorem dX2_call_5 : decode cX2_call 5 = .ok (.iconst 2, 1) := by decide +kernel
theorem dX2_call_6 : decode cX2_call 6 = .ok (.invokevirtual 193, 3) := by decide +kernel
theorem dX2_call_9 : decode cX2_call 9 = .ok (.ifCond .ne 12, 3) := by decide +kernel
theorem dX2_call_12 : decode cX2_call 12 = .ok (.aload_n 0, 1) := by decide +kernel
theorem dX2_call_13 : decode cX2_call 13 = .ok (.getfield 21, 3) := by decide +kernel
theorem dX2_call_16 : decode cX2_call 16 = .ok (.iconst 5, 1) := by decide +kernel
theorem dX2_call_17 : decode cX2_call 17 = .ok (.iload_n 2, 1) := by decide +kernel
theorem dX2_call_18 : decode cX2_call 18 = .ok (.invokevirtual 125, 3) := by decide +kernel
theorem dX2_call_21 : decode cX2_call 21 = .ok (.aload_n 0, 1) := by decide +kernel
theorem dX2_call_22 : decode cX2_call 22 = .ok (.getfield 9, 3) := by decide +kernel
theorem dX2_call_25 : decode cX2_call 25 = .ok (.invokevirtual 96, 3) := by decide +kernel
theorem dX2_call_28 : decode cX2_call 28 = .ok (.aload_n 0, 1) := by decide +kernel
theorem dX2_call_29 : decode cX2_call 29 = .ok (.getfield 21, 3) := by decide +kernel
theorem dX2_call_32 : decode cX2_call 32 = .ok (.invokevirtual 90, 3) := by decide +kernel
theorem dX2_call_35 : decode cX2_call 35 = .ok (.iconst 0, 1) := by decide +kernel
theorem dX2_call_36 : decode cX2_call 36 = .ok (.istore_n 3, 1) := by decide +kernel
theorem dX2_call_37 : decode cX2_call 37 = .ok (.iconst (-1), 1) := by decide +kernel
theorem dX2_call_38 : decode cX2_call 38 = .ok (.istore 4, 2) := by decide +kernel
theorem dX2_call_40 : decode cX2_call 40 = .ok (.aload_n 0, 1) := by decide +kernel
theorem dX2_call_41 : decode cX2_call 41 = .ok (.getfield 21, 3) := by decide +kernel
theorem dX2_call_44 : decode cX2_call 44 = .ok (.getfield 76, 3) := by decide +kernel
theorem dX2_call_47 : decode cX2_call 47 = .ok (.bipush 50, 2) := by decide +kernel
theorem dX2_call_49 : decode cX2_call 49 = .ok (.if_icmp .eq 72, 3) := by decide +kernel
theorem dX2_call_52 : decode cX2_call 52 = .ok (.iconst 0, 1) := by decide +kernel
theorem dX2_call_53 : decode cX2_call 53 = .ok (.istore 5, 2) := by decide +kernel
theorem dX2_call_55 : decode cX2_call 55 = .ok (.iload 5, 2) := by decide +kernel
theorem dX2_call_57 : decode cX2_call 57 = .ok (.aload_n 0, 1) := by decide +kernel
theorem dX2_call_58 : decode cX2_call 58 = .ok (.getfield 21, 3) := by decide +kernel
theorem dX2_call_61 : decode cX2_call 61 = .ok (.getfield 56, 3) := by decide +kernel
theorem dX2_call_64 : decode cX2_call 64 = .ok (.if_icmp .gt 57, 3) := by decide +kernel
theorem dX2_call_67 : decode cX2_call 67 = .ok (.aload_n 0, 1) := by decide +kernel
theorem dX2_call_68 : decode cX2_call 68 = .ok (.bipush 55, 2) := by decide +kernel
theorem dX2_call_70 : decode cX2_call 70 = .ok (.invokevirtual 159, 3) := by decide +kernel
theorem dX2_call_73 : decode cX2_call 73 = .ok (.istore 6, 2) := by decide +kernel
theorem dX2_call_75 : decode cX2_call 75 = .ok (.aload_n 0, 1) := by decide +kernel
theorem dX2_call_76 : decode cX2_call 76 = .ok (.getfield 43, 3) := by decide +kernel
theorem dX2_call_79 : decode cX2_call 79 = .ok (.iload 6, 2) := by decide +kernel
theorem dX2_call_81 : decode cX2_call 81 = .ok (.iload 4, 2) := by decide +kernel
theorem dX2_call_83 : decode cX2_call 83 = .ok (.invokevirtual 200, 3) := by decide +kernel
theorem dX2_call_86 : decode cX2_call 86 = .ok (.iload 6, 2) := by decide +kernel
theorem dX2_call_88 : decode cX2_call 88 = .ok (.istore 4, 2) := by decide +kernel
theorem dX2_call_90 : decode cX2_call 90 = .ok (.iinc 3 1, 3) := by decide +kernel
theorem dX2_call_93 : decode cX2_call 93 = .ok (.aload_n 0, 1) := by decide +kernel
theorem dX2_call_94 : decode cX2_call 94 = .ok (.getfield 21, 3) := by decide +kernel
theorem dX2_call_97 : decode cX2_call 97 = .ok (.getfield 76, 3) := by decide +kernel
theorem dX2_call_100 : decode cX2_call 100 = .ok (.bipush 55, 2) := by decide +kernel
theorem dX2_call_102 : decode cX2_call 102 = .ok (.if_icmp .eq 6, 3) := by decide +kernel
theorem dX2_call_105 : decode cX2_call 105 = .ok (.goto 16, 3) := by decide +kernel
theorem dX2_call_108 : decode cX2_call 108 = .ok (.aload_n 0, 1) := by decide +kernel
theorem dX2_call_109 : decode cX2_call 109 = .ok (.getfield 21, 3) := by decide +kernel
theorem dX2_call_112 : decode cX2_call 112 = .ok (.invokevirtual 90, 3) := by decide +kernel
theorem dX2_call_115 : decode cX2_call 115 = .ok (.iinc 5 1, 3) := by decide +kernel
theorem dX2_call_118 : decode cX2_call 118 = .ok (.goto (-63), 3) := by decide +kernel
theorem dX2_call_121 : decode cX2_call 121 = .ok (.iload_n 3, 1) := by decide +kernel
theorem dX2_call_122 : decode cX2_call 122 = .ok (.aload_n 0, 1) := by decide +kernel
theorem dX2_call_123 : decode cX2_call 123 = .ok (.getfield 26, 3) := by decide +kernel
theorem dX2_call_126 : decode cX2_call 126 = .ok (.iload_n 1, 1) := by decide +kernel
theorem dX2_call_127 : decode cX2_call 127 = .ok (.invokevirtual 180, 3) := by decide +kernel
theorem dX2_call_130 : decode cX2_call 130 = .ok (.if_icmp .eq 13, 3) := by decide +kernel
theorem dX2_call_133 : decode cX2_call 133 = .ok (.aload_n 0, 1) := by decide +kernel
theorem dX2_call_134 : decode cX2_call 134 = .ok (.getfield 21, 3) := by decide +kernel
theorem dX2_call_137 : decode cX2_call 137 = .ok (.bipush 6, 2) := by decide +kernel
theorem dX2_call_139 : decode cX2_call 139 = .ok (.iload_n 2, 1) := by decide +kernel
theorem dX2_call_140 : decode cX2_call 140 = .ok (.invokevirtual 125, 3) := by decide +kernel
theorem dX2_call_143 : decode cX2_call 143 = .ok (.aload_n 0, 1) := by decide +kernel
theorem dX2_call_144 : decode cX2_call 144 = .ok (.getfield 9, 3) := by decide +kernel
theorem dX2_call_147 : decode cX2_call 147 = .ok (.invokevirtual 119, 3) := by decide +kernel
theorem dX2_call_150 : decode cX2_call 150 = .ok (.aload_n 0, 1) := by decide +kernel
theorem dX2_call_151 : decode cX2_call 151 = .ok (.getfield 21, 3) := by decide +kernel
theorem dX2_call_154 : decode cX2_call 154 = .ok (.invokevirtual 90, 3) := by decide +kernel
theorem dX2_call_157 : decode cX2_call 157 = .ok (.aload_n 0, 1) := by decide +kernel
theorem dX2_call_158 : decode cX2_call 158 = .ok (.getfield 48, 3) := by decide +kernel
theorem dX2_call_161 : decode cX2_call 161 = .ok (.bipush 32, 2) := by decide +kernel
theorem dX2_call_163 : decode cX2_call 163 = .ok (.aload_n 0, 1) := by decide +kernel
theorem dX2_call_164 : decode cX2_call 164 = .ok (.getfield 26, 3) := by decide +kernel
theorem dX2_call_167 : decode cX2_call 167 = .ok (.iload_n 1, 1) := by decide +kernel
theorem dX2_call_168 : decode cX2_call 168 = .ok (.invokevirtual 177, 3) := by decide +kernel
theorem dX2_call_171 : decode cX2_call 171 = .ok (.iload_n 3, 1) := by decide +kernel
theorem dX2_call_172 : decode cX2_call 172 = .ok (.invokevirtual 183, 3) := by decide +kernel
theorem dX2_call_175 : decode cX2_call 175 = .ok (.aload_n 0, 1) := by decide +kernel
theorem dX2_call_176 : decode cX2_call 176 = .ok (.getfield 43, 3) := by decide +kernel
theorem dX2_call_179 : decode cX2_call 179 = .ok (.bipush 8, 2) := by decide +kernel
theorem dX2_call_181 : decode cX2_call 181 = .ok (.aload_n 0, 1) := by decide +kernel
theorem dX2_call_182 : decode cX2_call 182 = .ok (.getfield 26, 3) := by decide +kernel
theorem dX2_call_185 : decode cX2_call 185 = .ok (.iload_n 1, 1) := by decide +kernel
theorem dX2_call_186 : decode cX2_call 186 = .ok (.invokevirtual 203, 3) := by decide +kernel
theorem dX2_call_189 : decode cX2_call 189 = .ok (.iload 4, 2) := by decide +kernel
theorem dX2_call_191 : decode cX2_call 191 = .ok (.iconst (-1), 1) := by decide +kernel
theorem dX2_call_192 : decode cX2_call 192 = .ok (.invokevirtual 116, 3) := by decide +kernel
theorem dX2_call_195 : decode cX2_call 195 = .ok (.ireturn, 1) := by decide +kernel
theorem dX3_init_0 : decode cX3_init 0 = .ok (.aload_n 0, 1) := by decide +kernel
theorem dX3_init_1 : decode cX3_init 1 = .ok (.invokespecial 3, 3) := by decide +kernel
theorem dX3_init_4 : decode cX3_init 4 = .ok (.aload_n 0, 1) := by decide +kernel
theorem dX3_init_5 : decode cX3_init 5 = .ok (.iload_n 1, 1) := by decide +kernel
theorem dX3_init_6 : decode cX3_init 6 = .ok (.newarray .int, 2) := by decide +kernel
theorem dX3_init_8 : decode cX3_init 8 = .ok (.putfield 9, 3) := by decide +kernel
theorem dX3_init_11 : decode cX3_init 11 = .ok (.aload_n 0, 1) := by decide +kernel
theorem dX3_init_12 : decode cX3_init 12 = .ok (.aload_n 2, 1) := by decide +kernel
theorem dX3_init_13 : decode cX3_init 13 = .ok (.putfield 15, 3) := by decide +kernel
theorem dX3_init_16 : decode cX3_init 16 = .ok (.return_, 1) := by decide +kernel
theorem dX3_begin_0 : decode cX3_begin 0 = .ok (.aload_n 0, 1) := by decide +kernel
theorem dX3_begin_1 : decode cX3_begin 1 = .ok (.aload_n 1, 1) := by decide +kernel
theorem dX3_begin_2 : decode cX3_begin 2 = .ok (.getfield 19, 3) := by decide +kernel
theorem dX3_begin_5 : decode cX3_begin 5 = .ok (.putfield 25, 3) := by decide +kernel
theorem dX3_begin_8 : decode cX3_begin 8 = .ok (.aload_n 0, 1) := by decide +kernel
theorem dX3_begin_9 : decode cX3_begin 9 = .ok (.getfield 9, 3) := by decide +kernel
theorem dX3_begin_12 : decode cX3_begin 12 = .ok (.iconst 0, 1) := by decide +kernel
theorem dX3_begin_13 : decode cX3_begin 13 = .ok (.invokestatic 26, 3) := by decide +kernel
theorem dX3_begin_16 : decode cX3_begin 16 = .ok (.aload_n 0, 1) := by decide +kernel
theorem dX3_begin_17 : decode cX3_begin 17 = .ok (.iconst 0, 1) := by decide +kernel
theorem dX3_begin_18 : decode cX3_begin 18 = .ok (.putfield 32, 3) := by decide +kernel
theorem dX3_begin_21 : decode cX3_begin 21 = .ok (.aload_n 0, 1) := by decide +kernel
theorem dX3_begin_22 : decode cX3_begin 22 = .ok (.aload_n 1, 1) := by decide +kernel
theorem dX3_begin_23 : decode cX3_begin 23 = .ok (.getfield 36, 3) := by decide +kernel
theorem dX3_begin_26 : decode cX3_begin 26 = .ok (.putfield 39, 3) := by decide +kernel
theorem dX3_begin_29 : decode cX3_begin 29 = .ok (.aload_n 0, 1) := by decide +kernel
theorem dX3_begin_30 : decode cX3_begin 30 = .ok (.iconst 0, 1) := by decide +kernel
theorem dX3_begin_31 : decode cX3_begin 31 = .ok (.putfield 42, 3) := by decide +kernel
theorem dX3_begin_34 : decode cX3_begin 34 = .ok (.aload_n 0, 1) := by decide +kernel
theorem dX3_begin_35 : decode cX3_begin 35 = .ok (.iconst 0, 1) := by decide +kernel
theorem dX3_begin_36 : decode cX3_begin 36 = .ok (.putfield 45, 3) := by decide +kernel
theorem dX3_begin_39 : decode cX3_begin 39 = .ok (.aload_n 0, 1) := by decide +kernel
theorem dX3_begin_40 : decode cX3_begin 40 = .ok (.iconst 0, 1) := by decide +kernel
theorem dX3_begin_41 : decode cX3_begin 41 = .ok (.putfield 48, 3) := by decide +kernel
theorem dX3_begin_44 : decode cX3_begin 44 = .ok (.return_, 1) := by decide +kernel
theorem dX3_goOn_0 : decode cX3_goOn 0 = .ok (.iconst 0, 1) := by decide +kernel
theorem dX3_goOn_1 : decode cX3_goOn 1 = .ok (.istore_n 2, 1) := by decide +kernel
theorem dX3_goOn_2 : decode cX3_goOn 2 = .ok (.iload_n 2, 1) := by decide +kernel
theorem dX3_goOn_3 : decode cX3_goOn 3 = .ok (.iload_n 1, 1) := by decide +kernel
theorem dX3_goOn_4 : decode cX3_goOn 4 = .ok (.if_icmp .ge 52, 3) := by decide +kernel
theorem dX3_goOn_7 : decode cX3_goOn 7 = .ok (.aload_n 0, 1) := by decide +kernel
theorem dX3_goOn_8 : decode cX3_goOn 8 = .ok (.getfield 45, 3) := by decide +kernel
theorem dX3_goOn_11 : decode cX3_goOn 11 = .ok (.ifCond .ne 45, 3) := by decide +kernel
theorem dX3_goOn_14 : decode cX3_goOn 14 = .ok (.aload_n 0, 1) := by decide +kernel
theorem dX3_goOn_15 : decode cX3_goOn 15 = .ok (.getfield 48, 3) := by decide +kernel
theorem dX3_goOn_18 : decode cX3_goOn 18 = .ok (.ifCond .ne 23, 3) := by decide +kernel
theorem dX3_goOn_21 : decode cX3_goOn 21 = .ok (.aload_n 0, 1) := by decide +kernel
theorem dX3_goOn_22 : decode cX3_goOn 22 = .ok (.getfield 39, 3) := by decide +kernel
theorem dX3_goOn_25 : decode cX3_goOn 25 = .ok (.aload_n 0, 1) := by decide +kernel
theorem dX3_goOn_26 : decode cX3_goOn 26 = .ok (.getfield 9, 3) := by decide +kernel
theorem dX3_goOn_29 : decode cX3_goOn 29 = .ok (.arraylength, 1) := by decide +kernel
theorem dX3_goOn_30 : decode cX3_goOn 30 = .ok (.if_icmp .le 11, 3) := by decide +kernel
theorem dX3_goOn_33 : decode cX3_goOn 33 = .ok (.aload_n 0, 1) := by decide +kernel
theorem dX3_goOn_34 : decode cX3_goOn 34 = .ok (.iconst 4, 1) := by decide +kernel
theorem dX3_goOn_35 : decode cX3_goOn 35 = .ok (.putfield 45, 3) := by decide +kernel
theorem dX3_goOn_38 : decode cX3_goOn 38 = .ok (.goto 7, 3) := by decide +kernel
theorem dX3_goOn_41 : decode cX3_goOn 41 = .ok (.aload_n 0, 1) := by decide +kernel
theorem dX3_goOn_42 : decode cX3_goOn 42 = .ok (.invokevirtual 52, 3) := by decide +kernel
theorem dX3_goOn_45 : decode cX3_goOn 45 = .ok (.aload_n 0, 1) := by decide +kernel
theorem dX3_goOn_46 : decode cX3_goOn 46 = .ok (.iconst 1, 1) := by decide +kernel
theorem dX3_goOn_47 : decode cX3_goOn 47 = .ok (.putfield 48, 3) := by decide +kernel
theorem dX3_goOn_50 : decode cX3_goOn 50 = .ok (.iinc 2 1, 3) := by decide +kernel
theorem dX3_goOn_53 : decode cX3_goOn 53 = .ok (.goto (-51), 3) := by decide +kernel
theorem dX3_goOn_56 : decode cX3_goOn 56 = .ok (.aload_n 0, 1) := by decide +kernel
theorem dX3_goOn_57 : decode cX3_goOn 57 = .ok (.getfield 45, 3) := by decide +kernel
theorem dX3_goOn_60 : decode cX3_goOn 60 = .ok (.ireturn, 1) := by decide +kernel
theorem dX3_execute_0 : decode cX3_execute 0 = .ok (.aload_n 0, 1) := by decide +kernel
theorem dX3_execute_1 : decode cX3_execute 1 = .ok (.getfield 25, 3) := by decide +kernel
theorem dX3_execute_4 : decode cX3_execute 4 = .ok (.aload_n 0, 1) := by decide +kernel
theorem dX3_execute_5 : decode cX3_execute 5 = .ok (.getfield 32, 3) := by decide +kernel
theorem dX3_execute_8 : decode cX3_execute 8 = .ok (.invokevirtual 55, 3) := by decide +kernel
theorem dX3_execute_11 : decode cX3_execute 11 = .ok (.istore_n 1, 1) := by decide +kernel
theorem dX3_execute_12 : decode cX3_execute 12 = .ok (.aload_n 0, 1) := by decide +kernel
theorem dX3_execute_13 : decode cX3_execute 13 = .ok (.dup, 1) := by decide +kernel
theorem dX3_execute_14 : decode cX3_execute 14 = .ok (.getfield 32, 3) := by decide +kernel
theorem dX3_execute_17 : decode cX3_execute 17 = .ok (.iconst 1, 1) := by decide +kernel
theorem dX3_execute_18 : decode cX3_execute 18 = .ok (.iadd, 1) := by decide +kernel
theorem dX3_execute_19 : decode cX3_execute 19 = .ok (.putfield 32, 3) := by decide +kernel
theorem dX3_execute_22 : decode cX3_execute 22 = .ok (.iload_n 1, 1) := by decide +kernel
theorem dX3_execute_23 : decode cX3_execute 23 = .ok (.bipush 24, 2) := by decide +kernel
theorem dX3_execute_25 : decode cX3_execute 25 = .ok (.if_icmp .lt 24, 3) := by decide +kernel
theorem dX3_execute_28 : decode cX3_execute 28 = .ok (.iload_n 1, 1) := by decide +kernel
theorem dX3_execute_29 : decode cX3_execute 29 = .ok (.bipush 26, 2) := by decide +kernel
theorem dX3_execute_31 : decode cX3_execute 31 = .ok (.if_icmp .gt 18, 3) := by decide +kernel
theorem dX3_execute_34 : decode cX3_execute 34 = .ok (.aload_n 0, 1) := by decide +kernel
theorem dX3_execute_35 : decode cX3_execute 35 = .ok (.iload_n 1, 1) := by decide +kernel
theorem dX3_execute_36 : decode cX3_execute 36 = .ok (.aload_n 0, 1) := by decide +kernel
theorem dX3_execute_37 : decode cX3_execute 37 = .ok (.invokevirtual 61, 3) := by decide +kernel
theorem dX3_execute_40 : decode cX3_execute 40 = .ok (.invokestatic 65, 3) := by decide +kernel
theorem dX3_execute_43 : decode cX3_execute 43 = .ok (.invokevirtual 69, 3) := by decide +kernel
theorem dX3_execute_46 : decode cX3_execute 46 = .ok (.goto 42, 3) := by decide +kernel
theorem dX3_execute_49 : decode cX3_execute 49 = .ok (.iload_n 1, 1) := by decide +kernel
theorem dX3_execute_50 : decode cX3_execute 50 = .ok (.bipush 10, 2) := by decide +kernel
theorem dX3_execute_52 : decode cX3_execute 52 = .ok (.if_icmp .lt 17, 3) := by decide +kernel
theorem dX3_execute_55 : decode cX3_execute 55 = .ok (.iload_n 1, 1) := by decide +kernel
theorem dX3_execute_56 : decode cX3_execute 56 = .ok (.bipush 28, 2) := by decide +kernel
theorem dX3_execute_58 : decode cX3_execute 58 = .ok (.if_icmp .gt 11, 3) := by decide +kernel
theorem dX3_execute_61 : decode cX3_execute 61 = .ok (.aload_n 0, 1) := by decide +kernel
theorem dX3_execute_62 : decode cX3_execute 62 = .ok (.iload_n 1, 1) := by decide +kernel
theorem dX3_execute_63 : decode cX3_execute 63 = .ok (.invokevirtual 73, 3) := by decide +kernel
theorem dX3_execute_66 : decode cX3_execute 66 = .ok (.goto 22, 3) := by decide +kernel
theorem dX3_execute_69 : decode cX3_execute 69 = .ok (.iload_n 1, 1) := by decide +kernel
theorem dX3_execute_70 : decode cX3_execute 70 = .ok (.bipush 30, 2) := by decide +kernel
theorem dX3_execute_72 : decode cX3_execute 72 = .ok (.if_icmp .lt 11, 3) := by decide +kernel
theorem dX3_execute_75 : decode cX3_execute 75 = .ok (.aload_n 0, 1) := by decide +kernel
theorem dX3_execute_76 : decode cX3_execute 76 = .ok (.iload_n 1, 1) := by decide +kernel
theorem dX3_execute_77 : decode cX3_execute 77 = .ok (.invokevirtual 76, 3) := by decide +kernel
theorem dX3_execute_80 : decode cX3_execute 80 = .ok (.goto 8, 3) := by decide +kernel
theorem dX3_execute_83 : decode cX3_execute 83 = .ok (.aload_n 0, 1) := by decide +kernel
theorem dX3_execute_84 : decode cX3_execute 84 = .ok (.iload_n 1, 1) := by decide +kernel
theorem dX3_execute_85 : decode cX3_execute 85 = .ok (.invokevirtual 79, 3) := by decide +kernel
theorem dX3_execute_88 : decode cX3_execute 88 = .ok (.return_, 1) := by decide +kernel
theorem dX3_push_0 : decode cX3_push 0 = .ok (.aload_n 0, 1) := by decide +kernel
theorem dX3_push_1 : decode cX3_push 1 = .ok (.getfield 39, 3) := by decide +kernel
theorem dX3_push_4 : decode cX3_push 4 = .ok (.ifCond .lt 38, 3) := by decide +kernel
theorem dX3_push_7 : decode cX3_push 7 = .ok (.aload_n 0, 1) := by decide +kernel
theorem dX3_push_8 : decode cX3_push 8 = .ok (.getfield 39, 3) := by decide +kernel
theorem dX3_push_11 : decode cX3_push 11 = .ok (.aload_n 0, 1) := by decide +kernel
theorem dX3_push_12 : decode cX3_push 12 = .ok (.getfield 9, 3) := by decide +kernel
theorem dX3_push_15 : decode cX3_push 15 = .ok (.arraylength, 1) := by decide +kernel
theorem dX3_push_16 : decode cX3_push 16 = .ok (.if_icmp .ge 26, 3) := by decide +kernel
theorem dX3_push_19 : decode cX3_push 19 = .ok (.aload_n 0, 1) := by decide +kernel
theorem dX3_push_20 : decode cX3_push 20 = .ok (.getfield 9, 3) := by decide +kernel
theorem dX3_push_23 : decode cX3_push 23 = .ok (.aload_n 0, 1) := by decide +kernel
theorem dX3_push_24 : decode cX3_push 24 = .ok (.getfield 39, 3) := by decide +kernel
theorem dX3_push_27 : decode cX3_push 27 = .ok (.iload_n 1, 1) := by decide +kernel
theorem dX3_push_28 : decode cX3_push 28 = .ok (.iastore, 1) := by decide +kernel
theorem dX3_push_29 : decode cX3_push 29 = .ok (.aload_n 0, 1) := by decide +kernel
theorem dX3_push_30 : decode cX3_push 30 = .ok (.dup, 1) := by decide +kernel
theorem dX3_push_31 : decode cX3_push 31 = .ok (.getfield 39, 3) := by decide +kernel
theorem dX3_push_34 : decode cX3_push 34 = .ok (.iconst 1, 1) := by decide +kernel
theorem dX3_push_35 : decode cX3_push 35 = .ok (.iadd, 1) := by decide +kernel
theorem dX3_push_36 : decode cX3_push 36 = .ok (.putfield 39, 3) := by decide +kernel
theorem dX3_push_39 : decode cX3_push 39 = .ok (.goto 8, 3) := by decide +kernel
theorem dX3_push_42 : decode cX3_push 42 = .ok (.aload_n 0, 1) := by decide +kernel
theorem dX3_push_43 : decode cX3_push 43 = .ok (.iconst 4, 1) := by decide +kernel
theorem dX3_push_44 : decode cX3_push 44 = .ok (.putfield 45, 3) := by decide +kernel
theorem dX3_push_47 : decode cX3_push 47 = .ok (.return_, 1) := by decide +kernel
theorem dX3_pop_0 : decode cX3_pop 0 = .ok (.aload_n 0, 1) := by decide +kernel
theorem dX3_pop_1 : decode cX3_pop 1 = .ok (.dup, 1) := by decide +kernel
theorem dX3_pop_2 : decode cX3_pop 2 = .ok (.getfield 39, 3) := by decide +kernel
theorem dX3_pop_5 : decode cX3_pop 5 = .ok (.iconst 1, 1) := by decide +kernel
theorem dX3_pop_6 : decode cX3_pop 6 = .ok (.isub, 1) := by decide +kernel
theorem dX3_pop_7 : decode cX3_pop 7 = .ok (.putfield 39, 3) := by decide +kernel
theorem dX3_pop_10 : decode cX3_pop 10 = .ok (.aload_n 0, 1) := by decide +kernel
theorem dX3_pop_11 : decode cX3_pop 11 = .ok (.aload_n 0, 1) := by decide +kernel
theorem dX3_pop_12 : decode cX3_pop 12 = .ok (.getfield 39, 3) := by decide +kernel
theorem dX3_pop_15 : decode cX3_pop 15 = .ok (.invokevirtual 82, 3) := by decide +kernel
theorem dX3_pop_18 : decode cX3_pop 18 = .ok (.ireturn, 1) := by decide +kernel
theorem dX3_load_0 : decode cX3_load 0 = .ok (.iload_n 1, 1) := by decide +kernel
theorem dX3_load_1 : decode cX3_load 1 = .ok (.ifCond .lt 21, 3) := by decide +kernel
theorem dX3_load_4 : decode cX3_load 4 = .ok (.iload_n 1, 1) := by decide +kernel
theorem dX3_load_5 : decode cX3_load 5 = .ok (.aload_n 0, 1) := by decide +kernel
theorem dX3_load_6 : decode cX3_load 6 = .ok (.getfield 9, 3) := by decide +kernel
theorem dX3_load_9 : decode cX3_load 9 = .ok (.arraylength, 1) := by decide +kernel
theorem dX3_load_10 : decode cX3_load 10 = .ok (.if_icmp .ge 12, 3) := by decide +kernel
theorem dX3_load_13 : decode cX3_load 13 = .ok (.aload_n 0, 1) := by decide +kernel
theorem dX3_load_14 : decode cX3_load 14 = .ok (.getfield 9, 3) := by decide +kernel
theorem dX3_load_17 : decode cX3_load 17 = .ok (.iload_n 1, 1) := by decide +kernel
theorem dX3_load_18 : decode cX3_load 18 = .ok (.iaload, 1) := by decide +kernel
theorem dX3_load_19 : decode cX3_load 19 = .ok (.goto 4, 3) := by decide +kernel
theorem dX3_load_22 : decode cX3_load 22 = .ok (.iconst 0, 1) := by decide +kernel
theorem dX3_load_23 : decode cX3_load 23 = .ok (.ireturn, 1) := by decide +kernel
theorem dX3_store_0 : decode cX3_store 0 = .ok (.iload_n 1, 1) := by decide +kernel
theorem dX3_store_1 : decode cX3_store 1 = .ok (.ifCond .lt 19, 3) := by decide +kernel
theorem dX3_store_4 : decode cX3_store 4 = .ok (.iload_n 1, 1) := by decide +kernel
theorem dX3_store_5 : decode cX3_store 5 = .ok (.aload_n 0, 1) := by decide +kernel
theorem dX3_store_6 : decode cX3_store 6 = .ok (.getfield 9, 3) := by decide +kernel
theorem dX3_store_9 : decode cX3_store 9 = .ok (.arraylength, 1) := by decide +kernel
theorem dX3_store_10 : decode cX3_store 10 = .ok (.if_icmp .ge 10, 3) := by decide +kernel
theorem dX3_store_13 : decode cX3_store 13 = .ok (.aload_n 0, 1) := by decide +kernel
theorem dX3_store_14 : decode cX3_store 14 = .ok (.getfield 9, 3) := by decide +kernel
theorem dX3_store_17 : decode cX3_store 17 = .ok (.iload_n 1, 1) := by decide +kernel
theorem dX3_store_18 : decode cX3_store 18 = .ok (.iload_n 2, 1) := by decide +kernel
theorem dX3_store_19 : decode cX3_store 19 = .ok (.iastore, 1) := by decide +kernel
theorem dX3_store_20 : decode cX3_store 20 = .ok (.return_, 1) := by decide +kernel
theorem dX3_next_0 : decode cX3_next 0 = .ok (.aload_n 0, 1) := by decide +kernel
theorem dX3_next_1 : decode cX3_next 1 = .ok (.dup, 1) := by decide +kernel
theorem dX3_next_2 : decode cX3_next 2 = .ok (.getfield 32, 3) := by decide +kernel
theorem dX3_next_5 : decode cX3_next 5 = .ok (.iconst 1, 1) := by decide +kernel
theorem dX3_next_6 : decode cX3_next 6 = .ok (.iadd, 1) := by decide +kernel
theorem dX3_next_7 : decode cX3_next 7 = .ok (.putfield 32, 3) := by decide +kernel
theorem dX3_next_10 : decode cX3_next 10 = .ok (.aload_n 0, 1) := by decide +kernel
theorem dX3_next_11 : decode cX3_next 11 = .ok (.getfield 25, 3) := by decide +kernel
theorem dX3_next_14 : decode cX3_next 14 = .ok (.aload_n 0, 1) := by decide +kernel
theorem dX3_next_15 : decode cX3_next 15 = .ok (.getfield 32, 3) := by decide +kernel
theorem dX3_next_18 : decode cX3_next 18 = .ok (.iconst 1, 1) := by decide +kernel
theorem dX3_next_19 : decode cX3_next 19 = .ok (.isub, 1) := by decide +kernel
theorem dX3_next_20 : decode cX3_next 20 = .ok (.invokevirtual 55, 3) := by decide +kernel
theorem dX3_next_23 : decode cX3_next 23 = .ok (.ireturn, 1) := by decide +kernel
theorem dX3_join_0 : decode cX3_join 0 = .ok (.aload_n 0, 1) := by decide +kernel
theorem dX3_join_1 : decode cX3_join 1 = .ok (.invokevirtual 61, 3) := by decide +kernel
theorem dX3_join_4 : decode cX3_join 4 = .ok (.istore_n 2, 1) := by decide +kernel
theorem dX3_join_5 : decode cX3_join 5 = .ok (.aload_n 0, 1) := by decide +kernel
theorem dX3_join_6 : decode cX3_join 6 = .ok (.invokevirtual 61, 3) := by decide +kernel
theorem dX3_join_9 : decode cX3_join 9 = .ok (.istore_n 3, 1) := by decide +kernel
theorem dX3_join_10 : decode cX3_join 10 = .ok (.iload_n 1, 1) := by decide +kernel
theorem dX3_join_11 : decode cX3_join 11 = .ok (.iload_n 2, 1) := by decide +kernel
theorem dX3_join_12 : decode cX3_join 12 = .ok (.invokestatic 85, 3) := by decide +kernel
theorem dX3_join_15 : decode cX3_join 15 = .ok (.ifCond .eq 11, 3) := by decide +kernel
theorem dX3_join_18 : decode cX3_join 18 = .ok (.aload_n 0, 1) := by decide +kernel
theorem dX3_join_19 : decode cX3_join 19 = .ok (.iconst 2, 1) := by decide +kernel
theorem dX3_join_20 : decode cX3_join 20 = .ok (.putfield 45, 3) := by decide +kernel
theorem dX3_join_23 : decode cX3_join 23 = .ok (.goto 13, 3) := by decide +kernel
theorem dX3_join_26 : decode cX3_join 26 = .ok (.aload_n 0, 1) := by decide +kernel
theorem dX3_join_27 : decode cX3_join 27 = .ok (.iload_n 1, 1) := by decide +kernel
theorem dX3_join_28 : decode cX3_join 28 = .ok (.iload_n 3, 1) := by decide +kernel
theorem dX3_join_29 : decode cX3_join 29 = .ok (.iload_n 2, 1) := by decide +kernel
theorem dX3_join_30 : decode cX3_join 30 = .ok (.invokestatic 89, 3) := by decide +kernel
theorem dX3_join_33 : decode cX3_join 33 = .ok (.invokevirtual 69, 3) := by decide +kernel
theorem dX3_join_36 : decode cX3_join 36 = .ok (.return_, 1) := by decide +kernel
theorem dX3_move_0 : decode cX3_move 0 = .ok (.iload_n 1, 1) := by decide +kernel
theorem dX3_move_1 : decode cX3_move 1 = .ok (.tableswitch 166 0 7 #[47, 55, 66, 81, 96, 116, 136, 151], 47) := by decide +kernel
theorem dX3_move_48 : decode cX3_move 48 = .ok (.aload_n 0, 1) := by decide +kernel
theorem dX3_move_49 : decode cX3_move 49 = .ok (.iconst 1, 1) := by decide +kernel
theorem dX3_move_50 : decode cX3_move 50 = .ok (.invokevirtual 93, 3) := by decide +kernel
theorem dX3_move_53 : decode cX3_move 53 = .ok (.goto 114, 3) := by decide +kernel
theorem dX3_move_56 : decode cX3_move 56 = .ok (.aload_n 0, 1) := by decide +kernel
theorem dX3_move_57 : decode cX3_move 57 = .ok (.aload_n 0, 1) := by decide +kernel
theorem dX3_move_58 : decode cX3_move 58 = .ok (.invokevirtual 96, 3) := by decide +kernel
theorem dX3_move_61 : decode cX3_move 61 = .ok (.invokevirtual 69, 3) := by decide +kernel
theorem dX3_move_64 : decode cX3_move 64 = .ok (.goto 103, 3) := by decide +kernel
theorem dX3_move_67 : decode cX3_move 67 = .ok (.aload_n 0, 1) := by decide +kernel
theorem dX3_move_68 : decode cX3_move 68 = .ok (.aload_n 0, 1) := by decide +kernel
theorem dX3_move_69 : decode cX3_move 69 = .ok (.aload_n 0, 1) := by decide +kernel
theorem dX3_move_70 : decode cX3_move 70 = .ok (.invokevirtual 96, 3) := by decide +kernel
theorem dX3_move_73 : decode cX3_move 73 = .ok (.invokevirtual 82, 3) := by decide +kernel
theorem dX3_move_76 : decode cX3_move 76 = .ok (.invokevirtual 69, 3) := by decide +kernel
theorem dX3_move_79 : decode cX3_move 79 = .ok (.goto 88, 3) := by decide +kernel
theorem dX3_move_82 : decode cX3_move 82 = .ok (.aload_n 0, 1) := by decide +kernel
theorem dX3_move_83 : decode cX3_move 83 = .ok (.aload_n 0, 1) := by decide +kernel
theorem dX3_move_84 : decode cX3_move 84 = .ok (.invokevirtual 96, 3) := by decide +kernel
theorem dX3_move_87 : decode cX3_move 87 = .ok (.aload_n 0, 1) := by decide +kernel
theorem dX3_move_88 : decode cX3_move 88 = .ok (.invokevirtual 61, 3) := by decide +kernel
theorem dX3_move_91 : decode cX3_move 91 = .ok (.invokevirtual 99, 3) := by decide +kernel
theorem dX3_move_94 : decode cX3_move 94 = .ok (.goto 73, 3) := by decide +kernel
theorem dX3_move_97 : decode cX3_move 97 = .ok (.aload_n 0, 1) := by decide +kernel
theorem dX3_move_98 : decode cX3_move 98 = .ok (.aload_n 0, 1) := by decide +kernel
theorem dX3_move_99 : decode cX3_move 99 = .ok (.aload_n 0, 1) := by decide +kernel
theorem dX3_move_100 : decode cX3_move 100 = .ok (.getfield 42, 3) := by decide +kernel
theorem dX3_move_103 : decode cX3_move 103 = .ok (.aload_n 0, 1) := by decide +kernel
theorem dX3_move_104 : decode cX3_move 104 = .ok (.invokevirtual 96, 3) := by decide +kernel
theorem dX3_move_107 : decode cX3_move 107 = .ok (.iadd, 1) := by decide +kernel
theorem dX3_move_108 : decode cX3_move 108 = .ok (.invokevirtual 82, 3) := by decide +kernel
theorem dX3_move_111 : decode cX3_move 111 = .ok (.invokevirtual 69, 3) := by decide +kernel
theorem dX3_move_114 : decode cX3_move 114 = .ok (.goto 53, 3) := by decide +kernel
theorem dX3_move_117 : decode cX3_move 117 = .ok (.aload_n 0, 1) := by decide +kernel
theorem dX3_move_118 : decode cX3_move 118 = .ok (.aload_n 0, 1) := by decide +kernel
theorem dX3_move_119 : decode cX3_move 119 = .ok (.getfield 42, 3) := by decide +kernel
theorem dX3_move_122 : decode cX3_move 122 = .ok (.aload_n 0, 1) := by decide +kernel
theorem dX3_move_123 : decode cX3_move 123 = .ok (.invokevirtual 96, 3) := by decide +kernel
theorem dX3_move_126 : decode cX3_move 126 = .ok (.iadd, 1) := by decide +kernel
theorem dX3_move_127 : decode cX3_move 127 = .ok (.aload_n 0, 1) := by decide +kernel
theorem dX3_move_128 : decode cX3_move 128 = .ok (.invokevirtual 61, 3) := by decide +kernel
theorem dX3_move_131 : decode cX3_move 131 = .ok (.invokevirtual 99, 3) := by decide +kernel
theorem dX3_move_134 : decode cX3_move 134 = .ok (.goto 33, 3) := by decide +kernel
theorem dX3_move_137 : decode cX3_move 137 = .ok (.aload_n 0, 1) := by decide +kernel
theorem dX3_move_138 : decode cX3_move 138 = .ok (.aload_n 0, 1) := by decide +kernel
theorem dX3_move_139 : decode cX3_move 139 = .ok (.invokevirtual 96, 3) := by decide +kernel
theorem dX3_move_142 : decode cX3_move 142 = .ok (.aload_n 0, 1) := by decide +kernel
theorem dX3_move_143 : decode cX3_move 143 = .ok (.invokevirtual 96, 3) := by decide +kernel
theorem dX3_move_146 : decode cX3_move 146 = .ok (.invokevirtual 103, 3) := by decide +kernel
theorem dX3_move_149 : decode cX3_move 149 = .ok (.goto 18, 3) := by decide +kernel
theorem dX3_move_152 : decode cX3_move 152 = .ok (.aload_n 0, 1) := by decide +kernel
theorem dX3_move_153 : decode cX3_move 153 = .ok (.aload_n 0, 1) := by decide +kernel
theorem dX3_move_154 : decode cX3_move 154 = .ok (.invokevirtual 96, 3) := by decide +kernel
theorem dX3_move_157 : decode cX3_move 157 = .ok (.aload_n 0, 1) := by decide +kernel
theorem dX3_move_158 : decode cX3_move 158 = .ok (.invokevirtual 96, 3) := by decide +kernel
theorem dX3_move_161 : decode cX3_move 161 = .ok (.invokevirtual 106, 3) := by decide +kernel
theorem dX3_move_164 : decode cX3_move 164 = .ok (.goto 3, 3) := by decide +kernel
theorem dX3_move_167 : decode cX3_move 167 = .ok (.return_, 1) := by decide +kernel
theorem dX3_comeOut_0 : decode cX3_comeOut 0 = .ok (.aload_n 0, 1) := by decide +kernel
theorem dX3_comeOut_1 : decode cX3_comeOut 1 = .ok (.aload_n 0, 1) := by decide +kernel
theorem dX3_comeOut_2 : decode cX3_comeOut 2 = .ok (.getfield 15, 3) := by decide +kernel
theorem dX3_comeOut_5 : decode cX3_comeOut 5 = .ok (.aload_n 0, 1) := by decide +kernel
theorem dX3_comeOut_6 : decode cX3_comeOut 6 = .ok (.invokevirtual 61, 3) := by decide +kernel
theorem dX3_comeOut_9 : decode cX3_comeOut 9 = .ok (.invokevirtual 109, 3) := by decide +kernel
theorem dX3_comeOut_12 : decode cX3_comeOut 12 = .ok (.ifCond .eq 7, 3) := by decide +kernel
theorem dX3_comeOut_15 : decode cX3_comeOut 15 = .ok (.iload_n 1, 1) := by decide +kernel
theorem dX3_comeOut_16 : decode cX3_comeOut 16 = .ok (.goto 5, 3) := by decide +kernel
theorem dX3_comeOut_19 : decode cX3_comeOut 19 = .ok (.bipush 6, 2) := by decide +kernel
theorem dX3_comeOut_21 : decode cX3_comeOut 21 = .ok (.putfield 45, 3) := by decide +kernel
theorem dX3_comeOut_24 : decode cX3_comeOut 24 = .ok (.return_, 1) := by decide +kernel
theorem dX3_loadItem_0 : decode cX3_loadItem 0 = .ok (.aload_n 0, 1) := by decide +kernel
theorem dX3_loadItem_1 : decode cX3_loadItem 1 = .ok (.invokevirtual 61, 3) := by decide +kernel
theorem dX3_loadItem_4 : decode cX3_loadItem 4 = .ok (.istore_n 3, 1) := by decide +kernel
theorem dX3_loadItem_5 : decode cX3_loadItem 5 = .ok (.iload_n 3, 1) := by decide +kernel
theorem dX3_loadItem_6 : decode cX3_loadItem 6 = .ok (.ifCond .lt 8, 3) := by decide +kernel
theorem dX3_loadItem_9 : decode cX3_loadItem 9 = .ok (.iload_n 3, 1) := by decide +kernel
theorem dX3_loadItem_10 : decode cX3_loadItem 10 = .ok (.iload_n 2, 1) := by decide +kernel
theorem dX3_loadItem_11 : decode cX3_loadItem 11 = .ok (.if_icmp .lt 11, 3) := by decide +kernel
theorem dX3_loadItem_14 : decode cX3_loadItem 14 = .ok (.aload_n 0, 1) := by decide +kernel
theorem dX3_loadItem_15 : decode cX3_loadItem 15 = .ok (.iconst 3, 1) := by decide +kernel
theorem dX3_loadItem_16 : decode cX3_loadItem 16 = .ok (.putfield 45, 3) := by decide +kernel
theorem dX3_loadItem_19 : decode cX3_loadItem 19 = .ok (.goto 14, 3) := by decide +kernel
theorem dX3_loadItem_22 : decode cX3_loadItem 22 = .ok (.aload_n 0, 1) := by decide +kernel
theorem dX3_loadItem_23 : decode cX3_loadItem 23 = .ok (.aload_n 0, 1) := by decide +kernel
theorem dX3_loadItem_24 : decode cX3_loadItem 24 = .ok (.iload_n 1, 1) := by decide +kernel
theorem dX3_loadItem_25 : decode cX3_loadItem 25 = .ok (.iload_n 3, 1) := by decide +kernel
theorem dX3_loadItem_26 : decode cX3_loadItem 26 = .ok (.iadd, 1) := by decide +kernel
theorem dX3_loadItem_27 : decode cX3_loadItem 27 = .ok (.invokevirtual 82, 3) := by decide +kernel
theorem dX3_loadItem_30 : decode cX3_loadItem 30 = .ok (.invokevirtual 69, 3) := by decide +kernel
theorem dX3_loadItem_33 : decode cX3_loadItem 33 = .ok (.return_, 1) := by decide +kernel
theorem dX3_storeItem_0 : decode cX3_storeItem 0 = .ok (.aload_n 0, 1) := by decide +kernel
theorem dX3_storeItem_1 : decode cX3_storeItem 1 = .ok (.invokevirtual 61, 3) := by decide +kernel
theorem dX3_storeItem_4 : decode cX3_storeItem 4 = .ok (.istore_n 3, 1) := by decide +kernel
theorem dX3_storeItem_5 : decode cX3_storeItem 5 = .ok (.aload_n 0, 1) := by decide +kernel
theorem dX3_storeItem_6 : decode cX3_storeItem 6 = .ok (.invokevirtual 61, 3) := by decide +kernel
theorem dX3_storeItem_9 : decode cX3_storeItem 9 = .ok (.istore 4, 2) := by decide +kernel
theorem dX3_storeItem_11 : decode cX3_storeItem 11 = .ok (.iload 4, 2) := by decide +kernel
theorem dX3_storeItem_13 : decode cX3_storeItem 13 = .ok (.ifCond .lt 9, 3) := by decide +kernel
theorem dX3_storeItem_16 : decode cX3_storeItem 16 = .ok (.iload 4, 2) := by decide +kernel
theorem dX3_storeItem_18 : decode cX3_storeItem 18 = .ok (.iload_n 2, 1) := by decide +kernel
theorem dX3_storeItem_19 : decode cX3_storeItem 19 = .ok (.if_icmp .lt 11, 3) := by decide +kernel
theorem dX3_storeItem_22 : decode cX3_storeItem 22 = .ok (.aload_n 0, 1) := by decide +kernel
theorem dX3_storeItem_23 : decode cX3_storeItem 23 = .ok (.iconst 3, 1) := by decide +kernel
theorem dX3_storeItem_24 : decode cX3_storeItem 24 = .ok (.putfield 45, 3) := by decide +kernel
theorem dX3_storeItem_27 : decode cX3_storeItem 27 = .ok (.goto 12, 3) := by decide +kernel
theorem dX3_storeItem_30 : decode cX3_storeItem 30 = .ok (.aload_n 0, 1) := by decide +kernel
theorem dX3_storeItem_31 : decode cX3_storeItem 31 = .ok (.iload_n 1, 1) := by decide +kernel
theorem dX3_storeItem_32 : decode cX3_storeItem 32 = .ok (.iload 4, 2) := by decide +kernel
theorem dX3_storeItem_34 : decode cX3_storeItem 34 = .ok (.iadd, 1) := by decide +kernel
theorem dX3_storeItem_35 : decode cX3_storeItem 35 = .ok (.iload_n 3, 1) := by decide +kernel
theorem dX3_storeItem_36 : decode cX3_storeItem 36 = .ok (.invokevirtual 99, 3) := by decide +kernel
theorem dX3_storeItem_39 : decode cX3_storeItem 39 = .ok (.return_, 1) := by decide +kernel
theorem dX3_control_0 : decode cX3_control 0 = .ok (.iload_n 1, 1) := by decide +kernel
theorem dX3_control_1 : decode cX3_control 1 = .ok (.tableswitch 141 30 37 #[47, 58, 85, 96, 107, 115, 122, 130], 47) := by decide +kernel
theorem dX3_control_48 : decode cX3_control 48 = .ok (.aload_n 0, 1) := by decide +kernel
theorem dX3_control_49 : decode cX3_control 49 = .ok (.aload_n 0, 1) := by decide +kernel
theorem dX3_control_50 : decode cX3_control 50 = .ok (.invokevirtual 96, 3) := by decide +kernel
theorem dX3_control_53 : decode cX3_control 53 = .ok (.putfield 32, 3) := by decide +kernel
theorem dX3_control_56 : decode cX3_control 56 = .ok (.goto 86, 3) := by decide +kernel
theorem dX3_control_59 : decode cX3_control 59 = .ok (.aload_n 0, 1) := by decide +kernel
theorem dX3_control_60 : decode cX3_control 60 = .ok (.invokevirtual 96, 3) := by decide +kernel
theorem dX3_control_63 : decode cX3_control 63 = .ok (.istore_n 2, 1) := by decide +kernel
theorem dX3_control_64 : decode cX3_control 64 = .ok (.aload_n 0, 1) := by decide +kernel
theorem dX3_control_65 : decode cX3_control 65 = .ok (.aload_n 0, 1) := by decide +kernel
theorem dX3_control_66 : decode cX3_control 66 = .ok (.invokevirtual 61, 3) := by decide +kernel
theorem dX3_control_69 : decode cX3_control 69 = .ok (.ifCond .ne 7, 3) := by decide +kernel
theorem dX3_control_72 : decode cX3_control 72 = .ok (.iload_n 2, 1) := by decide +kernel
theorem dX3_control_73 : decode cX3_control 73 = .ok (.goto 7, 3) := by decide +kernel
theorem dX3_control_76 : decode cX3_control 76 = .ok (.aload_n 0, 1) := by decide +kernel
theorem dX3_control_77 : decode cX3_control 77 = .ok (.getfield 32, 3) := by decide +kernel
theorem dX3_control_80 : decode cX3_control 80 = .ok (.putfield 32, 3) := by decide +kernel
theorem dX3_control_83 : decode cX3_control 83 = .ok (.goto 59, 3) := by decide +kernel
theorem dX3_control_86 : decode cX3_control 86 = .ok (.aload_n 0, 1) := by decide +kernel
theorem dX3_control_87 : decode cX3_control 87 = .ok (.aload_n 0, 1) := by decide +kernel
theorem dX3_control_88 : decode cX3_control 88 = .ok (.invokevirtual 96, 3) := by decide +kernel
theorem dX3_control_91 : decode cX3_control 91 = .ok (.invokevirtual 115, 3) := by decide +kernel
theorem dX3_control_94 : decode cX3_control 94 = .ok (.goto 48, 3) := by decide +kernel
theorem dX3_control_97 : decode cX3_control 97 = .ok (.aload_n 0, 1) := by decide +kernel
theorem dX3_control_98 : decode cX3_control 98 = .ok (.aload_n 0, 1) := by decide +kernel
theorem dX3_control_99 : decode cX3_control 99 = .ok (.invokevirtual 96, 3) := by decide +kernel
theorem dX3_control_102 : decode cX3_control 102 = .ok (.invokevirtual 118, 3) := by decide +kernel
theorem dX3_control_105 : decode cX3_control 105 = .ok (.goto 37, 3) := by decide +kernel
theorem dX3_control_108 : decode cX3_control 108 = .ok (.aload_n 0, 1) := by decide +kernel
theorem dX3_control_109 : decode cX3_control 109 = .ok (.iconst 0, 1) := by decide +kernel
theorem dX3_control_110 : decode cX3_control 110 = .ok (.invokevirtual 93, 3) := by decide +kernel
theorem dX3_control_113 : decode cX3_control 113 = .ok (.goto 29, 3) := by decide +kernel
theorem dX3_control_116 : decode cX3_control 116 = .ok (.aload_n 0, 1) := by decide +kernel
theorem dX3_control_117 : decode cX3_control 117 = .ok (.invokevirtual 121, 3) := by decide +kernel
theorem dX3_control_120 : decode cX3_control 120 = .ok (.goto 22, 3) := by decide +kernel
theorem dX3_control_123 : decode cX3_control 123 = .ok (.aload_n 0, 1) := by decide +kernel
theorem dX3_control_124 : decode cX3_control 124 = .ok (.invokevirtual 61, 3) := by decide +kernel
theorem dX3_control_127 : decode cX3_control 127 = .ok (.pop, 1) := by decide +kernel
theorem dX3_control_128 : decode cX3_control 128 = .ok (.goto 14, 3) := by decide +kernel
theorem dX3_control_131 : decode cX3_control 131 = .ok (.aload_n 0, 1) := by decide +kernel
theorem dX3_control_132 : decode cX3_control 132 = .ok (.aload_n 0, 1) := by decide +kernel
theorem dX3_control_133 : decode cX3_control 133 = .ok (.invokevirtual 96, 3) := by decide +kernel
theorem dX3_control_136 : decode cX3_control 136 = .ok (.invokevirtual 124, 3) := by decide +kernel
theorem dX3_control_139 : decode cX3_control 139 = .ok (.goto 3, 3) := by decide +kernel
theorem dX3_control_142 : decode cX3_control 142 = .ok (.return_, 1) := by decide +kernel
theorem dX3_call_0 : decode cX3_call 0 = .ok (.aload_n 0, 1) := by decide +kernel
theorem dX3_call_1 : decode cX3_call 1 = .ok (.dup, 1) := by decide +kernel
theorem dX3_call_2 : decode cX3_call 2 = .ok (.getfield 32, 3) := by decide +kernel
theorem dX3_call_5 : decode cX3_call 5 = .ok (.iconst 1, 1) := by decide +kernel
theorem dX3_call_6 : decode cX3_call 6 = .ok (.iadd, 1) := by decide +kernel
theorem dX3_call_7 : decode cX3_call 7 = .ok (.putfield 32, 3) := by decide +kernel
theorem dX3_call_10 : decode cX3_call 10 = .ok (.aload_n 0, 1) := by decide +kernel
theorem dX3_call_11 : decode cX3_call 11 = .ok (.getfield 39, 3) := by decide +kernel
theorem dX3_call_14 : decode cX3_call 14 = .ok (.aload_n 0, 1) := by decide +kernel
theorem dX3_call_15 : decode cX3_call 15 = .ok (.getfield 9, 3) := by decide +kernel
theorem dX3_call_18 : decode cX3_call 18 = .ok (.arraylength, 1) := by decide +kernel
theorem dX3_call_19 : decode cX3_call 19 = .ok (.iconst 2, 1) := by decide +kernel
theorem dX3_call_20 : decode cX3_call 20 = .ok (.isub, 1) := by decide +kernel
theorem dX3_call_21 : decode cX3_call 21 = .ok (.if_icmp .le 9, 3) := by decide +kernel
theorem dX3_call_24 : decode cX3_call 24 = .ok (.aload_n 0, 1) := by decide +kernel
theorem dX3_call_25 : decode cX3_call 25 = .ok (.iconst 4, 1) := by decide +kernel
theorem dX3_call_26 : decode cX3_call 26 = .ok (.putfield 45, 3) := by decide +kernel
theorem dX3_call_29 : decode cX3_call 29 = .ok (.return_, 1) := by decide +kernel
theorem dX3_call_30 : decode cX3_call 30 = .ok (.aload_n 0, 1) := by decide +kernel
theorem dX3_call_31 : decode cX3_call 31 = .ok (.aload_n 0, 1) := by decide +kernel
theorem dX3_call_32 : decode cX3_call 32 = .ok (.getfield 32, 3) := by decide +kernel
theorem dX3_call_35 : decode cX3_call 35 = .ok (.invokevirtual 69, 3) := by decide +kernel
theorem dX3_call_38 : decode cX3_call 38 = .ok (.aload_n 0, 1) := by decide +kernel
theorem dX3_call_39 : decode cX3_call 39 = .ok (.aload_n 0, 1) := by decide +kernel
theorem dX3_call_40 : decode cX3_call 40 = .ok (.getfield 42, 3) := by decide +kernel
theorem dX3_call_43 : decode cX3_call 43 = .ok (.invokevirtual 69, 3) := by decide +kernel
theorem dX3_call_46 : decode cX3_call 46 = .ok (.aload_n 0, 1) := by decide +kernel
theorem dX3_call_47 : decode cX3_call 47 = .ok (.aload_n 0, 1) := by decide +kernel
theorem dX3_call_48 : decode cX3_call 48 = .ok (.getfield 39, 3) := by decide +kernel
theorem dX3_call_51 : decode cX3_call 51 = .ok (.putfield 42, 3) := by decide +kernel
theorem dX3_call_54 : decode cX3_call 54 = .ok (.aload_n 0, 1) := by decide +kernel
theorem dX3_call_55 : decode cX3_call 55 = .ok (.iload_n 1, 1) := by decide +kernel
theorem dX3_call_56 : decode cX3_call 56 = .ok (.putfield 32, 3) := by decide +kernel
theorem dX3_call_59 : decode cX3_call 59 = .ok (.return_, 1) := by decide +kernel
theorem dX3_leave_0 : decode cX3_leave 0 = .ok (.aload_n 0, 1) := by decide +kernel
theorem dX3_leave_1 : decode cX3_leave 1 = .ok (.invokevirtual 61, 3) := by decide +kernel
theorem dX3_leave_4 : decode cX3_leave 4 = .ok (.istore_n 2, 1) := by decide +kernel
theorem dX3_leave_5 : decode cX3_leave 5 = .ok (.aload_n 0, 1) := by decide +kernel
theorem dX3_leave_6 : decode cX3_leave 6 = .ok (.getfield 42, 3) := by decide +kernel
theorem dX3_leave_9 : decode cX3_leave 9 = .ok (.istore_n 3, 1) := by decide +kernel
theorem dX3_leave_10 : decode cX3_leave 10 = .ok (.aload_n 0, 1) := by decide +kernel
theorem dX3_leave_11 : decode cX3_leave 11 = .ok (.iload_n 3, 1) := by decide +kernel
theorem dX3_leave_12 : decode cX3_leave 12 = .ok (.iconst 2, 1) := by decide +kernel
theorem dX3_leave_13 : decode cX3_leave 13 = .ok (.isub, 1) := by decide +kernel
theorem dX3_leave_14 : decode cX3_leave 14 = .ok (.iload_n 1, 1) := by decide +kernel
theorem dX3_leave_15 : decode cX3_leave 15 = .ok (.isub, 1) := by decide +kernel
theorem dX3_leave_16 : decode cX3_leave 16 = .ok (.putfield 39, 3) := by decide +kernel
theorem dX3_leave_19 : decode cX3_leave 19 = .ok (.aload_n 0, 1) := by decide +kernel
theorem dX3_leave_20 : decode cX3_leave 20 = .ok (.aload_n 0, 1) := by decide +kernel
theorem dX3_leave_21 : decode cX3_leave 21 = .ok (.iload_n 3, 1) := by decide +kernel
theorem dX3_leave_22 : decode cX3_leave 22 = .ok (.iconst 2, 1) := by decide +kernel
theorem dX3_leave_23 : decode cX3_leave 23 = .ok (.isub, 1) := by decide +kernel
theorem dX3_leave_24 : decode cX3_leave 24 = .ok (.invokevirtual 82, 3) := by decide +kernel
theorem dX3_leave_27 : decode cX3_leave 27 = .ok (.putfield 32, 3) := by decide +kernel
theorem dX3_leave_30 : decode cX3_leave 30 = .ok (.aload_n 0, 1) := by decide +kernel
theorem dX3_leave_31 : decode cX3_leave 31 = .ok (.aload_n 0, 1) := by decide +kernel
theorem dX3_leave_32 : decode cX3_leave 32 = .ok (.iload_n 3, 1) := by decide +kernel
theorem dX3_leave_33 : decode cX3_leave 33 = .ok (.iconst 1, 1) := by decide +kernel
theorem dX3_leave_34 : decode cX3_leave 34 = .ok (.isub, 1) := by decide +kernel
theorem dX3_leave_35 : decode cX3_leave 35 = .ok (.invokevirtual 82, 3) := by decide +kernel
theorem dX3_leave_38 : decode cX3_leave 38 = .ok (.putfield 42, 3) := by decide +kernel
theorem dX3_leave_41 : decode cX3_leave 41 = .ok (.aload_n 0, 1) := by decide +kernel
theorem dX3_leave_42 : decode cX3_leave 42 = .ok (.iload_n 2, 1) := by decide +kernel
theorem dX3_leave_43 : decode cX3_leave 43 = .ok (.invokevirtual 69, 3) := by decide +kernel
theorem dX3_leave_46 : decode cX3_leave 46 = .ok (.return_, 1) := by decide +kernel
theorem dX3_takeInput_0 : decode cX3_takeInput 0 = .ok (.aload_n 0, 1) := by decide +kernel
theorem dX3_takeInput_1 : decode cX3_takeInput 1 = .ok (.getfield 15, 3) := by decide +kernel
theorem dX3_takeInput_4 : decode cX3_takeInput 4 = .ok (.invokevirtual 127, 3) := by decide +kernel
theorem dX3_takeInput_7 : decode cX3_takeInput 7 = .ok (.ifCond .eq 17, 3) := by decide +kernel
theorem dX3_takeInput_10 : decode cX3_takeInput 10 = .ok (.aload_n 0, 1) := by decide +kernel
theorem dX3_takeInput_11 : decode cX3_takeInput 11 = .ok (.aload_n 0, 1) := by decide +kernel
theorem dX3_takeInput_12 : decode cX3_takeInput 12 = .ok (.getfield 15, 3) := by decide +kernel
theorem dX3_takeInput_15 : decode cX3_takeInput 15 = .ok (.invokevirtual 131, 3) := by decide +kernel
theorem dX3_takeInput_18 : decode cX3_takeInput 18 = .ok (.invokevirtual 69, 3) := by decide +kernel
theorem dX3_takeInput_21 : decode cX3_takeInput 21 = .ok (.goto 8, 3) := by decide +kernel
theorem dX3_takeInput_24 : decode cX3_takeInput 24 = .ok (.aload_n 0, 1) := by decide +kernel
theorem dX3_takeInput_25 : decode cX3_takeInput 25 = .ok (.iconst 5, 1) := by decide +kernel
theorem dX3_takeInput_26 : decode cX3_takeInput 26 = .ok (.putfield 45, 3) := by decide +kernel
theorem dX3_takeInput_29 : decode cX3_takeInput 29 = .ok (.return_, 1) := by decide +kernel
theorem dX3_clear_0 : decode cX3_clear 0 = .ok (.aload_n 0, 1) := by decide +kernel
theorem dX3_clear_1 : decode cX3_clear 1 = .ok (.getfield 39, 3) := by decide +kernel
theorem dX3_clear_4 : decode cX3_clear 4 = .ok (.aload_n 0, 1) := by decide +kernel
theorem dX3_clear_5 : decode cX3_clear 5 = .ok (.getfield 9, 3) := by decide +kernel
theorem dX3_clear_8 : decode cX3_clear 8 = .ok (.arraylength, 1) := by decide +kernel
theorem dX3_clear_9 : decode cX3_clear 9 = .ok (.iload_n 1, 1) := by decide +kernel
theorem dX3_clear_10 : decode cX3_clear 10 = .ok (.isub, 1) := by decide +kernel
theorem dX3_clear_11 : decode cX3_clear 11 = .ok (.if_icmp .le 9, 3) := by decide +kernel
theorem dX3_clear_14 : decode cX3_clear 14 = .ok (.aload_n 0, 1) := by decide +kernel
theorem dX3_clear_15 : decode cX3_clear 15 = .ok (.iconst 4, 1) := by decide +kernel
theorem dX3_clear_16 : decode cX3_clear 16 = .ok (.putfield 45, 3) := by decide +kernel
theorem dX3_clear_19 : decode cX3_clear 19 = .ok (.return_, 1) := by decide +kernel
theorem dX3_clear_20 : decode cX3_clear 20 = .ok (.iconst 0, 1) := by decide +kernel
theorem dX3_clear_21 : decode cX3_clear 21 = .ok (.istore_n 2, 1) := by decide +kernel
theorem dX3_clear_22 : decode cX3_clear 22 = .ok (.iload_n 2, 1) := by decide +kernel
theorem dX3_clear_23 : decode cX3_clear 23 = .ok (.iload_n 1, 1) := by decide +kernel
theorem dX3_clear_24 : decode cX3_clear 24 = .ok (.if_icmp .ge 14, 3) := by decide +kernel
theorem dX3_clear_27 : decode cX3_clear 27 = .ok (.aload_n 0, 1) := by decide +kernel
theorem dX3_clear_28 : decode cX3_clear 28 = .ok (.iconst 0, 1) := by decide +kernel
theorem dX3_clear_29 : decode cX3_clear 29 = .ok (.invokevirtual 69, 3) := by decide +kernel
theorem dX3_clear_32 : decode cX3_clear 32 = .ok (.iinc 2 1, 3) := by decide +kernel
theorem dX3_clear_35 : decode cX3_clear 35 = .ok (.goto (-13), 3) := by decide +kernel
theorem dX3_clear_38 : decode cX3_clear 38 = .ok (.return_, 1) := by decide +kernel
theorem dX4_init_0 : decode cX4_init 0 = .ok (.aload_n 0, 1) := by decide +kernel
theorem dX4_init_1 : decode cX4_init 1 = .ok (.invokespecial 1, 3) := by decide +kernel
theorem dX4_init_4 : decode cX4_init 4 = .ok (.aload_n 0, 1) := by decide +kernel
theorem dX4_init_5 : decode cX4_init 5 = .ok (.iload_n 1, 1) := by decide +kernel
theorem dX4_init_6 : decode cX4_init 6 = .ok (.newarray .long, 2) := by decide +kernel
theorem dX4_init_8 : decode cX4_init 8 = .ok (.putfield 7, 3) := by decide +kernel
theorem dX4_init_11 : decode cX4_init 11 = .ok (.aload_n 0, 1) := by decide +kernel
theorem dX4_init_12 : decode cX4_init 12 = .ok (.iload_n 1, 1) := by decide +kernel
theorem dX4_init_13 : decode cX4_init 13 = .ok (.newarray .int, 2) := by decide +kernel
theorem dX4_init_15 : decode cX4_init 15 = .ok (.putfield 13, 3) := by decide +kernel
theorem dX4_init_18 : decode cX4_init 18 = .ok (.aload_n 0, 1) := by decide +kernel
theorem dX4_init_19 : decode cX4_init 19 = .ok (.iload_n 1, 1) := by decide +kernel
theorem dX4_init_20 : decode cX4_init 20 = .ok (.newarray .int, 2) := by decide +kernel
theorem dX4_init_22 : decode cX4_init 22 = .ok (.putfield 17, 3) := by decide +kernel
theorem dX4_init_25 : decode cX4_init 25 = .ok (.aload_n 0, 1) := by decide +kernel
theorem dX4_init_26 : decode cX4_init 26 = .ok (.iload_n 1, 1) := by decide +kernel
theorem dX4_init_27 : decode cX4_init 27 = .ok (.newarray .int, 2) := by decide +kernel
theorem dX4_init_29 : decode cX4_init 29 = .ok (.putfield 20, 3) := by decide +kernel
theorem dX4_init_32 : decode cX4_init 32 = .ok (.aload_n 0, 1) := by decide +kernel
theorem dX4_init_33 : decode cX4_init 33 = .ok (.iload_n 1, 1) := by decide +kernel
theorem dX4_init_34 : decode cX4_init 34 = .ok (.newarray .int, 2) := by decide +kernel
theorem dX4_init_36 : decode cX4_init 36 = .ok (.putfield 23, 3) := by decide +kernel
theorem dX4_init_39 : decode cX4_init 39 = .ok (.return_, 1) := by decide +kernel
theorem dX4_find_0 : decode cX4_find 0 = .ok (.aload_n 0, 1) := by decide +kernel
theorem dX4_find_1 : decode cX4_find 1 = .ok (.getfield 26, 3) := by decide +kernel
theorem dX4_find_4 : decode cX4_find 4 = .ok (.iconst 1, 1) := by decide +kernel
theorem dX4_find_5 : decode cX4_find 5 = .ok (.isub, 1) := by decide +kernel
theorem dX4_find_6 : decode cX4_find 6 = .ok (.istore 4, 2) := by decide +kernel
theorem dX4_find_8 : decode cX4_find 8 = .ok (.iload 4, 2) := by decide +kernel
theorem dX4_find_10 : decode cX4_find 10 = .ok (.iload_n 3, 1) := by decide +kernel
theorem dX4_find_11 : decode cX4_find 11 = .ok (.if_icmp .lt 29, 3) := by decide +kernel
theorem dX4_find_14 : decode cX4_find 14 = .ok (.iload 4, 2) := by decide +kernel
theorem dX4_find_16 : decode cX4_find 16 = .ok (.ifCond .lt 24, 3) := by decide +kernel
theorem dX4_find_19 : decode cX4_find 19 = .ok (.aload_n 0, 1) := by decide +kernel
theorem dX4_find_20 : decode cX4_find 20 = .ok (.getfield 7, 3) := by decide +kernel
theorem dX4_find_23 : decode cX4_find 23 = .ok (.iload 4, 2) := by decide +kernel
theorem dX4_find_25 : decode cX4_find 25 = .ok (.laload, 1) := by decide +kernel
theorem dX4_find_26 : decode cX4_find 26 = .ok (.lload_n 1, 1) := by decide +kernel
theorem dX4_find_27 : decode cX4_find 27 = .ok (.lcmp, 1) := by decide +kernel
theorem dX4_find_28 : decode cX4_find 28 = .ok (.ifCond .ne 6, 3) := by decide +kernel
theorem dX4_find_31 : decode cX4_find 31 = .ok (.iload 4, 2) := by decide +kernel
theorem dX4_find_33 : decode cX4_find 33 = .ok (.ireturn, 1) := by decide +kernel
theorem dX4_find_34 : decode cX4_find 34 = .ok (.iinc 4 (-1), 3) := by decide +kernel
theorem dX4_find_37 : decode cX4_find 37 = .ok (.goto (-29), 3) := by decide +kernel
theorem dX4_find_40 : decode cX4_find 40 = .ok (.iconst (-1), 1) := by decide +kernel
theorem dX4_find_41 : decode cX4_find 41 = .ok (.ireturn, 1) := by decide +kernel
theorem dX4_add_0 : decode cX4_add 0 = .ok (.aload_n 0, 1) := by decide +kernel
theorem dX4_add_1 : decode cX4_add 1 = .ok (.getfield 26, 3) := by decide +kernel
theorem dX4_add_4 : decode cX4_add 4 = .ok (.aload_n 0, 1) := by decide +kernel
theorem dX4_add_5 : decode cX4_add 5 = .ok (.getfield 7, 3) := by decide +kernel
theorem dX4_add_8 : decode cX4_add 8 = .ok (.arraylength, 1) := by decide +kernel
theorem dX4_add_9 : decode cX4_add 9 = .ok (.if_icmp .ge 65, 3) := by decide +kernel
theorem dX4_add_12 : decode cX4_add 12 = .ok (.aload_n 0, 1) := by decide +kernel
theorem dX4_add_13 : decode cX4_add 13 = .ok (.getfield 7, 3) := by decide +kernel
theorem dX4_add_16 : decode cX4_add 16 = .ok (.aload_n 0, 1) := by decide +kernel
theorem dX4_add_17 : decode cX4_add 17 = .ok (.getfield 26, 3) := by decide +kernel
theorem dX4_add_20 : decode cX4_add 20 = .ok (.lload_n 1, 1) := by decide +kernel
theorem dX4_add_21 : decode cX4_add 21 = .ok (.lastore, 1) := by decide +kernel
theorem dX4_add_22 : decode cX4_add 22 = .ok (.aload_n 0, 1) := by decide +kernel
theorem dX4_add_23 : decode cX4_add 23 = .ok (.getfield 13, 3) := by decide +kernel
theorem dX4_add_26 : decode cX4_add 26 = .ok (.aload_n 0, 1) := by decide +kernel
theorem dX4_add_27 : decode cX4_add 27 = .ok (.getfield 26, 3) := by decide +kernel
theorem dX4_add_30 : decode cX4_add 30 = .ok (.iload_n 3, 1) := by decide +kernel
theorem dX4_add_31 : decode cX4_add 31 = .ok (.iastore, 1) := by decide +kernel
theorem dX4_add_32 : decode cX4_add 32 = .ok (.aload_n 0, 1) := by decide +kernel
theorem dX4_add_33 : decode cX4_add 33 = .ok (.getfield 17, 3) := by decide +kernel
theorem dX4_add_36 : decode cX4_add 36 = .ok (.aload_n 0, 1) := by decide +kernel
theorem dX4_add_37 : decode cX4_add 37 = .ok (.getfield 26, 3) := by decide +kernel
theorem dX4_add_40 : decode cX4_add 40 = .ok (.iload 4, 2) := by decide +kernel
theorem dX4_add_42 : decode cX4_add 42 = .ok (.iastore, 1) := by decide +kernel
theorem dX4_add_43 : decode cX4_add 43 = .ok (.aload_n 0, 1) := by decide +kernel
theorem dX4_add_44 : decode cX4_add 44 = .ok (.getfield 20, 3) := by decide +kernel
theorem dX4_add_47 : decode cX4_add 47 = .ok (.aload_n 0, 1) := by decide +kernel
theorem dX4_add_48 : decode cX4_add 48 = .ok (.getfield 26, 3) := by decide +kernel
theorem dX4_add_51 : decode cX4_add 51 = .ok (.iload 5, 2) := by decide +kernel
theorem dX4_add_53 : decode cX4_add 53 = .ok (.iastore, 1) := by decide +kernel
theorem dX4_add_54 : decode cX4_add 54 = .ok (.aload_n 0, 1) := by decide +kernel
theorem dX4_add_55 : decode cX4_add 55 = .ok (.getfield 23, 3) := by decide +kernel
theorem dX4_add_58 : decode cX4_add 58 = .ok (.aload_n 0, 1) := by decide +kernel
theorem dX4_add_59 : decode cX4_add 59 = .ok (.getfield 26, 3) := by decide +kernel
theorem dX4_add_62 : decode cX4_add 62 = .ok (.iconst (-1), 1) := by decide +kernel
theorem dX4_add_63 : decode cX4_add 63 = .ok (.iastore, 1) := by decide +kernel
theorem dX4_add_64 : decode cX4_add 64 = .ok (.aload_n 0, 1) := by decide +kernel
theorem dX4_add_65 : decode cX4_add 65 = .ok (.dup, 1) := by decide +kernel
theorem dX4_add_66 : decode cX4_add 66 = .ok (.getfield 26, 3) := by decide +kernel
theorem dX4_add_69 : decode cX4_add 69 = .ok (.iconst 1, 1) := by decide +kernel
theorem dX4_add_70 : decode cX4_add 70 = .ok (.iadd, 1) := by decide +kernel
theorem dX4_add_71 : decode cX4_add 71 = .ok (.putfield 26, 3) := by decide +kernel
theorem dX4_add_74 : decode cX4_add 74 = .ok (.return_, 1) := by decide +kernel
theorem dX4_cutTo_0 : decode cX4_cutTo 0 = .ok (.aload_n 0, 1) := by decide +kernel
theorem dX4_cutTo_1 : decode cX4_cutTo 1 = .ok (.iconst 0, 1) := by decide +kernel
theorem dX4_cutTo_2 : decode cX4_cutTo 2 = .ok (.aload_n 0, 1) := by decide +kernel
theorem dX4_cutTo_3 : decode cX4_cutTo 3 = .ok (.getfield 26, 3) := by decide +kernel
theorem dX4_cutTo_6 : decode cX4_cutTo 6 = .ok (.iload_n 1, 1) := by decide +kernel
theorem dX4_cutTo_7 : decode cX4_cutTo 7 = .ok (.invokestatic 30, 3) := by decide +kernel
theorem dX4_cutTo_10 : decode cX4_cutTo 10 = .ok (.invokestatic 36, 3) := by decide +kernel
theorem dX4_cutTo_13 : decode cX4_cutTo 13 = .ok (.putfield 26, 3) := by decide +kernel
theorem dX4_cutTo_16 : decode cX4_cutTo 16 = .ok (.return_, 1) := by decide +kernel
theorem dX4_isSort_0 : decode cX4_isSort 0 = .ok (.iload_n 1, 1) := by decide +kernel
theorem dX4_isSort_1 : decode cX4_isSort 1 = .ok (.ifCond .lt 25, 3) := by decide +kernel
theorem dX4_isSort_4 : decode cX4_isSort 4 = .ok (.iload_n 1, 1) := by decide +kernel
theorem dX4_isSort_5 : decode cX4_isSort 5 = .ok (.aload_n 0, 1) := by decide +kernel
theorem dX4_isSort_6 : decode cX4_isSort 6 = .ok (.getfield 26, 3) := by decide +kernel
theorem dX4_isSort_9 : decode cX4_isSort 9 = .ok (.if_icmp .ge 17, 3) := by decide +kernel
theorem dX4_isSort_12 : decode cX4_isSort 12 = .ok (.aload_n 0, 1) := by decide +kernel
theorem dX4_isSort_13 : decode cX4_isSort 13 = .ok (.getfield 13, 3) := by decide +kernel
theorem dX4_isSort_16 : decode cX4_isSort 16 = .ok (.iload_n 1, 1) := by decide +kernel
theorem dX4_isSort_17 : decode cX4_isSort 17 = .ok (.iaload, 1) := by decide +kernel
theorem dX4_isSort_18 : decode cX4_isSort 18 = .ok (.iload_n 2, 1) := by decide +kernel
theorem dX4_isSort_19 : decode cX4_isSort 19 = .ok (.if_icmp .ne 7, 3) := by decide +kernel
theorem dX4_isSort_22 : decode cX4_isSort 22 = .ok (.iconst 1, 1) := by decide +kernel
theorem dX4_isSort_23 : decode cX4_isSort 23 = .ok (.goto 4, 3) := by decide +kernel
theorem dX4_isSort_26 : decode cX4_isSort 26 = .ok (.iconst 0, 1) := by decide +kernel
theorem dX4_isSort_27 : decode cX4_isSort 27 = .ok (.ireturn, 1) := by decide +kernel
theorem dX4_isValue_0 : decode cX4_isValue 0 = .ok (.iload_n 1, 1) := by decide +kernel
theorem dX4_isValue_1 : decode cX4_isValue 1 = .ok (.ifCond .lt 34, 3) := by decide +kernel
theorem dX4_isValue_4 : decode cX4_isValue 4 = .ok (.iload_n 1, 1) := by decide +kernel
theorem dX4_isValue_5 : decode cX4_isValue 5 = .ok (.aload_n 0, 1) := by decide +kernel
theorem dX4_isValue_6 : decode cX4_isValue 6 = .ok (.getfield 26, 3) := by decide +kernel
theorem dX4_isValue_9 : decode cX4_isValue 9 = .ok (.if_icmp .ge 26, 3) := by decide +kernel
theorem dX4_isValue_12 : decode cX4_isValue 12 = .ok (.aload_n 0, 1) := by decide +kernel
theorem dX4_isValue_13 : decode cX4_isValue 13 = .ok (.getfield 13, 3) := by decide +kernel
theorem dX4_isValue_16 : decode cX4_isValue 16 = .ok (.iload_n 1, 1) := by decide +kernel
theorem dX4_isValue_17 : decode cX4_isValue 17 = .ok (.iaload, 1) := by decide +kernel
theorem dX4_isValue_18 : decode cX4_isValue 18 = .ok (.ifCond .eq 13, 3) := by decide +kernel
theorem dX4_isValue_21 : decode cX4_isValue 21 = .ok (.aload_n 0, 1) := by decide +kernel
theorem dX4_isValue_22 : decode cX4_isValue 22 = .ok (.getfield 13, 3) := by decide +kernel
theorem dX4_isValue_25 : decode cX4_isValue 25 = .ok (.iload_n 1, 1) := by decide +kernel
theorem dX4_isValue_26 : decode cX4_isValue 26 = .ok (.iaload, 1) := by decide +kernel
theorem dX4_isValue_27 : decode cX4_isValue 27 = .ok (.iconst 3, 1) := by decide +kernel
theorem dX4_isValue_28 : decode cX4_isValue 28 = .ok (.if_icmp .ne 7, 3) := by decide +kernel
theorem dX4_isValue_31 : decode cX4_isValue 31 = .ok (.iconst 1, 1) := by decide +kernel
theorem dX4_isValue_32 : decode cX4_isValue 32 = .ok (.goto 4, 3) := by decide +kernel
theorem dX4_isValue_35 : decode cX4_isValue 35 = .ok (.iconst 0, 1) := by decide +kernel
theorem dX4_isValue_36 : decode cX4_isValue 36 = .ok (.ireturn, 1) := by decide +kernel
theorem dX4_placeOf_0 : decode cX4_placeOf 0 = .ok (.iload_n 1, 1) := by decide +kernel
theorem dX4_placeOf_1 : decode cX4_placeOf 1 = .ok (.ifCond .lt 20, 3) := by decide +kernel
theorem dX4_placeOf_4 : decode cX4_placeOf 4 = .ok (.iload_n 1, 1) := by decide +kernel
theorem dX4_placeOf_5 : decode cX4_placeOf 5 = .ok (.aload_n 0, 1) := by decide +kernel
theorem dX4_placeOf_6 : decode cX4_placeOf 6 = .ok (.getfield 26, 3) := by decide +kernel
theorem dX4_placeOf_9 : decode cX4_placeOf 9 = .ok (.if_icmp .ge 12, 3) := by decide +kernel
theorem dX4_placeOf_12 : decode cX4_placeOf 12 = .ok (.aload_n 0, 1) := by decide +kernel
theorem dX4_placeOf_13 : decode cX4_placeOf 13 = .ok (.getfield 17, 3) := by decide +kernel
theorem dX4_placeOf_16 : decode cX4_placeOf 16 = .ok (.iload_n 1, 1) := by decide +kernel
theorem dX4_placeOf_17 : decode cX4_placeOf 17 = .ok (.iaload, 1) := by decide +kernel
theorem dX4_placeOf_18 : decode cX4_placeOf 18 = .ok (.goto 4, 3) := by decide +kernel
theorem dX4_placeOf_21 : decode cX4_placeOf 21 = .ok (.iconst 0, 1) := by decide +kernel
theorem dX4_placeOf_22 : decode cX4_placeOf 22 = .ok (.ireturn, 1) := by decide +kernel
theorem dX4_countOf_0 : decode cX4_countOf 0 = .ok (.iload_n 1, 1) := by decide +kernel
theorem dX4_countOf_1 : decode cX4_countOf 1 = .ok (.ifCond .lt 20, 3) := by decide +kernel
theorem dX4_countOf_4 : decode cX4_countOf 4 = .ok (.iload_n 1, 1) := by decide +kernel
theorem dX4_countOf_5 : decode cX4_countOf 5 = .ok (.aload_n 0, 1) := by decide +kernel
theorem dX4_countOf_6 : decode cX4_countOf 6 = .ok (.getfield 26, 3) := by decide +kernel
theorem dX4_countOf_9 : decode cX4_countOf 9 = .ok (.if_icmp .ge 12, 3) := by decide +kernel
theorem dX4_countOf_12 : decode cX4_countOf 12 = .ok (.aload_n 0, 1) := by decide +kernel
theorem dX4_countOf_13 : decode cX4_countOf 13 = .ok (.getfield 20, 3) := by decide +kernel
theorem dX4_countOf_16 : decode cX4_countOf 16 = .ok (.iload_n 1, 1) := by decide +kernel
theorem dX4_countOf_17 : decode cX4_countOf 17 = .ok (.iaload, 1) := by decide +kernel
theorem dX4_countOf_18 : decode cX4_countOf 18 = .ok (.goto 4, 3) := by decide +kernel
theorem dX4_countOf_21 : decode cX4_countOf 21 = .ok (.iconst 0, 1) := by decide +kernel
theorem dX4_countOf_22 : decode cX4_countOf 22 = .ok (.ireturn, 1) := by decide +kernel
theorem dX4_nodeOf_0 : decode cX4_nodeOf 0 = .ok (.iload_n 1, 1) := by decide +kernel
theorem dX4_nodeOf_1 : decode cX4_nodeOf 1 = .ok (.ifCond .lt 20, 3) := by decide +kernel
theorem dX4_nodeOf_4 : decode cX4_nodeOf 4 = .ok (.iload_n 1, 1) := by decide +kernel
theorem dX4_nodeOf_5 : decode cX4_nodeOf 5 = .ok (.aload_n 0, 1) := by decide +kernel
theorem dX4_nodeOf_6 : decode cX4_nodeOf 6 = .ok (.getfield 26, 3) := by decide +kernel
theorem dX4_nodeOf_9 : decode cX4_nodeOf 9 = .ok (.if_icmp .ge 12, 3) := by decide +kernel
theorem dX4_nodeOf_12 : decode cX4_nodeOf 12 = .ok (.aload_n 0, 1) := by decide +kernel
theorem dX4_nodeOf_13 : decode cX4_nodeOf 13 = .ok (.getfield 23, 3) := by decide +kernel
theorem dX4_nodeOf_16 : decode cX4_nodeOf 16 = .ok (.iload_n 1, 1) := by decide +kernel
theorem dX4_nodeOf_17 : decode cX4_nodeOf 17 = .ok (.iaload, 1) := by decide +kernel
theorem dX4_nodeOf_18 : decode cX4_nodeOf 18 = .ok (.goto 4, 3) := by decide +kernel
theorem dX4_nodeOf_21 : decode cX4_nodeOf 21 = .ok (.iconst (-1), 1) := by decide +kernel
theorem dX4_nodeOf_22 : decode cX4_nodeOf 22 = .ok (.ireturn, 1) := by decide +kernel
theorem dX4_setNode_0 : decode cX4_setNode 0 = .ok (.iload_n 1, 1) := by decide +kernel
theorem dX4_setNode_1 : decode cX4_setNode 1 = .ok (.ifCond .lt 18, 3) := by decide +kernel
theorem dX4_setNode_4 : decode cX4_setNode 4 = .ok (.iload_n 1, 1) := by decide +kernel
theorem dX4_setNode_5 : decode cX4_setNode 5 = .ok (.aload_n 0, 1) := by decide +kernel
theorem dX4_setNode_6 : decode cX4_setNode 6 = .ok (.getfield 26, 3) := by decide +kernel
theorem dX4_setNode_9 : decode cX4_setNode 9 = .ok (.if_icmp .ge 10, 3) := by decide +kernel
theorem dX4_setNode_12 : decode cX4_setNode 12 = .ok (.aload_n 0, 1) := by decide +kernel
theorem dX4_setNode_13 : decode cX4_setNode 13 = .ok (.getfield 23, 3) := by decide +kernel
theorem dX4_setNode_16 : decode cX4_setNode 16 = .ok (.iload_n 1, 1) := by decide +kernel
theorem dX4_setNode_17 : decode cX4_setNode 17 = .ok (.iload_n 2, 1) := by decide +kernel
theorem dX4_setNode_18 : decode cX4_setNode 18 = .ok (.iastore, 1) := by decide +kernel
theorem dX4_setNode_19 : decode cX4_setNode 19 = .ok (.return_, 1) := by decide +kernel
theorem dX4_setCount_0 : decode cX4_setCount 0 = .ok (.iload_n 1, 1) := by decide +kernel
theorem dX4_setCount_1 : decode cX4_setCount 1 = .ok (.ifCond .lt 18, 3) := by decide +kernel
theorem dX4_setCount_4 : decode cX4_setCount 4 = .ok (.iload_n 1, 1) := by decide +kernel
theorem dX4_setCount_5 : decode cX4_setCount 5 = .ok (.aload_n 0, 1) := by decide +kernel
theorem dX4_setCount_6 : decode cX4_setCount 6 = .ok (.getfield 26, 3) := by decide +kernel
theorem dX4_setCount_9 : decode cX4_setCount 9 = .ok (.if_icmp .ge 10, 3) := by decide +kernel
theorem dX4_setCount_12 : decode cX4_setCount 12 = .ok (.aload_n 0, 1) := by decide +kernel
theorem dX4_setCount_13 : decode cX4_setCount 13 = .ok (.getfield 20, 3) := by decide +kernel
theorem dX4_setCount_16 : decode cX4_setCount 16 = .ok (.iload_n 1, 1) := by decide +kernel
theorem dX4_setCount_17 : decode cX4_setCount 17 = .ok (.iload_n 2, 1) := by decide +kernel
theorem dX4_setCount_18 : decode cX4_setCount 18 = .ok (.iastore, 1) := by decide +kernel
theorem dX4_setCount_19 : decode cX4_setCount 19 = .ok (.return_, 1) := by decide +kernel
theorem dX4_setPlace_0 : decode cX4_setPlace 0 = .ok (.iload_n 1, 1) := by decide +kernel
theorem dX4_setPlace_1 : decode cX4_setPlace 1 = .ok (.ifCond .lt 18, 3) := by decide +kernel
theorem dX4_setPlace_4 : decode cX4_setPlace 4 = .ok (.iload_n 1, 1) := by decide +kernel
theorem dX4_setPlace_5 : decode cX4_setPlace 5 = .ok (.aload_n 0, 1) := by decide +kernel
theorem dX4_setPlace_6 : decode cX4_setPlace 6 = .ok (.getfield 26, 3) := by decide +kernel
theorem dX4_setPlace_9 : decode cX4_setPlace 9 = .ok (.if_icmp .ge 10, 3) := by decide +kernel
theorem dX4_setPlace_12 : decode cX4_setPlace 12 = .ok (.aload_n 0, 1) := by decide +kernel
theorem dX4_setPlace_13 : decode cX4_setPlace 13 = .ok (.getfield 17, 3) := by decide +kernel
theorem dX4_setPlace_16 : decode cX4_setPlace 16 = .ok (.iload_n 1, 1) := by decide +kernel
theorem dX4_setPlace_17 : decode cX4_setPlace 17 = .ok (.iload_n 2, 1) := by decide +kernel
theorem dX4_setPlace_18 : decode cX4_setPlace 18 = .ok (.iastore, 1) := by decide +kernel
theorem dX4_setPlace_19 : decode cX4_setPlace 19 = .ok (.return_, 1) := by decide +kernel
theorem dX5_init_0 : decode cX5_init 0 = .ok (.aload_n 0, 1) := by decide +kernel
theorem dX5_init_1 : decode cX5_init 1 = .ok (.invokespecial 1, 3) := by decide +kernel
theorem dX5_init_4 : decode cX5_init 4 = .ok (.aload_n 0, 1) := by decide +kernel
theorem dX5_init_5 : decode cX5_init 5 = .ok (.new 7, 3) := by decide +kernel
theorem dX5_init_8 : decode cX5_init 8 = .ok (.dup, 1) := by decide +kernel
theorem dX5_init_9 : decode cX5_init 9 = .ok (.iload_n 1, 1) := by decide +kernel
theorem dX5_init_10 : decode cX5_init 10 = .ok (.invokespecial 9, 3) := by decide +kernel
theorem dX5_init_13 : decode cX5_init 13 = .ok (.putfield 12, 3) := by decide +kernel
theorem dX5_init_16 : decode cX5_init 16 = .ok (.aload_n 0, 1) := by decide +kernel
theorem dX5_init_17 : decode cX5_init 17 = .ok (.new 18, 3) := by decide +kernel
theorem dX5_init_20 : decode cX5_init 20 = .ok (.dup, 1) := by decide +kernel
theorem dX5_init_21 : decode cX5_init 21 = .ok (.iload_n 2, 1) := by decide +kernel
theorem dX5_init_22 : decode cX5_init 22 = .ok (.invokespecial 20, 3) := by decide +kernel
theorem dX5_init_25 : decode cX5_init 25 = .ok (.putfield 21, 3) := by decide +kernel
theorem dX5_init_28 : decode cX5_init 28 = .ok (.aload_n 0, 1) := by decide +kernel
theorem dX5_init_29 : decode cX5_init 29 = .ok (.iconst (-1), 1) := by decide +kernel
theorem dX5_init_30 : decode cX5_init 30 = .ok (.putfield 25, 3) := by decide +kernel
theorem dX5_init_33 : decode cX5_init 33 = .ok (.return_, 1) := by decide +kernel
theorem dX5_clear_0 : decode cX5_clear 0 = .ok (.aload_n 0, 1) := by decide +kernel
theorem dX5_clear_1 : decode cX5_clear 1 = .ok (.getfield 12, 3) := by decide +kernel
theorem dX5_clear_4 : decode cX5_clear 4 = .ok (.iconst 0, 1) := by decide +kernel
theorem dX5_clear_5 : decode cX5_clear 5 = .ok (.putfield 29, 3) := by decide +kernel
theorem dX5_clear_8 : decode cX5_clear 8 = .ok (.aload_n 0, 1) := by decide +kernel
theorem dX5_clear_9 : decode cX5_clear 9 = .ok (.getfield 21, 3) := by decide +kernel
theorem dX5_clear_12 : decode cX5_clear 12 = .ok (.iconst 0, 1) := by decide +kernel
theorem dX5_clear_13 : decode cX5_clear 13 = .ok (.putfield 32, 3) := by decide +kernel
theorem dX5_clear_16 : decode cX5_clear 16 = .ok (.aload_n 0, 1) := by decide +kernel
theorem dX5_clear_17 : decode cX5_clear 17 = .ok (.iconst 0, 1) := by decide +kernel
theorem dX5_clear_18 : decode cX5_clear 18 = .ok (.putfield 33, 3) := by decide +kernel
theorem dX5_clear_21 : decode cX5_clear 21 = .ok (.aload_n 0, 1) := by decide +kernel
theorem dX5_clear_22 : decode cX5_clear 22 = .ok (.iconst (-1), 1) := by decide +kernel
theorem dX5_clear_23 : decode cX5_clear 23 = .ok (.putfield 25, 3) := by decide +kernel
theorem dX5_clear_26 : decode cX5_clear 26 = .ok (.aload_n 0, 1) := by decide +kernel
theorem dX5_clear_27 : decode cX5_clear 27 = .ok (.iconst 0, 1) := by decide +kernel
theorem dX5_clear_28 : decode cX5_clear 28 = .ok (.putfield 36, 3) := by decide +kernel
theorem dX5_clear_31 : decode cX5_clear 31 = .ok (.return_, 1) := by decide +kernel
theorem dX6_init_0 : decode cX6_init 0 = .ok (.aload_n 0, 1) := by decide +kernel
theorem dX6_init_1 : decode cX6_init 1 = .ok (.invokespecial 3, 3) := by decide +kernel
theorem dX6_init_4 : decode cX6_init 4 = .ok (.aload_n 0, 1) := by decide +kernel
theorem dX6_init_5 : decode cX6_init 5 = .ok (.aload_n 1, 1) := by decide +kernel
theorem dX6_init_6 : decode cX6_init 6 = .ok (.putfield 9, 3) := by decide +kernel
theorem dX6_init_9 : decode cX6_init 9 = .ok (.aload_n 0, 1) := by decide +kernel
theorem dX6_init_10 : decode cX6_init 10 = .ok (.aload_n 1, 1) := by decide +kernel
theorem dX6_init_11 : decode cX6_init 11 = .ok (.getfield 15, 3) := by decide +kernel
theorem dX6_init_14 : decode cX6_init 14 = .ok (.putfield 21, 3) := by decide +kernel
theorem dX6_init_17 : decode cX6_init 17 = .ok (.aload_n 0, 1) := by decide +kernel
theorem dX6_init_18 : decode cX6_init 18 = .ok (.aload_n 1, 1) := by decide +kernel
theorem dX6_init_19 : decode cX6_init 19 = .ok (.getfield 22, 3) := by decide +kernel
theorem dX6_init_22 : decode cX6_init 22 = .ok (.putfield 26, 3) := by decide +kernel
theorem dX6_init_25 : decode cX6_init 25 = .ok (.aload_n 0, 1) := by decide +kernel
theorem dX6_init_26 : decode cX6_init 26 = .ok (.new 27, 3) := by decide +kernel
theorem dX6_init_29 : decode cX6_init 29 = .ok (.dup, 1) := by decide +kernel
theorem dX6_init_30 : decode cX6_init 30 = .ok (.aload_n 1, 1) := by decide +kernel
theorem dX6_init_31 : decode cX6_init 31 = .ok (.invokespecial 29, 3) := by decide +kernel
theorem dX6_init_34 : decode cX6_init 34 = .ok (.putfield 32, 3) := by decide +kernel
theorem dX6_init_37 : decode cX6_init 37 = .ok (.return_, 1) := by decide +kernel
theorem dX6_readAll_0 : decode cX6_readAll 0 = .ok (.aload_n 0, 1) := by decide +kernel
theorem dX6_readAll_1 : decode cX6_readAll 1 = .ok (.aload_n 1, 1) := by decide +kernel
theorem dX6_readAll_2 : decode cX6_readAll 2 = .ok (.putfield 36, 3) := by decide +kernel
theorem dX6_readAll_5 : decode cX6_readAll 5 = .ok (.aload_n 0, 1) := by decide +kernel
theorem dX6_readAll_6 : decode cX6_readAll 6 = .ok (.aload_n 1, 1) := by decide +kernel
theorem dX6_readAll_7 : decode cX6_readAll 7 = .ok (.getfield 40, 3) := by decide +kernel
theorem dX6_readAll_10 : decode cX6_readAll 10 = .ok (.putfield 46, 3) := by decide +kernel
theorem dX6_readAll_13 : decode cX6_readAll 13 = .ok (.aload_n 0, 1) := by decide +kernel
theorem dX6_readAll_14 : decode cX6_readAll 14 = .ok (.aload_n 1, 1) := by decide +kernel
theorem dX6_readAll_15 : decode cX6_readAll 15 = .ok (.getfield 47, 3) := by decide +kernel
theorem dX6_readAll_18 : decode cX6_readAll 18 = .ok (.putfield 51, 3) := by decide +kernel
theorem dX6_readAll_21 : decode cX6_readAll 21 = .ok (.aload_n 1, 1) := by decide +kernel
theorem dX6_readAll_22 : decode cX6_readAll 22 = .ok (.invokevirtual 52, 3) := by decide +kernel
theorem dX6_readAll_25 : decode cX6_readAll 25 = .ok (.aload_n 0, 1) := by decide +kernel
theorem dX6_readAll_26 : decode cX6_readAll 26 = .ok (.getfield 9, 3) := by decide +kernel
theorem dX6_readAll_29 : decode cX6_readAll 29 = .ok (.invokevirtual 55, 3) := by decide +kernel
theorem dX6_readAll_32 : decode cX6_readAll 32 = .ok (.aload_n 0, 1) := by decide +kernel
theorem dX6_readAll_33 : decode cX6_readAll 33 = .ok (.getfield 32, 3) := by decide +kernel
theorem dX6_readAll_36 : decode cX6_readAll 36 = .ok (.aload_n 1, 1) := by decide +kernel
theorem dX6_readAll_37 : decode cX6_readAll 37 = .ok (.invokevirtual 58, 3) := by decide +kernel
theorem dX6_readAll_40 : decode cX6_readAll 40 = .ok (.aload_n 0, 1) := by decide +kernel
theorem dX6_readAll_41 : decode cX6_readAll 41 = .ok (.getfield 21, 3) := by decide +kernel
theorem dX6_readAll_44 : decode cX6_readAll 44 = .ok (.invokevirtual 61, 3) := by decide +kernel
theorem dX6_readAll_47 : decode cX6_readAll 47 = .ok (.aload_n 0, 1) := by decide +kernel
theorem dX6_readAll_48 : decode cX6_readAll 48 = .ok (.getfield 51, 3) := by decide +kernel
theorem dX6_readAll_51 : decode cX6_readAll 51 = .ok (.bipush 32, 2) := by decide +kernel
theorem dX6_readAll_53 : decode cX6_readAll 53 = .ok (.iconst 0, 1) := by decide +kernel
theorem dX6_readAll_54 : decode cX6_readAll 54 = .ok (.iconst 0, 1) := by decide +kernel
theorem dX6_readAll_55 : decode cX6_readAll 55 = .ok (.invokevirtual 64, 3) := by decide +kernel
theorem dX6_readAll_58 : decode cX6_readAll 58 = .ok (.aload_n 0, 1) := by decide +kernel
theorem dX6_readAll_59 : decode cX6_readAll 59 = .ok (.getfield 51, 3) := by decide +kernel
theorem dX6_readAll_62 : decode cX6_readAll 62 = .ok (.iconst 0, 1) := by decide +kernel
theorem dX6_readAll_63 : decode cX6_readAll 63 = .ok (.invokevirtual 70, 3) := by decide +kernel
