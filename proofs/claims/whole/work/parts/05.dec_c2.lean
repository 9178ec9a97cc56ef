theorem dX9_nextOf_16 : decode cX9_nextOf 16 = .ok (.iload_n 1, 1) := by decide +kernel
theorem dX9_nextOf_17 : decode cX9_nextOf 17 = .ok (.iaload, 1) := by decide +kernel
theorem dX9_nextOf_18 : decode cX9_nextOf 18 = .ok (.goto 4, 3) := by decide +kernel
theorem dX9_nextOf_21 : decode cX9_nextOf 21 = .ok (.iconst (-1), 1) := by decide +kernel
theorem dX9_nextOf_22 : decode cX9_nextOf 22 = .ok (.ireturn, 1) := by decide +kernel
theorem dX9_setA_0 : decode cX9_setA 0 = .ok (.iload_n 1, 1) := by decide +kernel
theorem dX9_setA_1 : decode cX9_setA 1 = .ok (.ifCond .lt 18, 3) := by decide +kernel
theorem dX9_setA_4 : decode cX9_setA 4 = .ok (.iload_n 1, 1) := by decide +kernel
theorem dX9_setA_5 : decode cX9_setA 5 = .ok (.aload_n 0, 1) := by decide +kernel
theorem dX9_setA_6 : decode cX9_setA 6 = .ok (.getfield 28, 3) := by decide +kernel
theorem dX9_setA_9 : decode cX9_setA 9 = .ok (.if_icmp .ge 10, 3) := by decide +kernel
theorem dX9_setA_12 : decode cX9_setA 12 = .ok (.aload_n 0, 1) := by decide +kernel
theorem dX9_setA_13 : decode cX9_setA 13 = .ok (.getfield 13, 3) := by decide +kernel
theorem dX9_setA_16 : decode cX9_setA 16 = .ok (.iload_n 1, 1) := by decide +kernel
theorem dX9_setA_17 : decode cX9_setA 17 = .ok (.iload_n 2, 1) := by decide +kernel
theorem dX9_setA_18 : decode cX9_setA 18 = .ok (.iastore, 1) := by decide +kernel
theorem dX9_setA_19 : decode cX9_setA 19 = .ok (.return_, 1) := by decide +kernel
theorem dX9_setParts_0 : decode cX9_setParts 0 = .ok (.iload_n 1, 1) := by decide +kernel
theorem dX9_setParts_1 : decode cX9_setParts 1 = .ok (.ifCond .lt 33, 3) := by decide +kernel
theorem dX9_setParts_4 : decode cX9_setParts 4 = .ok (.iload_n 1, 1) := by decide +kernel
theorem dX9_setParts_5 : decode cX9_setParts 5 = .ok (.aload_n 0, 1) := by decide +kernel
theorem dX9_setParts_6 : decode cX9_setParts 6 = .ok (.getfield 28, 3) := by decide +kernel
theorem dX9_setParts_9 : decode cX9_setParts 9 = .ok (.if_icmp .ge 25, 3) := by decide +kernel
theorem dX9_setParts_12 : decode cX9_setParts 12 = .ok (.aload_n 0, 1) := by decide +kernel
theorem dX9_setParts_13 : decode cX9_setParts 13 = .ok (.getfield 16, 3) := by decide +kernel
theorem dX9_setParts_16 : decode cX9_setParts 16 = .ok (.iload_n 1, 1) := by decide +kernel
theorem dX9_setParts_17 : decode cX9_setParts 17 = .ok (.iload_n 2, 1) := by decide +kernel
theorem dX9_setParts_18 : decode cX9_setParts 18 = .ok (.iastore, 1) := by decide +kernel
theorem dX9_setParts_19 : decode cX9_setParts 19 = .ok (.aload_n 0, 1) := by decide +kernel
theorem dX9_setParts_20 : decode cX9_setParts 20 = .ok (.getfield 19, 3) := by decide +kernel
theorem dX9_setParts_23 : decode cX9_setParts 23 = .ok (.iload_n 1, 1) := by decide +kernel
theorem dX9_setParts_24 : decode cX9_setParts 24 = .ok (.iload_n 3, 1) := by decide +kernel
theorem dX9_setParts_25 : decode cX9_setParts 25 = .ok (.iastore, 1) := by decide +kernel
theorem dX9_setParts_26 : decode cX9_setParts 26 = .ok (.aload_n 0, 1) := by decide +kernel
theorem dX9_setParts_27 : decode cX9_setParts 27 = .ok (.getfield 22, 3) := by decide +kernel
theorem dX9_setParts_30 : decode cX9_setParts 30 = .ok (.iload_n 1, 1) := by decide +kernel
theorem dX9_setParts_31 : decode cX9_setParts 31 = .ok (.iload 4, 2) := by decide +kernel
theorem dX9_setParts_33 : decode cX9_setParts 33 = .ok (.iastore, 1) := by decide +kernel
theorem dX9_setParts_34 : decode cX9_setParts 34 = .ok (.return_, 1) := by decide +kernel
theorem dX9_setNext_0 : decode cX9_setNext 0 = .ok (.iload_n 1, 1) := by decide +kernel
theorem dX9_setNext_1 : decode cX9_setNext 1 = .ok (.ifCond .lt 18, 3) := by decide +kernel
theorem dX9_setNext_4 : decode cX9_setNext 4 = .ok (.iload_n 1, 1) := by decide +kernel
theorem dX9_setNext_5 : decode cX9_setNext 5 = .ok (.aload_n 0, 1) := by decide +kernel
theorem dX9_setNext_6 : decode cX9_setNext 6 = .ok (.getfield 28, 3) := by decide +kernel
theorem dX9_setNext_9 : decode cX9_setNext 9 = .ok (.if_icmp .ge 10, 3) := by decide +kernel
theorem dX9_setNext_12 : decode cX9_setNext 12 = .ok (.aload_n 0, 1) := by decide +kernel
theorem dX9_setNext_13 : decode cX9_setNext 13 = .ok (.getfield 25, 3) := by decide +kernel
theorem dX9_setNext_16 : decode cX9_setNext 16 = .ok (.iload_n 1, 1) := by decide +kernel
theorem dX9_setNext_17 : decode cX9_setNext 17 = .ok (.iload_n 2, 1) := by decide +kernel
theorem dX9_setNext_18 : decode cX9_setNext 18 = .ok (.iastore, 1) := by decide +kernel
theorem dX9_setNext_19 : decode cX9_setNext 19 = .ok (.return_, 1) := by decide +kernel
theorem dX10_init_0 : decode cX10_init 0 = .ok (.aload_n 0, 1) := by decide +kernel
theorem dX10_init_1 : decode cX10_init 1 = .ok (.invokespecial 3, 3) := by decide +kernel
theorem dX10_init_4 : decode cX10_init 4 = .ok (.aload_n 0, 1) := by decide +kernel
theorem dX10_init_5 : decode cX10_init 5 = .ok (.iload_n 1, 1) := by decide +kernel
theorem dX10_init_6 : decode cX10_init 6 = .ok (.putfield 9, 3) := by decide +kernel
theorem dX10_init_9 : decode cX10_init 9 = .ok (.aload_n 0, 1) := by decide +kernel
theorem dX10_init_10 : decode cX10_init 10 = .ok (.aload_n 2, 1) := by decide +kernel
theorem dX10_init_11 : decode cX10_init 11 = .ok (.putfield 15, 3) := by decide +kernel
theorem dX10_init_14 : decode cX10_init 14 = .ok (.aload_n 0, 1) := by decide +kernel
theorem dX10_init_15 : decode cX10_init 15 = .ok (.iload_n 1, 1) := by decide +kernel
theorem dX10_init_16 : decode cX10_init 16 = .ok (.bipush 16, 2) := by decide +kernel
theorem dX10_init_18 : decode cX10_init 18 = .ok (.iadd, 1) := by decide +kernel
theorem dX10_init_19 : decode cX10_init 19 = .ok (.newarray .int, 2) := by decide +kernel
theorem dX10_init_21 : decode cX10_init 21 = .ok (.putfield 19, 3) := by decide +kernel
theorem dX10_init_24 : decode cX10_init 24 = .ok (.aload_n 0, 1) := by decide +kernel
theorem dX10_init_25 : decode cX10_init 25 = .ok (.iload_n 1, 1) := by decide +kernel
theorem dX10_init_26 : decode cX10_init 26 = .ok (.bipush 16, 2) := by decide +kernel
theorem dX10_init_28 : decode cX10_init 28 = .ok (.iadd, 1) := by decide +kernel
theorem dX10_init_29 : decode cX10_init 29 = .ok (.newarray .int, 2) := by decide +kernel
theorem dX10_init_31 : decode cX10_init 31 = .ok (.putfield 23, 3) := by decide +kernel
theorem dX10_init_34 : decode cX10_init 34 = .ok (.aload_n 0, 1) := by decide +kernel
theorem dX10_init_35 : decode cX10_init 35 = .ok (.iload_n 1, 1) := by decide +kernel
theorem dX10_init_36 : decode cX10_init 36 = .ok (.bipush 16, 2) := by decide +kernel
theorem dX10_init_38 : decode cX10_init 38 = .ok (.iadd, 1) := by decide +kernel
theorem dX10_init_39 : decode cX10_init 39 = .ok (.newarray .int, 2) := by decide +kernel
theorem dX10_init_41 : decode cX10_init 41 = .ok (.putfield 26, 3) := by decide +kernel
theorem dX10_init_44 : decode cX10_init 44 = .ok (.aload_n 0, 1) := by decide +kernel
theorem dX10_init_45 : decode cX10_init 45 = .ok (.iload_n 1, 1) := by decide +kernel
theorem dX10_init_46 : decode cX10_init 46 = .ok (.newarray .int, 2) := by decide +kernel
theorem dX10_init_48 : decode cX10_init 48 = .ok (.putfield 29, 3) := by decide +kernel
theorem dX10_init_51 : decode cX10_init 51 = .ok (.aload_n 0, 1) := by decide +kernel
theorem dX10_init_52 : decode cX10_init 52 = .ok (.iload_n 1, 1) := by decide +kernel
theorem dX10_init_53 : decode cX10_init 53 = .ok (.newarray .int, 2) := by decide +kernel
theorem dX10_init_55 : decode cX10_init 55 = .ok (.putfield 32, 3) := by decide +kernel
theorem dX10_init_58 : decode cX10_init 58 = .ok (.aload_n 0, 1) := by decide +kernel
theorem dX10_init_59 : decode cX10_init 59 = .ok (.iload_n 1, 1) := by decide +kernel
theorem dX10_init_60 : decode cX10_init 60 = .ok (.bipush 16, 2) := by decide +kernel
theorem dX10_init_62 : decode cX10_init 62 = .ok (.iadd, 1) := by decide +kernel
theorem dX10_init_63 : decode cX10_init 63 = .ok (.newarray .int, 2) := by decide +kernel
theorem dX10_init_65 : decode cX10_init 65 = .ok (.putfield 35, 3) := by decide +kernel
theorem dX10_init_68 : decode cX10_init 68 = .ok (.return_, 1) := by decide +kernel
theorem dX10_begin_0 : decode cX10_begin 0 = .ok (.aload_n 0, 1) := by decide +kernel
theorem dX10_begin_1 : decode cX10_begin 1 = .ok (.aload_n 1, 1) := by decide +kernel
theorem dX10_begin_2 : decode cX10_begin 2 = .ok (.getfield 38, 3) := by decide +kernel
theorem dX10_begin_5 : decode cX10_begin 5 = .ok (.putfield 44, 3) := by decide +kernel
theorem dX10_begin_8 : decode cX10_begin 8 = .ok (.aload_n 0, 1) := by decide +kernel
theorem dX10_begin_9 : decode cX10_begin 9 = .ok (.aload_n 1, 1) := by decide +kernel
theorem dX10_begin_10 : decode cX10_begin 10 = .ok (.getfield 45, 3) := by decide +kernel
theorem dX10_begin_13 : decode cX10_begin 13 = .ok (.putfield 47, 3) := by decide +kernel
theorem dX10_begin_16 : decode cX10_begin 16 = .ok (.aload_n 0, 1) := by decide +kernel
theorem dX10_begin_17 : decode cX10_begin 17 = .ok (.getfield 29, 3) := by decide +kernel
theorem dX10_begin_20 : decode cX10_begin 20 = .ok (.iconst 0, 1) := by decide +kernel
theorem dX10_begin_21 : decode cX10_begin 21 = .ok (.invokestatic 50, 3) := by decide +kernel
theorem dX10_begin_24 : decode cX10_begin 24 = .ok (.aload_n 0, 1) := by decide +kernel
theorem dX10_begin_25 : decode cX10_begin 25 = .ok (.iconst 0, 1) := by decide +kernel
theorem dX10_begin_26 : decode cX10_begin 26 = .ok (.putfield 56, 3) := by decide +kernel
theorem dX10_begin_29 : decode cX10_begin 29 = .ok (.aload_n 0, 1) := by decide +kernel
theorem dX10_begin_30 : decode cX10_begin 30 = .ok (.iconst 0, 1) := by decide +kernel
theorem dX10_begin_31 : decode cX10_begin 31 = .ok (.putfield 59, 3) := by decide +kernel
theorem dX10_begin_34 : decode cX10_begin 34 = .ok (.aload_n 0, 1) := by decide +kernel
theorem dX10_begin_35 : decode cX10_begin 35 = .ok (.iconst 0, 1) := by decide +kernel
theorem dX10_begin_36 : decode cX10_begin 36 = .ok (.putfield 62, 3) := by decide +kernel
theorem dX10_begin_39 : decode cX10_begin 39 = .ok (.aload_n 0, 1) := by decide +kernel
theorem dX10_begin_40 : decode cX10_begin 40 = .ok (.iconst 0, 1) := by decide +kernel
theorem dX10_begin_41 : decode cX10_begin 41 = .ok (.putfield 65, 3) := by decide +kernel
theorem dX10_begin_44 : decode cX10_begin 44 = .ok (.aload_n 0, 1) := by decide +kernel
theorem dX10_begin_45 : decode cX10_begin 45 = .ok (.iconst 0, 1) := by decide +kernel
theorem dX10_begin_46 : decode cX10_begin 46 = .ok (.putfield 68, 3) := by decide +kernel
theorem dX10_begin_49 : decode cX10_begin 49 = .ok (.aload_n 0, 1) := by decide +kernel
theorem dX10_begin_50 : decode cX10_begin 50 = .ok (.iconst 0, 1) := by decide +kernel
theorem dX10_begin_51 : decode cX10_begin 51 = .ok (.putfield 71, 3) := by decide +kernel
theorem dX10_begin_54 : decode cX10_begin 54 = .ok (.aload_n 0, 1) := by decide +kernel
theorem dX10_begin_55 : decode cX10_begin 55 = .ok (.iconst 3, 1) := by decide +kernel
theorem dX10_begin_56 : decode cX10_begin 56 = .ok (.aload_n 1, 1) := by decide +kernel
theorem dX10_begin_57 : decode cX10_begin 57 = .ok (.getfield 75, 3) := by decide +kernel
theorem dX10_begin_60 : decode cX10_begin 60 = .ok (.invokevirtual 78, 3) := by decide +kernel
theorem dX10_begin_63 : decode cX10_begin 63 = .ok (.return_, 1) := by decide +kernel
theorem dX10_goOn_0 : decode cX10_goOn 0 = .ok (.iconst 0, 1) := by decide +kernel
theorem dX10_goOn_1 : decode cX10_goOn 1 = .ok (.istore_n 2, 1) := by decide +kernel
theorem dX10_goOn_2 : decode cX10_goOn 2 = .ok (.iload_n 2, 1) := by decide +kernel
theorem dX10_goOn_3 : decode cX10_goOn 3 = .ok (.iload_n 1, 1) := by decide +kernel
theorem dX10_goOn_4 : decode cX10_goOn 4 = .ok (.if_icmp .ge 36, 3) := by decide +kernel
theorem dX10_goOn_7 : decode cX10_goOn 7 = .ok (.aload_n 0, 1) := by decide +kernel
theorem dX10_goOn_8 : decode cX10_goOn 8 = .ok (.getfield 68, 3) := by decide +kernel
theorem dX10_goOn_11 : decode cX10_goOn 11 = .ok (.ifCond .ne 29, 3) := by decide +kernel
theorem dX10_goOn_14 : decode cX10_goOn 14 = .ok (.aload_n 0, 1) := by decide +kernel
theorem dX10_goOn_15 : decode cX10_goOn 15 = .ok (.iconst 1, 1) := by decide +kernel
theorem dX10_goOn_16 : decode cX10_goOn 16 = .ok (.putfield 71, 3) := by decide +kernel
theorem dX10_goOn_19 : decode cX10_goOn 19 = .ok (.aload_n 0, 1) := by decide +kernel
theorem dX10_goOn_20 : decode cX10_goOn 20 = .ok (.invokevirtual 82, 3) := by decide +kernel
theorem dX10_goOn_23 : decode cX10_goOn 23 = .ok (.aload_n 0, 1) := by decide +kernel
theorem dX10_goOn_24 : decode cX10_goOn 24 = .ok (.getfield 68, 3) := by decide +kernel
theorem dX10_goOn_27 : decode cX10_goOn 27 = .ok (.ifCond .ne 7, 3) := by decide +kernel
theorem dX10_goOn_30 : decode cX10_goOn 30 = .ok (.aload_n 0, 1) := by decide +kernel
theorem dX10_goOn_31 : decode cX10_goOn 31 = .ok (.invokevirtual 85, 3) := by decide +kernel
theorem dX10_goOn_34 : decode cX10_goOn 34 = .ok (.iinc 2 1, 3) := by decide +kernel
theorem dX10_goOn_37 : decode cX10_goOn 37 = .ok (.goto (-35), 3) := by decide +kernel
theorem dX10_goOn_40 : decode cX10_goOn 40 = .ok (.aload_n 0, 1) := by decide +kernel
theorem dX10_goOn_41 : decode cX10_goOn 41 = .ok (.getfield 68, 3) := by decide +kernel
theorem dX10_goOn_44 : decode cX10_goOn 44 = .ok (.ireturn, 1) := by decide +kernel
theorem dX10_lookAround_0 : decode cX10_lookAround 0 = .ok (.aload_n 0, 1) := by decide +kernel
theorem dX10_lookAround_1 : decode cX10_lookAround 1 = .ok (.getfield 56, 3) := by decide +kernel
theorem dX10_lookAround_4 : decode cX10_lookAround 4 = .ok (.aload_n 0, 1) := by decide +kernel
theorem dX10_lookAround_5 : decode cX10_lookAround 5 = .ok (.getfield 59, 3) := by decide +kernel
theorem dX10_lookAround_8 : decode cX10_lookAround 8 = .ok (.iadd, 1) := by decide +kernel
theorem dX10_lookAround_9 : decode cX10_lookAround 9 = .ok (.aload_n 0, 1) := by decide +kernel
theorem dX10_lookAround_10 : decode cX10_lookAround 10 = .ok (.getfield 65, 3) := by decide +kernel
theorem dX10_lookAround_13 : decode cX10_lookAround 13 = .ok (.iadd, 1) := by decide +kernel
theorem dX10_lookAround_14 : decode cX10_lookAround 14 = .ok (.aload_n 0, 1) := by decide +kernel
theorem dX10_lookAround_15 : decode cX10_lookAround 15 = .ok (.getfield 9, 3) := by decide +kernel
theorem dX10_lookAround_18 : decode cX10_lookAround 18 = .ok (.aload_n 0, 1) := by decide +kernel
theorem dX10_lookAround_19 : decode cX10_lookAround 19 = .ok (.getfield 47, 3) := by decide +kernel
theorem dX10_lookAround_22 : decode cX10_lookAround 22 = .ok (.isub, 1) := by decide +kernel
theorem dX10_lookAround_23 : decode cX10_lookAround 23 = .ok (.if_icmp .le 11, 3) := by decide +kernel
theorem dX10_lookAround_26 : decode cX10_lookAround 26 = .ok (.aload_n 0, 1) := by decide +kernel
theorem dX10_lookAround_27 : decode cX10_lookAround 27 = .ok (.iconst 4, 1) := by decide +kernel
theorem dX10_lookAround_28 : decode cX10_lookAround 28 = .ok (.putfield 68, 3) := by decide +kernel
theorem dX10_lookAround_31 : decode cX10_lookAround 31 = .ok (.goto 34, 3) := by decide +kernel
theorem dX10_lookAround_34 : decode cX10_lookAround 34 = .ok (.aload_n 0, 1) := by decide +kernel
theorem dX10_lookAround_35 : decode cX10_lookAround 35 = .ok (.getfield 59, 3) := by decide +kernel
theorem dX10_lookAround_38 : decode cX10_lookAround 38 = .ok (.ifCond .ne 27, 3) := by decide +kernel
theorem dX10_lookAround_41 : decode cX10_lookAround 41 = .ok (.aload_n 0, 1) := by decide +kernel
theorem dX10_lookAround_42 : decode cX10_lookAround 42 = .ok (.aload_n 0, 1) := by decide +kernel
theorem dX10_lookAround_43 : decode cX10_lookAround 43 = .ok (.getfield 15, 3) := by decide +kernel
theorem dX10_lookAround_46 : decode cX10_lookAround 46 = .ok (.aload_n 0, 1) := by decide +kernel
theorem dX10_lookAround_47 : decode cX10_lookAround 47 = .ok (.invokevirtual 88, 3) := by decide +kernel
theorem dX10_lookAround_50 : decode cX10_lookAround 50 = .ok (.invokevirtual 92, 3) := by decide +kernel
theorem dX10_lookAround_53 : decode cX10_lookAround 53 = .ok (.ifCond .eq 7, 3) := by decide +kernel
theorem dX10_lookAround_56 : decode cX10_lookAround 56 = .ok (.iconst 1, 1) := by decide +kernel
theorem dX10_lookAround_57 : decode cX10_lookAround 57 = .ok (.goto 5, 3) := by decide +kernel
theorem dX10_lookAround_60 : decode cX10_lookAround 60 = .ok (.bipush 6, 2) := by decide +kernel
theorem dX10_lookAround_62 : decode cX10_lookAround 62 = .ok (.putfield 68, 3) := by decide +kernel
theorem dX10_lookAround_65 : decode cX10_lookAround 65 = .ok (.return_, 1) := by decide +kernel
theorem dX10_pushValue_0 : decode cX10_pushValue 0 = .ok (.aload_n 0, 1) := by decide +kernel
theorem dX10_pushValue_1 : decode cX10_pushValue 1 = .ok (.getfield 56, 3) := by decide +kernel
theorem dX10_pushValue_4 : decode cX10_pushValue 4 = .ok (.ifCond .lt 35, 3) := by decide +kernel
theorem dX10_pushValue_7 : decode cX10_pushValue 7 = .ok (.aload_n 0, 1) := by decide +kernel
theorem dX10_pushValue_8 : decode cX10_pushValue 8 = .ok (.getfield 56, 3) := by decide +kernel
theorem dX10_pushValue_11 : decode cX10_pushValue 11 = .ok (.aload_n 0, 1) := by decide +kernel
theorem dX10_pushValue_12 : decode cX10_pushValue 12 = .ok (.getfield 19, 3) := by decide +kernel
theorem dX10_pushValue_15 : decode cX10_pushValue 15 = .ok (.arraylength, 1) := by decide +kernel
theorem dX10_pushValue_16 : decode cX10_pushValue 16 = .ok (.if_icmp .ge 23, 3) := by decide +kernel
theorem dX10_pushValue_19 : decode cX10_pushValue 19 = .ok (.aload_n 0, 1) := by decide +kernel
theorem dX10_pushValue_20 : decode cX10_pushValue 20 = .ok (.getfield 19, 3) := by decide +kernel
theorem dX10_pushValue_23 : decode cX10_pushValue 23 = .ok (.aload_n 0, 1) := by decide +kernel
theorem dX10_pushValue_24 : decode cX10_pushValue 24 = .ok (.getfield 56, 3) := by decide +kernel
theorem dX10_pushValue_27 : decode cX10_pushValue 27 = .ok (.iload_n 1, 1) := by decide +kernel
theorem dX10_pushValue_28 : decode cX10_pushValue 28 = .ok (.iastore, 1) := by decide +kernel
theorem dX10_pushValue_29 : decode cX10_pushValue 29 = .ok (.aload_n 0, 1) := by decide +kernel
theorem dX10_pushValue_30 : decode cX10_pushValue 30 = .ok (.dup, 1) := by decide +kernel
theorem dX10_pushValue_31 : decode cX10_pushValue 31 = .ok (.getfield 56, 3) := by decide +kernel
theorem dX10_pushValue_34 : decode cX10_pushValue 34 = .ok (.iconst 1, 1) := by decide +kernel
theorem dX10_pushValue_35 : decode cX10_pushValue 35 = .ok (.iadd, 1) := by decide +kernel
theorem dX10_pushValue_36 : decode cX10_pushValue 36 = .ok (.putfield 56, 3) := by decide +kernel
theorem dX10_pushValue_39 : decode cX10_pushValue 39 = .ok (.return_, 1) := by decide +kernel
theorem dX10_popValue_0 : decode cX10_popValue 0 = .ok (.aload_n 0, 1) := by decide +kernel
theorem dX10_popValue_1 : decode cX10_popValue 1 = .ok (.getfield 56, 3) := by decide +kernel
theorem dX10_popValue_4 : decode cX10_popValue 4 = .ok (.ifCond .le 15, 3) := by decide +kernel
theorem dX10_popValue_7 : decode cX10_popValue 7 = .ok (.aload_n 0, 1) := by decide +kernel
theorem dX10_popValue_8 : decode cX10_popValue 8 = .ok (.getfield 56, 3) := by decide +kernel
theorem dX10_popValue_11 : decode cX10_popValue 11 = .ok (.aload_n 0, 1) := by decide +kernel
theorem dX10_popValue_12 : decode cX10_popValue 12 = .ok (.getfield 19, 3) := by decide +kernel
theorem dX10_popValue_15 : decode cX10_popValue 15 = .ok (.arraylength, 1) := by decide +kernel
theorem dX10_popValue_16 : decode cX10_popValue 16 = .ok (.if_icmp .le 5, 3) := by decide +kernel
theorem dX10_popValue_19 : decode cX10_popValue 19 = .ok (.iconst 0, 1) := by decide +kernel
theorem dX10_popValue_20 : decode cX10_popValue 20 = .ok (.ireturn, 1) := by decide +kernel
theorem dX10_popValue_21 : decode cX10_popValue 21 = .ok (.aload_n 0, 1) := by decide +kernel
theorem dX10_popValue_22 : decode cX10_popValue 22 = .ok (.dup, 1) := by decide +kernel
theorem dX10_popValue_23 : decode cX10_popValue 23 = .ok (.getfield 56, 3) := by decide +kernel
theorem dX10_popValue_26 : decode cX10_popValue 26 = .ok (.iconst 1, 1) := by decide +kernel
theorem dX10_popValue_27 : decode cX10_popValue 27 = .ok (.isub, 1) := by decide +kernel
theorem dX10_popValue_28 : decode cX10_popValue 28 = .ok (.putfield 56, 3) := by decide +kernel
theorem dX10_popValue_31 : decode cX10_popValue 31 = .ok (.aload_n 0, 1) := by decide +kernel
theorem dX10_popValue_32 : decode cX10_popValue 32 = .ok (.getfield 19, 3) := by decide +kernel
theorem dX10_popValue_35 : decode cX10_popValue 35 = .ok (.aload_n 0, 1) := by decide +kernel
theorem dX10_popValue_36 : decode cX10_popValue 36 = .ok (.getfield 56, 3) := by decide +kernel
theorem dX10_popValue_39 : decode cX10_popValue 39 = .ok (.iaload, 1) := by decide +kernel
theorem dX10_popValue_40 : decode cX10_popValue 40 = .ok (.ireturn, 1) := by decide +kernel
theorem dX10_pushItem_0 : decode cX10_pushItem 0 = .ok (.aload_n 0, 1) := by decide +kernel
theorem dX10_pushItem_1 : decode cX10_pushItem 1 = .ok (.getfield 59, 3) := by decide +kernel
theorem dX10_pushItem_4 : decode cX10_pushItem 4 = .ok (.ifCond .lt 57, 3) := by decide +kernel
theorem dX10_pushItem_7 : decode cX10_pushItem 7 = .ok (.aload_n 0, 1) := by decide +kernel
theorem dX10_pushItem_8 : decode cX10_pushItem 8 = .ok (.getfield 59, 3) := by decide +kernel
theorem dX10_pushItem_11 : decode cX10_pushItem 11 = .ok (.aload_n 0, 1) := by decide +kernel
theorem dX10_pushItem_12 : decode cX10_pushItem 12 = .ok (.getfield 23, 3) := by decide +kernel
theorem dX10_pushItem_15 : decode cX10_pushItem 15 = .ok (.arraylength, 1) := by decide +kernel
theorem dX10_pushItem_16 : decode cX10_pushItem 16 = .ok (.if_icmp .ge 45, 3) := by decide +kernel
theorem dX10_pushItem_19 : decode cX10_pushItem 19 = .ok (.aload_n 0, 1) := by decide +kernel
theorem dX10_pushItem_20 : decode cX10_pushItem 20 = .ok (.getfield 59, 3) := by decide +kernel
theorem dX10_pushItem_23 : decode cX10_pushItem 23 = .ok (.aload_n 0, 1) := by decide +kernel
theorem dX10_pushItem_24 : decode cX10_pushItem 24 = .ok (.getfield 26, 3) := by decide +kernel
theorem dX10_pushItem_27 : decode cX10_pushItem 27 = .ok (.arraylength, 1) := by decide +kernel
theorem dX10_pushItem_28 : decode cX10_pushItem 28 = .ok (.if_icmp .ge 33, 3) := by decide +kernel
theorem dX10_pushItem_31 : decode cX10_pushItem 31 = .ok (.aload_n 0, 1) := by decide +kernel
theorem dX10_pushItem_32 : decode cX10_pushItem 32 = .ok (.getfield 23, 3) := by decide +kernel
theorem dX10_pushItem_35 : decode cX10_pushItem 35 = .ok (.aload_n 0, 1) := by decide +kernel
theorem dX10_pushItem_36 : decode cX10_pushItem 36 = .ok (.getfield 59, 3) := by decide +kernel
theorem dX10_pushItem_39 : decode cX10_pushItem 39 = .ok (.iload_n 1, 1) := by decide +kernel
theorem dX10_pushItem_40 : decode cX10_pushItem 40 = .ok (.iastore, 1) := by decide +kernel
theorem dX10_pushItem_41 : decode cX10_pushItem 41 = .ok (.aload_n 0, 1) := by decide +kernel
theorem dX10_pushItem_42 : decode cX10_pushItem 42 = .ok (.getfield 26, 3) := by decide +kernel
theorem dX10_pushItem_45 : decode cX10_pushItem 45 = .ok (.aload_n 0, 1) := by decide +kernel
theorem dX10_pushItem_46 : decode cX10_pushItem 46 = .ok (.getfield 59, 3) := by decide +kernel
theorem dX10_pushItem_49 : decode cX10_pushItem 49 = .ok (.iload_n 2, 1) := by decide +kernel
theorem dX10_pushItem_50 : decode cX10_pushItem 50 = .ok (.iastore, 1) := by decide +kernel
theorem dX10_pushItem_51 : decode cX10_pushItem 51 = .ok (.aload_n 0, 1) := by decide +kernel
theorem dX10_pushItem_52 : decode cX10_pushItem 52 = .ok (.dup, 1) := by decide +kernel
theorem dX10_pushItem_53 : decode cX10_pushItem 53 = .ok (.getfield 59, 3) := by decide +kernel
theorem dX10_pushItem_56 : decode cX10_pushItem 56 = .ok (.iconst 1, 1) := by decide +kernel
theorem dX10_pushItem_57 : decode cX10_pushItem 57 = .ok (.iadd, 1) := by decide +kernel
theorem dX10_pushItem_58 : decode cX10_pushItem 58 = .ok (.putfield 59, 3) := by decide +kernel
theorem dX10_pushItem_61 : decode cX10_pushItem 61 = .ok (.return_, 1) := by decide +kernel
theorem dX10_takeItem_0 : decode cX10_takeItem 0 = .ok (.aload_n 0, 1) := by decide +kernel
theorem dX10_takeItem_1 : decode cX10_takeItem 1 = .ok (.getfield 59, 3) := by decide +kernel
theorem dX10_takeItem_4 : decode cX10_takeItem 4 = .ok (.ifCond .le 27, 3) := by decide +kernel
theorem dX10_takeItem_7 : decode cX10_takeItem 7 = .ok (.aload_n 0, 1) := by decide +kernel
theorem dX10_takeItem_8 : decode cX10_takeItem 8 = .ok (.getfield 59, 3) := by decide +kernel
theorem dX10_takeItem_11 : decode cX10_takeItem 11 = .ok (.aload_n 0, 1) := by decide +kernel
theorem dX10_takeItem_12 : decode cX10_takeItem 12 = .ok (.getfield 23, 3) := by decide +kernel
theorem dX10_takeItem_15 : decode cX10_takeItem 15 = .ok (.arraylength, 1) := by decide +kernel
theorem dX10_takeItem_16 : decode cX10_takeItem 16 = .ok (.if_icmp .gt 15, 3) := by decide +kernel
theorem dX10_takeItem_19 : decode cX10_takeItem 19 = .ok (.aload_n 0, 1) := by decide +kernel
theorem dX10_takeItem_20 : decode cX10_takeItem 20 = .ok (.getfield 59, 3) := by decide +kernel
theorem dX10_takeItem_23 : decode cX10_takeItem 23 = .ok (.aload_n 0, 1) := by decide +kernel
theorem dX10_takeItem_24 : decode cX10_takeItem 24 = .ok (.getfield 26, 3) := by decide +kernel
theorem dX10_takeItem_27 : decode cX10_takeItem 27 = .ok (.arraylength, 1) := by decide +kernel
theorem dX10_takeItem_28 : decode cX10_takeItem 28 = .ok (.if_icmp .le 4, 3) := by decide +kernel
theorem dX10_takeItem_31 : decode cX10_takeItem 31 = .ok (.return_, 1) := by decide +kernel
theorem dX10_takeItem_32 : decode cX10_takeItem 32 = .ok (.aload_n 0, 1) := by decide +kernel
theorem dX10_takeItem_33 : decode cX10_takeItem 33 = .ok (.dup, 1) := by decide +kernel
theorem dX10_takeItem_34 : decode cX10_takeItem 34 = .ok (.getfield 59, 3) := by decide +kernel
theorem dX10_takeItem_37 : decode cX10_takeItem 37 = .ok (.iconst 1, 1) := by decide +kernel
theorem dX10_takeItem_38 : decode cX10_takeItem 38 = .ok (.isub, 1) := by decide +kernel
theorem dX10_takeItem_39 : decode cX10_takeItem 39 = .ok (.putfield 59, 3) := by decide +kernel
theorem dX10_takeItem_42 : decode cX10_takeItem 42 = .ok (.aload_n 0, 1) := by decide +kernel
theorem dX10_takeItem_43 : decode cX10_takeItem 43 = .ok (.getfield 26, 3) := by decide +kernel
theorem dX10_takeItem_46 : decode cX10_takeItem 46 = .ok (.aload_n 0, 1) := by decide +kernel
theorem dX10_takeItem_47 : decode cX10_takeItem 47 = .ok (.getfield 59, 3) := by decide +kernel
theorem dX10_takeItem_50 : decode cX10_takeItem 50 = .ok (.iaload, 1) := by decide +kernel
theorem dX10_takeItem_51 : decode cX10_takeItem 51 = .ok (.istore_n 1, 1) := by decide +kernel
theorem dX10_takeItem_52 : decode cX10_takeItem 52 = .ok (.aload_n 0, 1) := by decide +kernel
theorem dX10_takeItem_53 : decode cX10_takeItem 53 = .ok (.getfield 23, 3) := by decide +kernel
theorem dX10_takeItem_56 : decode cX10_takeItem 56 = .ok (.aload_n 0, 1) := by decide +kernel
theorem dX10_takeItem_57 : decode cX10_takeItem 57 = .ok (.getfield 59, 3) := by decide +kernel
theorem dX10_takeItem_60 : decode cX10_takeItem 60 = .ok (.iaload, 1) := by decide +kernel
theorem dX10_takeItem_61 : decode cX10_takeItem 61 = .ok (.tableswitch 126 0 7 #[47, 55, 63, 82, 90, 98, 106, 118], 47) := by decide +kernel
theorem dX10_takeItem_108 : decode cX10_takeItem 108 = .ok (.aload_n 0, 1) := by decide +kernel
theorem dX10_takeItem_109 : decode cX10_takeItem 109 = .ok (.iload_n 1, 1) := by decide +kernel
theorem dX10_takeItem_110 : decode cX10_takeItem 110 = .ok (.invokevirtual 98, 3) := by decide +kernel
theorem dX10_takeItem_113 : decode cX10_takeItem 113 = .ok (.goto 74, 3) := by decide +kernel
theorem dX10_takeItem_116 : decode cX10_takeItem 116 = .ok (.aload_n 0, 1) := by decide +kernel
theorem dX10_takeItem_117 : decode cX10_takeItem 117 = .ok (.iload_n 1, 1) := by decide +kernel
theorem dX10_takeItem_118 : decode cX10_takeItem 118 = .ok (.invokevirtual 102, 3) := by decide +kernel
theorem dX10_takeItem_121 : decode cX10_takeItem 121 = .ok (.goto 66, 3) := by decide +kernel
theorem dX10_takeItem_124 : decode cX10_takeItem 124 = .ok (.aload_n 0, 1) := by decide +kernel
theorem dX10_takeItem_125 : decode cX10_takeItem 125 = .ok (.aload_n 0, 1) := by decide +kernel
theorem dX10_takeItem_126 : decode cX10_takeItem 126 = .ok (.invokevirtual 88, 3) := by decide +kernel
theorem dX10_takeItem_129 : decode cX10_takeItem 129 = .ok (.ifCond .eq 7, 3) := by decide +kernel
theorem dX10_takeItem_132 : decode cX10_takeItem 132 = .ok (.iconst 1, 1) := by decide +kernel
theorem dX10_takeItem_133 : decode cX10_takeItem 133 = .ok (.goto 4, 3) := by decide +kernel
theorem dX10_takeItem_136 : decode cX10_takeItem 136 = .ok (.iconst 0, 1) := by decide +kernel
theorem dX10_takeItem_137 : decode cX10_takeItem 137 = .ok (.invokevirtual 105, 3) := by decide +kernel
theorem dX10_takeItem_140 : decode cX10_takeItem 140 = .ok (.goto 47, 3) := by decide +kernel
theorem dX10_takeItem_143 : decode cX10_takeItem 143 = .ok (.aload_n 0, 1) := by decide +kernel
theorem dX10_takeItem_144 : decode cX10_takeItem 144 = .ok (.iload_n 1, 1) := by decide +kernel
theorem dX10_takeItem_145 : decode cX10_takeItem 145 = .ok (.invokevirtual 108, 3) := by decide +kernel
theorem dX10_takeItem_148 : decode cX10_takeItem 148 = .ok (.goto 39, 3) := by decide +kernel
theorem dX10_takeItem_151 : decode cX10_takeItem 151 = .ok (.aload_n 0, 1) := by decide +kernel
theorem dX10_takeItem_152 : decode cX10_takeItem 152 = .ok (.iload_n 1, 1) := by decide +kernel
theorem dX10_takeItem_153 : decode cX10_takeItem 153 = .ok (.invokevirtual 111, 3) := by decide +kernel
theorem dX10_takeItem_156 : decode cX10_takeItem 156 = .ok (.goto 31, 3) := by decide +kernel
theorem dX10_takeItem_159 : decode cX10_takeItem 159 = .ok (.aload_n 0, 1) := by decide +kernel
theorem dX10_takeItem_160 : decode cX10_takeItem 160 = .ok (.iload_n 1, 1) := by decide +kernel
theorem dX10_takeItem_161 : decode cX10_takeItem 161 = .ok (.invokevirtual 114, 3) := by decide +kernel
theorem dX10_takeItem_164 : decode cX10_takeItem 164 = .ok (.goto 23, 3) := by decide +kernel
theorem dX10_takeItem_167 : decode cX10_takeItem 167 = .ok (.aload_n 0, 1) := by decide +kernel
theorem dX10_takeItem_168 : decode cX10_takeItem 168 = .ok (.invokevirtual 117, 3) := by decide +kernel
theorem dX10_takeItem_171 : decode cX10_takeItem 171 = .ok (.aload_n 0, 1) := by decide +kernel
theorem dX10_takeItem_172 : decode cX10_takeItem 172 = .ok (.iconst 0, 1) := by decide +kernel
theorem dX10_takeItem_173 : decode cX10_takeItem 173 = .ok (.invokevirtual 105, 3) := by decide +kernel
theorem dX10_takeItem_176 : decode cX10_takeItem 176 = .ok (.goto 11, 3) := by decide +kernel
theorem dX10_takeItem_179 : decode cX10_takeItem 179 = .ok (.aload_n 0, 1) := by decide +kernel
theorem dX10_takeItem_180 : decode cX10_takeItem 180 = .ok (.invokevirtual 88, 3) := by decide +kernel
theorem dX10_takeItem_183 : decode cX10_takeItem 183 = .ok (.pop, 1) := by decide +kernel
theorem dX10_takeItem_184 : decode cX10_takeItem 184 = .ok (.goto 3, 3) := by decide +kernel
theorem dX10_takeItem_187 : decode cX10_takeItem 187 = .ok (.return_, 1) := by decide +kernel
theorem dX10_takeApart_0 : decode cX10_takeApart 0 = .ok (.aload_n 0, 1) := by decide +kernel
theorem dX10_takeApart_1 : decode cX10_takeApart 1 = .ok (.getfield 44, 3) := by decide +kernel
theorem dX10_takeApart_4 : decode cX10_takeApart 4 = .ok (.iload_n 1, 1) := by decide +kernel
theorem dX10_takeApart_5 : decode cX10_takeApart 5 = .ok (.invokevirtual 120, 3) := by decide +kernel
theorem dX10_takeApart_8 : decode cX10_takeApart 8 = .ok (.tableswitch 241 1 18 #[88, 103, 122, 241, 141, 241, 148, 156, 164, 241, 241, 241, 241, 241, 172, 180, 215, 238], 88) := by decide +kernel
theorem dX10_takeApart_96 : decode cX10_takeApart 96 = .ok (.aload_n 0, 1) := by decide +kernel
theorem dX10_takeApart_97 : decode cX10_takeApart 97 = .ok (.aload_n 0, 1) := by decide +kernel
theorem dX10_takeApart_98 : decode cX10_takeApart 98 = .ok (.getfield 44, 3) := by decide +kernel
theorem dX10_takeApart_101 : decode cX10_takeApart 101 = .ok (.iload_n 1, 1) := by decide +kernel
theorem dX10_takeApart_102 : decode cX10_takeApart 102 = .ok (.invokevirtual 126, 3) := by decide +kernel
theorem dX10_takeApart_105 : decode cX10_takeApart 105 = .ok (.invokevirtual 105, 3) := by decide +kernel
theorem dX10_takeApart_108 : decode cX10_takeApart 108 = .ok (.goto 160, 3) := by decide +kernel
theorem dX10_takeApart_111 : decode cX10_takeApart 111 = .ok (.aload_n 0, 1) := by decide +kernel
theorem dX10_takeApart_112 : decode cX10_takeApart 112 = .ok (.aload_n 0, 1) := by decide +kernel
theorem dX10_takeApart_113 : decode cX10_takeApart 113 = .ok (.aload_n 0, 1) := by decide +kernel
theorem dX10_takeApart_114 : decode cX10_takeApart 114 = .ok (.getfield 44, 3) := by decide +kernel
theorem dX10_takeApart_117 : decode cX10_takeApart 117 = .ok (.iload_n 1, 1) := by decide +kernel
theorem dX10_takeApart_118 : decode cX10_takeApart 118 = .ok (.invokevirtual 126, 3) := by decide +kernel
theorem dX10_takeApart_121 : decode cX10_takeApart 121 = .ok (.invokevirtual 129, 3) := by decide +kernel
theorem dX10_takeApart_124 : decode cX10_takeApart 124 = .ok (.invokevirtual 105, 3) := by decide +kernel
theorem dX10_takeApart_127 : decode cX10_takeApart 127 = .ok (.goto 141, 3) := by decide +kernel
theorem dX10_takeApart_130 : decode cX10_takeApart 130 = .ok (.aload_n 0, 1) := by decide +kernel
theorem dX10_takeApart_131 : decode cX10_takeApart 131 = .ok (.aload_n 0, 1) := by decide +kernel
theorem dX10_takeApart_132 : decode cX10_takeApart 132 = .ok (.aload_n 0, 1) := by decide +kernel
theorem dX10_takeApart_133 : decode cX10_takeApart 133 = .ok (.getfield 44, 3) := by decide +kernel
theorem dX10_takeApart_136 : decode cX10_takeApart 136 = .ok (.iload_n 1, 1) := by decide +kernel
theorem dX10_takeApart_137 : decode cX10_takeApart 137 = .ok (.invokevirtual 126, 3) := by decide +kernel
theorem dX10_takeApart_140 : decode cX10_takeApart 140 = .ok (.invokevirtual 132, 3) := by decide +kernel
theorem dX10_takeApart_143 : decode cX10_takeApart 143 = .ok (.invokevirtual 105, 3) := by decide +kernel
theorem dX10_takeApart_146 : decode cX10_takeApart 146 = .ok (.goto 122, 3) := by decide +kernel
theorem dX10_takeApart_149 : decode cX10_takeApart 149 = .ok (.aload_n 0, 1) := by decide +kernel
theorem dX10_takeApart_150 : decode cX10_takeApart 150 = .ok (.invokevirtual 135, 3) := by decide +kernel
theorem dX10_takeApart_153 : decode cX10_takeApart 153 = .ok (.goto 115, 3) := by decide +kernel
theorem dX10_takeApart_156 : decode cX10_takeApart 156 = .ok (.aload_n 0, 1) := by decide +kernel
theorem dX10_takeApart_157 : decode cX10_takeApart 157 = .ok (.iload_n 1, 1) := by decide +kernel
theorem dX10_takeApart_158 : decode cX10_takeApart 158 = .ok (.invokevirtual 138, 3) := by decide +kernel
theorem dX10_takeApart_161 : decode cX10_takeApart 161 = .ok (.goto 107, 3) := by decide +kernel
theorem dX10_takeApart_164 : decode cX10_takeApart 164 = .ok (.aload_n 0, 1) := by decide +kernel
theorem dX10_takeApart_165 : decode cX10_takeApart 165 = .ok (.iload_n 1, 1) := by decide +kernel
theorem dX10_takeApart_166 : decode cX10_takeApart 166 = .ok (.invokevirtual 141, 3) := by decide +kernel
theorem dX10_takeApart_169 : decode cX10_takeApart 169 = .ok (.goto 99, 3) := by decide +kernel
theorem dX10_takeApart_172 : decode cX10_takeApart 172 = .ok (.aload_n 0, 1) := by decide +kernel
theorem dX10_takeApart_173 : decode cX10_takeApart 173 = .ok (.iload_n 1, 1) := by decide +kernel
theorem dX10_takeApart_174 : decode cX10_takeApart 174 = .ok (.invokevirtual 111, 3) := by decide +kernel
theorem dX10_takeApart_177 : decode cX10_takeApart 177 = .ok (.goto 91, 3) := by decide +kernel
theorem dX10_takeApart_180 : decode cX10_takeApart 180 = .ok (.aload_n 0, 1) := by decide +kernel
theorem dX10_takeApart_181 : decode cX10_takeApart 181 = .ok (.iload_n 1, 1) := by decide +kernel
theorem dX10_takeApart_182 : decode cX10_takeApart 182 = .ok (.invokevirtual 144, 3) := by decide +kernel
theorem dX10_takeApart_185 : decode cX10_takeApart 185 = .ok (.goto 83, 3) := by decide +kernel
theorem dX10_takeApart_188 : decode cX10_takeApart 188 = .ok (.aload_n 0, 1) := by decide +kernel
theorem dX10_takeApart_189 : decode cX10_takeApart 189 = .ok (.iconst 1, 1) := by decide +kernel
theorem dX10_takeApart_190 : decode cX10_takeApart 190 = .ok (.iload_n 1, 1) := by decide +kernel
theorem dX10_takeApart_191 : decode cX10_takeApart 191 = .ok (.invokevirtual 78, 3) := by decide +kernel
theorem dX10_takeApart_194 : decode cX10_takeApart 194 = .ok (.aload_n 0, 1) := by decide +kernel
theorem dX10_takeApart_195 : decode cX10_takeApart 195 = .ok (.iconst 0, 1) := by decide +kernel
theorem dX10_takeApart_196 : decode cX10_takeApart 196 = .ok (.aload_n 0, 1) := by decide +kernel
theorem dX10_takeApart_197 : decode cX10_takeApart 197 = .ok (.getfield 44, 3) := by decide +kernel
theorem dX10_takeApart_200 : decode cX10_takeApart 200 = .ok (.iload_n 1, 1) := by decide +kernel
theorem dX10_takeApart_201 : decode cX10_takeApart 201 = .ok (.invokevirtual 147, 3) := by decide +kernel
theorem dX10_takeApart_204 : decode cX10_takeApart 204 = .ok (.invokevirtual 78, 3) := by decide +kernel
theorem dX10_takeApart_207 : decode cX10_takeApart 207 = .ok (.aload_n 0, 1) := by decide +kernel
theorem dX10_takeApart_208 : decode cX10_takeApart 208 = .ok (.iconst 0, 1) := by decide +kernel
theorem dX10_takeApart_209 : decode cX10_takeApart 209 = .ok (.aload_n 0, 1) := by decide +kernel
theorem dX10_takeApart_210 : decode cX10_takeApart 210 = .ok (.getfield 44, 3) := by decide +kernel
theorem dX10_takeApart_213 : decode cX10_takeApart 213 = .ok (.iload_n 1, 1) := by decide +kernel
theorem dX10_takeApart_214 : decode cX10_takeApart 214 = .ok (.invokevirtual 150, 3) := by decide +kernel
theorem dX10_takeApart_217 : decode cX10_takeApart 217 = .ok (.invokevirtual 78, 3) := by decide +kernel
theorem dX10_takeApart_220 : decode cX10_takeApart 220 = .ok (.goto 48, 3) := by decide +kernel
theorem dX10_takeApart_223 : decode cX10_takeApart 223 = .ok (.aload_n 0, 1) := by decide +kernel
theorem dX10_takeApart_224 : decode cX10_takeApart 224 = .ok (.bipush 7, 2) := by decide +kernel
theorem dX10_takeApart_226 : decode cX10_takeApart 226 = .ok (.iload_n 1, 1) := by decide +kernel
theorem dX10_takeApart_227 : decode cX10_takeApart 227 = .ok (.invokevirtual 78, 3) := by decide +kernel
theorem dX10_takeApart_230 : decode cX10_takeApart 230 = .ok (.aload_n 0, 1) := by decide +kernel
theorem dX10_takeApart_231 : decode cX10_takeApart 231 = .ok (.iconst 0, 1) := by decide +kernel
theorem dX10_takeApart_232 : decode cX10_takeApart 232 = .ok (.aload_n 0, 1) := by decide +kernel
theorem dX10_takeApart_233 : decode cX10_takeApart 233 = .ok (.getfield 44, 3) := by decide +kernel
theorem dX10_takeApart_236 : decode cX10_takeApart 236 = .ok (.iload_n 1, 1) := by decide +kernel
theorem dX10_takeApart_237 : decode cX10_takeApart 237 = .ok (.invokevirtual 150, 3) := by decide +kernel
theorem dX10_takeApart_240 : decode cX10_takeApart 240 = .ok (.invokevirtual 78, 3) := by decide +kernel
theorem dX10_takeApart_243 : decode cX10_takeApart 243 = .ok (.goto 25, 3) := by decide +kernel
theorem dX10_takeApart_246 : decode cX10_takeApart 246 = .ok (.goto 22, 3) := by decide +kernel
theorem dX10_takeApart_249 : decode cX10_takeApart 249 = .ok (.aload_n 0, 1) := by decide +kernel
theorem dX10_takeApart_250 : decode cX10_takeApart 250 = .ok (.iconst 1, 1) := by decide +kernel
theorem dX10_takeApart_251 : decode cX10_takeApart 251 = .ok (.iload_n 1, 1) := by decide +kernel
theorem dX10_takeApart_252 : decode cX10_takeApart 252 = .ok (.invokevirtual 78, 3) := by decide +kernel
theorem dX10_takeApart_255 : decode cX10_takeApart 255 = .ok (.aload_n 0, 1) := by decide +kernel
theorem dX10_takeApart_256 : decode cX10_takeApart 256 = .ok (.iconst 0, 1) := by decide +kernel
theorem dX10_takeApart_257 : decode cX10_takeApart 257 = .ok (.aload_n 0, 1) := by decide +kernel
theorem dX10_takeApart_258 : decode cX10_takeApart 258 = .ok (.getfield 44, 3) := by decide +kernel
theorem dX10_takeApart_261 : decode cX10_takeApart 261 = .ok (.iload_n 1, 1) := by decide +kernel
theorem dX10_takeApart_262 : decode cX10_takeApart 262 = .ok (.invokevirtual 150, 3) := by decide +kernel
theorem dX10_takeApart_265 : decode cX10_takeApart 265 = .ok (.invokevirtual 78, 3) := by decide +kernel
theorem dX10_takeApart_268 : decode cX10_takeApart 268 = .ok (.return_, 1) := by decide +kernel
theorem dX10_takeInput_0 : decode cX10_takeInput 0 = .ok (.aload_n 0, 1) := by decide +kernel
theorem dX10_takeInput_1 : decode cX10_takeInput 1 = .ok (.getfield 15, 3) := by decide +kernel
theorem dX10_takeInput_4 : decode cX10_takeInput 4 = .ok (.invokevirtual 153, 3) := by decide +kernel
theorem dX10_takeInput_7 : decode cX10_takeInput 7 = .ok (.ifCond .eq 17, 3) := by decide +kernel
theorem dX10_takeInput_10 : decode cX10_takeInput 10 = .ok (.aload_n 0, 1) := by decide +kernel
theorem dX10_takeInput_11 : decode cX10_takeInput 11 = .ok (.aload_n 0, 1) := by decide +kernel
theorem dX10_takeInput_12 : decode cX10_takeInput 12 = .ok (.getfield 15, 3) := by decide +kernel
theorem dX10_takeInput_15 : decode cX10_takeInput 15 = .ok (.invokevirtual 157, 3) := by decide +kernel
theorem dX10_takeInput_18 : decode cX10_takeInput 18 = .ok (.invokevirtual 105, 3) := by decide +kernel
theorem dX10_takeInput_21 : decode cX10_takeInput 21 = .ok (.goto 8, 3) := by decide +kernel
theorem dX10_takeInput_24 : decode cX10_takeInput 24 = .ok (.aload_n 0, 1) := by decide +kernel
theorem dX10_takeInput_25 : decode cX10_takeInput 25 = .ok (.iconst 5, 1) := by decide +kernel
theorem dX10_takeInput_26 : decode cX10_takeInput 26 = .ok (.putfield 68, 3) := by decide +kernel
theorem dX10_takeInput_29 : decode cX10_takeInput 29 = .ok (.return_, 1) := by decide +kernel
theorem dX10_takeTwoApart_0 : decode cX10_takeTwoApart 0 = .ok (.aload_n 0, 1) := by decide +kernel
theorem dX10_takeTwoApart_1 : decode cX10_takeTwoApart 1 = .ok (.iconst 1, 1) := by decide +kernel
theorem dX10_takeTwoApart_2 : decode cX10_takeTwoApart 2 = .ok (.iload_n 1, 1) := by decide +kernel
theorem dX10_takeTwoApart_3 : decode cX10_takeTwoApart 3 = .ok (.invokevirtual 78, 3) := by decide +kernel
theorem dX10_takeTwoApart_6 : decode cX10_takeTwoApart 6 = .ok (.aload_n 0, 1) := by decide +kernel
theorem dX10_takeTwoApart_7 : decode cX10_takeTwoApart 7 = .ok (.getfield 44, 3) := by decide +kernel
theorem dX10_takeTwoApart_10 : decode cX10_takeTwoApart 10 = .ok (.iload_n 1, 1) := by decide +kernel
theorem dX10_takeTwoApart_11 : decode cX10_takeTwoApart 11 = .ok (.invokevirtual 126, 3) := by decide +kernel
theorem dX10_takeTwoApart_14 : decode cX10_takeTwoApart 14 = .ok (.bipush 8, 2) := by decide +kernel
theorem dX10_takeTwoApart_16 : decode cX10_takeTwoApart 16 = .ok (.if_icmp .eq 29, 3) := by decide +kernel
theorem dX10_takeTwoApart_19 : decode cX10_takeTwoApart 19 = .ok (.aload_n 0, 1) := by decide +kernel
theorem dX10_takeTwoApart_20 : decode cX10_takeTwoApart 20 = .ok (.getfield 44, 3) := by decide +kernel
theorem dX10_takeTwoApart_23 : decode cX10_takeTwoApart 23 = .ok (.iload_n 1, 1) := by decide +kernel
theorem dX10_takeTwoApart_24 : decode cX10_takeTwoApart 24 = .ok (.invokevirtual 126, 3) := by decide +kernel
theorem dX10_takeTwoApart_27 : decode cX10_takeTwoApart 27 = .ok (.bipush 9, 2) := by decide +kernel
theorem dX10_takeTwoApart_29 : decode cX10_takeTwoApart 29 = .ok (.if_icmp .eq 16, 3) := by decide +kernel
theorem dX10_takeTwoApart_32 : decode cX10_takeTwoApart 32 = .ok (.aload_n 0, 1) := by decide +kernel
theorem dX10_takeTwoApart_33 : decode cX10_takeTwoApart 33 = .ok (.iconst 0, 1) := by decide +kernel
theorem dX10_takeTwoApart_34 : decode cX10_takeTwoApart 34 = .ok (.aload_n 0, 1) := by decide +kernel
theorem dX10_takeTwoApart_35 : decode cX10_takeTwoApart 35 = .ok (.getfield 44, 3) := by decide +kernel
theorem dX10_takeTwoApart_38 : decode cX10_takeTwoApart 38 = .ok (.iload_n 1, 1) := by decide +kernel
theorem dX10_takeTwoApart_39 : decode cX10_takeTwoApart 39 = .ok (.invokevirtual 160, 3) := by decide +kernel
theorem dX10_takeTwoApart_42 : decode cX10_takeTwoApart 42 = .ok (.invokevirtual 78, 3) := by decide +kernel
theorem dX10_takeTwoApart_45 : decode cX10_takeTwoApart 45 = .ok (.aload_n 0, 1) := by decide +kernel
theorem dX10_takeTwoApart_46 : decode cX10_takeTwoApart 46 = .ok (.iconst 0, 1) := by decide +kernel
theorem dX10_takeTwoApart_47 : decode cX10_takeTwoApart 47 = .ok (.aload_n 0, 1) := by decide +kernel
theorem dX10_takeTwoApart_48 : decode cX10_takeTwoApart 48 = .ok (.getfield 44, 3) := by decide +kernel
theorem dX10_takeTwoApart_51 : decode cX10_takeTwoApart 51 = .ok (.iload_n 1, 1) := by decide +kernel
theorem dX10_takeTwoApart_52 : decode cX10_takeTwoApart 52 = .ok (.invokevirtual 150, 3) := by decide +kernel
theorem dX10_takeTwoApart_55 : decode cX10_takeTwoApart 55 = .ok (.invokevirtual 78, 3) := by decide +kernel
theorem dX10_takeTwoApart_58 : decode cX10_takeTwoApart 58 = .ok (.return_, 1) := by decide +kernel
theorem dX10_takeCallApart_0 : decode cX10_takeCallApart 0 = .ok (.aload_n 0, 1) := by decide +kernel
theorem dX10_takeCallApart_1 : decode cX10_takeCallApart 1 = .ok (.iconst 3, 1) := by decide +kernel
theorem dX10_takeCallApart_2 : decode cX10_takeCallApart 2 = .ok (.aload_n 0, 1) := by decide +kernel
theorem dX10_takeCallApart_3 : decode cX10_takeCallApart 3 = .ok (.getfield 44, 3) := by decide +kernel
theorem dX10_takeCallApart_6 : decode cX10_takeCallApart 6 = .ok (.iload_n 1, 1) := by decide +kernel
theorem dX10_takeCallApart_7 : decode cX10_takeCallApart 7 = .ok (.invokevirtual 126, 3) := by decide +kernel
theorem dX10_takeCallApart_10 : decode cX10_takeCallApart 10 = .ok (.invokevirtual 78, 3) := by decide +kernel
theorem dX10_takeCallApart_13 : decode cX10_takeCallApart 13 = .ok (.aload_n 0, 1) := by decide +kernel
theorem dX10_takeCallApart_14 : decode cX10_takeCallApart 14 = .ok (.getfield 44, 3) := by decide +kernel
theorem dX10_takeCallApart_17 : decode cX10_takeCallApart 17 = .ok (.iload_n 1, 1) := by decide +kernel
theorem dX10_takeCallApart_18 : decode cX10_takeCallApart 18 = .ok (.invokevirtual 150, 3) := by decide +kernel
theorem dX10_takeCallApart_21 : decode cX10_takeCallApart 21 = .ok (.istore_n 2, 1) := by decide +kernel
theorem dX10_takeCallApart_22 : decode cX10_takeCallApart 22 = .ok (.iconst 0, 1) := by decide +kernel
theorem dX10_takeCallApart_23 : decode cX10_takeCallApart 23 = .ok (.istore_n 3, 1) := by decide +kernel
theorem dX10_takeCallApart_24 : decode cX10_takeCallApart 24 = .ok (.iload_n 3, 1) := by decide +kernel
theorem dX10_takeCallApart_25 : decode cX10_takeCallApart 25 = .ok (.bipush 8, 2) := by decide +kernel
theorem dX10_takeCallApart_27 : decode cX10_takeCallApart 27 = .ok (.if_icmp .ge 35, 3) := by decide +kernel
theorem dX10_takeCallApart_30 : decode cX10_takeCallApart 30 = .ok (.aload_n 0, 1) := by decide +kernel
theorem dX10_takeCallApart_31 : decode cX10_takeCallApart 31 = .ok (.getfield 44, 3) := by decide +kernel
theorem dX10_takeCallApart_34 : decode cX10_takeCallApart 34 = .ok (.iload_n 2, 1) := by decide +kernel
theorem dX10_takeCallApart_35 : decode cX10_takeCallApart 35 = .ok (.invokevirtual 163, 3) := by decide +kernel
theorem dX10_takeCallApart_38 : decode cX10_takeCallApart 38 = .ok (.ifCond .eq 24, 3) := by decide +kernel
theorem dX10_takeCallApart_41 : decode cX10_takeCallApart 41 = .ok (.aload_n 0, 1) := by decide +kernel
theorem dX10_takeCallApart_42 : decode cX10_takeCallApart 42 = .ok (.iconst 0, 1) := by decide +kernel
theorem dX10_takeCallApart_43 : decode cX10_takeCallApart 43 = .ok (.iload_n 2, 1) := by decide +kernel
theorem dX10_takeCallApart_44 : decode cX10_takeCallApart 44 = .ok (.invokevirtual 78, 3) := by decide +kernel
theorem dX10_takeCallApart_47 : decode cX10_takeCallApart 47 = .ok (.aload_n 0, 1) := by decide +kernel
theorem dX10_takeCallApart_48 : decode cX10_takeCallApart 48 = .ok (.getfield 44, 3) := by decide +kernel
theorem dX10_takeCallApart_51 : decode cX10_takeCallApart 51 = .ok (.iload_n 2, 1) := by decide +kernel
theorem dX10_takeCallApart_52 : decode cX10_takeCallApart 52 = .ok (.invokevirtual 166, 3) := by decide +kernel
theorem dX10_takeCallApart_55 : decode cX10_takeCallApart 55 = .ok (.istore_n 2, 1) := by decide +kernel
theorem dX10_takeCallApart_56 : decode cX10_takeCallApart 56 = .ok (.iinc 3 1, 3) := by decide +kernel
theorem dX10_takeCallApart_59 : decode cX10_takeCallApart 59 = .ok (.goto (-35), 3) := by decide +kernel
theorem dX10_takeCallApart_62 : decode cX10_takeCallApart 62 = .ok (.return_, 1) := by decide +kernel
theorem dX10_takeLocalApart_0 : decode cX10_takeLocalApart 0 = .ok (.aload_n 0, 1) := by decide +kernel
theorem dX10_takeLocalApart_1 : decode cX10_takeLocalApart 1 = .ok (.getfield 44, 3) := by decide +kernel
theorem dX10_takeLocalApart_4 : decode cX10_takeLocalApart 4 = .ok (.aload_n 0, 1) := by decide +kernel
theorem dX10_takeLocalApart_5 : decode cX10_takeLocalApart 5 = .ok (.getfield 44, 3) := by decide +kernel
theorem dX10_takeLocalApart_8 : decode cX10_takeLocalApart 8 = .ok (.iload_n 1, 1) := by decide +kernel
theorem dX10_takeLocalApart_9 : decode cX10_takeLocalApart 9 = .ok (.invokevirtual 150, 3) := by decide +kernel
theorem dX10_takeLocalApart_12 : decode cX10_takeLocalApart 12 = .ok (.invokevirtual 163, 3) := by decide +kernel
theorem dX10_takeLocalApart_15 : decode cX10_takeLocalApart 15 = .ok (.ifCond .eq 25, 3) := by decide +kernel
theorem dX10_takeLocalApart_18 : decode cX10_takeLocalApart 18 = .ok (.aload_n 0, 1) := by decide +kernel
theorem dX10_takeLocalApart_19 : decode cX10_takeLocalApart 19 = .ok (.iconst 1, 1) := by decide +kernel
theorem dX10_takeLocalApart_20 : decode cX10_takeLocalApart 20 = .ok (.iload_n 1, 1) := by decide +kernel
theorem dX10_takeLocalApart_21 : decode cX10_takeLocalApart 21 = .ok (.invokevirtual 78, 3) := by decide +kernel
theorem dX10_takeLocalApart_24 : decode cX10_takeLocalApart 24 = .ok (.aload_n 0, 1) := by decide +kernel
theorem dX10_takeLocalApart_25 : decode cX10_takeLocalApart 25 = .ok (.iconst 0, 1) := by decide +kernel
theorem dX10_takeLocalApart_26 : decode cX10_takeLocalApart 26 = .ok (.aload_n 0, 1) := by decide +kernel
theorem dX10_takeLocalApart_27 : decode cX10_takeLocalApart 27 = .ok (.getfield 44, 3) := by decide +kernel
theorem dX10_takeLocalApart_30 : decode cX10_takeLocalApart 30 = .ok (.iload_n 1, 1) := by decide +kernel
theorem dX10_takeLocalApart_31 : decode cX10_takeLocalApart 31 = .ok (.invokevirtual 150, 3) := by decide +kernel
theorem dX10_takeLocalApart_34 : decode cX10_takeLocalApart 34 = .ok (.invokevirtual 78, 3) := by decide +kernel
theorem dX10_takeLocalApart_37 : decode cX10_takeLocalApart 37 = .ok (.goto 16, 3) := by decide +kernel
theorem dX10_takeLocalApart_40 : decode cX10_takeLocalApart 40 = .ok (.aload_n 0, 1) := by decide +kernel
theorem dX10_takeLocalApart_41 : decode cX10_takeLocalApart 41 = .ok (.aload_n 0, 1) := by decide +kernel
theorem dX10_takeLocalApart_42 : decode cX10_takeLocalApart 42 = .ok (.getfield 44, 3) := by decide +kernel
theorem dX10_takeLocalApart_45 : decode cX10_takeLocalApart 45 = .ok (.iload_n 1, 1) := by decide +kernel
theorem dX10_takeLocalApart_46 : decode cX10_takeLocalApart 46 = .ok (.invokevirtual 126, 3) := by decide +kernel
theorem dX10_takeLocalApart_49 : decode cX10_takeLocalApart 49 = .ok (.iconst 0, 1) := by decide +kernel
theorem dX10_takeLocalApart_50 : decode cX10_takeLocalApart 50 = .ok (.invokevirtual 169, 3) := by decide +kernel
theorem dX10_takeLocalApart_53 : decode cX10_takeLocalApart 53 = .ok (.return_, 1) := by decide +kernel
theorem dX10_openRow_0 : decode cX10_openRow 0 = .ok (.aload_n 0, 1) := by decide +kernel
theorem dX10_openRow_1 : decode cX10_openRow 1 = .ok (.getfield 44, 3) := by decide +kernel
theorem dX10_openRow_4 : decode cX10_openRow 4 = .ok (.aload_n 0, 1) := by decide +kernel
theorem dX10_openRow_5 : decode cX10_openRow 5 = .ok (.getfield 44, 3) := by decide +kernel
theorem dX10_openRow_8 : decode cX10_openRow 8 = .ok (.iload_n 1, 1) := by decide +kernel
theorem dX10_openRow_9 : decode cX10_openRow 9 = .ok (.invokevirtual 150, 3) := by decide +kernel
theorem dX10_openRow_12 : decode cX10_openRow 12 = .ok (.invokevirtual 163, 3) := by decide +kernel
theorem dX10_openRow_15 : decode cX10_openRow 15 = .ok (.ifCond .eq 16, 3) := by decide +kernel
theorem dX10_openRow_18 : decode cX10_openRow 18 = .ok (.aload_n 0, 1) := by decide +kernel
theorem dX10_openRow_19 : decode cX10_openRow 19 = .ok (.iconst 5, 1) := by decide +kernel
theorem dX10_openRow_20 : decode cX10_openRow 20 = .ok (.aload_n 0, 1) := by decide +kernel
theorem dX10_openRow_21 : decode cX10_openRow 21 = .ok (.getfield 44, 3) := by decide +kernel
theorem dX10_openRow_24 : decode cX10_openRow 24 = .ok (.iload_n 1, 1) := by decide +kernel
theorem dX10_openRow_25 : decode cX10_openRow 25 = .ok (.invokevirtual 150, 3) := by decide +kernel
theorem dX10_openRow_28 : decode cX10_openRow 28 = .ok (.invokevirtual 78, 3) := by decide +kernel
theorem dX10_openRow_31 : decode cX10_openRow 31 = .ok (.return_, 1) := by decide +kernel
theorem dX10_goAlong_0 : decode cX10_goAlong 0 = .ok (.aload_n 0, 1) := by decide +kernel
theorem dX10_goAlong_1 : decode cX10_goAlong 1 = .ok (.getfield 44, 3) := by decide +kernel
theorem dX10_goAlong_4 : decode cX10_goAlong 4 = .ok (.aload_n 0, 1) := by decide +kernel
theorem dX10_goAlong_5 : decode cX10_goAlong 5 = .ok (.getfield 44, 3) := by decide +kernel
theorem dX10_goAlong_8 : decode cX10_goAlong 8 = .ok (.iload_n 1, 1) := by decide +kernel
theorem dX10_goAlong_9 : decode cX10_goAlong 9 = .ok (.invokevirtual 166, 3) := by decide +kernel
theorem dX10_goAlong_12 : decode cX10_goAlong 12 = .ok (.invokevirtual 163, 3) := by decide +kernel
theorem dX10_goAlong_15 : decode cX10_goAlong 15 = .ok (.ifCond .eq 16, 3) := by decide +kernel
theorem dX10_goAlong_18 : decode cX10_goAlong 18 = .ok (.aload_n 0, 1) := by decide +kernel
theorem dX10_goAlong_19 : decode cX10_goAlong 19 = .ok (.iconst 5, 1) := by decide +kernel
theorem dX10_goAlong_20 : decode cX10_goAlong 20 = .ok (.aload_n 0, 1) := by decide +kernel
theorem dX10_goAlong_21 : decode cX10_goAlong 21 = .ok (.getfield 44, 3) := by decide +kernel
theorem dX10_goAlong_24 : decode cX10_goAlong 24 = .ok (.iload_n 1, 1) := by decide +kernel
theorem dX10_goAlong_25 : decode cX10_goAlong 25 = .ok (.invokevirtual 166, 3) := by decide +kernel
theorem dX10_goAlong_28 : decode cX10_goAlong 28 = .ok (.invokevirtual 78, 3) := by decide +kernel
theorem dX10_goAlong_31 : decode cX10_goAlong 31 = .ok (.aload_n 0, 1) := by decide +kernel
theorem dX10_goAlong_32 : decode cX10_goAlong 32 = .ok (.iconst 0, 1) := by decide +kernel
theorem dX10_goAlong_33 : decode cX10_goAlong 33 = .ok (.iload_n 1, 1) := by decide +kernel
theorem dX10_goAlong_34 : decode cX10_goAlong 34 = .ok (.invokevirtual 78, 3) := by decide +kernel
theorem dX10_goAlong_37 : decode cX10_goAlong 37 = .ok (.return_, 1) := by decide +kernel
theorem dX10_finish_0 : decode cX10_finish 0 = .ok (.aload_n 0, 1) := by decide +kernel
theorem dX10_finish_1 : decode cX10_finish 1 = .ok (.getfield 44, 3) := by decide +kernel
theorem dX10_finish_4 : decode cX10_finish 4 = .ok (.iload_n 1, 1) := by decide +kernel
theorem dX10_finish_5 : decode cX10_finish 5 = .ok (.invokevirtual 120, 3) := by decide +kernel
theorem dX10_finish_8 : decode cX10_finish 8 = .ok (.tableswitch 202 4 16 #[68, 202, 76, 98, 202, 202, 186, 194, 179, 152, 106, 125, 144], 68) := by decide +kernel
theorem dX10_finish_76 : decode cX10_finish 76 = .ok (.aload_n 0, 1) := by decide +kernel
theorem dX10_finish_77 : decode cX10_finish 77 = .ok (.iload_n 1, 1) := by decide +kernel
theorem dX10_finish_78 : decode cX10_finish 78 = .ok (.invokevirtual 172, 3) := by decide +kernel
theorem dX10_finish_81 : decode cX10_finish 81 = .ok (.goto 129, 3) := by decide +kernel
theorem dX10_finish_84 : decode cX10_finish 84 = .ok (.aload_n 0, 1) := by decide +kernel
theorem dX10_finish_85 : decode cX10_finish 85 = .ok (.aload_n 0, 1) := by decide +kernel
theorem dX10_finish_86 : decode cX10_finish 86 = .ok (.getfield 44, 3) := by decide +kernel
theorem dX10_finish_89 : decode cX10_finish 89 = .ok (.iload_n 1, 1) := by decide +kernel
theorem dX10_finish_90 : decode cX10_finish 90 = .ok (.invokevirtual 126, 3) := by decide +kernel
theorem dX10_finish_93 : decode cX10_finish 93 = .ok (.aload_n 0, 1) := by decide +kernel
theorem dX10_finish_94 : decode cX10_finish 94 = .ok (.invokevirtual 88, 3) := by decide +kernel
theorem dX10_finish_97 : decode cX10_finish 97 = .ok (.invokestatic 175, 3) := by decide +kernel
theorem dX10_finish_100 : decode cX10_finish 100 = .ok (.invokevirtual 105, 3) := by decide +kernel
theorem dX10_finish_103 : decode cX10_finish 103 = .ok (.goto 107, 3) := by decide +kernel
theorem dX10_finish_106 : decode cX10_finish 106 = .ok (.aload_n 0, 1) := by decide +kernel
theorem dX10_finish_107 : decode cX10_finish 107 = .ok (.iload_n 1, 1) := by decide +kernel
theorem dX10_finish_108 : decode cX10_finish 108 = .ok (.invokevirtual 179, 3) := by decide +kernel
theorem dX10_finish_111 : decode cX10_finish 111 = .ok (.goto 99, 3) := by decide +kernel
theorem dX10_finish_114 : decode cX10_finish 114 = .ok (.aload_n 0, 1) := by decide +kernel
theorem dX10_finish_115 : decode cX10_finish 115 = .ok (.aload_n 0, 1) := by decide +kernel
theorem dX10_finish_116 : decode cX10_finish 116 = .ok (.getfield 44, 3) := by decide +kernel
theorem dX10_finish_119 : decode cX10_finish 119 = .ok (.iload_n 1, 1) := by decide +kernel
theorem dX10_finish_120 : decode cX10_finish 120 = .ok (.invokevirtual 126, 3) := by decide +kernel
theorem dX10_finish_123 : decode cX10_finish 123 = .ok (.aload_n 0, 1) := by decide +kernel
theorem dX10_finish_124 : decode cX10_finish 124 = .ok (.invokevirtual 88, 3) := by decide +kernel
theorem dX10_finish_127 : decode cX10_finish 127 = .ok (.invokevirtual 182, 3) := by decide +kernel
theorem dX10_finish_130 : decode cX10_finish 130 = .ok (.goto 80, 3) := by decide +kernel
theorem dX10_finish_133 : decode cX10_finish 133 = .ok (.aload_n 0, 1) := by decide +kernel
theorem dX10_finish_134 : decode cX10_finish 134 = .ok (.aload_n 0, 1) := by decide +kernel
theorem dX10_finish_135 : decode cX10_finish 135 = .ok (.getfield 44, 3) := by decide +kernel
theorem dX10_finish_138 : decode cX10_finish 138 = .ok (.iload_n 1, 1) := by decide +kernel
theorem dX10_finish_139 : decode cX10_finish 139 = .ok (.invokevirtual 126, 3) := by decide +kernel
theorem dX10_finish_142 : decode cX10_finish 142 = .ok (.aload_n 0, 1) := by decide +kernel
theorem dX10_finish_143 : decode cX10_finish 143 = .ok (.invokevirtual 88, 3) := by decide +kernel
theorem dX10_finish_146 : decode cX10_finish 146 = .ok (.invokevirtual 169, 3) := by decide +kernel
theorem dX10_finish_149 : decode cX10_finish 149 = .ok (.goto 61, 3) := by decide +kernel
theorem dX10_finish_152 : decode cX10_finish 152 = .ok (.aload_n 0, 1) := by decide +kernel
theorem dX10_finish_153 : decode cX10_finish 153 = .ok (.iload_n 1, 1) := by decide +kernel
theorem dX10_finish_154 : decode cX10_finish 154 = .ok (.invokevirtual 185, 3) := by decide +kernel
theorem dX10_finish_157 : decode cX10_finish 157 = .ok (.goto 53, 3) := by decide +kernel
theorem dX10_finish_160 : decode cX10_finish 160 = .ok (.aload_n 0, 1) := by decide +kernel
theorem dX10_finish_161 : decode cX10_finish 161 = .ok (.aload_n 0, 1) := by decide +kernel
theorem dX10_finish_162 : decode cX10_finish 162 = .ok (.getfield 15, 3) := by decide +kernel
theorem dX10_finish_165 : decode cX10_finish 165 = .ok (.aload_n 0, 1) := by decide +kernel
theorem dX10_finish_166 : decode cX10_finish 166 = .ok (.invokevirtual 88, 3) := by decide +kernel
theorem dX10_finish_169 : decode cX10_finish 169 = .ok (.invokevirtual 92, 3) := by decide +kernel
theorem dX10_finish_172 : decode cX10_finish 172 = .ok (.ifCond .eq 7, 3) := by decide +kernel
theorem dX10_finish_175 : decode cX10_finish 175 = .ok (.iconst 0, 1) := by decide +kernel
theorem dX10_finish_176 : decode cX10_finish 176 = .ok (.goto 5, 3) := by decide +kernel
theorem dX10_finish_179 : decode cX10_finish 179 = .ok (.bipush 6, 2) := by decide +kernel
theorem dX10_finish_181 : decode cX10_finish 181 = .ok (.putfield 68, 3) := by decide +kernel
theorem dX10_finish_184 : decode cX10_finish 184 = .ok (.goto 26, 3) := by decide +kernel
theorem dX10_finish_187 : decode cX10_finish 187 = .ok (.aload_n 0, 1) := by decide +kernel
theorem dX10_finish_188 : decode cX10_finish 188 = .ok (.invokevirtual 188, 3) := by decide +kernel
theorem dX10_finish_191 : decode cX10_finish 191 = .ok (.goto 19, 3) := by decide +kernel
theorem dX10_finish_194 : decode cX10_finish 194 = .ok (.aload_n 0, 1) := by decide +kernel
theorem dX10_finish_195 : decode cX10_finish 195 = .ok (.iload_n 1, 1) := by decide +kernel
theorem dX10_finish_196 : decode cX10_finish 196 = .ok (.invokevirtual 191, 3) := by decide +kernel
theorem dX10_finish_199 : decode cX10_finish 199 = .ok (.goto 11, 3) := by decide +kernel
theorem dX10_finish_202 : decode cX10_finish 202 = .ok (.aload_n 0, 1) := by decide +kernel
theorem dX10_finish_203 : decode cX10_finish 203 = .ok (.iload_n 1, 1) := by decide +kernel
theorem dX10_finish_204 : decode cX10_finish 204 = .ok (.invokevirtual 194, 3) := by decide +kernel
theorem dX10_finish_207 : decode cX10_finish 207 = .ok (.goto 3, 3) := by decide +kernel
theorem dX10_finish_210 : decode cX10_finish 210 = .ok (.return_, 1) := by decide +kernel
theorem dX10_finishItem_0 : decode cX10_finishItem 0 = .ok (.aload_n 0, 1) := by decide +kernel
theorem dX10_finishItem_1 : decode cX10_finishItem 1 = .ok (.invokevirtual 88, 3) := by decide +kernel
theorem dX10_finishItem_4 : decode cX10_finishItem 4 = .ok (.istore_n 2, 1) := by decide +kernel
theorem dX10_finishItem_5 : decode cX10_finishItem 5 = .ok (.iload_n 2, 1) := by decide +kernel
theorem dX10_finishItem_6 : decode cX10_finishItem 6 = .ok (.ifCond .lt 15, 3) := by decide +kernel
theorem dX10_finishItem_9 : decode cX10_finishItem 9 = .ok (.iload_n 2, 1) := by decide +kernel
theorem dX10_finishItem_10 : decode cX10_finishItem 10 = .ok (.aload_n 0, 1) := by decide +kernel
theorem dX10_finishItem_11 : decode cX10_finishItem 11 = .ok (.getfield 44, 3) := by decide +kernel
theorem dX10_finishItem_14 : decode cX10_finishItem 14 = .ok (.iload_n 1, 1) := by decide +kernel
theorem dX10_finishItem_15 : decode cX10_finishItem 15 = .ok (.invokevirtual 160, 3) := by decide +kernel
theorem dX10_finishItem_18 : decode cX10_finishItem 18 = .ok (.if_icmp .lt 11, 3) := by decide +kernel
theorem dX10_finishItem_21 : decode cX10_finishItem 21 = .ok (.aload_n 0, 1) := by decide +kernel
theorem dX10_finishItem_22 : decode cX10_finishItem 22 = .ok (.iconst 3, 1) := by decide +kernel
theorem dX10_finishItem_23 : decode cX10_finishItem 23 = .ok (.putfield 68, 3) := by decide +kernel
theorem dX10_finishItem_26 : decode cX10_finishItem 26 = .ok (.goto 21, 3) := by decide +kernel
theorem dX10_finishItem_29 : decode cX10_finishItem 29 = .ok (.aload_n 0, 1) := by decide +kernel
theorem dX10_finishItem_30 : decode cX10_finishItem 30 = .ok (.aload_n 0, 1) := by decide +kernel
theorem dX10_finishItem_31 : decode cX10_finishItem 31 = .ok (.aload_n 0, 1) := by decide +kernel
theorem dX10_finishItem_32 : decode cX10_finishItem 32 = .ok (.getfield 44, 3) := by decide +kernel
theorem dX10_finishItem_35 : decode cX10_finishItem 35 = .ok (.iload_n 1, 1) := by decide +kernel
theorem dX10_finishItem_36 : decode cX10_finishItem 36 = .ok (.invokevirtual 126, 3) := by decide +kernel
theorem dX10_finishItem_39 : decode cX10_finishItem 39 = .ok (.iload_n 2, 1) := by decide +kernel
theorem dX10_finishItem_40 : decode cX10_finishItem 40 = .ok (.iadd, 1) := by decide +kernel
theorem dX10_finishItem_41 : decode cX10_finishItem 41 = .ok (.invokevirtual 129, 3) := by decide +kernel
theorem dX10_finishItem_44 : decode cX10_finishItem 44 = .ok (.invokevirtual 105, 3) := by decide +kernel
theorem dX10_finishItem_47 : decode cX10_finishItem 47 = .ok (.return_, 1) := by decide +kernel
theorem dX10_finishSetItem_0 : decode cX10_finishSetItem 0 = .ok (.aload_n 0, 1) := by decide +kernel
theorem dX10_finishSetItem_1 : decode cX10_finishSetItem 1 = .ok (.invokevirtual 88, 3) := by decide +kernel
theorem dX10_finishSetItem_4 : decode cX10_finishSetItem 4 = .ok (.istore_n 2, 1) := by decide +kernel
theorem dX10_finishSetItem_5 : decode cX10_finishSetItem 5 = .ok (.aload_n 0, 1) := by decide +kernel
theorem dX10_finishSetItem_6 : decode cX10_finishSetItem 6 = .ok (.invokevirtual 88, 3) := by decide +kernel
theorem dX10_finishSetItem_9 : decode cX10_finishSetItem 9 = .ok (.istore_n 3, 1) := by decide +kernel
theorem dX10_finishSetItem_10 : decode cX10_finishSetItem 10 = .ok (.iload_n 3, 1) := by decide +kernel
theorem dX10_finishSetItem_11 : decode cX10_finishSetItem 11 = .ok (.ifCond .lt 15, 3) := by decide +kernel
theorem dX10_finishSetItem_14 : decode cX10_finishSetItem 14 = .ok (.iload_n 3, 1) := by decide +kernel
theorem dX10_finishSetItem_15 : decode cX10_finishSetItem 15 = .ok (.aload_n 0, 1) := by decide +kernel
theorem dX10_finishSetItem_16 : decode cX10_finishSetItem 16 = .ok (.getfield 44, 3) := by decide +kernel
theorem dX10_finishSetItem_19 : decode cX10_finishSetItem 19 = .ok (.iload_n 1, 1) := by decide +kernel
theorem dX10_finishSetItem_20 : decode cX10_finishSetItem 20 = .ok (.invokevirtual 160, 3) := by decide +kernel
theorem dX10_finishSetItem_23 : decode cX10_finishSetItem 23 = .ok (.if_icmp .lt 11, 3) := by decide +kernel
theorem dX10_finishSetItem_26 : decode cX10_finishSetItem 26 = .ok (.aload_n 0, 1) := by decide +kernel
theorem dX10_finishSetItem_27 : decode cX10_finishSetItem 27 = .ok (.iconst 3, 1) := by decide +kernel
theorem dX10_finishSetItem_28 : decode cX10_finishSetItem 28 = .ok (.putfield 68, 3) := by decide +kernel
theorem dX10_finishSetItem_31 : decode cX10_finishSetItem 31 = .ok (.goto 18, 3) := by decide +kernel
theorem dX10_finishSetItem_34 : decode cX10_finishSetItem 34 = .ok (.aload_n 0, 1) := by decide +kernel
theorem dX10_finishSetItem_35 : decode cX10_finishSetItem 35 = .ok (.aload_n 0, 1) := by decide +kernel
theorem dX10_finishSetItem_36 : decode cX10_finishSetItem 36 = .ok (.getfield 44, 3) := by decide +kernel
theorem dX10_finishSetItem_39 : decode cX10_finishSetItem 39 = .ok (.iload_n 1, 1) := by decide +kernel
theorem dX10_finishSetItem_40 : decode cX10_finishSetItem 40 = .ok (.invokevirtual 126, 3) := by decide +kernel
theorem dX10_finishSetItem_43 : decode cX10_finishSetItem 43 = .ok (.iload_n 3, 1) := by decide +kernel
theorem dX10_finishSetItem_44 : decode cX10_finishSetItem 44 = .ok (.iadd, 1) := by decide +kernel
theorem dX10_finishSetItem_45 : decode cX10_finishSetItem 45 = .ok (.iload_n 2, 1) := by decide +kernel
theorem dX10_finishSetItem_46 : decode cX10_finishSetItem 46 = .ok (.invokevirtual 182, 3) := by decide +kernel
theorem dX10_finishSetItem_49 : decode cX10_finishSetItem 49 = .ok (.return_, 1) := by decide +kernel
theorem dX10_finishTwo_0 : decode cX10_finishTwo 0 = .ok (.aload_n 0, 1) := by decide +kernel
theorem dX10_finishTwo_1 : decode cX10_finishTwo 1 = .ok (.getfield 44, 3) := by decide +kernel
theorem dX10_finishTwo_4 : decode cX10_finishTwo 4 = .ok (.iload_n 1, 1) := by decide +kernel
theorem dX10_finishTwo_5 : decode cX10_finishTwo 5 = .ok (.invokevirtual 126, 3) := by decide +kernel
theorem dX10_finishTwo_8 : decode cX10_finishTwo 8 = .ok (.istore_n 2, 1) := by decide +kernel
theorem dX10_finishTwo_9 : decode cX10_finishTwo 9 = .ok (.aload_n 0, 1) := by decide +kernel
theorem dX10_finishTwo_10 : decode cX10_finishTwo 10 = .ok (.invokevirtual 88, 3) := by decide +kernel
theorem dX10_finishTwo_13 : decode cX10_finishTwo 13 = .ok (.istore_n 3, 1) := by decide +kernel
theorem dX10_finishTwo_14 : decode cX10_finishTwo 14 = .ok (.iload_n 2, 1) := by decide +kernel
theorem dX10_finishTwo_15 : decode cX10_finishTwo 15 = .ok (.bipush 8, 2) := by decide +kernel
theorem dX10_finishTwo_17 : decode cX10_finishTwo 17 = .ok (.if_icmp .eq 9, 3) := by decide +kernel
theorem dX10_finishTwo_20 : decode cX10_finishTwo 20 = .ok (.iload_n 2, 1) := by decide +kernel
theorem dX10_finishTwo_21 : decode cX10_finishTwo 21 = .ok (.bipush 9, 2) := by decide +kernel
theorem dX10_finishTwo_23 : decode cX10_finishTwo 23 = .ok (.if_icmp .ne 20, 3) := by decide +kernel
theorem dX10_finishTwo_26 : decode cX10_finishTwo 26 = .ok (.aload_n 0, 1) := by decide +kernel
theorem dX10_finishTwo_27 : decode cX10_finishTwo 27 = .ok (.iload_n 1, 1) := by decide +kernel
theorem dX10_finishTwo_28 : decode cX10_finishTwo 28 = .ok (.iload_n 3, 1) := by decide +kernel
theorem dX10_finishTwo_29 : decode cX10_finishTwo 29 = .ok (.ifCond .eq 7, 3) := by decide +kernel
theorem dX10_finishTwo_32 : decode cX10_finishTwo 32 = .ok (.iconst 1, 1) := by decide +kernel
theorem dX10_finishTwo_33 : decode cX10_finishTwo 33 = .ok (.goto 4, 3) := by decide +kernel
theorem dX10_finishTwo_36 : decode cX10_finishTwo 36 = .ok (.iconst 0, 1) := by decide +kernel
theorem dX10_finishTwo_37 : decode cX10_finishTwo 37 = .ok (.invokevirtual 197, 3) := by decide +kernel
theorem dX10_finishTwo_40 : decode cX10_finishTwo 40 = .ok (.goto 32, 3) := by decide +kernel
theorem dX10_finishTwo_43 : decode cX10_finishTwo 43 = .ok (.iload_n 2, 1) := by decide +kernel
theorem dX10_finishTwo_44 : decode cX10_finishTwo 44 = .ok (.iload_n 3, 1) := by decide +kernel
theorem dX10_finishTwo_45 : decode cX10_finishTwo 45 = .ok (.invokestatic 201, 3) := by decide +kernel
theorem dX10_finishTwo_48 : decode cX10_finishTwo 48 = .ok (.ifCond .eq 11, 3) := by decide +kernel
theorem dX10_finishTwo_51 : decode cX10_finishTwo 51 = .ok (.aload_n 0, 1) := by decide +kernel
theorem dX10_finishTwo_52 : decode cX10_finishTwo 52 = .ok (.iconst 2, 1) := by decide +kernel
theorem dX10_finishTwo_53 : decode cX10_finishTwo 53 = .ok (.putfield 68, 3) := by decide +kernel
theorem dX10_finishTwo_56 : decode cX10_finishTwo 56 = .ok (.goto 16, 3) := by decide +kernel
theorem dX10_finishTwo_59 : decode cX10_finishTwo 59 = .ok (.aload_n 0, 1) := by decide +kernel
theorem dX10_finishTwo_60 : decode cX10_finishTwo 60 = .ok (.iload_n 2, 1) := by decide +kernel
theorem dX10_finishTwo_61 : decode cX10_finishTwo 61 = .ok (.aload_n 0, 1) := by decide +kernel
theorem dX10_finishTwo_62 : decode cX10_finishTwo 62 = .ok (.invokevirtual 88, 3) := by decide +kernel
theorem dX10_finishTwo_65 : decode cX10_finishTwo 65 = .ok (.iload_n 3, 1) := by decide +kernel
theorem dX10_finishTwo_66 : decode cX10_finishTwo 66 = .ok (.invokestatic 205, 3) := by decide +kernel
theorem dX10_finishTwo_69 : decode cX10_finishTwo 69 = .ok (.invokevirtual 105, 3) := by decide +kernel
theorem dX10_finishTwo_72 : decode cX10_finishTwo 72 = .ok (.return_, 1) := by decide +kernel
theorem dX10_finishFirst_0 : decode cX10_finishFirst 0 = .ok (.aload_n 0, 1) := by decide +kernel
theorem dX10_finishFirst_1 : decode cX10_finishFirst 1 = .ok (.getfield 44, 3) := by decide +kernel
theorem dX10_finishFirst_4 : decode cX10_finishFirst 4 = .ok (.iload_n 1, 1) := by decide +kernel
theorem dX10_finishFirst_5 : decode cX10_finishFirst 5 = .ok (.invokevirtual 126, 3) := by decide +kernel
theorem dX10_finishFirst_8 : decode cX10_finishFirst 8 = .ok (.bipush 9, 2) := by decide +kernel
theorem dX10_finishFirst_10 : decode cX10_finishFirst 10 = .ok (.if_icmp .ne 7, 3) := by decide +kernel
theorem dX10_finishFirst_13 : decode cX10_finishFirst 13 = .ok (.iconst 1, 1) := by decide +kernel
theorem dX10_finishFirst_14 : decode cX10_finishFirst 14 = .ok (.goto 4, 3) := by decide +kernel
theorem dX10_finishFirst_17 : decode cX10_finishFirst 17 = .ok (.iconst 0, 1) := by decide +kernel
theorem dX10_finishFirst_18 : decode cX10_finishFirst 18 = .ok (.istore_n 3, 1) := by decide +kernel
theorem dX10_finishFirst_19 : decode cX10_finishFirst 19 = .ok (.iload_n 2, 1) := by decide +kernel
theorem dX10_finishFirst_20 : decode cX10_finishFirst 20 = .ok (.iload_n 3, 1) := by decide +kernel
theorem dX10_finishFirst_21 : decode cX10_finishFirst 21 = .ok (.if_icmp .ne 19, 3) := by decide +kernel
theorem dX10_finishFirst_24 : decode cX10_finishFirst 24 = .ok (.aload_n 0, 1) := by decide +kernel
theorem dX10_finishFirst_25 : decode cX10_finishFirst 25 = .ok (.iload_n 2, 1) := by decide +kernel
theorem dX10_finishFirst_26 : decode cX10_finishFirst 26 = .ok (.ifCond .eq 7, 3) := by decide +kernel
theorem dX10_finishFirst_29 : decode cX10_finishFirst 29 = .ok (.iconst 1, 1) := by decide +kernel
theorem dX10_finishFirst_30 : decode cX10_finishFirst 30 = .ok (.goto 4, 3) := by decide +kernel
theorem dX10_finishFirst_33 : decode cX10_finishFirst 33 = .ok (.iconst 0, 1) := by decide +kernel
theorem dX10_finishFirst_34 : decode cX10_finishFirst 34 = .ok (.invokevirtual 105, 3) := by decide +kernel
theorem dX10_finishFirst_37 : decode cX10_finishFirst 37 = .ok (.goto 22, 3) := by decide +kernel
theorem dX10_finishFirst_40 : decode cX10_finishFirst 40 = .ok (.aload_n 0, 1) := by decide +kernel
theorem dX10_finishFirst_41 : decode cX10_finishFirst 41 = .ok (.iconst 2, 1) := by decide +kernel
theorem dX10_finishFirst_42 : decode cX10_finishFirst 42 = .ok (.iload_n 1, 1) := by decide +kernel
theorem dX10_finishFirst_43 : decode cX10_finishFirst 43 = .ok (.invokevirtual 78, 3) := by decide +kernel
theorem dX10_finishFirst_46 : decode cX10_finishFirst 46 = .ok (.aload_n 0, 1) := by decide +kernel
theorem dX10_finishFirst_47 : decode cX10_finishFirst 47 = .ok (.iconst 0, 1) := by decide +kernel
theorem dX10_finishFirst_48 : decode cX10_finishFirst 48 = .ok (.aload_n 0, 1) := by decide +kernel
theorem dX10_finishFirst_49 : decode cX10_finishFirst 49 = .ok (.getfield 44, 3) := by decide +kernel
theorem dX10_finishFirst_52 : decode cX10_finishFirst 52 = .ok (.iload_n 1, 1) := by decide +kernel
theorem dX10_finishFirst_53 : decode cX10_finishFirst 53 = .ok (.invokevirtual 160, 3) := by decide +kernel
theorem dX10_finishFirst_56 : decode cX10_finishFirst 56 = .ok (.invokevirtual 78, 3) := by decide +kernel
theorem dX10_finishFirst_59 : decode cX10_finishFirst 59 = .ok (.return_, 1) := by decide +kernel
theorem dX10_finishChoice_0 : decode cX10_finishChoice 0 = .ok (.aload_n 0, 1) := by decide +kernel
theorem dX10_finishChoice_1 : decode cX10_finishChoice 1 = .ok (.invokevirtual 88, 3) := by decide +kernel
theorem dX10_finishChoice_4 : decode cX10_finishChoice 4 = .ok (.ifCond .eq 14, 3) := by decide +kernel
theorem dX10_finishChoice_7 : decode cX10_finishChoice 7 = .ok (.aload_n 0, 1) := by decide +kernel
theorem dX10_finishChoice_8 : decode cX10_finishChoice 8 = .ok (.getfield 44, 3) := by decide +kernel
theorem dX10_finishChoice_11 : decode cX10_finishChoice 11 = .ok (.iload_n 1, 1) := by decide +kernel
theorem dX10_finishChoice_12 : decode cX10_finishChoice 12 = .ok (.invokevirtual 160, 3) := by decide +kernel
theorem dX10_finishChoice_15 : decode cX10_finishChoice 15 = .ok (.goto 11, 3) := by decide +kernel
theorem dX10_finishChoice_18 : decode cX10_finishChoice 18 = .ok (.aload_n 0, 1) := by decide +kernel
theorem dX10_finishChoice_19 : decode cX10_finishChoice 19 = .ok (.getfield 44, 3) := by decide +kernel
theorem dX10_finishChoice_22 : decode cX10_finishChoice 22 = .ok (.iload_n 1, 1) := by decide +kernel
theorem dX10_finishChoice_23 : decode cX10_finishChoice 23 = .ok (.invokevirtual 147, 3) := by decide +kernel
theorem dX10_finishChoice_26 : decode cX10_finishChoice 26 = .ok (.istore_n 2, 1) := by decide +kernel
theorem dX10_finishChoice_27 : decode cX10_finishChoice 27 = .ok (.aload_n 0, 1) := by decide +kernel
theorem dX10_finishChoice_28 : decode cX10_finishChoice 28 = .ok (.getfield 44, 3) := by decide +kernel
theorem dX10_finishChoice_31 : decode cX10_finishChoice 31 = .ok (.iload_n 2, 1) := by decide +kernel
theorem dX10_finishChoice_32 : decode cX10_finishChoice 32 = .ok (.invokevirtual 163, 3) := by decide +kernel
theorem dX10_finishChoice_35 : decode cX10_finishChoice 35 = .ok (.ifCond .eq 9, 3) := by decide +kernel
theorem dX10_finishChoice_38 : decode cX10_finishChoice 38 = .ok (.aload_n 0, 1) := by decide +kernel
theorem dX10_finishChoice_39 : decode cX10_finishChoice 39 = .ok (.iconst 0, 1) := by decide +kernel
theorem dX10_finishChoice_40 : decode cX10_finishChoice 40 = .ok (.iload_n 2, 1) := by decide +kernel
theorem dX10_finishChoice_41 : decode cX10_finishChoice 41 = .ok (.invokevirtual 78, 3) := by decide +kernel
theorem dX10_finishChoice_44 : decode cX10_finishChoice 44 = .ok (.return_, 1) := by decide +kernel
theorem dX10_finishLoop_0 : decode cX10_finishLoop 0 = .ok (.aload_n 0, 1) := by decide +kernel
theorem dX10_finishLoop_1 : decode cX10_finishLoop 1 = .ok (.invokevirtual 88, 3) := by decide +kernel
theorem dX10_finishLoop_4 : decode cX10_finishLoop 4 = .ok (.ifCond .eq 22, 3) := by decide +kernel
theorem dX10_finishLoop_7 : decode cX10_finishLoop 7 = .ok (.aload_n 0, 1) := by decide +kernel
theorem dX10_finishLoop_8 : decode cX10_finishLoop 8 = .ok (.iconst 0, 1) := by decide +kernel
theorem dX10_finishLoop_9 : decode cX10_finishLoop 9 = .ok (.iload_n 1, 1) := by decide +kernel
theorem dX10_finishLoop_10 : decode cX10_finishLoop 10 = .ok (.invokevirtual 78, 3) := by decide +kernel
theorem dX10_finishLoop_13 : decode cX10_finishLoop 13 = .ok (.aload_n 0, 1) := by decide +kernel
theorem dX10_finishLoop_14 : decode cX10_finishLoop 14 = .ok (.iconst 0, 1) := by decide +kernel
theorem dX10_finishLoop_15 : decode cX10_finishLoop 15 = .ok (.aload_n 0, 1) := by decide +kernel
theorem dX10_finishLoop_16 : decode cX10_finishLoop 16 = .ok (.getfield 44, 3) := by decide +kernel
theorem dX10_finishLoop_19 : decode cX10_finishLoop 19 = .ok (.iload_n 1, 1) := by decide +kernel
theorem dX10_finishLoop_20 : decode cX10_finishLoop 20 = .ok (.invokevirtual 160, 3) := by decide +kernel
theorem dX10_finishLoop_23 : decode cX10_finishLoop 23 = .ok (.invokevirtual 78, 3) := by decide +kernel
theorem dX10_finishLoop_26 : decode cX10_finishLoop 26 = .ok (.return_, 1) := by decide +kernel
theorem dX10_finishReturn_0 : decode cX10_finishReturn 0 = .ok (.aload_n 0, 1) := by decide +kernel
theorem dX10_finishReturn_1 : decode cX10_finishReturn 1 = .ok (.getfield 59, 3) := by decide +kernel
theorem dX10_finishReturn_4 : decode cX10_finishReturn 4 = .ok (.iconst 1, 1) := by decide +kernel
theorem dX10_finishReturn_5 : decode cX10_finishReturn 5 = .ok (.isub, 1) := by decide +kernel
theorem dX10_finishReturn_6 : decode cX10_finishReturn 6 = .ok (.istore_n 1, 1) := by decide +kernel
theorem dX10_finishReturn_7 : decode cX10_finishReturn 7 = .ok (.iload_n 1, 1) := by decide +kernel
theorem dX10_finishReturn_8 : decode cX10_finishReturn 8 = .ok (.ifCond .lt 37, 3) := by decide +kernel
theorem dX10_finishReturn_11 : decode cX10_finishReturn 11 = .ok (.iload_n 1, 1) := by decide +kernel
theorem dX10_finishReturn_12 : decode cX10_finishReturn 12 = .ok (.aload_n 0, 1) := by decide +kernel
theorem dX10_finishReturn_13 : decode cX10_finishReturn 13 = .ok (.getfield 23, 3) := by decide +kernel
theorem dX10_finishReturn_16 : decode cX10_finishReturn 16 = .ok (.arraylength, 1) := by decide +kernel
theorem dX10_finishReturn_17 : decode cX10_finishReturn 17 = .ok (.if_icmp .ge 28, 3) := by decide +kernel
theorem dX10_finishReturn_20 : decode cX10_finishReturn 20 = .ok (.aload_n 0, 1) := by decide +kernel
theorem dX10_finishReturn_21 : decode cX10_finishReturn 21 = .ok (.iload_n 1, 1) := by decide +kernel
theorem dX10_finishReturn_22 : decode cX10_finishReturn 22 = .ok (.putfield 59, 3) := by decide +kernel
theorem dX10_finishReturn_25 : decode cX10_finishReturn 25 = .ok (.aload_n 0, 1) := by decide +kernel
theorem dX10_finishReturn_26 : decode cX10_finishReturn 26 = .ok (.getfield 23, 3) := by decide +kernel
theorem dX10_finishReturn_29 : decode cX10_finishReturn 29 = .ok (.iload_n 1, 1) := by decide +kernel
theorem dX10_finishReturn_30 : decode cX10_finishReturn 30 = .ok (.iaload, 1) := by decide +kernel
theorem dX10_finishReturn_31 : decode cX10_finishReturn 31 = .ok (.bipush 6, 2) := by decide +kernel
theorem dX10_finishReturn_33 : decode cX10_finishReturn 33 = .ok (.if_icmp .ne 6, 3) := by decide +kernel
theorem dX10_finishReturn_36 : decode cX10_finishReturn 36 = .ok (.goto 9, 3) := by decide +kernel
theorem dX10_finishReturn_39 : decode cX10_finishReturn 39 = .ok (.iinc 1 (-1), 3) := by decide +kernel
theorem dX10_finishReturn_42 : decode cX10_finishReturn 42 = .ok (.goto (-35), 3) := by decide +kernel
theorem dX10_finishReturn_45 : decode cX10_finishReturn 45 = .ok (.aload_n 0, 1) := by decide +kernel
theorem dX10_finishReturn_46 : decode cX10_finishReturn 46 = .ok (.invokevirtual 117, 3) := by decide +kernel
theorem dX10_finishReturn_49 : decode cX10_finishReturn 49 = .ok (.return_, 1) := by decide +kernel
theorem dX10_enter_0 : decode cX10_enter 0 = .ok (.iconst 0, 1) := by decide +kernel
theorem dX10_enter_1 : decode cX10_enter 1 = .ok (.aload_n 0, 1) := by decide +kernel
theorem dX10_enter_2 : decode cX10_enter 2 = .ok (.getfield 44, 3) := by decide +kernel
theorem dX10_enter_5 : decode cX10_enter 5 = .ok (.iload_n 1, 1) := by decide +kernel
theorem dX10_enter_6 : decode cX10_enter 6 = .ok (.invokevirtual 126, 3) := by decide +kernel
theorem dX10_enter_9 : decode cX10_enter 9 = .ok (.invokestatic 209, 3) := by decide +kernel
theorem dX10_enter_12 : decode cX10_enter 12 = .ok (.istore_n 2, 1) := by decide +kernel
theorem dX10_enter_13 : decode cX10_enter 13 = .ok (.iload_n 2, 1) := by decide +kernel
theorem dX10_enter_14 : decode cX10_enter 14 = .ok (.iconst 0, 1) := by decide +kernel
theorem dX10_enter_15 : decode cX10_enter 15 = .ok (.aload_n 0, 1) := by decide +kernel
theorem dX10_enter_16 : decode cX10_enter 16 = .ok (.getfield 44, 3) := by decide +kernel
theorem dX10_enter_19 : decode cX10_enter 19 = .ok (.iload_n 1, 1) := by decide +kernel
theorem dX10_enter_20 : decode cX10_enter 20 = .ok (.invokevirtual 160, 3) := by decide +kernel
theorem dX10_enter_23 : decode cX10_enter 23 = .ok (.invokestatic 209, 3) := by decide +kernel
theorem dX10_enter_26 : decode cX10_enter 26 = .ok (.iadd, 1) := by decide +kernel
theorem dX10_enter_27 : decode cX10_enter 27 = .ok (.istore_n 3, 1) := by decide +kernel
theorem dX10_enter_28 : decode cX10_enter 28 = .ok (.iload_n 3, 1) := by decide +kernel
theorem dX10_enter_29 : decode cX10_enter 29 = .ok (.aload_n 0, 1) := by decide +kernel
theorem dX10_enter_30 : decode cX10_enter 30 = .ok (.getfield 32, 3) := by decide +kernel
theorem dX10_enter_33 : decode cX10_enter 33 = .ok (.arraylength, 1) := by decide +kernel
theorem dX10_enter_34 : decode cX10_enter 34 = .ok (.aload_n 0, 1) := by decide +kernel
theorem dX10_enter_35 : decode cX10_enter 35 = .ok (.getfield 65, 3) := by decide +kernel
theorem dX10_enter_38 : decode cX10_enter 38 = .ok (.isub, 1) := by decide +kernel
theorem dX10_enter_39 : decode cX10_enter 39 = .ok (.if_icmp .gt 15, 3) := by decide +kernel
theorem dX10_enter_42 : decode cX10_enter 42 = .ok (.aload_n 0, 1) := by decide +kernel
theorem dX10_enter_43 : decode cX10_enter 43 = .ok (.getfield 62, 3) := by decide +kernel
theorem dX10_enter_46 : decode cX10_enter 46 = .ok (.aload_n 0, 1) := by decide +kernel
theorem dX10_enter_47 : decode cX10_enter 47 = .ok (.getfield 35, 3) := by decide +kernel
theorem dX10_enter_50 : decode cX10_enter 50 = .ok (.arraylength, 1) := by decide +kernel
theorem dX10_enter_51 : decode cX10_enter 51 = .ok (.if_icmp .lt 9, 3) := by decide +kernel
theorem dX10_enter_54 : decode cX10_enter 54 = .ok (.aload_n 0, 1) := by decide +kernel
theorem dX10_enter_55 : decode cX10_enter 55 = .ok (.iconst 4, 1) := by decide +kernel
theorem dX10_enter_56 : decode cX10_enter 56 = .ok (.putfield 68, 3) := by decide +kernel
theorem dX10_enter_59 : decode cX10_enter 59 = .ok (.return_, 1) := by decide +kernel
theorem dX10_enter_60 : decode cX10_enter 60 = .ok (.iconst 0, 1) := by decide +kernel
theorem dX10_enter_61 : decode cX10_enter 61 = .ok (.istore 4, 2) := by decide +kernel
theorem dX10_enter_63 : decode cX10_enter 63 = .ok (.iload 4, 2) := by decide +kernel
theorem dX10_enter_65 : decode cX10_enter 65 = .ok (.iload_n 3, 1) := by decide +kernel
theorem dX10_enter_66 : decode cX10_enter 66 = .ok (.if_icmp .ge 21, 3) := by decide +kernel
theorem dX10_enter_69 : decode cX10_enter 69 = .ok (.aload_n 0, 1) := by decide +kernel
theorem dX10_enter_70 : decode cX10_enter 70 = .ok (.aload_n 0, 1) := by decide +kernel
theorem dX10_enter_71 : decode cX10_enter 71 = .ok (.getfield 65, 3) := by decide +kernel
theorem dX10_enter_74 : decode cX10_enter 74 = .ok (.iload 4, 2) := by decide +kernel
theorem dX10_enter_76 : decode cX10_enter 76 = .ok (.iadd, 1) := by decide +kernel
theorem dX10_enter_77 : decode cX10_enter 77 = .ok (.iconst 0, 1) := by decide +kernel
theorem dX10_enter_78 : decode cX10_enter 78 = .ok (.invokevirtual 214, 3) := by decide +kernel
theorem dX10_enter_81 : decode cX10_enter 81 = .ok (.iinc 4 1, 3) := by decide +kernel
theorem dX10_enter_84 : decode cX10_enter 84 = .ok (.goto (-21), 3) := by decide +kernel
theorem dX10_enter_87 : decode cX10_enter 87 = .ok (.iload_n 2, 1) := by decide +kernel
theorem dX10_enter_88 : decode cX10_enter 88 = .ok (.iconst 1, 1) := by decide +kernel
theorem dX10_enter_89 : decode cX10_enter 89 = .ok (.isub, 1) := by decide +kernel
theorem dX10_enter_90 : decode cX10_enter 90 = .ok (.istore 4, 2) := by decide +kernel
theorem dX10_enter_92 : decode cX10_enter 92 = .ok (.iload 4, 2) := by decide +kernel
theorem dX10_enter_94 : decode cX10_enter 94 = .ok (.ifCond .lt 24, 3) := by decide +kernel
theorem dX10_enter_97 : decode cX10_enter 97 = .ok (.aload_n 0, 1) := by decide +kernel
theorem dX10_enter_98 : decode cX10_enter 98 = .ok (.aload_n 0, 1) := by decide +kernel
theorem dX10_enter_99 : decode cX10_enter 99 = .ok (.getfield 65, 3) := by decide +kernel
theorem dX10_enter_102 : decode cX10_enter 102 = .ok (.iload 4, 2) := by decide +kernel
theorem dX10_enter_104 : decode cX10_enter 104 = .ok (.iadd, 1) := by decide +kernel
theorem dX10_enter_105 : decode cX10_enter 105 = .ok (.aload_n 0, 1) := by decide +kernel
theorem dX10_enter_106 : decode cX10_enter 106 = .ok (.invokevirtual 88, 3) := by decide +kernel
theorem dX10_enter_109 : decode cX10_enter 109 = .ok (.invokevirtual 214, 3) := by decide +kernel
theorem dX10_enter_112 : decode cX10_enter 112 = .ok (.iinc 4 (-1), 3) := by decide +kernel
theorem dX10_enter_115 : decode cX10_enter 115 = .ok (.goto (-23), 3) := by decide +kernel
theorem dX10_enter_118 : decode cX10_enter 118 = .ok (.aload_n 0, 1) := by decide +kernel
theorem dX10_enter_119 : decode cX10_enter 119 = .ok (.iload_n 3, 1) := by decide +kernel
theorem dX10_enter_120 : decode cX10_enter 120 = .ok (.invokevirtual 217, 3) := by decide +kernel
theorem dX10_enter_123 : decode cX10_enter 123 = .ok (.aload_n 0, 1) := by decide +kernel
theorem dX10_enter_124 : decode cX10_enter 124 = .ok (.bipush 6, 2) := by decide +kernel
theorem dX10_enter_126 : decode cX10_enter 126 = .ok (.iload_n 1, 1) := by decide +kernel
theorem dX10_enter_127 : decode cX10_enter 127 = .ok (.invokevirtual 78, 3) := by decide +kernel
theorem dX10_enter_130 : decode cX10_enter 130 = .ok (.aload_n 0, 1) := by decide +kernel
theorem dX10_enter_131 : decode cX10_enter 131 = .ok (.iconst 4, 1) := by decide +kernel
theorem dX10_enter_132 : decode cX10_enter 132 = .ok (.iload_n 1, 1) := by decide +kernel
theorem dX10_enter_133 : decode cX10_enter 133 = .ok (.invokevirtual 78, 3) := by decide +kernel
theorem dX10_enter_136 : decode cX10_enter 136 = .ok (.return_, 1) := by decide +kernel
theorem dX10_openFrame_0 : decode cX10_openFrame 0 = .ok (.aload_n 0, 1) := by decide +kernel
theorem dX10_openFrame_1 : decode cX10_openFrame 1 = .ok (.getfield 62, 3) := by decide +kernel
theorem dX10_openFrame_4 : decode cX10_openFrame 4 = .ok (.ifCond .lt 48, 3) := by decide +kernel
theorem dX10_openFrame_7 : decode cX10_openFrame 7 = .ok (.aload_n 0, 1) := by decide +kernel
theorem dX10_openFrame_8 : decode cX10_openFrame 8 = .ok (.getfield 62, 3) := by decide +kernel
theorem dX10_openFrame_11 : decode cX10_openFrame 11 = .ok (.aload_n 0, 1) := by decide +kernel
theorem dX10_openFrame_12 : decode cX10_openFrame 12 = .ok (.getfield 35, 3) := by decide +kernel
theorem dX10_openFrame_15 : decode cX10_openFrame 15 = .ok (.arraylength, 1) := by decide +kernel
theorem dX10_openFrame_16 : decode cX10_openFrame 16 = .ok (.if_icmp .ge 36, 3) := by decide +kernel
theorem dX10_openFrame_19 : decode cX10_openFrame 19 = .ok (.aload_n 0, 1) := by decide +kernel
theorem dX10_openFrame_20 : decode cX10_openFrame 20 = .ok (.getfield 35, 3) := by decide +kernel
theorem dX10_openFrame_23 : decode cX10_openFrame 23 = .ok (.aload_n 0, 1) := by decide +kernel
theorem dX10_openFrame_24 : decode cX10_openFrame 24 = .ok (.getfield 62, 3) := by decide +kernel
theorem dX10_openFrame_27 : decode cX10_openFrame 27 = .ok (.aload_n 0, 1) := by decide +kernel
theorem dX10_openFrame_28 : decode cX10_openFrame 28 = .ok (.getfield 65, 3) := by decide +kernel
theorem dX10_openFrame_31 : decode cX10_openFrame 31 = .ok (.iastore, 1) := by decide +kernel
theorem dX10_openFrame_32 : decode cX10_openFrame 32 = .ok (.aload_n 0, 1) := by decide +kernel
theorem dX10_openFrame_33 : decode cX10_openFrame 33 = .ok (.dup, 1) := by decide +kernel
theorem dX10_openFrame_34 : decode cX10_openFrame 34 = .ok (.getfield 62, 3) := by decide +kernel
theorem dX10_openFrame_37 : decode cX10_openFrame 37 = .ok (.iconst 1, 1) := by decide +kernel
theorem dX10_openFrame_38 : decode cX10_openFrame 38 = .ok (.iadd, 1) := by decide +kernel
theorem dX10_openFrame_39 : decode cX10_openFrame 39 = .ok (.putfield 62, 3) := by decide +kernel
theorem dX10_openFrame_42 : decode cX10_openFrame 42 = .ok (.aload_n 0, 1) := by decide +kernel
theorem dX10_openFrame_43 : decode cX10_openFrame 43 = .ok (.dup, 1) := by decide +kernel
theorem dX10_openFrame_44 : decode cX10_openFrame 44 = .ok (.getfield 65, 3) := by decide +kernel
theorem dX10_openFrame_47 : decode cX10_openFrame 47 = .ok (.iload_n 1, 1) := by decide +kernel
theorem dX10_openFrame_48 : decode cX10_openFrame 48 = .ok (.iadd, 1) := by decide +kernel
theorem dX10_openFrame_49 : decode cX10_openFrame 49 = .ok (.putfield 65, 3) := by decide +kernel
theorem dX10_openFrame_52 : decode cX10_openFrame 52 = .ok (.return_, 1) := by decide +kernel
theorem dX10_dropFrame_0 : decode cX10_dropFrame 0 = .ok (.aload_n 0, 1) := by decide +kernel
theorem dX10_dropFrame_1 : decode cX10_dropFrame 1 = .ok (.getfield 62, 3) := by decide +kernel
theorem dX10_dropFrame_4 : decode cX10_dropFrame 4 = .ok (.ifCond .le 38, 3) := by decide +kernel
theorem dX10_dropFrame_7 : decode cX10_dropFrame 7 = .ok (.aload_n 0, 1) := by decide +kernel
theorem dX10_dropFrame_8 : decode cX10_dropFrame 8 = .ok (.getfield 62, 3) := by decide +kernel
theorem dX10_dropFrame_11 : decode cX10_dropFrame 11 = .ok (.aload_n 0, 1) := by decide +kernel
theorem dX10_dropFrame_12 : decode cX10_dropFrame 12 = .ok (.getfield 35, 3) := by decide +kernel
theorem dX10_dropFrame_15 : decode cX10_dropFrame 15 = .ok (.arraylength, 1) := by decide +kernel
theorem dX10_dropFrame_16 : decode cX10_dropFrame 16 = .ok (.if_icmp .gt 26, 3) := by decide +kernel
theorem dX10_dropFrame_19 : decode cX10_dropFrame 19 = .ok (.aload_n 0, 1) := by decide +kernel
theorem dX10_dropFrame_20 : decode cX10_dropFrame 20 = .ok (.dup, 1) := by decide +kernel
theorem dX10_dropFrame_21 : decode cX10_dropFrame 21 = .ok (.getfield 62, 3) := by decide +kernel
theorem dX10_dropFrame_24 : decode cX10_dropFrame 24 = .ok (.iconst 1, 1) := by decide +kernel
theorem dX10_dropFrame_25 : decode cX10_dropFrame 25 = .ok (.isub, 1) := by decide +kernel
theorem dX10_dropFrame_26 : decode cX10_dropFrame 26 = .ok (.putfield 62, 3) := by decide +kernel
theorem dX10_dropFrame_29 : decode cX10_dropFrame 29 = .ok (.aload_n 0, 1) := by decide +kernel
theorem dX10_dropFrame_30 : decode cX10_dropFrame 30 = .ok (.aload_n 0, 1) := by decide +kernel
theorem dX10_dropFrame_31 : decode cX10_dropFrame 31 = .ok (.getfield 35, 3) := by decide +kernel
theorem dX10_dropFrame_34 : decode cX10_dropFrame 34 = .ok (.aload_n 0, 1) := by decide +kernel
theorem dX10_dropFrame_35 : decode cX10_dropFrame 35 = .ok (.getfield 62, 3) := by decide +kernel
theorem dX10_dropFrame_38 : decode cX10_dropFrame 38 = .ok (.iaload, 1) := by decide +kernel
theorem dX10_dropFrame_39 : decode cX10_dropFrame 39 = .ok (.putfield 65, 3) := by decide +kernel
theorem dX10_dropFrame_42 : decode cX10_dropFrame 42 = .ok (.return_, 1) := by decide +kernel
theorem dX10_setFrameCell_0 : decode cX10_setFrameCell 0 = .ok (.iload_n 1, 1) := by decide +kernel
theorem dX10_setFrameCell_1 : decode cX10_setFrameCell 1 = .ok (.ifCond .lt 19, 3) := by decide +kernel
theorem dX10_setFrameCell_4 : decode cX10_setFrameCell 4 = .ok (.iload_n 1, 1) := by decide +kernel
theorem dX10_setFrameCell_5 : decode cX10_setFrameCell 5 = .ok (.aload_n 0, 1) := by decide +kernel
theorem dX10_setFrameCell_6 : decode cX10_setFrameCell 6 = .ok (.getfield 32, 3) := by decide +kernel
theorem dX10_setFrameCell_9 : decode cX10_setFrameCell 9 = .ok (.arraylength, 1) := by decide +kernel
theorem dX10_setFrameCell_10 : decode cX10_setFrameCell 10 = .ok (.if_icmp .ge 10, 3) := by decide +kernel
theorem dX10_setFrameCell_13 : decode cX10_setFrameCell 13 = .ok (.aload_n 0, 1) := by decide +kernel
theorem dX10_setFrameCell_14 : decode cX10_setFrameCell 14 = .ok (.getfield 32, 3) := by decide +kernel
theorem dX10_setFrameCell_17 : decode cX10_setFrameCell 17 = .ok (.iload_n 1, 1) := by decide +kernel
theorem dX10_setFrameCell_18 : decode cX10_setFrameCell 18 = .ok (.iload_n 2, 1) := by decide +kernel
theorem dX10_setFrameCell_19 : decode cX10_setFrameCell 19 = .ok (.iastore, 1) := by decide +kernel
theorem dX10_setFrameCell_20 : decode cX10_setFrameCell 20 = .ok (.return_, 1) := by decide +kernel
theorem dX10_cellOf_0 : decode cX10_cellOf 0 = .ok (.aload_n 0, 1) := by decide +kernel
theorem dX10_cellOf_1 : decode cX10_cellOf 1 = .ok (.getfield 62, 3) := by decide +kernel
theorem dX10_cellOf_4 : decode cX10_cellOf 4 = .ok (.ifCond .le 15, 3) := by decide +kernel
theorem dX10_cellOf_7 : decode cX10_cellOf 7 = .ok (.aload_n 0, 1) := by decide +kernel
theorem dX10_cellOf_8 : decode cX10_cellOf 8 = .ok (.getfield 62, 3) := by decide +kernel
theorem dX10_cellOf_11 : decode cX10_cellOf 11 = .ok (.aload_n 0, 1) := by decide +kernel
theorem dX10_cellOf_12 : decode cX10_cellOf 12 = .ok (.getfield 35, 3) := by decide +kernel
theorem dX10_cellOf_15 : decode cX10_cellOf 15 = .ok (.arraylength, 1) := by decide +kernel
theorem dX10_cellOf_16 : decode cX10_cellOf 16 = .ok (.if_icmp .le 5, 3) := by decide +kernel
theorem dX10_cellOf_19 : decode cX10_cellOf 19 = .ok (.iconst (-1), 1) := by decide +kernel
theorem dX10_cellOf_20 : decode cX10_cellOf 20 = .ok (.ireturn, 1) := by decide +kernel
theorem dX10_cellOf_21 : decode cX10_cellOf 21 = .ok (.aload_n 0, 1) := by decide +kernel
theorem dX10_cellOf_22 : decode cX10_cellOf 22 = .ok (.getfield 35, 3) := by decide +kernel
theorem dX10_cellOf_25 : decode cX10_cellOf 25 = .ok (.aload_n 0, 1) := by decide +kernel
theorem dX10_cellOf_26 : decode cX10_cellOf 26 = .ok (.getfield 62, 3) := by decide +kernel
theorem dX10_cellOf_29 : decode cX10_cellOf 29 = .ok (.iconst 1, 1) := by decide +kernel
theorem dX10_cellOf_30 : decode cX10_cellOf 30 = .ok (.isub, 1) := by decide +kernel
theorem dX10_cellOf_31 : decode cX10_cellOf 31 = .ok (.iaload, 1) := by decide +kernel
theorem dX10_cellOf_32 : decode cX10_cellOf 32 = .ok (.iload_n 1, 1) := by decide +kernel
theorem dX10_cellOf_33 : decode cX10_cellOf 33 = .ok (.iadd, 1) := by decide +kernel
theorem dX10_cellOf_34 : decode cX10_cellOf 34 = .ok (.ireturn, 1) := by decide +kernel
theorem dX10_localAt_0 : decode cX10_localAt 0 = .ok (.aload_n 0, 1) := by decide +kernel
theorem dX10_localAt_1 : decode cX10_localAt 1 = .ok (.iload_n 1, 1) := by decide +kernel
theorem dX10_localAt_2 : decode cX10_localAt 2 = .ok (.invokevirtual 220, 3) := by decide +kernel
theorem dX10_localAt_5 : decode cX10_localAt 5 = .ok (.istore_n 2, 1) := by decide +kernel
theorem dX10_localAt_6 : decode cX10_localAt 6 = .ok (.iload_n 2, 1) := by decide +kernel
theorem dX10_localAt_7 : decode cX10_localAt 7 = .ok (.ifCond .lt 21, 3) := by decide +kernel
theorem dX10_localAt_10 : decode cX10_localAt 10 = .ok (.iload_n 2, 1) := by decide +kernel
theorem dX10_localAt_11 : decode cX10_localAt 11 = .ok (.aload_n 0, 1) := by decide +kernel
theorem dX10_localAt_12 : decode cX10_localAt 12 = .ok (.getfield 32, 3) := by decide +kernel
theorem dX10_localAt_15 : decode cX10_localAt 15 = .ok (.arraylength, 1) := by decide +kernel
theorem dX10_localAt_16 : decode cX10_localAt 16 = .ok (.if_icmp .ge 12, 3) := by decide +kernel
theorem dX10_localAt_19 : decode cX10_localAt 19 = .ok (.aload_n 0, 1) := by decide +kernel
theorem dX10_localAt_20 : decode cX10_localAt 20 = .ok (.getfield 32, 3) := by decide +kernel
theorem dX10_localAt_23 : decode cX10_localAt 23 = .ok (.iload_n 2, 1) := by decide +kernel
theorem dX10_localAt_24 : decode cX10_localAt 24 = .ok (.iaload, 1) := by decide +kernel
theorem dX10_localAt_25 : decode cX10_localAt 25 = .ok (.goto 4, 3) := by decide +kernel
theorem dX10_localAt_28 : decode cX10_localAt 28 = .ok (.iconst 0, 1) := by decide +kernel
theorem dX10_localAt_29 : decode cX10_localAt 29 = .ok (.ireturn, 1) := by decide +kernel
theorem dX10_setLocal_0 : decode cX10_setLocal 0 = .ok (.aload_n 0, 1) := by decide +kernel
theorem dX10_setLocal_1 : decode cX10_setLocal 1 = .ok (.aload_n 0, 1) := by decide +kernel
theorem dX10_setLocal_2 : decode cX10_setLocal 2 = .ok (.iload_n 1, 1) := by decide +kernel
theorem dX10_setLocal_3 : decode cX10_setLocal 3 = .ok (.invokevirtual 220, 3) := by decide +kernel
theorem dX10_setLocal_6 : decode cX10_setLocal 6 = .ok (.iload_n 2, 1) := by decide +kernel
theorem dX10_setLocal_7 : decode cX10_setLocal 7 = .ok (.invokevirtual 214, 3) := by decide +kernel
theorem dX10_setLocal_10 : decode cX10_setLocal 10 = .ok (.return_, 1) := by decide +kernel
theorem dX10_globalAt_0 : decode cX10_globalAt 0 = .ok (.iload_n 1, 1) := by decide +kernel
theorem dX10_globalAt_1 : decode cX10_globalAt 1 = .ok (.ifCond .lt 21, 3) := by decide +kernel
theorem dX10_globalAt_4 : decode cX10_globalAt 4 = .ok (.iload_n 1, 1) := by decide +kernel
theorem dX10_globalAt_5 : decode cX10_globalAt 5 = .ok (.aload_n 0, 1) := by decide +kernel
theorem dX10_globalAt_6 : decode cX10_globalAt 6 = .ok (.getfield 29, 3) := by decide +kernel
theorem dX10_globalAt_9 : decode cX10_globalAt 9 = .ok (.arraylength, 1) := by decide +kernel
theorem dX10_globalAt_10 : decode cX10_globalAt 10 = .ok (.if_icmp .ge 12, 3) := by decide +kernel
theorem dX10_globalAt_13 : decode cX10_globalAt 13 = .ok (.aload_n 0, 1) := by decide +kernel
theorem dX10_globalAt_14 : decode cX10_globalAt 14 = .ok (.getfield 29, 3) := by decide +kernel
theorem dX10_globalAt_17 : decode cX10_globalAt 17 = .ok (.iload_n 1, 1) := by decide +kernel
theorem dX10_globalAt_18 : decode cX10_globalAt 18 = .ok (.iaload, 1) := by decide +kernel
theorem dX10_globalAt_19 : decode cX10_globalAt 19 = .ok (.goto 4, 3) := by decide +kernel
theorem dX10_globalAt_22 : decode cX10_globalAt 22 = .ok (.iconst 0, 1) := by decide +kernel
theorem dX10_globalAt_23 : decode cX10_globalAt 23 = .ok (.ireturn, 1) := by decide +kernel
theorem dX10_setGlobal_0 : decode cX10_setGlobal 0 = .ok (.iload_n 1, 1) := by decide +kernel
theorem dX10_setGlobal_1 : decode cX10_setGlobal 1 = .ok (.ifCond .lt 19, 3) := by decide +kernel
theorem dX10_setGlobal_4 : decode cX10_setGlobal 4 = .ok (.iload_n 1, 1) := by decide +kernel
theorem dX10_setGlobal_5 : decode cX10_setGlobal 5 = .ok (.aload_n 0, 1) := by decide +kernel
theorem dX10_setGlobal_6 : decode cX10_setGlobal 6 = .ok (.getfield 29, 3) := by decide +kernel
theorem dX10_setGlobal_9 : decode cX10_setGlobal 9 = .ok (.arraylength, 1) := by decide +kernel
theorem dX10_setGlobal_10 : decode cX10_setGlobal 10 = .ok (.if_icmp .ge 10, 3) := by decide +kernel
theorem dX10_setGlobal_13 : decode cX10_setGlobal 13 = .ok (.aload_n 0, 1) := by decide +kernel
theorem dX10_setGlobal_14 : decode cX10_setGlobal 14 = .ok (.getfield 29, 3) := by decide +kernel
theorem dX10_setGlobal_17 : decode cX10_setGlobal 17 = .ok (.iload_n 1, 1) := by decide +kernel
theorem dX10_setGlobal_18 : decode cX10_setGlobal 18 = .ok (.iload_n 2, 1) := by decide +kernel
theorem dX10_setGlobal_19 : decode cX10_setGlobal 19 = .ok (.iastore, 1) := by decide +kernel
theorem dX10_setGlobal_20 : decode cX10_setGlobal 20 = .ok (.return_, 1) := by decide +kernel
theorem dX11_init_0 : decode cX11_init 0 = .ok (.aload_n 0, 1) := by decide +kernel
theorem dX11_init_1 : decode cX11_init 1 = .ok (.invokespecial 1, 3) := by decide +kernel
theorem dX11_init_4 : decode cX11_init 4 = .ok (.iload_n 1, 1) := by decide +kernel
theorem dX11_init_5 : decode cX11_init 5 = .ok (.invokestatic 7, 3) := by decide +kernel
theorem dX11_init_8 : decode cX11_init 8 = .ok (.istore 6, 2) := by decide +kernel
theorem dX11_init_10 : decode cX11_init 10 = .ok (.iload 4, 2) := by decide +kernel
theorem dX11_init_12 : decode cX11_init 12 = .ok (.invokestatic 7, 3) := by decide +kernel
theorem dX11_init_15 : decode cX11_init 15 = .ok (.istore 7, 2) := by decide +kernel
theorem dX11_init_17 : decode cX11_init 17 = .ok (.aload_n 0, 1) := by decide +kernel
theorem dX11_init_18 : decode cX11_init 18 = .ok (.new 13, 3) := by decide +kernel
theorem dX11_init_21 : decode cX11_init 21 = .ok (.dup, 1) := by decide +kernel
theorem dX11_init_22 : decode cX11_init 22 = .ok (.iload 6, 2) := by decide +kernel
theorem dX11_init_24 : decode cX11_init 24 = .ok (.invokespecial 15, 3) := by decide +kernel
theorem dX11_init_27 : decode cX11_init 27 = .ok (.putfield 18, 3) := by decide +kernel
theorem dX11_init_30 : decode cX11_init 30 = .ok (.aload_n 0, 1) := by decide +kernel
theorem dX11_init_31 : decode cX11_init 31 = .ok (.new 22, 3) := by decide +kernel
theorem dX11_init_34 : decode cX11_init 34 = .ok (.dup, 1) := by decide +kernel
theorem dX11_init_35 : decode cX11_init 35 = .ok (.new 24, 3) := by decide +kernel
theorem dX11_init_38 : decode cX11_init 38 = .ok (.dup, 1) := by decide +kernel
theorem dX11_init_39 : decode cX11_init 39 = .ok (.aload_n 0, 1) := by decide +kernel
theorem dX11_init_40 : decode cX11_init 40 = .ok (.getfield 18, 3) := by decide +kernel
theorem dX11_init_43 : decode cX11_init 43 = .ok (.new 26, 3) := by decide +kernel
theorem dX11_init_46 : decode cX11_init 46 = .ok (.dup, 1) := by decide +kernel
theorem dX11_init_47 : decode cX11_init 47 = .ok (.iload 6, 2) := by decide +kernel
theorem dX11_init_49 : decode cX11_init 49 = .ok (.invokespecial 28, 3) := by decide +kernel
theorem dX11_init_52 : decode cX11_init 52 = .ok (.iload_n 2, 1) := by decide +kernel
theorem dX11_init_53 : decode cX11_init 53 = .ok (.invokestatic 7, 3) := by decide +kernel
theorem dX11_init_56 : decode cX11_init 56 = .ok (.invokespecial 29, 3) := by decide +kernel
theorem dX11_init_59 : decode cX11_init 59 = .ok (.invokespecial 32, 3) := by decide +kernel
theorem dX11_init_62 : decode cX11_init 62 = .ok (.putfield 35, 3) := by decide +kernel
theorem dX11_init_65 : decode cX11_init 65 = .ok (.aload_n 0, 1) := by decide +kernel
theorem dX11_init_66 : decode cX11_init 66 = .ok (.new 39, 3) := by decide +kernel
theorem dX11_init_69 : decode cX11_init 69 = .ok (.dup, 1) := by decide +kernel
theorem dX11_init_70 : decode cX11_init 70 = .ok (.iload 6, 2) := by decide +kernel
theorem dX11_init_72 : decode cX11_init 72 = .ok (.iload_n 3, 1) := by decide +kernel
theorem dX11_init_73 : decode cX11_init 73 = .ok (.invokestatic 7, 3) := by decide +kernel
theorem dX11_init_76 : decode cX11_init 76 = .ok (.invokespecial 41, 3) := by decide +kernel
theorem dX11_init_79 : decode cX11_init 79 = .ok (.putfield 44, 3) := by decide +kernel
theorem dX11_init_82 : decode cX11_init 82 = .ok (.aload_n 0, 1) := by decide +kernel
theorem dX11_init_83 : decode cX11_init 83 = .ok (.new 39, 3) := by decide +kernel
theorem dX11_init_86 : decode cX11_init 86 = .ok (.dup, 1) := by decide +kernel
theorem dX11_init_87 : decode cX11_init 87 = .ok (.iload 6, 2) := by decide +kernel
theorem dX11_init_89 : decode cX11_init 89 = .ok (.iload_n 3, 1) := by decide +kernel
theorem dX11_init_90 : decode cX11_init 90 = .ok (.invokestatic 7, 3) := by decide +kernel
theorem dX11_init_93 : decode cX11_init 93 = .ok (.invokespecial 41, 3) := by decide +kernel
theorem dX11_init_96 : decode cX11_init 96 = .ok (.putfield 48, 3) := by decide +kernel
theorem dX11_init_99 : decode cX11_init 99 = .ok (.aload_n 0, 1) := by decide +kernel
theorem dX11_init_100 : decode cX11_init 100 = .ok (.new 51, 3) := by decide +kernel
theorem dX11_init_103 : decode cX11_init 103 = .ok (.dup, 1) := by decide +kernel
theorem dX11_init_104 : decode cX11_init 104 = .ok (.iload 5, 2) := by decide +kernel
theorem dX11_init_106 : decode cX11_init 106 = .ok (.invokestatic 7, 3) := by decide +kernel
theorem dX11_init_109 : decode cX11_init 109 = .ok (.invokespecial 53, 3) := by decide +kernel
theorem dX11_init_112 : decode cX11_init 112 = .ok (.putfield 54, 3) := by decide +kernel
theorem dX11_init_115 : decode cX11_init 115 = .ok (.aload_n 0, 1) := by decide +kernel
theorem dX11_init_116 : decode cX11_init 116 = .ok (.new 58, 3) := by decide +kernel
theorem dX11_init_119 : decode cX11_init 119 = .ok (.dup, 1) := by decide +kernel
theorem dX11_init_120 : decode cX11_init 120 = .ok (.iload 7, 2) := by decide +kernel
theorem dX11_init_122 : decode cX11_init 122 = .ok (.aload_n 0, 1) := by decide +kernel
theorem dX11_init_123 : decode cX11_init 123 = .ok (.getfield 54, 3) := by decide +kernel
theorem dX11_init_126 : decode cX11_init 126 = .ok (.invokespecial 60, 3) := by decide +kernel
theorem dX11_init_129 : decode cX11_init 129 = .ok (.putfield 63, 3) := by decide +kernel
theorem dX11_init_132 : decode cX11_init 132 = .ok (.aload_n 0, 1) := by decide +kernel
theorem dX11_init_133 : decode cX11_init 133 = .ok (.new 67, 3) := by decide +kernel
theorem dX11_init_136 : decode cX11_init 136 = .ok (.dup, 1) := by decide +kernel
theorem dX11_init_137 : decode cX11_init 137 = .ok (.iload 7, 2) := by decide +kernel
theorem dX11_init_139 : decode cX11_init 139 = .ok (.aload_n 0, 1) := by decide +kernel
theorem dX11_init_140 : decode cX11_init 140 = .ok (.getfield 54, 3) := by decide +kernel
theorem dX11_init_143 : decode cX11_init 143 = .ok (.invokespecial 69, 3) := by decide +kernel
theorem dX11_init_146 : decode cX11_init 146 = .ok (.putfield 70, 3) := by decide +kernel
theorem dX11_init_149 : decode cX11_init 149 = .ok (.aload_n 0, 1) := by decide +kernel
theorem dX11_init_150 : decode cX11_init 150 = .ok (.getfield 63, 3) := by decide +kernel
theorem dX11_init_153 : decode cX11_init 153 = .ok (.aload_n 0, 1) := by decide +kernel
theorem dX11_init_154 : decode cX11_init 154 = .ok (.getfield 44, 3) := by decide +kernel
theorem dX11_init_157 : decode cX11_init 157 = .ok (.invokevirtual 74, 3) := by decide +kernel
theorem dX11_init_160 : decode cX11_init 160 = .ok (.aload_n 0, 1) := by decide +kernel
theorem dX11_init_161 : decode cX11_init 161 = .ok (.getfield 70, 3) := by decide +kernel
theorem dX11_init_164 : decode cX11_init 164 = .ok (.aload_n 0, 1) := by decide +kernel
theorem dX11_init_165 : decode cX11_init 165 = .ok (.getfield 44, 3) := by decide +kernel
theorem dX11_init_168 : decode cX11_init 168 = .ok (.invokevirtual 78, 3) := by decide +kernel
theorem dX11_init_171 : decode cX11_init 171 = .ok (.return_, 1) := by decide +kernel
theorem dX11_clip_0 : decode cX11_clip 0 = .ok (.iconst 0, 1) := by decide +kernel
theorem dX11_clip_1 : decode cX11_clip 1 = .ok (.iload_n 0, 1) := by decide +kernel
theorem dX11_clip_2 : decode cX11_clip 2 = .ok (.sipush 4096, 3) := by decide +kernel
theorem dX11_clip_5 : decode cX11_clip 5 = .ok (.invokestatic 79, 3) := by decide +kernel
theorem dX11_clip_8 : decode cX11_clip 8 = .ok (.invokestatic 85, 3) := by decide +kernel
theorem dX11_clip_11 : decode cX11_clip 11 = .ok (.ireturn, 1) := by decide +kernel
theorem dX11_feed_0 : decode cX11_feed 0 = .ok (.aload_n 0, 1) := by decide +kernel
theorem dX11_feed_1 : decode cX11_feed 1 = .ok (.getfield 18, 3) := by decide +kernel
theorem dX11_feed_4 : decode cX11_feed 4 = .ok (.iload_n 1, 1) := by decide +kernel
theorem dX11_feed_5 : decode cX11_feed 5 = .ok (.invokevirtual 88, 3) := by decide +kernel
theorem dX11_feed_8 : decode cX11_feed 8 = .ok (.ifCond .eq 7, 3) := by decide +kernel
theorem dX11_feed_11 : decode cX11_feed 11 = .ok (.iconst 0, 1) := by decide +kernel
theorem dX11_feed_12 : decode cX11_feed 12 = .ok (.goto 4, 3) := by decide +kernel
theorem dX11_feed_15 : decode cX11_feed 15 = .ok (.iconst 1, 1) := by decide +kernel
theorem dX11_feed_16 : decode cX11_feed 16 = .ok (.ireturn, 1) := by decide +kernel
theorem dX11_compile_0 : decode cX11_compile 0 = .ok (.aload_n 0, 1) := by decide +kernel
theorem dX11_compile_1 : decode cX11_compile 1 = .ok (.getfield 35, 3) := by decide +kernel
theorem dX11_compile_4 : decode cX11_compile 4 = .ok (.aload_n 0, 1) := by decide +kernel
theorem dX11_compile_5 : decode cX11_compile 5 = .ok (.getfield 48, 3) := by decide +kernel
theorem dX11_compile_8 : decode cX11_compile 8 = .ok (.invokevirtual 92, 3) := by decide +kernel
theorem dX11_compile_11 : decode cX11_compile 11 = .ok (.istore_n 1, 1) := by decide +kernel
theorem dX11_compile_12 : decode cX11_compile 12 = .ok (.iload_n 1, 1) := by decide +kernel
theorem dX11_compile_13 : decode cX11_compile 13 = .ok (.ifCond .eq 5, 3) := by decide +kernel
theorem dX11_compile_16 : decode cX11_compile 16 = .ok (.iload_n 1, 1) := by decide +kernel
theorem dX11_compile_17 : decode cX11_compile 17 = .ok (.ireturn, 1) := by decide +kernel
theorem dX11_compile_18 : decode cX11_compile 18 = .ok (.aload_n 0, 1) := by decide +kernel
theorem dX11_compile_19 : decode cX11_compile 19 = .ok (.getfield 48, 3) := by decide +kernel
theorem dX11_compile_22 : decode cX11_compile 22 = .ok (.astore_n 2, 1) := by decide +kernel
theorem dX11_compile_23 : decode cX11_compile 23 = .ok (.aload_n 0, 1) := by decide +kernel
theorem dX11_compile_24 : decode cX11_compile 24 = .ok (.aload_n 0, 1) := by decide +kernel
theorem dX11_compile_25 : decode cX11_compile 25 = .ok (.getfield 44, 3) := by decide +kernel
theorem dX11_compile_28 : decode cX11_compile 28 = .ok (.putfield 48, 3) := by decide +kernel
theorem dX11_compile_31 : decode cX11_compile 31 = .ok (.aload_n 0, 1) := by decide +kernel
theorem dX11_compile_32 : decode cX11_compile 32 = .ok (.aload_n 2, 1) := by decide +kernel
theorem dX11_compile_33 : decode cX11_compile 33 = .ok (.putfield 44, 3) := by decide +kernel
theorem dX11_compile_36 : decode cX11_compile 36 = .ok (.aload_n 0, 1) := by decide +kernel
theorem dX11_compile_37 : decode cX11_compile 37 = .ok (.invokevirtual 96, 3) := by decide +kernel
theorem dX11_compile_40 : decode cX11_compile 40 = .ok (.iconst 0, 1) := by decide +kernel
theorem dX11_compile_41 : decode cX11_compile 41 = .ok (.ireturn, 1) := by decide +kernel
theorem dX11_input_0 : decode cX11_input 0 = .ok (.aload_n 0, 1) := by decide +kernel
theorem dX11_input_1 : decode cX11_input 1 = .ok (.getfield 54, 3) := by decide +kernel
theorem dX11_input_4 : decode cX11_input 4 = .ok (.iload_n 1, 1) := by decide +kernel
theorem dX11_input_5 : decode cX11_input 5 = .ok (.invokevirtual 99, 3) := by decide +kernel
theorem dX11_input_8 : decode cX11_input 8 = .ok (.ifCond .eq 7, 3) := by decide +kernel
theorem dX11_input_11 : decode cX11_input 11 = .ok (.iconst 0, 1) := by decide +kernel
theorem dX11_input_12 : decode cX11_input 12 = .ok (.goto 4, 3) := by decide +kernel
theorem dX11_input_15 : decode cX11_input 15 = .ok (.iconst 1, 1) := by decide +kernel
theorem dX11_input_16 : decode cX11_input 16 = .ok (.ireturn, 1) := by decide +kernel
theorem dX11_step_0 : decode cX11_step 0 = .ok (.aload_n 0, 1) := by decide +kernel
theorem dX11_step_1 : decode cX11_step 1 = .ok (.iconst 1, 1) := by decide +kernel
theorem dX11_step_2 : decode cX11_step 2 = .ok (.invokevirtual 102, 3) := by decide +kernel
theorem dX11_step_5 : decode cX11_step 5 = .ok (.ireturn, 1) := by decide +kernel
theorem dX11_run_0 : decode cX11_run 0 = .ok (.aload_n 0, 1) := by decide +kernel
theorem dX11_run_1 : decode cX11_run 1 = .ok (.iload_n 1, 1) := by decide +kernel
theorem dX11_run_2 : decode cX11_run 2 = .ok (.invokevirtual 102, 3) := by decide +kernel
theorem dX11_run_5 : decode cX11_run 5 = .ok (.ireturn, 1) := by decide +kernel
theorem dX11_interpret_0 : decode cX11_interpret 0 = .ok (.aload_n 0, 1) := by decide +kernel
theorem dX11_interpret_1 : decode cX11_interpret 1 = .ok (.getfield 44, 3) := by decide +kernel
theorem dX11_interpret_4 : decode cX11_interpret 4 = .ok (.getfield 105, 3) := by decide +kernel
theorem dX11_interpret_7 : decode cX11_interpret 7 = .ok (.ifCond .ne 5, 3) := by decide +kernel
theorem dX11_interpret_10 : decode cX11_interpret 10 = .ok (.iconst (-1), 1) := by decide +kernel
theorem dX11_interpret_11 : decode cX11_interpret 11 = .ok (.ireturn, 1) := by decide +kernel
theorem dX11_interpret_12 : decode cX11_interpret 12 = .ok (.aload_n 0, 1) := by decide +kernel
theorem dX11_interpret_13 : decode cX11_interpret 13 = .ok (.getfield 63, 3) := by decide +kernel
theorem dX11_interpret_16 : decode cX11_interpret 16 = .ok (.getfield 109, 3) := by decide +kernel
theorem dX11_interpret_19 : decode cX11_interpret 19 = .ok (.ifCond .eq 6, 3) := by decide +kernel
theorem dX11_interpret_22 : decode cX11_interpret 22 = .ok (.bipush (-2), 2) := by decide +kernel
theorem dX11_interpret_24 : decode cX11_interpret 24 = .ok (.ireturn, 1) := by decide +kernel
theorem dX11_interpret_25 : decode cX11_interpret 25 = .ok (.aload_n 0, 1) := by decide +kernel
theorem dX11_interpret_26 : decode cX11_interpret 26 = .ok (.getfield 70, 3) := by decide +kernel
theorem dX11_interpret_29 : decode cX11_interpret 29 = .ok (.iload_n 1, 1) := by decide +kernel
theorem dX11_interpret_30 : decode cX11_interpret 30 = .ok (.invokevirtual 112, 3) := by decide +kernel
theorem dX11_interpret_33 : decode cX11_interpret 33 = .ok (.ireturn, 1) := by decide +kernel
theorem dX11_reset_0 : decode cX11_reset 0 = .ok (.aload_n 0, 1) := by decide +kernel
theorem dX11_reset_1 : decode cX11_reset 1 = .ok (.invokevirtual 96, 3) := by decide +kernel
theorem dX11_reset_4 : decode cX11_reset 4 = .ok (.return_, 1) := by decide +kernel
theorem dX11_outSize_0 : decode cX11_outSize 0 = .ok (.aload_n 0, 1) := by decide +kernel
theorem dX11_outSize_1 : decode cX11_outSize 1 = .ok (.getfield 54, 3) := by decide +kernel
theorem dX11_outSize_4 : decode cX11_outSize 4 = .ok (.getfield 115, 3) := by decide +kernel
theorem dX11_outSize_7 : decode cX11_outSize 7 = .ok (.ireturn, 1) := by decide +kernel
theorem dX11_out_0 : decode cX11_out 0 = .ok (.aload_n 0, 1) := by decide +kernel
theorem dX11_out_1 : decode cX11_out 1 = .ok (.getfield 54, 3) := by decide +kernel
theorem dX11_out_4 : decode cX11_out 4 = .ok (.iload_n 1, 1) := by decide +kernel
theorem dX11_out_5 : decode cX11_out 5 = .ok (.invokevirtual 119, 3) := by decide +kernel
theorem dX11_out_8 : decode cX11_out 8 = .ok (.ireturn, 1) := by decide +kernel
theorem dX11_codeSize_0 : decode cX11_codeSize 0 = .ok (.aload_n 0, 1) := by decide +kernel
theorem dX11_codeSize_1 : decode cX11_codeSize 1 = .ok (.getfield 44, 3) := by decide +kernel
theorem dX11_codeSize_4 : decode cX11_codeSize 4 = .ok (.getfield 122, 3) := by decide +kernel
theorem dX11_codeSize_7 : decode cX11_codeSize 7 = .ok (.getfield 126, 3) := by decide +kernel
theorem dX11_codeSize_10 : decode cX11_codeSize 10 = .ok (.ireturn, 1) := by decide +kernel
theorem dX11_codeAt_0 : decode cX11_codeAt 0 = .ok (.aload_n 0, 1) := by decide +kernel
theorem dX11_codeAt_1 : decode cX11_codeAt 1 = .ok (.getfield 44, 3) := by decide +kernel
theorem dX11_codeAt_4 : decode cX11_codeAt 4 = .ok (.getfield 122, 3) := by decide +kernel
theorem dX11_codeAt_7 : decode cX11_codeAt 7 = .ok (.iload_n 1, 1) := by decide +kernel
theorem dX11_codeAt_8 : decode cX11_codeAt 8 = .ok (.invokevirtual 131, 3) := by decide +kernel
theorem dX11_codeAt_11 : decode cX11_codeAt 11 = .ok (.ireturn, 1) := by decide +kernel
theorem dX11_goOnMachine_0 : decode cX11_goOnMachine 0 = .ok (.aload_n 0, 1) := by decide +kernel
theorem dX11_goOnMachine_1 : decode cX11_goOnMachine 1 = .ok (.getfield 44, 3) := by decide +kernel
theorem dX11_goOnMachine_4 : decode cX11_goOnMachine 4 = .ok (.getfield 105, 3) := by decide +kernel
theorem dX11_goOnMachine_7 : decode cX11_goOnMachine 7 = .ok (.ifCond .ne 5, 3) := by decide +kernel
theorem dX11_goOnMachine_10 : decode cX11_goOnMachine 10 = .ok (.iconst (-1), 1) := by decide +kernel
theorem dX11_goOnMachine_11 : decode cX11_goOnMachine 11 = .ok (.ireturn, 1) := by decide +kernel
theorem dX11_goOnMachine_12 : decode cX11_goOnMachine 12 = .ok (.aload_n 0, 1) := by decide +kernel
theorem dX11_goOnMachine_13 : decode cX11_goOnMachine 13 = .ok (.getfield 70, 3) := by decide +kernel
theorem dX11_goOnMachine_16 : decode cX11_goOnMachine 16 = .ok (.getfield 134, 3) := by decide +kernel
theorem dX11_goOnMachine_19 : decode cX11_goOnMachine 19 = .ok (.ifCond .eq 6, 3) := by decide +kernel
theorem dX11_goOnMachine_22 : decode cX11_goOnMachine 22 = .ok (.bipush (-2), 2) := by decide +kernel
theorem dX11_goOnMachine_24 : decode cX11_goOnMachine 24 = .ok (.ireturn, 1) := by decide +kernel
theorem dX11_goOnMachine_25 : decode cX11_goOnMachine 25 = .ok (.aload_n 0, 1) := by decide +kernel
theorem dX11_goOnMachine_26 : decode cX11_goOnMachine 26 = .ok (.getfield 63, 3) := by decide +kernel
theorem dX11_goOnMachine_29 : decode cX11_goOnMachine 29 = .ok (.iload_n 1, 1) := by decide +kernel
theorem dX11_goOnMachine_30 : decode cX11_goOnMachine 30 = .ok (.invokevirtual 135, 3) := by decide +kernel
theorem dX11_goOnMachine_33 : decode cX11_goOnMachine 33 = .ok (.ireturn, 1) := by decide +kernel
theorem dX11_beginAgain_0 : decode cX11_beginAgain 0 = .ok (.aload_n 0, 1) := by decide +kernel
theorem dX11_beginAgain_1 : decode cX11_beginAgain 1 = .ok (.getfield 54, 3) := by decide +kernel
theorem dX11_beginAgain_4 : decode cX11_beginAgain 4 = .ok (.invokevirtual 136, 3) := by decide +kernel
theorem dX11_beginAgain_7 : decode cX11_beginAgain 7 = .ok (.aload_n 0, 1) := by decide +kernel
theorem dX11_beginAgain_8 : decode cX11_beginAgain 8 = .ok (.getfield 63, 3) := by decide +kernel
theorem dX11_beginAgain_11 : decode cX11_beginAgain 11 = .ok (.aload_n 0, 1) := by decide +kernel
theorem dX11_beginAgain_12 : decode cX11_beginAgain 12 = .ok (.getfield 44, 3) := by decide +kernel
theorem dX11_beginAgain_15 : decode cX11_beginAgain 15 = .ok (.invokevirtual 74, 3) := by decide +kernel
theorem dX11_beginAgain_18 : decode cX11_beginAgain 18 = .ok (.aload_n 0, 1) := by decide +kernel
theorem dX11_beginAgain_19 : decode cX11_beginAgain 19 = .ok (.getfield 70, 3) := by decide +kernel
theorem dX11_beginAgain_22 : decode cX11_beginAgain 22 = .ok (.aload_n 0, 1) := by decide +kernel
theorem dX11_beginAgain_23 : decode cX11_beginAgain 23 = .ok (.getfield 44, 3) := by decide +kernel
theorem dX11_beginAgain_26 : decode cX11_beginAgain 26 = .ok (.invokevirtual 78, 3) := by decide +kernel
theorem dX11_beginAgain_29 : decode cX11_beginAgain 29 = .ok (.return_, 1) := by decide +kernel
theorem dX11_dividesByZero_0 : decode cX11_dividesByZero 0 = .ok (.iload_n 0, 1) := by decide +kernel
theorem dX11_dividesByZero_1 : decode cX11_dividesByZero 1 = .ok (.bipush 27, 2) := by decide +kernel
theorem dX11_dividesByZero_3 : decode cX11_dividesByZero 3 = .ok (.if_icmp .eq 9, 3) := by decide +kernel
theorem dX11_dividesByZero_6 : decode cX11_dividesByZero 6 = .ok (.iload_n 0, 1) := by decide +kernel
theorem dX11_dividesByZero_7 : decode cX11_dividesByZero 7 = .ok (.bipush 28, 2) := by decide +kernel
theorem dX11_dividesByZero_9 : decode cX11_dividesByZero 9 = .ok (.if_icmp .ne 11, 3) := by decide +kernel
theorem dX11_dividesByZero_12 : decode cX11_dividesByZero 12 = .ok (.iload_n 1, 1) := by decide +kernel
theorem dX11_dividesByZero_13 : decode cX11_dividesByZero 13 = .ok (.ifCond .ne 7, 3) := by decide +kernel
theorem dX11_dividesByZero_16 : decode cX11_dividesByZero 16 = .ok (.iconst 1, 1) := by decide +kernel
theorem dX11_dividesByZero_17 : decode cX11_dividesByZero 17 = .ok (.goto 4, 3) := by decide +kernel
theorem dX11_dividesByZero_20 : decode cX11_dividesByZero 20 = .ok (.iconst 0, 1) := by decide +kernel
theorem dX11_dividesByZero_21 : decode cX11_dividesByZero 21 = .ok (.ireturn, 1) := by decide +kernel
theorem dX11_ofOne_0 : decode cX11_ofOne 0 = .ok (.iload_n 0, 1) := by decide +kernel
theorem dX11_ofOne_1 : decode cX11_ofOne 1 = .ok (.bipush 24, 2) := by decide +kernel
theorem dX11_ofOne_3 : decode cX11_ofOne 3 = .ok (.if_icmp .ne 6, 3) := by decide +kernel
theorem dX11_ofOne_6 : decode cX11_ofOne 6 = .ok (.iload_n 1, 1) := by decide +kernel
theorem dX11_ofOne_7 : decode cX11_ofOne 7 = .ok (.ineg, 1) := by decide +kernel
theorem dX11_ofOne_8 : decode cX11_ofOne 8 = .ok (.ireturn, 1) := by decide +kernel
theorem dX11_ofOne_9 : decode cX11_ofOne 9 = .ok (.iload_n 0, 1) := by decide +kernel
theorem dX11_ofOne_10 : decode cX11_ofOne 10 = .ok (.bipush 25, 2) := by decide +kernel
theorem dX11_ofOne_12 : decode cX11_ofOne 12 = .ok (.if_icmp .ne 13, 3) := by decide +kernel
theorem dX11_ofOne_15 : decode cX11_ofOne 15 = .ok (.iload_n 1, 1) := by decide +kernel
theorem dX11_ofOne_16 : decode cX11_ofOne 16 = .ok (.ifCond .ne 7, 3) := by decide +kernel
theorem dX11_ofOne_19 : decode cX11_ofOne 19 = .ok (.iconst 1, 1) := by decide +kernel
theorem dX11_ofOne_20 : decode cX11_ofOne 20 = .ok (.goto 4, 3) := by decide +kernel
theorem dX11_ofOne_23 : decode cX11_ofOne 23 = .ok (.iconst 0, 1) := by decide +kernel
theorem dX11_ofOne_24 : decode cX11_ofOne 24 = .ok (.ireturn, 1) := by decide +kernel
theorem dX11_ofOne_25 : decode cX11_ofOne 25 = .ok (.iload_n 1, 1) := by decide +kernel
theorem dX11_ofOne_26 : decode cX11_ofOne 26 = .ok (.iconst (-1), 1) := by decide +kernel
theorem dX11_ofOne_27 : decode cX11_ofOne 27 = .ok (.ixor, 1) := by decide +kernel
theorem dX11_ofOne_28 : decode cX11_ofOne 28 = .ok (.ireturn, 1) := by decide +kernel
theorem dX11_ofTwo_0 : decode cX11_ofTwo 0 = .ok (.iload_n 0, 1) := by decide +kernel
theorem dX11_ofTwo_1 : decode cX11_ofTwo 1 = .ok (.tableswitch 153 10 28 #[91, 95, 99, 153, 153, 153, 153, 153, 153, 103, 110, 117, 121, 125, 153, 153, 153, 129, 141], 91) := by decide +kernel
theorem dX11_ofTwo_92 : decode cX11_ofTwo 92 = .ok (.iload_n 1, 1) := by decide +kernel
theorem dX11_ofTwo_93 : decode cX11_ofTwo 93 = .ok (.iload_n 2, 1) := by decide +kernel
theorem dX11_ofTwo_94 : decode cX11_ofTwo 94 = .ok (.ior, 1) := by decide +kernel
theorem dX11_ofTwo_95 : decode cX11_ofTwo 95 = .ok (.ireturn, 1) := by decide +kernel
theorem dX11_ofTwo_96 : decode cX11_ofTwo 96 = .ok (.iload_n 1, 1) := by decide +kernel
theorem dX11_ofTwo_97 : decode cX11_ofTwo 97 = .ok (.iload_n 2, 1) := by decide +kernel
theorem dX11_ofTwo_98 : decode cX11_ofTwo 98 = .ok (.ixor, 1) := by decide +kernel
theorem dX11_ofTwo_99 : decode cX11_ofTwo 99 = .ok (.ireturn, 1) := by decide +kernel
theorem dX11_ofTwo_100 : decode cX11_ofTwo 100 = .ok (.iload_n 1, 1) := by decide +kernel
theorem dX11_ofTwo_101 : decode cX11_ofTwo 101 = .ok (.iload_n 2, 1) := by decide +kernel
theorem dX11_ofTwo_102 : decode cX11_ofTwo 102 = .ok (.iand, 1) := by decide +kernel
theorem dX11_ofTwo_103 : decode cX11_ofTwo 103 = .ok (.ireturn, 1) := by decide +kernel
theorem dX11_ofTwo_104 : decode cX11_ofTwo 104 = .ok (.iload_n 1, 1) := by decide +kernel
theorem dX11_ofTwo_105 : decode cX11_ofTwo 105 = .ok (.iload_n 2, 1) := by decide +kernel
theorem dX11_ofTwo_106 : decode cX11_ofTwo 106 = .ok (.bipush 31, 2) := by decide +kernel
theorem dX11_ofTwo_108 : decode cX11_ofTwo 108 = .ok (.iand, 1) := by decide +kernel
theorem dX11_ofTwo_109 : decode cX11_ofTwo 109 = .ok (.ishl, 1) := by decide +kernel
theorem dX11_ofTwo_110 : decode cX11_ofTwo 110 = .ok (.ireturn, 1) := by decide +kernel
theorem dX11_ofTwo_111 : decode cX11_ofTwo 111 = .ok (.iload_n 1, 1) := by decide +kernel
theorem dX11_ofTwo_112 : decode cX11_ofTwo 112 = .ok (.iload_n 2, 1) := by decide +kernel
theorem dX11_ofTwo_113 : decode cX11_ofTwo 113 = .ok (.bipush 31, 2) := by decide +kernel
theorem dX11_ofTwo_115 : decode cX11_ofTwo 115 = .ok (.iand, 1) := by decide +kernel
theorem dX11_ofTwo_116 : decode cX11_ofTwo 116 = .ok (.ishr, 1) := by decide +kernel
theorem dX11_ofTwo_117 : decode cX11_ofTwo 117 = .ok (.ireturn, 1) := by decide +kernel
theorem dX11_ofTwo_118 : decode cX11_ofTwo 118 = .ok (.iload_n 1, 1) := by decide +kernel
theorem dX11_ofTwo_119 : decode cX11_ofTwo 119 = .ok (.iload_n 2, 1) := by decide +kernel
theorem dX11_ofTwo_120 : decode cX11_ofTwo 120 = .ok (.iadd, 1) := by decide +kernel
theorem dX11_ofTwo_121 : decode cX11_ofTwo 121 = .ok (.ireturn, 1) := by decide +kernel
theorem dX11_ofTwo_122 : decode cX11_ofTwo 122 = .ok (.iload_n 1, 1) := by decide +kernel
theorem dX11_ofTwo_123 : decode cX11_ofTwo 123 = .ok (.iload_n 2, 1) := by decide +kernel
theorem dX11_ofTwo_124 : decode cX11_ofTwo 124 = .ok (.isub, 1) := by decide +kernel
theorem dX11_ofTwo_125 : decode cX11_ofTwo 125 = .ok (.ireturn, 1) := by decide +kernel
theorem dX11_ofTwo_126 : decode cX11_ofTwo 126 = .ok (.iload_n 1, 1) := by decide +kernel
theorem dX11_ofTwo_127 : decode cX11_ofTwo 127 = .ok (.iload_n 2, 1) := by decide +kernel
theorem dX11_ofTwo_128 : decode cX11_ofTwo 128 = .ok (.imul, 1) := by decide +kernel
theorem dX11_ofTwo_129 : decode cX11_ofTwo 129 = .ok (.ireturn, 1) := by decide +kernel
theorem dX11_ofTwo_130 : decode cX11_ofTwo 130 = .ok (.iload_n 2, 1) := by decide +kernel
theorem dX11_ofTwo_131 : decode cX11_ofTwo 131 = .ok (.ifCond .ne 7, 3) := by decide +kernel
theorem dX11_ofTwo_134 : decode cX11_ofTwo 134 = .ok (.iconst 0, 1) := by decide +kernel
theorem dX11_ofTwo_135 : decode cX11_ofTwo 135 = .ok (.goto 6, 3) := by decide +kernel
theorem dX11_ofTwo_138 : decode cX11_ofTwo 138 = .ok (.iload_n 1, 1) := by decide +kernel
theorem dX11_ofTwo_139 : decode cX11_ofTwo 139 = .ok (.iload_n 2, 1) := by decide +kernel
theorem dX11_ofTwo_140 : decode cX11_ofTwo 140 = .ok (.idiv, 1) := by decide +kernel
theorem dX11_ofTwo_141 : decode cX11_ofTwo 141 = .ok (.ireturn, 1) := by decide +kernel
theorem dX11_ofTwo_142 : decode cX11_ofTwo 142 = .ok (.iload_n 2, 1) := by decide +kernel
theorem dX11_ofTwo_143 : decode cX11_ofTwo 143 = .ok (.ifCond .ne 7, 3) := by decide +kernel
theorem dX11_ofTwo_146 : decode cX11_ofTwo 146 = .ok (.iconst 0, 1) := by decide +kernel
theorem dX11_ofTwo_147 : decode cX11_ofTwo 147 = .ok (.goto 6, 3) := by decide +kernel
theorem dX11_ofTwo_150 : decode cX11_ofTwo 150 = .ok (.iload_n 1, 1) := by decide +kernel
theorem dX11_ofTwo_151 : decode cX11_ofTwo 151 = .ok (.iload_n 2, 1) := by decide +kernel
theorem dX11_ofTwo_152 : decode cX11_ofTwo 152 = .ok (.irem, 1) := by decide +kernel
theorem dX11_ofTwo_153 : decode cX11_ofTwo 153 = .ok (.ireturn, 1) := by decide +kernel
theorem dX11_ofTwo_154 : decode cX11_ofTwo 154 = .ok (.iload_n 0, 1) := by decide +kernel
theorem dX11_ofTwo_155 : decode cX11_ofTwo 155 = .ok (.iload_n 1, 1) := by decide +kernel
theorem dX11_ofTwo_156 : decode cX11_ofTwo 156 = .ok (.iload_n 2, 1) := by decide +kernel
theorem dX11_ofTwo_157 : decode cX11_ofTwo 157 = .ok (.invokestatic 139, 3) := by decide +kernel
theorem dX11_ofTwo_160 : decode cX11_ofTwo 160 = .ok (.ifCond .eq 7, 3) := by decide +kernel
theorem dX11_ofTwo_163 : decode cX11_ofTwo 163 = .ok (.iconst 1, 1) := by decide +kernel
theorem dX11_ofTwo_164 : decode cX11_ofTwo 164 = .ok (.goto 4, 3) := by decide +kernel
theorem dX11_ofTwo_167 : decode cX11_ofTwo 167 = .ok (.iconst 0, 1) := by decide +kernel
theorem dX11_ofTwo_168 : decode cX11_ofTwo 168 = .ok (.ireturn, 1) := by decide +kernel
theorem dX11_compares_0 : decode cX11_compares 0 = .ok (.iload_n 0, 1) := by decide +kernel
theorem dX11_compares_1 : decode cX11_compares 1 = .ok (.tableswitch 105 13 18 #[39, 50, 61, 72, 83, 94], 39) := by decide +kernel
theorem dX11_compares_40 : decode cX11_compares 40 = .ok (.iload_n 1, 1) := by decide +kernel
theorem dX11_compares_41 : decode cX11_compares 41 = .ok (.iload_n 2, 1) := by decide +kernel
theorem dX11_compares_42 : decode cX11_compares 42 = .ok (.if_icmp .ne 7, 3) := by decide +kernel
theorem dX11_compares_45 : decode cX11_compares 45 = .ok (.iconst 1, 1) := by decide +kernel
theorem dX11_compares_46 : decode cX11_compares 46 = .ok (.goto 4, 3) := by decide +kernel
theorem dX11_compares_49 : decode cX11_compares 49 = .ok (.iconst 0, 1) := by decide +kernel
theorem dX11_compares_50 : decode cX11_compares 50 = .ok (.ireturn, 1) := by decide +kernel
theorem dX11_compares_51 : decode cX11_compares 51 = .ok (.iload_n 1, 1) := by decide +kernel
theorem dX11_compares_52 : decode cX11_compares 52 = .ok (.iload_n 2, 1) := by decide +kernel
theorem dX11_compares_53 : decode cX11_compares 53 = .ok (.if_icmp .eq 7, 3) := by decide +kernel
theorem dX11_compares_56 : decode cX11_compares 56 = .ok (.iconst 1, 1) := by decide +kernel
theorem dX11_compares_57 : decode cX11_compares 57 = .ok (.goto 4, 3) := by decide +kernel
theorem dX11_compares_60 : decode cX11_compares 60 = .ok (.iconst 0, 1) := by decide +kernel
theorem dX11_compares_61 : decode cX11_compares 61 = .ok (.ireturn, 1) := by decide +kernel
theorem dX11_compares_62 : decode cX11_compares 62 = .ok (.iload_n 1, 1) := by decide +kernel
theorem dX11_compares_63 : decode cX11_compares 63 = .ok (.iload_n 2, 1) := by decide +kernel
theorem dX11_compares_64 : decode cX11_compares 64 = .ok (.if_icmp .ge 7, 3) := by decide +kernel
theorem dX11_compares_67 : decode cX11_compares 67 = .ok (.iconst 1, 1) := by decide +kernel
theorem dX11_compares_68 : decode cX11_compares 68 = .ok (.goto 4, 3) := by decide +kernel
theorem dX11_compares_71 : decode cX11_compares 71 = .ok (.iconst 0, 1) := by decide +kernel
theorem dX11_compares_72 : decode cX11_compares 72 = .ok (.ireturn, 1) := by decide +kernel
theorem dX11_compares_73 : decode cX11_compares 73 = .ok (.iload_n 1, 1) := by decide +kernel
theorem dX11_compares_74 : decode cX11_compares 74 = .ok (.iload_n 2, 1) := by decide +kernel
theorem dX11_compares_75 : decode cX11_compares 75 = .ok (.if_icmp .gt 7, 3) := by decide +kernel
theorem dX11_compares_78 : decode cX11_compares 78 = .ok (.iconst 1, 1) := by decide +kernel
theorem dX11_compares_79 : decode cX11_compares 79 = .ok (.goto 4, 3) := by decide +kernel
theorem dX11_compares_82 : decode cX11_compares 82 = .ok (.iconst 0, 1) := by decide +kernel
theorem dX11_compares_83 : decode cX11_compares 83 = .ok (.ireturn, 1) := by decide +kernel
theorem dX11_compares_84 : decode cX11_compares 84 = .ok (.iload_n 1, 1) := by decide +kernel
theorem dX11_compares_85 : decode cX11_compares 85 = .ok (.iload_n 2, 1) := by decide +kernel
theorem dX11_compares_86 : decode cX11_compares 86 = .ok (.if_icmp .le 7, 3) := by decide +kernel
theorem dX11_compares_89 : decode cX11_compares 89 = .ok (.iconst 1, 1) := by decide +kernel
theorem dX11_compares_90 : decode cX11_compares 90 = .ok (.goto 4, 3) := by decide +kernel
theorem dX11_compares_93 : decode cX11_compares 93 = .ok (.iconst 0, 1) := by decide +kernel
theorem dX11_compares_94 : decode cX11_compares 94 = .ok (.ireturn, 1) := by decide +kernel
theorem dX11_compares_95 : decode cX11_compares 95 = .ok (.iload_n 1, 1) := by decide +kernel
theorem dX11_compares_96 : decode cX11_compares 96 = .ok (.iload_n 2, 1) := by decide +kernel
theorem dX11_compares_97 : decode cX11_compares 97 = .ok (.if_icmp .lt 7, 3) := by decide +kernel
theorem dX11_compares_100 : decode cX11_compares 100 = .ok (.iconst 1, 1) := by decide +kernel
theorem dX11_compares_101 : decode cX11_compares 101 = .ok (.goto 4, 3) := by decide +kernel
theorem dX11_compares_104 : decode cX11_compares 104 = .ok (.iconst 0, 1) := by decide +kernel
theorem dX11_compares_105 : decode cX11_compares 105 = .ok (.ireturn, 1) := by decide +kernel
theorem dX11_compares_106 : decode cX11_compares 106 = .ok (.iconst 0, 1) := by decide +kernel
theorem dX11_compares_107 : decode cX11_compares 107 = .ok (.ireturn, 1) := by decide +kernel
theorem dJ9_max_7cf53_0 : decode cJ9_max_7cf53 0 = .ok (.iload_n 0, 1) := by decide +kernel
theorem dJ9_max_7cf53_1 : decode cJ9_max_7cf53 1 = .ok (.iload_n 1, 1) := by decide +kernel
theorem dJ9_max_7cf53_2 : decode cJ9_max_7cf53 2 = .ok (.if_icmp .lt 7, 3) := by decide +kernel
theorem dJ9_max_7cf53_5 : decode cJ9_max_7cf53 5 = .ok (.iload_n 0, 1) := by decide +kernel
theorem dJ9_max_7cf53_6 : decode cJ9_max_7cf53 6 = .ok (.goto 4, 3) := by decide +kernel
theorem dJ9_max_7cf53_9 : decode cJ9_max_7cf53 9 = .ok (.iload_n 1, 1) := by decide +kernel
theorem dJ9_max_7cf53_10 : decode cJ9_max_7cf53 10 = .ok (.ireturn, 1) := by decide +kernel
theorem dJ9_min_7cf53_0 : decode cJ9_min_7cf53 0 = .ok (.iload_n 0, 1) := by decide +kernel
theorem dJ9_min_7cf53_1 : decode cJ9_min_7cf53 1 = .ok (.iload_n 1, 1) := by decide +kernel
theorem dJ9_min_7cf53_2 : decode cJ9_min_7cf53 2 = .ok (.if_icmp .gt 7, 3) := by decide +kernel
theorem dJ9_min_7cf53_5 : decode cJ9_min_7cf53 5 = .ok (.iload_n 0, 1) := by decide +kernel
theorem dJ9_min_7cf53_6 : decode cJ9_min_7cf53 6 = .ok (.goto 4, 3) := by decide +kernel
theorem dJ9_min_7cf53_9 : decode cJ9_min_7cf53 9 = .ok (.iload_n 1, 1) := by decide +kernel
theorem dJ9_min_7cf53_10 : decode cJ9_min_7cf53 10 = .ok (.ireturn, 1) := by decide +kernel
theorem dJ7_fill_53178_0 : decode cJ7_fill_53178 0 = .ok (.iconst 0, 1) := by decide +kernel
theorem dJ7_fill_53178_1 : decode cJ7_fill_53178 1 = .ok (.istore_n 2, 1) := by decide +kernel
theorem dJ7_fill_53178_2 : decode cJ7_fill_53178 2 = .ok (.aload_n 0, 1) := by decide +kernel
theorem dJ7_fill_53178_3 : decode cJ7_fill_53178 3 = .ok (.arraylength, 1) := by decide +kernel
theorem dJ7_fill_53178_4 : decode cJ7_fill_53178 4 = .ok (.istore_n 3, 1) := by decide +kernel
theorem dJ7_fill_53178_5 : decode cJ7_fill_53178 5 = .ok (.iload_n 2, 1) := by decide +kernel
theorem dJ7_fill_53178_6 : decode cJ7_fill_53178 6 = .ok (.iload_n 3, 1) := by decide +kernel
theorem dJ7_fill_53178_7 : decode cJ7_fill_53178 7 = .ok (.if_icmp .ge 13, 3) := by decide +kernel
theorem dJ7_fill_53178_10 : decode cJ7_fill_53178 10 = .ok (.aload_n 0, 1) := by decide +kernel
theorem dJ7_fill_53178_11 : decode cJ7_fill_53178 11 = .ok (.iload_n 2, 1) := by decide +kernel
theorem dJ7_fill_53178_12 : decode cJ7_fill_53178 12 = .ok (.iload_n 1, 1) := by decide +kernel
theorem dJ7_fill_53178_13 : decode cJ7_fill_53178 13 = .ok (.iastore, 1) := by decide +kernel
theorem dJ7_fill_53178_14 : decode cJ7_fill_53178 14 = .ok (.iinc 2 1, 3) := by decide +kernel
theorem dJ7_fill_53178_17 : decode cJ7_fill_53178 17 = .ok (.goto (-12), 3) := by decide +kernel
theorem dJ7_fill_53178_20 : decode cJ7_fill_53178 20 = .ok (.return_, 1) := by decide +kernel
