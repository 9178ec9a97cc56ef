theorem dX12_compile_65 : decode cX12_compile 65 = .ok (.aload_n 0, 1) := by decide +kernel
theorem dX12_compile_66 : decode cX12_compile 66 = .ok (.getfield 193, 3) := by decide +kernel
theorem dX12_compile_69 : decode cX12_compile 69 = .ok (.invokevirtual 239, 3) := by decide +kernel
theorem dX12_compile_72 : decode cX12_compile 72 = .ok (.aload_n 0, 1) := by decide +kernel
theorem dX12_compile_73 : decode cX12_compile 73 = .ok (.invokevirtual 243, 3) := by decide +kernel
theorem dX12_compile_76 : decode cX12_compile 76 = .ok (.ifCond .ne 14, 3) := by decide +kernel
theorem dX12_compile_79 : decode cX12_compile 79 = .ok (.aload_n 0, 1) := by decide +kernel
theorem dX12_compile_80 : decode cX12_compile 80 = .ok (.getfield 236, 3) := by decide +kernel
theorem dX12_compile_83 : decode cX12_compile 83 = .ok (.istore_n 1, 1) := by decide +kernel
theorem dX12_compile_84 : decode cX12_compile 84 = .ok (.aload_n 0, 1) := by decide +kernel
theorem dX12_compile_85 : decode cX12_compile 85 = .ok (.invokevirtual 466, 3) := by decide +kernel
theorem dX12_compile_88 : decode cX12_compile 88 = .ok (.iload_n 1, 1) := by decide +kernel
theorem dX12_compile_89 : decode cX12_compile 89 = .ok (.ireturn, 1) := by decide +kernel
theorem dX12_compile_90 : decode cX12_compile 90 = .ok (.aload_n 0, 1) := by decide +kernel
theorem dX12_compile_91 : decode cX12_compile 91 = .ok (.aload_n 0, 1) := by decide +kernel
theorem dX12_compile_92 : decode cX12_compile 92 = .ok (.getfield 193, 3) := by decide +kernel
theorem dX12_compile_95 : decode cX12_compile 95 = .ok (.putfield 469, 3) := by decide +kernel
theorem dX12_compile_98 : decode cX12_compile 98 = .ok (.iconst 0, 1) := by decide +kernel
theorem dX12_compile_99 : decode cX12_compile 99 = .ok (.istore_n 1, 1) := by decide +kernel
theorem dX12_compile_100 : decode cX12_compile 100 = .ok (.iload_n 1, 1) := by decide +kernel
theorem dX12_compile_101 : decode cX12_compile 101 = .ok (.aload_n 0, 1) := by decide +kernel
theorem dX12_compile_102 : decode cX12_compile 102 = .ok (.getfield 193, 3) := by decide +kernel
theorem dX12_compile_105 : decode cX12_compile 105 = .ok (.if_icmp .ge 21, 3) := by decide +kernel
theorem dX12_compile_108 : decode cX12_compile 108 = .ok (.aload_n 0, 1) := by decide +kernel
theorem dX12_compile_109 : decode cX12_compile 109 = .ok (.getfield 132, 3) := by decide +kernel
theorem dX12_compile_112 : decode cX12_compile 112 = .ok (.iload_n 1, 1) := by decide +kernel
theorem dX12_compile_113 : decode cX12_compile 113 = .ok (.aload_n 0, 1) := by decide +kernel
theorem dX12_compile_114 : decode cX12_compile 114 = .ok (.getfield 25, 3) := by decide +kernel
theorem dX12_compile_117 : decode cX12_compile 117 = .ok (.iload_n 1, 1) := by decide +kernel
theorem dX12_compile_118 : decode cX12_compile 118 = .ok (.iaload, 1) := by decide +kernel
theorem dX12_compile_119 : decode cX12_compile 119 = .ok (.iastore, 1) := by decide +kernel
theorem dX12_compile_120 : decode cX12_compile 120 = .ok (.iinc 1 1, 3) := by decide +kernel
theorem dX12_compile_123 : decode cX12_compile 123 = .ok (.goto (-23), 3) := by decide +kernel
theorem dX12_compile_126 : decode cX12_compile 126 = .ok (.aload_n 0, 1) := by decide +kernel
theorem dX12_compile_127 : decode cX12_compile 127 = .ok (.aload_n 0, 1) := by decide +kernel
theorem dX12_compile_128 : decode cX12_compile 128 = .ok (.getfield 421, 3) := by decide +kernel
theorem dX12_compile_131 : decode cX12_compile 131 = .ok (.putfield 472, 3) := by decide +kernel
theorem dX12_compile_134 : decode cX12_compile 134 = .ok (.iconst 0, 1) := by decide +kernel
theorem dX12_compile_135 : decode cX12_compile 135 = .ok (.istore_n 1, 1) := by decide +kernel
theorem dX12_compile_136 : decode cX12_compile 136 = .ok (.iload_n 1, 1) := by decide +kernel
theorem dX12_compile_137 : decode cX12_compile 137 = .ok (.aload_n 0, 1) := by decide +kernel
theorem dX12_compile_138 : decode cX12_compile 138 = .ok (.getfield 472, 3) := by decide +kernel
theorem dX12_compile_141 : decode cX12_compile 141 = .ok (.if_icmp .ge 21, 3) := by decide +kernel
theorem dX12_compile_144 : decode cX12_compile 144 = .ok (.aload_n 0, 1) := by decide +kernel
theorem dX12_compile_145 : decode cX12_compile 145 = .ok (.getfield 13, 3) := by decide +kernel
theorem dX12_compile_148 : decode cX12_compile 148 = .ok (.iload_n 1, 1) := by decide +kernel
theorem dX12_compile_149 : decode cX12_compile 149 = .ok (.aload_n 0, 1) := by decide +kernel
theorem dX12_compile_150 : decode cX12_compile 150 = .ok (.getfield 111, 3) := by decide +kernel
theorem dX12_compile_153 : decode cX12_compile 153 = .ok (.iload_n 1, 1) := by decide +kernel
theorem dX12_compile_154 : decode cX12_compile 154 = .ok (.iaload, 1) := by decide +kernel
theorem dX12_compile_155 : decode cX12_compile 155 = .ok (.iastore, 1) := by decide +kernel
theorem dX12_compile_156 : decode cX12_compile 156 = .ok (.iinc 1 1, 3) := by decide +kernel
theorem dX12_compile_159 : decode cX12_compile 159 = .ok (.goto (-23), 3) := by decide +kernel
theorem dX12_compile_162 : decode cX12_compile 162 = .ok (.aload_n 0, 1) := by decide +kernel
theorem dX12_compile_163 : decode cX12_compile 163 = .ok (.iconst 1, 1) := by decide +kernel
theorem dX12_compile_164 : decode cX12_compile 164 = .ok (.putfield 475, 3) := by decide +kernel
theorem dX12_compile_167 : decode cX12_compile 167 = .ok (.aload_n 0, 1) := by decide +kernel
theorem dX12_compile_168 : decode cX12_compile 168 = .ok (.invokevirtual 479, 3) := by decide +kernel
theorem dX12_compile_171 : decode cX12_compile 171 = .ok (.iconst 0, 1) := by decide +kernel
theorem dX12_compile_172 : decode cX12_compile 172 = .ok (.ireturn, 1) := by decide +kernel
theorem dX12_readKept_0 : decode cX12_readKept 0 = .ok (.aload_n 0, 1) := by decide +kernel
theorem dX12_readKept_1 : decode cX12_readKept 1 = .ok (.getfield 475, 3) := by decide +kernel
theorem dX12_readKept_4 : decode cX12_readKept 4 = .ok (.ifCond .ne 4, 3) := by decide +kernel
theorem dX12_readKept_7 : decode cX12_readKept 7 = .ok (.return_, 1) := by decide +kernel
theorem dX12_readKept_8 : decode cX12_readKept 8 = .ok (.aload_n 0, 1) := by decide +kernel
theorem dX12_readKept_9 : decode cX12_readKept 9 = .ok (.aload_n 0, 1) := by decide +kernel
theorem dX12_readKept_10 : decode cX12_readKept 10 = .ok (.getfield 469, 3) := by decide +kernel
theorem dX12_readKept_13 : decode cX12_readKept 13 = .ok (.putfield 193, 3) := by decide +kernel
theorem dX12_readKept_16 : decode cX12_readKept 16 = .ok (.iconst 0, 1) := by decide +kernel
theorem dX12_readKept_17 : decode cX12_readKept 17 = .ok (.istore_n 1, 1) := by decide +kernel
theorem dX12_readKept_18 : decode cX12_readKept 18 = .ok (.iload_n 1, 1) := by decide +kernel
theorem dX12_readKept_19 : decode cX12_readKept 19 = .ok (.aload_n 0, 1) := by decide +kernel
theorem dX12_readKept_20 : decode cX12_readKept 20 = .ok (.getfield 193, 3) := by decide +kernel
theorem dX12_readKept_23 : decode cX12_readKept 23 = .ok (.if_icmp .ge 21, 3) := by decide +kernel
theorem dX12_readKept_26 : decode cX12_readKept 26 = .ok (.aload_n 0, 1) := by decide +kernel
theorem dX12_readKept_27 : decode cX12_readKept 27 = .ok (.getfield 25, 3) := by decide +kernel
theorem dX12_readKept_30 : decode cX12_readKept 30 = .ok (.iload_n 1, 1) := by decide +kernel
theorem dX12_readKept_31 : decode cX12_readKept 31 = .ok (.aload_n 0, 1) := by decide +kernel
theorem dX12_readKept_32 : decode cX12_readKept 32 = .ok (.getfield 132, 3) := by decide +kernel
theorem dX12_readKept_35 : decode cX12_readKept 35 = .ok (.iload_n 1, 1) := by decide +kernel
theorem dX12_readKept_36 : decode cX12_readKept 36 = .ok (.iaload, 1) := by decide +kernel
theorem dX12_readKept_37 : decode cX12_readKept 37 = .ok (.iastore, 1) := by decide +kernel
theorem dX12_readKept_38 : decode cX12_readKept 38 = .ok (.iinc 1 1, 3) := by decide +kernel
theorem dX12_readKept_41 : decode cX12_readKept 41 = .ok (.goto (-23), 3) := by decide +kernel
theorem dX12_readKept_44 : decode cX12_readKept 44 = .ok (.aload_n 0, 1) := by decide +kernel
theorem dX12_readKept_45 : decode cX12_readKept 45 = .ok (.invokevirtual 460, 3) := by decide +kernel
theorem dX12_readKept_48 : decode cX12_readKept 48 = .ok (.return_, 1) := by decide +kernel
theorem dX12_input_0 : decode cX12_input 0 = .ok (.aload_n 0, 1) := by decide +kernel
theorem dX12_input_1 : decode cX12_input 1 = .ok (.getfield 482, 3) := by decide +kernel
theorem dX12_input_4 : decode cX12_input 4 = .ok (.aload_n 0, 1) := by decide +kernel
theorem dX12_input_5 : decode cX12_input 5 = .ok (.getfield 173, 3) := by decide +kernel
theorem dX12_input_8 : decode cX12_input 8 = .ok (.if_icmp .ne 5, 3) := by decide +kernel
theorem dX12_input_11 : decode cX12_input 11 = .ok (.iconst 1, 1) := by decide +kernel
theorem dX12_input_12 : decode cX12_input 12 = .ok (.ireturn, 1) := by decide +kernel
theorem dX12_input_13 : decode cX12_input 13 = .ok (.aload_n 0, 1) := by decide +kernel
theorem dX12_input_14 : decode cX12_input 14 = .ok (.getfield 19, 3) := by decide +kernel
theorem dX12_input_17 : decode cX12_input 17 = .ok (.aload_n 0, 1) := by decide +kernel
theorem dX12_input_18 : decode cX12_input 18 = .ok (.getfield 482, 3) := by decide +kernel
theorem dX12_input_21 : decode cX12_input 21 = .ok (.iload_n 1, 1) := by decide +kernel
theorem dX12_input_22 : decode cX12_input 22 = .ok (.iastore, 1) := by decide +kernel
theorem dX12_input_23 : decode cX12_input 23 = .ok (.aload_n 0, 1) := by decide +kernel
theorem dX12_input_24 : decode cX12_input 24 = .ok (.dup, 1) := by decide +kernel
theorem dX12_input_25 : decode cX12_input 25 = .ok (.getfield 482, 3) := by decide +kernel
theorem dX12_input_28 : decode cX12_input 28 = .ok (.iconst 1, 1) := by decide +kernel
theorem dX12_input_29 : decode cX12_input 29 = .ok (.iadd, 1) := by decide +kernel
theorem dX12_input_30 : decode cX12_input 30 = .ok (.putfield 482, 3) := by decide +kernel
theorem dX12_input_33 : decode cX12_input 33 = .ok (.iconst 0, 1) := by decide +kernel
theorem dX12_input_34 : decode cX12_input 34 = .ok (.ireturn, 1) := by decide +kernel
theorem dX12_reset_0 : decode cX12_reset 0 = .ok (.iconst 0, 1) := by decide +kernel
theorem dX12_reset_1 : decode cX12_reset 1 = .ok (.istore_n 1, 1) := by decide +kernel
theorem dX12_reset_2 : decode cX12_reset 2 = .ok (.iload_n 1, 1) := by decide +kernel
theorem dX12_reset_3 : decode cX12_reset 3 = .ok (.sipush 4096, 3) := by decide +kernel
theorem dX12_reset_6 : decode cX12_reset 6 = .ok (.if_icmp .ge 23, 3) := by decide +kernel
theorem dX12_reset_9 : decode cX12_reset 9 = .ok (.aload_n 0, 1) := by decide +kernel
theorem dX12_reset_10 : decode cX12_reset 10 = .ok (.getfield 16, 3) := by decide +kernel
theorem dX12_reset_13 : decode cX12_reset 13 = .ok (.iload_n 1, 1) := by decide +kernel
theorem dX12_reset_14 : decode cX12_reset 14 = .ok (.iconst 0, 1) := by decide +kernel
theorem dX12_reset_15 : decode cX12_reset 15 = .ok (.iastore, 1) := by decide +kernel
theorem dX12_reset_16 : decode cX12_reset 16 = .ok (.aload_n 0, 1) := by decide +kernel
theorem dX12_reset_17 : decode cX12_reset 17 = .ok (.getfield 135, 3) := by decide +kernel
theorem dX12_reset_20 : decode cX12_reset 20 = .ok (.iload_n 1, 1) := by decide +kernel
theorem dX12_reset_21 : decode cX12_reset 21 = .ok (.iconst 0, 1) := by decide +kernel
theorem dX12_reset_22 : decode cX12_reset 22 = .ok (.iastore, 1) := by decide +kernel
theorem dX12_reset_23 : decode cX12_reset 23 = .ok (.iinc 1 1, 3) := by decide +kernel
theorem dX12_reset_26 : decode cX12_reset 26 = .ok (.goto (-24), 3) := by decide +kernel
theorem dX12_reset_29 : decode cX12_reset 29 = .ok (.aload_n 0, 1) := by decide +kernel
theorem dX12_reset_30 : decode cX12_reset 30 = .ok (.iconst 0, 1) := by decide +kernel
theorem dX12_reset_31 : decode cX12_reset 31 = .ok (.putfield 485, 3) := by decide +kernel
theorem dX12_reset_34 : decode cX12_reset 34 = .ok (.aload_n 0, 1) := by decide +kernel
theorem dX12_reset_35 : decode cX12_reset 35 = .ok (.aload_n 0, 1) := by decide +kernel
theorem dX12_reset_36 : decode cX12_reset 36 = .ok (.getfield 278, 3) := by decide +kernel
theorem dX12_reset_39 : decode cX12_reset 39 = .ok (.putfield 488, 3) := by decide +kernel
theorem dX12_reset_42 : decode cX12_reset 42 = .ok (.aload_n 0, 1) := by decide +kernel
theorem dX12_reset_43 : decode cX12_reset 43 = .ok (.iconst 0, 1) := by decide +kernel
theorem dX12_reset_44 : decode cX12_reset 44 = .ok (.putfield 491, 3) := by decide +kernel
theorem dX12_reset_47 : decode cX12_reset 47 = .ok (.aload_n 0, 1) := by decide +kernel
theorem dX12_reset_48 : decode cX12_reset 48 = .ok (.iconst 0, 1) := by decide +kernel
theorem dX12_reset_49 : decode cX12_reset 49 = .ok (.putfield 494, 3) := by decide +kernel
theorem dX12_reset_52 : decode cX12_reset 52 = .ok (.aload_n 0, 1) := by decide +kernel
theorem dX12_reset_53 : decode cX12_reset 53 = .ok (.iconst 0, 1) := by decide +kernel
theorem dX12_reset_54 : decode cX12_reset 54 = .ok (.putfield 497, 3) := by decide +kernel
theorem dX12_reset_57 : decode cX12_reset 57 = .ok (.aload_n 0, 1) := by decide +kernel
theorem dX12_reset_58 : decode cX12_reset 58 = .ok (.iconst 0, 1) := by decide +kernel
theorem dX12_reset_59 : decode cX12_reset 59 = .ok (.putfield 500, 3) := by decide +kernel
theorem dX12_reset_62 : decode cX12_reset 62 = .ok (.aload_n 0, 1) := by decide +kernel
theorem dX12_reset_63 : decode cX12_reset 63 = .ok (.iconst 0, 1) := by decide +kernel
theorem dX12_reset_64 : decode cX12_reset 64 = .ok (.putfield 503, 3) := by decide +kernel
theorem dX12_reset_67 : decode cX12_reset 67 = .ok (.aload_n 0, 1) := by decide +kernel
theorem dX12_reset_68 : decode cX12_reset 68 = .ok (.iconst 0, 1) := by decide +kernel
theorem dX12_reset_69 : decode cX12_reset 69 = .ok (.putfield 506, 3) := by decide +kernel
theorem dX12_reset_72 : decode cX12_reset 72 = .ok (.aload_n 0, 1) := by decide +kernel
theorem dX12_reset_73 : decode cX12_reset 73 = .ok (.iconst 0, 1) := by decide +kernel
theorem dX12_reset_74 : decode cX12_reset 74 = .ok (.putfield 509, 3) := by decide +kernel
theorem dX12_reset_77 : decode cX12_reset 77 = .ok (.aload_n 0, 1) := by decide +kernel
theorem dX12_reset_78 : decode cX12_reset 78 = .ok (.iconst 0, 1) := by decide +kernel
theorem dX12_reset_79 : decode cX12_reset 79 = .ok (.putfield 512, 3) := by decide +kernel
theorem dX12_reset_82 : decode cX12_reset 82 = .ok (.aload_n 0, 1) := by decide +kernel
theorem dX12_reset_83 : decode cX12_reset 83 = .ok (.iconst 0, 1) := by decide +kernel
theorem dX12_reset_84 : decode cX12_reset 84 = .ok (.putfield 515, 3) := by decide +kernel
theorem dX12_reset_87 : decode cX12_reset 87 = .ok (.aload_n 0, 1) := by decide +kernel
theorem dX12_reset_88 : decode cX12_reset 88 = .ok (.getfield 475, 3) := by decide +kernel
theorem dX12_reset_91 : decode cX12_reset 91 = .ok (.ifCond .eq 9, 3) := by decide +kernel
theorem dX12_reset_94 : decode cX12_reset 94 = .ok (.aload_n 0, 1) := by decide +kernel
theorem dX12_reset_95 : decode cX12_reset 95 = .ok (.iconst 1, 1) := by decide +kernel
theorem dX12_reset_96 : decode cX12_reset 96 = .ok (.iconst (-1), 1) := by decide +kernel
theorem dX12_reset_97 : decode cX12_reset 97 = .ok (.invokevirtual 518, 3) := by decide +kernel
theorem dX12_reset_100 : decode cX12_reset 100 = .ok (.return_, 1) := by decide +kernel
theorem dX12_step_0 : decode cX12_step 0 = .ok (.aload_n 0, 1) := by decide +kernel
theorem dX12_step_1 : decode cX12_step 1 = .ok (.getfield 475, 3) := by decide +kernel
theorem dX12_step_4 : decode cX12_step 4 = .ok (.ifCond .ne 5, 3) := by decide +kernel
theorem dX12_step_7 : decode cX12_step 7 = .ok (.iconst (-1), 1) := by decide +kernel
theorem dX12_step_8 : decode cX12_step 8 = .ok (.ireturn, 1) := by decide +kernel
theorem dX12_step_9 : decode cX12_step 9 = .ok (.aload_n 0, 1) := by decide +kernel
theorem dX12_step_10 : decode cX12_step 10 = .ok (.getfield 497, 3) := by decide +kernel
theorem dX12_step_13 : decode cX12_step 13 = .ok (.iconst 2, 1) := by decide +kernel
theorem dX12_step_14 : decode cX12_step 14 = .ok (.if_icmp .ne 6, 3) := by decide +kernel
theorem dX12_step_17 : decode cX12_step 17 = .ok (.bipush (-2), 2) := by decide +kernel
theorem dX12_step_19 : decode cX12_step 19 = .ok (.ireturn, 1) := by decide +kernel
theorem dX12_step_20 : decode cX12_step 20 = .ok (.aload_n 0, 1) := by decide +kernel
theorem dX12_step_21 : decode cX12_step 21 = .ok (.iconst 1, 1) := by decide +kernel
theorem dX12_step_22 : decode cX12_step 22 = .ok (.putfield 497, 3) := by decide +kernel
theorem dX12_step_25 : decode cX12_step 25 = .ok (.aload_n 0, 1) := by decide +kernel
theorem dX12_step_26 : decode cX12_step 26 = .ok (.getfield 494, 3) := by decide +kernel
theorem dX12_step_29 : decode cX12_step 29 = .ok (.ifCond .ne 7, 3) := by decide +kernel
theorem dX12_step_32 : decode cX12_step 32 = .ok (.aload_n 0, 1) := by decide +kernel
theorem dX12_step_33 : decode cX12_step 33 = .ok (.invokevirtual 521, 3) := by decide +kernel
theorem dX12_step_36 : decode cX12_step 36 = .ok (.aload_n 0, 1) := by decide +kernel
theorem dX12_step_37 : decode cX12_step 37 = .ok (.getfield 494, 3) := by decide +kernel
theorem dX12_step_40 : decode cX12_step 40 = .ok (.ireturn, 1) := by decide +kernel
theorem dX12_run_0 : decode cX12_run 0 = .ok (.aload_n 0, 1) := by decide +kernel
theorem dX12_run_1 : decode cX12_run 1 = .ok (.getfield 475, 3) := by decide +kernel
theorem dX12_run_4 : decode cX12_run 4 = .ok (.ifCond .ne 5, 3) := by decide +kernel
theorem dX12_run_7 : decode cX12_run 7 = .ok (.iconst (-1), 1) := by decide +kernel
theorem dX12_run_8 : decode cX12_run 8 = .ok (.ireturn, 1) := by decide +kernel
theorem dX12_run_9 : decode cX12_run 9 = .ok (.aload_n 0, 1) := by decide +kernel
theorem dX12_run_10 : decode cX12_run 10 = .ok (.getfield 497, 3) := by decide +kernel
theorem dX12_run_13 : decode cX12_run 13 = .ok (.iconst 2, 1) := by decide +kernel
theorem dX12_run_14 : decode cX12_run 14 = .ok (.if_icmp .ne 6, 3) := by decide +kernel
theorem dX12_run_17 : decode cX12_run 17 = .ok (.bipush (-2), 2) := by decide +kernel
theorem dX12_run_19 : decode cX12_run 19 = .ok (.ireturn, 1) := by decide +kernel
theorem dX12_run_20 : decode cX12_run 20 = .ok (.iconst 0, 1) := by decide +kernel
theorem dX12_run_21 : decode cX12_run 21 = .ok (.istore_n 2, 1) := by decide +kernel
theorem dX12_run_22 : decode cX12_run 22 = .ok (.iload_n 2, 1) := by decide +kernel
theorem dX12_run_23 : decode cX12_run 23 = .ok (.iload_n 1, 1) := by decide +kernel
theorem dX12_run_24 : decode cX12_run 24 = .ok (.if_icmp .ge 21, 3) := by decide +kernel
theorem dX12_run_27 : decode cX12_run 27 = .ok (.aload_n 0, 1) := by decide +kernel
theorem dX12_run_28 : decode cX12_run 28 = .ok (.getfield 494, 3) := by decide +kernel
theorem dX12_run_31 : decode cX12_run 31 = .ok (.ifCond .ne 14, 3) := by decide +kernel
theorem dX12_run_34 : decode cX12_run 34 = .ok (.aload_n 0, 1) := by decide +kernel
theorem dX12_run_35 : decode cX12_run 35 = .ok (.invokevirtual 524, 3) := by decide +kernel
theorem dX12_run_38 : decode cX12_run 38 = .ok (.istore_n 3, 1) := by decide +kernel
theorem dX12_run_39 : decode cX12_run 39 = .ok (.iinc 2 1, 3) := by decide +kernel
theorem dX12_run_42 : decode cX12_run 42 = .ok (.goto (-20), 3) := by decide +kernel
theorem dX12_run_45 : decode cX12_run 45 = .ok (.aload_n 0, 1) := by decide +kernel
theorem dX12_run_46 : decode cX12_run 46 = .ok (.getfield 494, 3) := by decide +kernel
theorem dX12_run_49 : decode cX12_run 49 = .ok (.ireturn, 1) := by decide +kernel
theorem dX12_hasRoom_0 : decode cX12_hasRoom 0 = .ok (.aload_n 0, 1) := by decide +kernel
theorem dX12_hasRoom_1 : decode cX12_hasRoom 1 = .ok (.getfield 488, 3) := by decide +kernel
theorem dX12_hasRoom_4 : decode cX12_hasRoom 4 = .ok (.iload_n 1, 1) := by decide +kernel
theorem dX12_hasRoom_5 : decode cX12_hasRoom 5 = .ok (.iadd, 1) := by decide +kernel
theorem dX12_hasRoom_6 : decode cX12_hasRoom 6 = .ok (.aload_n 0, 1) := by decide +kernel
theorem dX12_hasRoom_7 : decode cX12_hasRoom 7 = .ok (.getfield 170, 3) := by decide +kernel
theorem dX12_hasRoom_10 : decode cX12_hasRoom 10 = .ok (.if_icmp .le 10, 3) := by decide +kernel
theorem dX12_hasRoom_13 : decode cX12_hasRoom 13 = .ok (.aload_n 0, 1) := by decide +kernel
theorem dX12_hasRoom_14 : decode cX12_hasRoom 14 = .ok (.iconst 4, 1) := by decide +kernel
theorem dX12_hasRoom_15 : decode cX12_hasRoom 15 = .ok (.putfield 494, 3) := by decide +kernel
theorem dX12_hasRoom_18 : decode cX12_hasRoom 18 = .ok (.iconst 0, 1) := by decide +kernel
theorem dX12_hasRoom_19 : decode cX12_hasRoom 19 = .ok (.ireturn, 1) := by decide +kernel
theorem dX12_hasRoom_20 : decode cX12_hasRoom 20 = .ok (.iconst 1, 1) := by decide +kernel
theorem dX12_hasRoom_21 : decode cX12_hasRoom 21 = .ok (.ireturn, 1) := by decide +kernel
theorem dX12_pushes_0 : decode cX12_pushes 0 = .ok (.aload_n 0, 1) := by decide +kernel
theorem dX12_pushes_1 : decode cX12_pushes 1 = .ok (.iconst 1, 1) := by decide +kernel
theorem dX12_pushes_2 : decode cX12_pushes 2 = .ok (.invokevirtual 527, 3) := by decide +kernel
theorem dX12_pushes_5 : decode cX12_pushes 5 = .ok (.ifCond .eq 23, 3) := by decide +kernel
theorem dX12_pushes_8 : decode cX12_pushes 8 = .ok (.aload_n 0, 1) := by decide +kernel
theorem dX12_pushes_9 : decode cX12_pushes 9 = .ok (.getfield 16, 3) := by decide +kernel
theorem dX12_pushes_12 : decode cX12_pushes 12 = .ok (.aload_n 0, 1) := by decide +kernel
theorem dX12_pushes_13 : decode cX12_pushes 13 = .ok (.getfield 488, 3) := by decide +kernel
theorem dX12_pushes_16 : decode cX12_pushes 16 = .ok (.iload_n 1, 1) := by decide +kernel
theorem dX12_pushes_17 : decode cX12_pushes 17 = .ok (.iastore, 1) := by decide +kernel
theorem dX12_pushes_18 : decode cX12_pushes 18 = .ok (.aload_n 0, 1) := by decide +kernel
theorem dX12_pushes_19 : decode cX12_pushes 19 = .ok (.dup, 1) := by decide +kernel
theorem dX12_pushes_20 : decode cX12_pushes 20 = .ok (.getfield 488, 3) := by decide +kernel
theorem dX12_pushes_23 : decode cX12_pushes 23 = .ok (.iconst 1, 1) := by decide +kernel
theorem dX12_pushes_24 : decode cX12_pushes 24 = .ok (.iadd, 1) := by decide +kernel
theorem dX12_pushes_25 : decode cX12_pushes 25 = .ok (.putfield 488, 3) := by decide +kernel
theorem dX12_pushes_28 : decode cX12_pushes 28 = .ok (.return_, 1) := by decide +kernel
theorem dX12_top_0 : decode cX12_top 0 = .ok (.aload_n 0, 1) := by decide +kernel
theorem dX12_top_1 : decode cX12_top 1 = .ok (.dup, 1) := by decide +kernel
theorem dX12_top_2 : decode cX12_top 2 = .ok (.getfield 488, 3) := by decide +kernel
theorem dX12_top_5 : decode cX12_top 5 = .ok (.iconst 1, 1) := by decide +kernel
theorem dX12_top_6 : decode cX12_top 6 = .ok (.isub, 1) := by decide +kernel
theorem dX12_top_7 : decode cX12_top 7 = .ok (.putfield 488, 3) := by decide +kernel
theorem dX12_top_10 : decode cX12_top 10 = .ok (.aload_n 0, 1) := by decide +kernel
theorem dX12_top_11 : decode cX12_top 11 = .ok (.getfield 16, 3) := by decide +kernel
theorem dX12_top_14 : decode cX12_top 14 = .ok (.aload_n 0, 1) := by decide +kernel
theorem dX12_top_15 : decode cX12_top 15 = .ok (.getfield 488, 3) := by decide +kernel
theorem dX12_top_18 : decode cX12_top 18 = .ok (.iaload, 1) := by decide +kernel
theorem dX12_top_19 : decode cX12_top 19 = .ok (.ireturn, 1) := by decide +kernel
theorem dX12_comesOut_0 : decode cX12_comesOut 0 = .ok (.aload_n 0, 1) := by decide +kernel
theorem dX12_comesOut_1 : decode cX12_comesOut 1 = .ok (.getfield 500, 3) := by decide +kernel
theorem dX12_comesOut_4 : decode cX12_comesOut 4 = .ok (.aload_n 0, 1) := by decide +kernel
theorem dX12_comesOut_5 : decode cX12_comesOut 5 = .ok (.getfield 173, 3) := by decide +kernel
theorem dX12_comesOut_8 : decode cX12_comesOut 8 = .ok (.if_icmp .ne 10, 3) := by decide +kernel
theorem dX12_comesOut_11 : decode cX12_comesOut 11 = .ok (.aload_n 0, 1) := by decide +kernel
theorem dX12_comesOut_12 : decode cX12_comesOut 12 = .ok (.bipush 6, 2) := by decide +kernel
theorem dX12_comesOut_14 : decode cX12_comesOut 14 = .ok (.putfield 494, 3) := by decide +kernel
theorem dX12_comesOut_17 : decode cX12_comesOut 17 = .ok (.return_, 1) := by decide +kernel
theorem dX12_comesOut_18 : decode cX12_comesOut 18 = .ok (.aload_n 0, 1) := by decide +kernel
theorem dX12_comesOut_19 : decode cX12_comesOut 19 = .ok (.getfield 22, 3) := by decide +kernel
theorem dX12_comesOut_22 : decode cX12_comesOut 22 = .ok (.aload_n 0, 1) := by decide +kernel
theorem dX12_comesOut_23 : decode cX12_comesOut 23 = .ok (.getfield 500, 3) := by decide +kernel
theorem dX12_comesOut_26 : decode cX12_comesOut 26 = .ok (.iload_n 1, 1) := by decide +kernel
theorem dX12_comesOut_27 : decode cX12_comesOut 27 = .ok (.iastore, 1) := by decide +kernel
theorem dX12_comesOut_28 : decode cX12_comesOut 28 = .ok (.aload_n 0, 1) := by decide +kernel
theorem dX12_comesOut_29 : decode cX12_comesOut 29 = .ok (.dup, 1) := by decide +kernel
theorem dX12_comesOut_30 : decode cX12_comesOut 30 = .ok (.getfield 500, 3) := by decide +kernel
theorem dX12_comesOut_33 : decode cX12_comesOut 33 = .ok (.iconst 1, 1) := by decide +kernel
theorem dX12_comesOut_34 : decode cX12_comesOut 34 = .ok (.iadd, 1) := by decide +kernel
theorem dX12_comesOut_35 : decode cX12_comesOut 35 = .ok (.putfield 500, 3) := by decide +kernel
theorem dX12_comesOut_38 : decode cX12_comesOut 38 = .ok (.return_, 1) := by decide +kernel
theorem dX12_act_0 : decode cX12_act 0 = .ok (.aload_n 0, 1) := by decide +kernel
theorem dX12_act_1 : decode cX12_act 1 = .ok (.getfield 278, 3) := by decide +kernel
theorem dX12_act_4 : decode cX12_act 4 = .ok (.aload_n 0, 1) := by decide +kernel
theorem dX12_act_5 : decode cX12_act 5 = .ok (.getfield 170, 3) := by decide +kernel
theorem dX12_act_8 : decode cX12_act 8 = .ok (.if_icmp .le 9, 3) := by decide +kernel
theorem dX12_act_11 : decode cX12_act 11 = .ok (.aload_n 0, 1) := by decide +kernel
theorem dX12_act_12 : decode cX12_act 12 = .ok (.iconst 4, 1) := by decide +kernel
theorem dX12_act_13 : decode cX12_act 13 = .ok (.putfield 494, 3) := by decide +kernel
theorem dX12_act_16 : decode cX12_act 16 = .ok (.return_, 1) := by decide +kernel
theorem dX12_act_17 : decode cX12_act 17 = .ok (.aload_n 0, 1) := by decide +kernel
theorem dX12_act_18 : decode cX12_act 18 = .ok (.getfield 13, 3) := by decide +kernel
theorem dX12_act_21 : decode cX12_act 21 = .ok (.aload_n 0, 1) := by decide +kernel
theorem dX12_act_22 : decode cX12_act 22 = .ok (.getfield 485, 3) := by decide +kernel
theorem dX12_act_25 : decode cX12_act 25 = .ok (.iaload, 1) := by decide +kernel
theorem dX12_act_26 : decode cX12_act 26 = .ok (.istore_n 1, 1) := by decide +kernel
theorem dX12_act_27 : decode cX12_act 27 = .ok (.aload_n 0, 1) := by decide +kernel
theorem dX12_act_28 : decode cX12_act 28 = .ok (.getfield 485, 3) := by decide +kernel
theorem dX12_act_31 : decode cX12_act 31 = .ok (.iconst 1, 1) := by decide +kernel
theorem dX12_act_32 : decode cX12_act 32 = .ok (.iadd, 1) := by decide +kernel
theorem dX12_act_33 : decode cX12_act 33 = .ok (.aload_n 0, 1) := by decide +kernel
theorem dX12_act_34 : decode cX12_act 34 = .ok (.getfield 472, 3) := by decide +kernel
theorem dX12_act_37 : decode cX12_act 37 = .ok (.if_icmp .ge 17, 3) := by decide +kernel
theorem dX12_act_40 : decode cX12_act 40 = .ok (.aload_n 0, 1) := by decide +kernel
theorem dX12_act_41 : decode cX12_act 41 = .ok (.getfield 13, 3) := by decide +kernel
theorem dX12_act_44 : decode cX12_act 44 = .ok (.aload_n 0, 1) := by decide +kernel
theorem dX12_act_45 : decode cX12_act 45 = .ok (.getfield 485, 3) := by decide +kernel
theorem dX12_act_48 : decode cX12_act 48 = .ok (.iconst 1, 1) := by decide +kernel
theorem dX12_act_49 : decode cX12_act 49 = .ok (.iadd, 1) := by decide +kernel
theorem dX12_act_50 : decode cX12_act 50 = .ok (.iaload, 1) := by decide +kernel
theorem dX12_act_51 : decode cX12_act 51 = .ok (.goto 4, 3) := by decide +kernel
theorem dX12_act_54 : decode cX12_act 54 = .ok (.iconst 0, 1) := by decide +kernel
theorem dX12_act_55 : decode cX12_act 55 = .ok (.istore_n 2, 1) := by decide +kernel
theorem dX12_act_56 : decode cX12_act 56 = .ok (.aload_n 0, 1) := by decide +kernel
theorem dX12_act_57 : decode cX12_act 57 = .ok (.getfield 485, 3) := by decide +kernel
theorem dX12_act_60 : decode cX12_act 60 = .ok (.iconst 2, 1) := by decide +kernel
theorem dX12_act_61 : decode cX12_act 61 = .ok (.iadd, 1) := by decide +kernel
theorem dX12_act_62 : decode cX12_act 62 = .ok (.aload_n 0, 1) := by decide +kernel
theorem dX12_act_63 : decode cX12_act 63 = .ok (.getfield 472, 3) := by decide +kernel
theorem dX12_act_66 : decode cX12_act 66 = .ok (.if_icmp .ge 17, 3) := by decide +kernel
theorem dX12_act_69 : decode cX12_act 69 = .ok (.aload_n 0, 1) := by decide +kernel
theorem dX12_act_70 : decode cX12_act 70 = .ok (.getfield 13, 3) := by decide +kernel
theorem dX12_act_73 : decode cX12_act 73 = .ok (.aload_n 0, 1) := by decide +kernel
theorem dX12_act_74 : decode cX12_act 74 = .ok (.getfield 485, 3) := by decide +kernel
theorem dX12_act_77 : decode cX12_act 77 = .ok (.iconst 2, 1) := by decide +kernel
theorem dX12_act_78 : decode cX12_act 78 = .ok (.iadd, 1) := by decide +kernel
theorem dX12_act_79 : decode cX12_act 79 = .ok (.iaload, 1) := by decide +kernel
theorem dX12_act_80 : decode cX12_act 80 = .ok (.goto 4, 3) := by decide +kernel
theorem dX12_act_83 : decode cX12_act 83 = .ok (.iconst 0, 1) := by decide +kernel
theorem dX12_act_84 : decode cX12_act 84 = .ok (.istore_n 3, 1) := by decide +kernel
theorem dX12_act_85 : decode cX12_act 85 = .ok (.iload_n 1, 1) := by decide +kernel
theorem dX12_act_86 : decode cX12_act 86 = .ok (.bipush 10, 2) := by decide +kernel
theorem dX12_act_88 : decode cX12_act 88 = .ok (.if_icmp .lt 25, 3) := by decide +kernel
theorem dX12_act_91 : decode cX12_act 91 = .ok (.iload_n 1, 1) := by decide +kernel
theorem dX12_act_92 : decode cX12_act 92 = .ok (.bipush 28, 2) := by decide +kernel
theorem dX12_act_94 : decode cX12_act 94 = .ok (.if_icmp .gt 19, 3) := by decide +kernel
theorem dX12_act_97 : decode cX12_act 97 = .ok (.aload_n 0, 1) := by decide +kernel
theorem dX12_act_98 : decode cX12_act 98 = .ok (.dup, 1) := by decide +kernel
theorem dX12_act_99 : decode cX12_act 99 = .ok (.getfield 485, 3) := by decide +kernel
theorem dX12_act_102 : decode cX12_act 102 = .ok (.iconst 1, 1) := by decide +kernel
theorem dX12_act_103 : decode cX12_act 103 = .ok (.iadd, 1) := by decide +kernel
theorem dX12_act_104 : decode cX12_act 104 = .ok (.putfield 485, 3) := by decide +kernel
theorem dX12_act_107 : decode cX12_act 107 = .ok (.aload_n 0, 1) := by decide +kernel
theorem dX12_act_108 : decode cX12_act 108 = .ok (.iload_n 1, 1) := by decide +kernel
theorem dX12_act_109 : decode cX12_act 109 = .ok (.invokevirtual 530, 3) := by decide +kernel
theorem dX12_act_112 : decode cX12_act 112 = .ok (.return_, 1) := by decide +kernel
theorem dX12_act_113 : decode cX12_act 113 = .ok (.iload_n 1, 1) := by decide +kernel
theorem dX12_act_114 : decode cX12_act 114 = .ok (.tableswitch 321 0 31 #[142, 149, 167, 190, 213, 241, 269, 269, 321, 321, 321, 321, 321, 321, 321, 321, 321, 321, 321, 321, 321, 321, 321, 321, 321, 321, 321, 321, 321, 321, 289, 297], 142) := by decide +kernel
theorem dX12_act_256 : decode cX12_act 256 = .ok (.aload_n 0, 1) := by decide +kernel
theorem dX12_act_257 : decode cX12_act 257 = .ok (.invokevirtual 533, 3) := by decide +kernel
theorem dX12_act_260 : decode cX12_act 260 = .ok (.goto 182, 3) := by decide +kernel
theorem dX12_act_263 : decode cX12_act 263 = .ok (.aload_n 0, 1) := by decide +kernel
theorem dX12_act_264 : decode cX12_act 264 = .ok (.dup, 1) := by decide +kernel
theorem dX12_act_265 : decode cX12_act 265 = .ok (.getfield 485, 3) := by decide +kernel
theorem dX12_act_268 : decode cX12_act 268 = .ok (.iconst 2, 1) := by decide +kernel
theorem dX12_act_269 : decode cX12_act 269 = .ok (.iadd, 1) := by decide +kernel
theorem dX12_act_270 : decode cX12_act 270 = .ok (.putfield 485, 3) := by decide +kernel
theorem dX12_act_273 : decode cX12_act 273 = .ok (.aload_n 0, 1) := by decide +kernel
theorem dX12_act_274 : decode cX12_act 274 = .ok (.iload_n 2, 1) := by decide +kernel
theorem dX12_act_275 : decode cX12_act 275 = .ok (.invokevirtual 536, 3) := by decide +kernel
theorem dX12_act_278 : decode cX12_act 278 = .ok (.goto 164, 3) := by decide +kernel
theorem dX12_act_281 : decode cX12_act 281 = .ok (.aload_n 0, 1) := by decide +kernel
theorem dX12_act_282 : decode cX12_act 282 = .ok (.dup, 1) := by decide +kernel
theorem dX12_act_283 : decode cX12_act 283 = .ok (.getfield 485, 3) := by decide +kernel
theorem dX12_act_286 : decode cX12_act 286 = .ok (.iconst 2, 1) := by decide +kernel
theorem dX12_act_287 : decode cX12_act 287 = .ok (.iadd, 1) := by decide +kernel
theorem dX12_act_288 : decode cX12_act 288 = .ok (.putfield 485, 3) := by decide +kernel
theorem dX12_act_291 : decode cX12_act 291 = .ok (.aload_n 0, 1) := by decide +kernel
theorem dX12_act_292 : decode cX12_act 292 = .ok (.aload_n 0, 1) := by decide +kernel
theorem dX12_act_293 : decode cX12_act 293 = .ok (.getfield 16, 3) := by decide +kernel
theorem dX12_act_296 : decode cX12_act 296 = .ok (.iload_n 2, 1) := by decide +kernel
theorem dX12_act_297 : decode cX12_act 297 = .ok (.iaload, 1) := by decide +kernel
theorem dX12_act_298 : decode cX12_act 298 = .ok (.invokevirtual 536, 3) := by decide +kernel
theorem dX12_act_301 : decode cX12_act 301 = .ok (.goto 141, 3) := by decide +kernel
theorem dX12_act_304 : decode cX12_act 304 = .ok (.aload_n 0, 1) := by decide +kernel
theorem dX12_act_305 : decode cX12_act 305 = .ok (.dup, 1) := by decide +kernel
theorem dX12_act_306 : decode cX12_act 306 = .ok (.getfield 485, 3) := by decide +kernel
theorem dX12_act_309 : decode cX12_act 309 = .ok (.iconst 2, 1) := by decide +kernel
theorem dX12_act_310 : decode cX12_act 310 = .ok (.iadd, 1) := by decide +kernel
theorem dX12_act_311 : decode cX12_act 311 = .ok (.putfield 485, 3) := by decide +kernel
theorem dX12_act_314 : decode cX12_act 314 = .ok (.aload_n 0, 1) := by decide +kernel
theorem dX12_act_315 : decode cX12_act 315 = .ok (.getfield 16, 3) := by decide +kernel
theorem dX12_act_318 : decode cX12_act 318 = .ok (.iload_n 2, 1) := by decide +kernel
theorem dX12_act_319 : decode cX12_act 319 = .ok (.aload_n 0, 1) := by decide +kernel
theorem dX12_act_320 : decode cX12_act 320 = .ok (.invokevirtual 539, 3) := by decide +kernel
theorem dX12_act_323 : decode cX12_act 323 = .ok (.iastore, 1) := by decide +kernel
theorem dX12_act_324 : decode cX12_act 324 = .ok (.goto 118, 3) := by decide +kernel
theorem dX12_act_327 : decode cX12_act 327 = .ok (.aload_n 0, 1) := by decide +kernel
theorem dX12_act_328 : decode cX12_act 328 = .ok (.dup, 1) := by decide +kernel
theorem dX12_act_329 : decode cX12_act 329 = .ok (.getfield 485, 3) := by decide +kernel
theorem dX12_act_332 : decode cX12_act 332 = .ok (.iconst 2, 1) := by decide +kernel
theorem dX12_act_333 : decode cX12_act 333 = .ok (.iadd, 1) := by decide +kernel
theorem dX12_act_334 : decode cX12_act 334 = .ok (.putfield 485, 3) := by decide +kernel
theorem dX12_act_337 : decode cX12_act 337 = .ok (.aload_n 0, 1) := by decide +kernel
theorem dX12_act_338 : decode cX12_act 338 = .ok (.aload_n 0, 1) := by decide +kernel
theorem dX12_act_339 : decode cX12_act 339 = .ok (.getfield 16, 3) := by decide +kernel
theorem dX12_act_342 : decode cX12_act 342 = .ok (.aload_n 0, 1) := by decide +kernel
theorem dX12_act_343 : decode cX12_act 343 = .ok (.getfield 491, 3) := by decide +kernel
theorem dX12_act_346 : decode cX12_act 346 = .ok (.iload_n 2, 1) := by decide +kernel
theorem dX12_act_347 : decode cX12_act 347 = .ok (.iadd, 1) := by decide +kernel
theorem dX12_act_348 : decode cX12_act 348 = .ok (.iaload, 1) := by decide +kernel
theorem dX12_act_349 : decode cX12_act 349 = .ok (.invokevirtual 536, 3) := by decide +kernel
theorem dX12_act_352 : decode cX12_act 352 = .ok (.goto 90, 3) := by decide +kernel
theorem dX12_act_355 : decode cX12_act 355 = .ok (.aload_n 0, 1) := by decide +kernel
theorem dX12_act_356 : decode cX12_act 356 = .ok (.dup, 1) := by decide +kernel
theorem dX12_act_357 : decode cX12_act 357 = .ok (.getfield 485, 3) := by decide +kernel
theorem dX12_act_360 : decode cX12_act 360 = .ok (.iconst 2, 1) := by decide +kernel
theorem dX12_act_361 : decode cX12_act 361 = .ok (.iadd, 1) := by decide +kernel
theorem dX12_act_362 : decode cX12_act 362 = .ok (.putfield 485, 3) := by decide +kernel
theorem dX12_act_365 : decode cX12_act 365 = .ok (.aload_n 0, 1) := by decide +kernel
theorem dX12_act_366 : decode cX12_act 366 = .ok (.getfield 16, 3) := by decide +kernel
theorem dX12_act_369 : decode cX12_act 369 = .ok (.aload_n 0, 1) := by decide +kernel
theorem dX12_act_370 : decode cX12_act 370 = .ok (.getfield 491, 3) := by decide +kernel
theorem dX12_act_373 : decode cX12_act 373 = .ok (.iload_n 2, 1) := by decide +kernel
theorem dX12_act_374 : decode cX12_act 374 = .ok (.iadd, 1) := by decide +kernel
theorem dX12_act_375 : decode cX12_act 375 = .ok (.aload_n 0, 1) := by decide +kernel
theorem dX12_act_376 : decode cX12_act 376 = .ok (.invokevirtual 539, 3) := by decide +kernel
theorem dX12_act_379 : decode cX12_act 379 = .ok (.iastore, 1) := by decide +kernel
theorem dX12_act_380 : decode cX12_act 380 = .ok (.goto 62, 3) := by decide +kernel
theorem dX12_act_383 : decode cX12_act 383 = .ok (.aload_n 0, 1) := by decide +kernel
theorem dX12_act_384 : decode cX12_act 384 = .ok (.dup, 1) := by decide +kernel
theorem dX12_act_385 : decode cX12_act 385 = .ok (.getfield 485, 3) := by decide +kernel
theorem dX12_act_388 : decode cX12_act 388 = .ok (.iconst 3, 1) := by decide +kernel
theorem dX12_act_389 : decode cX12_act 389 = .ok (.iadd, 1) := by decide +kernel
theorem dX12_act_390 : decode cX12_act 390 = .ok (.putfield 485, 3) := by decide +kernel
theorem dX12_act_393 : decode cX12_act 393 = .ok (.aload_n 0, 1) := by decide +kernel
theorem dX12_act_394 : decode cX12_act 394 = .ok (.iload_n 1, 1) := by decide +kernel
theorem dX12_act_395 : decode cX12_act 395 = .ok (.iload_n 2, 1) := by decide +kernel
theorem dX12_act_396 : decode cX12_act 396 = .ok (.iload_n 3, 1) := by decide +kernel
theorem dX12_act_397 : decode cX12_act 397 = .ok (.invokevirtual 542, 3) := by decide +kernel
theorem dX12_act_400 : decode cX12_act 400 = .ok (.goto 42, 3) := by decide +kernel
theorem dX12_act_403 : decode cX12_act 403 = .ok (.aload_n 0, 1) := by decide +kernel
theorem dX12_act_404 : decode cX12_act 404 = .ok (.iload_n 2, 1) := by decide +kernel
theorem dX12_act_405 : decode cX12_act 405 = .ok (.putfield 485, 3) := by decide +kernel
theorem dX12_act_408 : decode cX12_act 408 = .ok (.goto 34, 3) := by decide +kernel
theorem dX12_act_411 : decode cX12_act 411 = .ok (.aload_n 0, 1) := by decide +kernel
theorem dX12_act_412 : decode cX12_act 412 = .ok (.aload_n 0, 1) := by decide +kernel
theorem dX12_act_413 : decode cX12_act 413 = .ok (.invokevirtual 539, 3) := by decide +kernel
theorem dX12_act_416 : decode cX12_act 416 = .ok (.ifCond .ne 7, 3) := by decide +kernel
theorem dX12_act_419 : decode cX12_act 419 = .ok (.iload_n 2, 1) := by decide +kernel
theorem dX12_act_420 : decode cX12_act 420 = .ok (.goto 9, 3) := by decide +kernel
theorem dX12_act_423 : decode cX12_act 423 = .ok (.aload_n 0, 1) := by decide +kernel
theorem dX12_act_424 : decode cX12_act 424 = .ok (.getfield 485, 3) := by decide +kernel
theorem dX12_act_427 : decode cX12_act 427 = .ok (.iconst 2, 1) := by decide +kernel
theorem dX12_act_428 : decode cX12_act 428 = .ok (.iadd, 1) := by decide +kernel
theorem dX12_act_429 : decode cX12_act 429 = .ok (.putfield 485, 3) := by decide +kernel
theorem dX12_act_432 : decode cX12_act 432 = .ok (.goto 10, 3) := by decide +kernel
theorem dX12_act_435 : decode cX12_act 435 = .ok (.aload_n 0, 1) := by decide +kernel
theorem dX12_act_436 : decode cX12_act 436 = .ok (.iload_n 1, 1) := by decide +kernel
theorem dX12_act_437 : decode cX12_act 437 = .ok (.iload_n 2, 1) := by decide +kernel
theorem dX12_act_438 : decode cX12_act 438 = .ok (.iload_n 3, 1) := by decide +kernel
theorem dX12_act_439 : decode cX12_act 439 = .ok (.invokevirtual 544, 3) := by decide +kernel
theorem dX12_act_442 : decode cX12_act 442 = .ok (.return_, 1) := by decide +kernel
theorem dX12_ends_0 : decode cX12_ends 0 = .ok (.aload_n 0, 1) := by decide +kernel
theorem dX12_ends_1 : decode cX12_ends 1 = .ok (.aload_n 0, 1) := by decide +kernel
theorem dX12_ends_2 : decode cX12_ends 2 = .ok (.getfield 16, 3) := by decide +kernel
theorem dX12_ends_5 : decode cX12_ends 5 = .ok (.aload_n 0, 1) := by decide +kernel
theorem dX12_ends_6 : decode cX12_ends 6 = .ok (.getfield 488, 3) := by decide +kernel
theorem dX12_ends_9 : decode cX12_ends 9 = .ok (.iconst 1, 1) := by decide +kernel
theorem dX12_ends_10 : decode cX12_ends 10 = .ok (.isub, 1) := by decide +kernel
theorem dX12_ends_11 : decode cX12_ends 11 = .ok (.iaload, 1) := by decide +kernel
theorem dX12_ends_12 : decode cX12_ends 12 = .ok (.invokevirtual 547, 3) := by decide +kernel
theorem dX12_ends_15 : decode cX12_ends 15 = .ok (.aload_n 0, 1) := by decide +kernel
theorem dX12_ends_16 : decode cX12_ends 16 = .ok (.aload_n 0, 1) := by decide +kernel
theorem dX12_ends_17 : decode cX12_ends 17 = .ok (.getfield 494, 3) := by decide +kernel
theorem dX12_ends_20 : decode cX12_ends 20 = .ok (.ifCond .ne 7, 3) := by decide +kernel
theorem dX12_ends_23 : decode cX12_ends 23 = .ok (.iconst 1, 1) := by decide +kernel
theorem dX12_ends_24 : decode cX12_ends 24 = .ok (.goto 7, 3) := by decide +kernel
theorem dX12_ends_27 : decode cX12_ends 27 = .ok (.aload_n 0, 1) := by decide +kernel
theorem dX12_ends_28 : decode cX12_ends 28 = .ok (.getfield 494, 3) := by decide +kernel
theorem dX12_ends_31 : decode cX12_ends 31 = .ok (.putfield 494, 3) := by decide +kernel
theorem dX12_ends_34 : decode cX12_ends 34 = .ok (.return_, 1) := by decide +kernel
theorem dX12_items_0 : decode cX12_items 0 = .ok (.iload_n 1, 1) := by decide +kernel
theorem dX12_items_1 : decode cX12_items 1 = .ok (.bipush 7, 2) := by decide +kernel
theorem dX12_items_3 : decode cX12_items 3 = .ok (.if_icmp .ne 10, 3) := by decide +kernel
theorem dX12_items_6 : decode cX12_items 6 = .ok (.aload_n 0, 1) := by decide +kernel
theorem dX12_items_7 : decode cX12_items 7 = .ok (.invokevirtual 539, 3) := by decide +kernel
theorem dX12_items_10 : decode cX12_items 10 = .ok (.goto 4, 3) := by decide +kernel
theorem dX12_items_13 : decode cX12_items 13 = .ok (.iconst 0, 1) := by decide +kernel
theorem dX12_items_14 : decode cX12_items 14 = .ok (.istore 4, 2) := by decide +kernel
theorem dX12_items_16 : decode cX12_items 16 = .ok (.aload_n 0, 1) := by decide +kernel
theorem dX12_items_17 : decode cX12_items 17 = .ok (.invokevirtual 539, 3) := by decide +kernel
theorem dX12_items_20 : decode cX12_items 20 = .ok (.istore 5, 2) := by decide +kernel
theorem dX12_items_22 : decode cX12_items 22 = .ok (.iload 5, 2) := by decide +kernel
theorem dX12_items_24 : decode cX12_items 24 = .ok (.ifCond .lt 9, 3) := by decide +kernel
theorem dX12_items_27 : decode cX12_items 27 = .ok (.iload 5, 2) := by decide +kernel
theorem dX12_items_29 : decode cX12_items 29 = .ok (.iload_n 3, 1) := by decide +kernel
theorem dX12_items_30 : decode cX12_items 30 = .ok (.if_icmp .lt 11, 3) := by decide +kernel
theorem dX12_items_33 : decode cX12_items 33 = .ok (.aload_n 0, 1) := by decide +kernel
theorem dX12_items_34 : decode cX12_items 34 = .ok (.iconst 3, 1) := by decide +kernel
theorem dX12_items_35 : decode cX12_items 35 = .ok (.putfield 494, 3) := by decide +kernel
theorem dX12_items_38 : decode cX12_items 38 = .ok (.goto 36, 3) := by decide +kernel
theorem dX12_items_41 : decode cX12_items 41 = .ok (.iload_n 1, 1) := by decide +kernel
theorem dX12_items_42 : decode cX12_items 42 = .ok (.bipush 7, 2) := by decide +kernel
theorem dX12_items_44 : decode cX12_items 44 = .ok (.if_icmp .ne 17, 3) := by decide +kernel
theorem dX12_items_47 : decode cX12_items 47 = .ok (.aload_n 0, 1) := by decide +kernel
theorem dX12_items_48 : decode cX12_items 48 = .ok (.getfield 16, 3) := by decide +kernel
theorem dX12_items_51 : decode cX12_items 51 = .ok (.iload_n 2, 1) := by decide +kernel
theorem dX12_items_52 : decode cX12_items 52 = .ok (.iload 5, 2) := by decide +kernel
theorem dX12_items_54 : decode cX12_items 54 = .ok (.iadd, 1) := by decide +kernel
theorem dX12_items_55 : decode cX12_items 55 = .ok (.iload 4, 2) := by decide +kernel
theorem dX12_items_57 : decode cX12_items 57 = .ok (.iastore, 1) := by decide +kernel
theorem dX12_items_58 : decode cX12_items 58 = .ok (.goto 16, 3) := by decide +kernel
theorem dX12_items_61 : decode cX12_items 61 = .ok (.aload_n 0, 1) := by decide +kernel
theorem dX12_items_62 : decode cX12_items 62 = .ok (.aload_n 0, 1) := by decide +kernel
theorem dX12_items_63 : decode cX12_items 63 = .ok (.getfield 16, 3) := by decide +kernel
theorem dX12_items_66 : decode cX12_items 66 = .ok (.iload_n 2, 1) := by decide +kernel
theorem dX12_items_67 : decode cX12_items 67 = .ok (.iload 5, 2) := by decide +kernel
theorem dX12_items_69 : decode cX12_items 69 = .ok (.iadd, 1) := by decide +kernel
theorem dX12_items_70 : decode cX12_items 70 = .ok (.iaload, 1) := by decide +kernel
theorem dX12_items_71 : decode cX12_items 71 = .ok (.invokevirtual 536, 3) := by decide +kernel
theorem dX12_items_74 : decode cX12_items 74 = .ok (.return_, 1) := by decide +kernel
theorem dX12_acts_0 : decode cX12_acts 0 = .ok (.iload_n 1, 1) := by decide +kernel
theorem dX12_acts_1 : decode cX12_acts 1 = .ok (.tableswitch 297 32 36 #[35, 99, 175, 196, 274], 35) := by decide +kernel
theorem dX12_acts_36 : decode cX12_acts 36 = .ok (.aload_n 0, 1) := by decide +kernel
theorem dX12_acts_37 : decode cX12_acts 37 = .ok (.iconst 2, 1) := by decide +kernel
theorem dX12_acts_38 : decode cX12_acts 38 = .ok (.invokevirtual 527, 3) := by decide +kernel
theorem dX12_acts_41 : decode cX12_acts 41 = .ok (.ifCond .eq 313, 3) := by decide +kernel
theorem dX12_acts_44 : decode cX12_acts 44 = .ok (.aload_n 0, 1) := by decide +kernel
theorem dX12_acts_45 : decode cX12_acts 45 = .ok (.getfield 16, 3) := by decide +kernel
theorem dX12_acts_48 : decode cX12_acts 48 = .ok (.aload_n 0, 1) := by decide +kernel
theorem dX12_acts_49 : decode cX12_acts 49 = .ok (.getfield 488, 3) := by decide +kernel
theorem dX12_acts_52 : decode cX12_acts 52 = .ok (.aload_n 0, 1) := by decide +kernel
theorem dX12_acts_53 : decode cX12_acts 53 = .ok (.getfield 485, 3) := by decide +kernel
theorem dX12_acts_56 : decode cX12_acts 56 = .ok (.iconst 3, 1) := by decide +kernel
theorem dX12_acts_57 : decode cX12_acts 57 = .ok (.iadd, 1) := by decide +kernel
theorem dX12_acts_58 : decode cX12_acts 58 = .ok (.iastore, 1) := by decide +kernel
theorem dX12_acts_59 : decode cX12_acts 59 = .ok (.aload_n 0, 1) := by decide +kernel
theorem dX12_acts_60 : decode cX12_acts 60 = .ok (.getfield 16, 3) := by decide +kernel
theorem dX12_acts_63 : decode cX12_acts 63 = .ok (.aload_n 0, 1) := by decide +kernel
theorem dX12_acts_64 : decode cX12_acts 64 = .ok (.getfield 488, 3) := by decide +kernel
theorem dX12_acts_67 : decode cX12_acts 67 = .ok (.iconst 1, 1) := by decide +kernel
theorem dX12_acts_68 : decode cX12_acts 68 = .ok (.iadd, 1) := by decide +kernel
theorem dX12_acts_69 : decode cX12_acts 69 = .ok (.aload_n 0, 1) := by decide +kernel
theorem dX12_acts_70 : decode cX12_acts 70 = .ok (.getfield 491, 3) := by decide +kernel
theorem dX12_acts_73 : decode cX12_acts 73 = .ok (.iastore, 1) := by decide +kernel
theorem dX12_acts_74 : decode cX12_acts 74 = .ok (.aload_n 0, 1) := by decide +kernel
theorem dX12_acts_75 : decode cX12_acts 75 = .ok (.dup, 1) := by decide +kernel
theorem dX12_acts_76 : decode cX12_acts 76 = .ok (.getfield 488, 3) := by decide +kernel
theorem dX12_acts_79 : decode cX12_acts 79 = .ok (.iconst 2, 1) := by decide +kernel
theorem dX12_acts_80 : decode cX12_acts 80 = .ok (.iadd, 1) := by decide +kernel
theorem dX12_acts_81 : decode cX12_acts 81 = .ok (.putfield 488, 3) := by decide +kernel
theorem dX12_acts_84 : decode cX12_acts 84 = .ok (.aload_n 0, 1) := by decide +kernel
theorem dX12_acts_85 : decode cX12_acts 85 = .ok (.aload_n 0, 1) := by decide +kernel
theorem dX12_acts_86 : decode cX12_acts 86 = .ok (.getfield 488, 3) := by decide +kernel
theorem dX12_acts_89 : decode cX12_acts 89 = .ok (.putfield 491, 3) := by decide +kernel
theorem dX12_acts_92 : decode cX12_acts 92 = .ok (.aload_n 0, 1) := by decide +kernel
theorem dX12_acts_93 : decode cX12_acts 93 = .ok (.iload_n 2, 1) := by decide +kernel
theorem dX12_acts_94 : decode cX12_acts 94 = .ok (.putfield 485, 3) := by decide +kernel
theorem dX12_acts_97 : decode cX12_acts 97 = .ok (.goto 257, 3) := by decide +kernel
theorem dX12_acts_100 : decode cX12_acts 100 = .ok (.aload_n 0, 1) := by decide +kernel
theorem dX12_acts_101 : decode cX12_acts 101 = .ok (.invokevirtual 539, 3) := by decide +kernel
theorem dX12_acts_104 : decode cX12_acts 104 = .ok (.istore 4, 2) := by decide +kernel
theorem dX12_acts_106 : decode cX12_acts 106 = .ok (.aload_n 0, 1) := by decide +kernel
theorem dX12_acts_107 : decode cX12_acts 107 = .ok (.getfield 16, 3) := by decide +kernel
theorem dX12_acts_110 : decode cX12_acts 110 = .ok (.aload_n 0, 1) := by decide +kernel
theorem dX12_acts_111 : decode cX12_acts 111 = .ok (.getfield 491, 3) := by decide +kernel
theorem dX12_acts_114 : decode cX12_acts 114 = .ok (.iconst 2, 1) := by decide +kernel
theorem dX12_acts_115 : decode cX12_acts 115 = .ok (.isub, 1) := by decide +kernel
theorem dX12_acts_116 : decode cX12_acts 116 = .ok (.iaload, 1) := by decide +kernel
theorem dX12_acts_117 : decode cX12_acts 117 = .ok (.istore 5, 2) := by decide +kernel
theorem dX12_acts_119 : decode cX12_acts 119 = .ok (.aload_n 0, 1) := by decide +kernel
theorem dX12_acts_120 : decode cX12_acts 120 = .ok (.aload_n 0, 1) := by decide +kernel
theorem dX12_acts_121 : decode cX12_acts 121 = .ok (.getfield 491, 3) := by decide +kernel
theorem dX12_acts_124 : decode cX12_acts 124 = .ok (.iconst 2, 1) := by decide +kernel
theorem dX12_acts_125 : decode cX12_acts 125 = .ok (.isub, 1) := by decide +kernel
theorem dX12_acts_126 : decode cX12_acts 126 = .ok (.iload_n 2, 1) := by decide +kernel
theorem dX12_acts_127 : decode cX12_acts 127 = .ok (.isub, 1) := by decide +kernel
theorem dX12_acts_128 : decode cX12_acts 128 = .ok (.putfield 488, 3) := by decide +kernel
theorem dX12_acts_131 : decode cX12_acts 131 = .ok (.aload_n 0, 1) := by decide +kernel
theorem dX12_acts_132 : decode cX12_acts 132 = .ok (.aload_n 0, 1) := by decide +kernel
theorem dX12_acts_133 : decode cX12_acts 133 = .ok (.getfield 16, 3) := by decide +kernel
theorem dX12_acts_136 : decode cX12_acts 136 = .ok (.aload_n 0, 1) := by decide +kernel
theorem dX12_acts_137 : decode cX12_acts 137 = .ok (.getfield 491, 3) := by decide +kernel
theorem dX12_acts_140 : decode cX12_acts 140 = .ok (.iconst 1, 1) := by decide +kernel
theorem dX12_acts_141 : decode cX12_acts 141 = .ok (.isub, 1) := by decide +kernel
theorem dX12_acts_142 : decode cX12_acts 142 = .ok (.iaload, 1) := by decide +kernel
theorem dX12_acts_143 : decode cX12_acts 143 = .ok (.putfield 491, 3) := by decide +kernel
theorem dX12_acts_146 : decode cX12_acts 146 = .ok (.aload_n 0, 1) := by decide +kernel
theorem dX12_acts_147 : decode cX12_acts 147 = .ok (.iload 5, 2) := by decide +kernel
theorem dX12_acts_149 : decode cX12_acts 149 = .ok (.putfield 485, 3) := by decide +kernel
theorem dX12_acts_152 : decode cX12_acts 152 = .ok (.aload_n 0, 1) := by decide +kernel
theorem dX12_acts_153 : decode cX12_acts 153 = .ok (.getfield 16, 3) := by decide +kernel
theorem dX12_acts_156 : decode cX12_acts 156 = .ok (.aload_n 0, 1) := by decide +kernel
theorem dX12_acts_157 : decode cX12_acts 157 = .ok (.getfield 488, 3) := by decide +kernel
theorem dX12_acts_160 : decode cX12_acts 160 = .ok (.iload 4, 2) := by decide +kernel
theorem dX12_acts_162 : decode cX12_acts 162 = .ok (.iastore, 1) := by decide +kernel
theorem dX12_acts_163 : decode cX12_acts 163 = .ok (.aload_n 0, 1) := by decide +kernel
theorem dX12_acts_164 : decode cX12_acts 164 = .ok (.dup, 1) := by decide +kernel
theorem dX12_acts_165 : decode cX12_acts 165 = .ok (.getfield 488, 3) := by decide +kernel
theorem dX12_acts_168 : decode cX12_acts 168 = .ok (.iconst 1, 1) := by decide +kernel
theorem dX12_acts_169 : decode cX12_acts 169 = .ok (.iadd, 1) := by decide +kernel
theorem dX12_acts_170 : decode cX12_acts 170 = .ok (.putfield 488, 3) := by decide +kernel
theorem dX12_acts_173 : decode cX12_acts 173 = .ok (.goto 181, 3) := by decide +kernel
theorem dX12_acts_176 : decode cX12_acts 176 = .ok (.aload_n 0, 1) := by decide +kernel
theorem dX12_acts_177 : decode cX12_acts 177 = .ok (.dup, 1) := by decide +kernel
theorem dX12_acts_178 : decode cX12_acts 178 = .ok (.getfield 485, 3) := by decide +kernel
theorem dX12_acts_181 : decode cX12_acts 181 = .ok (.iconst 1, 1) := by decide +kernel
theorem dX12_acts_182 : decode cX12_acts 182 = .ok (.iadd, 1) := by decide +kernel
theorem dX12_acts_183 : decode cX12_acts 183 = .ok (.putfield 485, 3) := by decide +kernel
theorem dX12_acts_186 : decode cX12_acts 186 = .ok (.aload_n 0, 1) := by decide +kernel
theorem dX12_acts_187 : decode cX12_acts 187 = .ok (.aload_n 0, 1) := by decide +kernel
theorem dX12_acts_188 : decode cX12_acts 188 = .ok (.invokevirtual 539, 3) := by decide +kernel
theorem dX12_acts_191 : decode cX12_acts 191 = .ok (.invokevirtual 547, 3) := by decide +kernel
theorem dX12_acts_194 : decode cX12_acts 194 = .ok (.goto 160, 3) := by decide +kernel
theorem dX12_acts_197 : decode cX12_acts 197 = .ok (.aload_n 0, 1) := by decide +kernel
theorem dX12_acts_198 : decode cX12_acts 198 = .ok (.dup, 1) := by decide +kernel
theorem dX12_acts_199 : decode cX12_acts 199 = .ok (.getfield 485, 3) := by decide +kernel
theorem dX12_acts_202 : decode cX12_acts 202 = .ok (.iconst 1, 1) := by decide +kernel
theorem dX12_acts_203 : decode cX12_acts 203 = .ok (.iadd, 1) := by decide +kernel
theorem dX12_acts_204 : decode cX12_acts 204 = .ok (.putfield 485, 3) := by decide +kernel
theorem dX12_acts_207 : decode cX12_acts 207 = .ok (.aload_n 0, 1) := by decide +kernel
theorem dX12_acts_208 : decode cX12_acts 208 = .ok (.getfield 503, 3) := by decide +kernel
theorem dX12_acts_211 : decode cX12_acts 211 = .ok (.aload_n 0, 1) := by decide +kernel
theorem dX12_acts_212 : decode cX12_acts 212 = .ok (.getfield 482, 3) := by decide +kernel
theorem dX12_acts_215 : decode cX12_acts 215 = .ok (.if_icmp .ne 11, 3) := by decide +kernel
theorem dX12_acts_218 : decode cX12_acts 218 = .ok (.aload_n 0, 1) := by decide +kernel
theorem dX12_acts_219 : decode cX12_acts 219 = .ok (.iconst 5, 1) := by decide +kernel
theorem dX12_acts_220 : decode cX12_acts 220 = .ok (.putfield 494, 3) := by decide +kernel
theorem dX12_acts_223 : decode cX12_acts 223 = .ok (.goto 131, 3) := by decide +kernel
theorem dX12_acts_226 : decode cX12_acts 226 = .ok (.aload_n 0, 1) := by decide +kernel
theorem dX12_acts_227 : decode cX12_acts 227 = .ok (.iconst 1, 1) := by decide +kernel
theorem dX12_acts_228 : decode cX12_acts 228 = .ok (.invokevirtual 527, 3) := by decide +kernel
theorem dX12_acts_231 : decode cX12_acts 231 = .ok (.ifCond .eq 123, 3) := by decide +kernel
theorem dX12_acts_234 : decode cX12_acts 234 = .ok (.aload_n 0, 1) := by decide +kernel
theorem dX12_acts_235 : decode cX12_acts 235 = .ok (.getfield 16, 3) := by decide +kernel
theorem dX12_acts_238 : decode cX12_acts 238 = .ok (.aload_n 0, 1) := by decide +kernel
theorem dX12_acts_239 : decode cX12_acts 239 = .ok (.getfield 488, 3) := by decide +kernel
theorem dX12_acts_242 : decode cX12_acts 242 = .ok (.aload_n 0, 1) := by decide +kernel
theorem dX12_acts_243 : decode cX12_acts 243 = .ok (.getfield 19, 3) := by decide +kernel
theorem dX12_acts_246 : decode cX12_acts 246 = .ok (.aload_n 0, 1) := by decide +kernel
theorem dX12_acts_247 : decode cX12_acts 247 = .ok (.getfield 503, 3) := by decide +kernel
theorem dX12_acts_250 : decode cX12_acts 250 = .ok (.iaload, 1) := by decide +kernel
theorem dX12_acts_251 : decode cX12_acts 251 = .ok (.iastore, 1) := by decide +kernel
theorem dX12_acts_252 : decode cX12_acts 252 = .ok (.aload_n 0, 1) := by decide +kernel
theorem dX12_acts_253 : decode cX12_acts 253 = .ok (.dup, 1) := by decide +kernel
theorem dX12_acts_254 : decode cX12_acts 254 = .ok (.getfield 488, 3) := by decide +kernel
theorem dX12_acts_257 : decode cX12_acts 257 = .ok (.iconst 1, 1) := by decide +kernel
theorem dX12_acts_258 : decode cX12_acts 258 = .ok (.iadd, 1) := by decide +kernel
theorem dX12_acts_259 : decode cX12_acts 259 = .ok (.putfield 488, 3) := by decide +kernel
theorem dX12_acts_262 : decode cX12_acts 262 = .ok (.aload_n 0, 1) := by decide +kernel
theorem dX12_acts_263 : decode cX12_acts 263 = .ok (.dup, 1) := by decide +kernel
theorem dX12_acts_264 : decode cX12_acts 264 = .ok (.getfield 503, 3) := by decide +kernel
theorem dX12_acts_267 : decode cX12_acts 267 = .ok (.iconst 1, 1) := by decide +kernel
theorem dX12_acts_268 : decode cX12_acts 268 = .ok (.iadd, 1) := by decide +kernel
theorem dX12_acts_269 : decode cX12_acts 269 = .ok (.putfield 503, 3) := by decide +kernel
theorem dX12_acts_272 : decode cX12_acts 272 = .ok (.goto 82, 3) := by decide +kernel
theorem dX12_acts_275 : decode cX12_acts 275 = .ok (.aload_n 0, 1) := by decide +kernel
theorem dX12_acts_276 : decode cX12_acts 276 = .ok (.dup, 1) := by decide +kernel
theorem dX12_acts_277 : decode cX12_acts 277 = .ok (.getfield 485, 3) := by decide +kernel
theorem dX12_acts_280 : decode cX12_acts 280 = .ok (.iconst 1, 1) := by decide +kernel
theorem dX12_acts_281 : decode cX12_acts 281 = .ok (.iadd, 1) := by decide +kernel
theorem dX12_acts_282 : decode cX12_acts 282 = .ok (.putfield 485, 3) := by decide +kernel
theorem dX12_acts_285 : decode cX12_acts 285 = .ok (.aload_n 0, 1) := by decide +kernel
theorem dX12_acts_286 : decode cX12_acts 286 = .ok (.dup, 1) := by decide +kernel
theorem dX12_acts_287 : decode cX12_acts 287 = .ok (.getfield 488, 3) := by decide +kernel
theorem dX12_acts_290 : decode cX12_acts 290 = .ok (.iconst 1, 1) := by decide +kernel
theorem dX12_acts_291 : decode cX12_acts 291 = .ok (.isub, 1) := by decide +kernel
theorem dX12_acts_292 : decode cX12_acts 292 = .ok (.putfield 488, 3) := by decide +kernel
theorem dX12_acts_295 : decode cX12_acts 295 = .ok (.goto 59, 3) := by decide +kernel
theorem dX12_acts_298 : decode cX12_acts 298 = .ok (.aload_n 0, 1) := by decide +kernel
theorem dX12_acts_299 : decode cX12_acts 299 = .ok (.dup, 1) := by decide +kernel
theorem dX12_acts_300 : decode cX12_acts 300 = .ok (.getfield 485, 3) := by decide +kernel
theorem dX12_acts_303 : decode cX12_acts 303 = .ok (.iconst 2, 1) := by decide +kernel
theorem dX12_acts_304 : decode cX12_acts 304 = .ok (.iadd, 1) := by decide +kernel
theorem dX12_acts_305 : decode cX12_acts 305 = .ok (.putfield 485, 3) := by decide +kernel
theorem dX12_acts_308 : decode cX12_acts 308 = .ok (.aload_n 0, 1) := by decide +kernel
theorem dX12_acts_309 : decode cX12_acts 309 = .ok (.iload_n 2, 1) := by decide +kernel
theorem dX12_acts_310 : decode cX12_acts 310 = .ok (.invokevirtual 527, 3) := by decide +kernel
theorem dX12_acts_313 : decode cX12_acts 313 = .ok (.ifCond .eq 41, 3) := by decide +kernel
theorem dX12_acts_316 : decode cX12_acts 316 = .ok (.iconst 0, 1) := by decide +kernel
theorem dX12_acts_317 : decode cX12_acts 317 = .ok (.istore 4, 2) := by decide +kernel
theorem dX12_acts_319 : decode cX12_acts 319 = .ok (.iload 4, 2) := by decide +kernel
theorem dX12_acts_321 : decode cX12_acts 321 = .ok (.iload_n 2, 1) := by decide +kernel
theorem dX12_acts_322 : decode cX12_acts 322 = .ok (.if_icmp .ge 22, 3) := by decide +kernel
theorem dX12_acts_325 : decode cX12_acts 325 = .ok (.aload_n 0, 1) := by decide +kernel
theorem dX12_acts_326 : decode cX12_acts 326 = .ok (.getfield 16, 3) := by decide +kernel
theorem dX12_acts_329 : decode cX12_acts 329 = .ok (.aload_n 0, 1) := by decide +kernel
theorem dX12_acts_330 : decode cX12_acts 330 = .ok (.getfield 488, 3) := by decide +kernel
theorem dX12_acts_333 : decode cX12_acts 333 = .ok (.iload 4, 2) := by decide +kernel
theorem dX12_acts_335 : decode cX12_acts 335 = .ok (.iadd, 1) := by decide +kernel
theorem dX12_acts_336 : decode cX12_acts 336 = .ok (.iconst 0, 1) := by decide +kernel
theorem dX12_acts_337 : decode cX12_acts 337 = .ok (.iastore, 1) := by decide +kernel
theorem dX12_acts_338 : decode cX12_acts 338 = .ok (.iinc 4 1, 3) := by decide +kernel
theorem dX12_acts_341 : decode cX12_acts 341 = .ok (.goto (-22), 3) := by decide +kernel
theorem dX12_acts_344 : decode cX12_acts 344 = .ok (.aload_n 0, 1) := by decide +kernel
theorem dX12_acts_345 : decode cX12_acts 345 = .ok (.dup, 1) := by decide +kernel
theorem dX12_acts_346 : decode cX12_acts 346 = .ok (.getfield 488, 3) := by decide +kernel
theorem dX12_acts_349 : decode cX12_acts 349 = .ok (.iload_n 2, 1) := by decide +kernel
theorem dX12_acts_350 : decode cX12_acts 350 = .ok (.iadd, 1) := by decide +kernel
theorem dX12_acts_351 : decode cX12_acts 351 = .ok (.putfield 488, 3) := by decide +kernel
theorem dX12_acts_354 : decode cX12_acts 354 = .ok (.return_, 1) := by decide +kernel
theorem dX12_reckons_0 : decode cX12_reckons 0 = .ok (.iload_n 1, 1) := by decide +kernel
theorem dX12_reckons_1 : decode cX12_reckons 1 = .ok (.bipush 24, 2) := by decide +kernel
theorem dX12_reckons_3 : decode cX12_reckons 3 = .ok (.if_icmp .lt 36, 3) := by decide +kernel
theorem dX12_reckons_6 : decode cX12_reckons 6 = .ok (.iload_n 1, 1) := by decide +kernel
theorem dX12_reckons_7 : decode cX12_reckons 7 = .ok (.bipush 26, 2) := by decide +kernel
theorem dX12_reckons_9 : decode cX12_reckons 9 = .ok (.if_icmp .gt 30, 3) := by decide +kernel
theorem dX12_reckons_12 : decode cX12_reckons 12 = .ok (.aload_n 0, 1) := by decide +kernel
theorem dX12_reckons_13 : decode cX12_reckons 13 = .ok (.getfield 16, 3) := by decide +kernel
theorem dX12_reckons_16 : decode cX12_reckons 16 = .ok (.aload_n 0, 1) := by decide +kernel
theorem dX12_reckons_17 : decode cX12_reckons 17 = .ok (.getfield 488, 3) := by decide +kernel
theorem dX12_reckons_20 : decode cX12_reckons 20 = .ok (.iconst 1, 1) := by decide +kernel
theorem dX12_reckons_21 : decode cX12_reckons 21 = .ok (.isub, 1) := by decide +kernel
theorem dX12_reckons_22 : decode cX12_reckons 22 = .ok (.iload_n 1, 1) := by decide +kernel
theorem dX12_reckons_23 : decode cX12_reckons 23 = .ok (.aload_n 0, 1) := by decide +kernel
theorem dX12_reckons_24 : decode cX12_reckons 24 = .ok (.getfield 16, 3) := by decide +kernel
theorem dX12_reckons_27 : decode cX12_reckons 27 = .ok (.aload_n 0, 1) := by decide +kernel
theorem dX12_reckons_28 : decode cX12_reckons 28 = .ok (.getfield 488, 3) := by decide +kernel
theorem dX12_reckons_31 : decode cX12_reckons 31 = .ok (.iconst 1, 1) := by decide +kernel
theorem dX12_reckons_32 : decode cX12_reckons 32 = .ok (.isub, 1) := by decide +kernel
theorem dX12_reckons_33 : decode cX12_reckons 33 = .ok (.iaload, 1) := by decide +kernel
theorem dX12_reckons_34 : decode cX12_reckons 34 = .ok (.invokestatic 550, 3) := by decide +kernel
theorem dX12_reckons_37 : decode cX12_reckons 37 = .ok (.iastore, 1) := by decide +kernel
theorem dX12_reckons_38 : decode cX12_reckons 38 = .ok (.return_, 1) := by decide +kernel
theorem dX12_reckons_39 : decode cX12_reckons 39 = .ok (.aload_n 0, 1) := by decide +kernel
theorem dX12_reckons_40 : decode cX12_reckons 40 = .ok (.invokevirtual 539, 3) := by decide +kernel
theorem dX12_reckons_43 : decode cX12_reckons 43 = .ok (.istore_n 2, 1) := by decide +kernel
theorem dX12_reckons_44 : decode cX12_reckons 44 = .ok (.aload_n 0, 1) := by decide +kernel
theorem dX12_reckons_45 : decode cX12_reckons 45 = .ok (.invokevirtual 539, 3) := by decide +kernel
theorem dX12_reckons_48 : decode cX12_reckons 48 = .ok (.istore_n 3, 1) := by decide +kernel
theorem dX12_reckons_49 : decode cX12_reckons 49 = .ok (.iload_n 2, 1) := by decide +kernel
theorem dX12_reckons_50 : decode cX12_reckons 50 = .ok (.ifCond .ne 15, 3) := by decide +kernel
theorem dX12_reckons_53 : decode cX12_reckons 53 = .ok (.iload_n 1, 1) := by decide +kernel
theorem dX12_reckons_54 : decode cX12_reckons 54 = .ok (.bipush 27, 2) := by decide +kernel
theorem dX12_reckons_56 : decode cX12_reckons 56 = .ok (.if_icmp .lt 9, 3) := by decide +kernel
theorem dX12_reckons_59 : decode cX12_reckons 59 = .ok (.aload_n 0, 1) := by decide +kernel
theorem dX12_reckons_60 : decode cX12_reckons 60 = .ok (.iconst 2, 1) := by decide +kernel
theorem dX12_reckons_61 : decode cX12_reckons 61 = .ok (.putfield 494, 3) := by decide +kernel
theorem dX12_reckons_64 : decode cX12_reckons 64 = .ok (.return_, 1) := by decide +kernel
theorem dX12_reckons_65 : decode cX12_reckons 65 = .ok (.aload_n 0, 1) := by decide +kernel
theorem dX12_reckons_66 : decode cX12_reckons 66 = .ok (.getfield 16, 3) := by decide +kernel
theorem dX12_reckons_69 : decode cX12_reckons 69 = .ok (.aload_n 0, 1) := by decide +kernel
theorem dX12_reckons_70 : decode cX12_reckons 70 = .ok (.getfield 488, 3) := by decide +kernel
theorem dX12_reckons_73 : decode cX12_reckons 73 = .ok (.iload_n 1, 1) := by decide +kernel
theorem dX12_reckons_74 : decode cX12_reckons 74 = .ok (.iload_n 3, 1) := by decide +kernel
theorem dX12_reckons_75 : decode cX12_reckons 75 = .ok (.iload_n 2, 1) := by decide +kernel
theorem dX12_reckons_76 : decode cX12_reckons 76 = .ok (.invokestatic 553, 3) := by decide +kernel
theorem dX12_reckons_79 : decode cX12_reckons 79 = .ok (.iastore, 1) := by decide +kernel
theorem dX12_reckons_80 : decode cX12_reckons 80 = .ok (.aload_n 0, 1) := by decide +kernel
theorem dX12_reckons_81 : decode cX12_reckons 81 = .ok (.dup, 1) := by decide +kernel
theorem dX12_reckons_82 : decode cX12_reckons 82 = .ok (.getfield 488, 3) := by decide +kernel
theorem dX12_reckons_85 : decode cX12_reckons 85 = .ok (.iconst 1, 1) := by decide +kernel
theorem dX12_reckons_86 : decode cX12_reckons 86 = .ok (.iadd, 1) := by decide +kernel
theorem dX12_reckons_87 : decode cX12_reckons 87 = .ok (.putfield 488, 3) := by decide +kernel
theorem dX12_reckons_90 : decode cX12_reckons 90 = .ok (.return_, 1) := by decide +kernel
theorem dX12_unary_0 : decode cX12_unary 0 = .ok (.iload_n 0, 1) := by decide +kernel
theorem dX12_unary_1 : decode cX12_unary 1 = .ok (.bipush 24, 2) := by decide +kernel
theorem dX12_unary_3 : decode cX12_unary 3 = .ok (.if_icmp .ne 8, 3) := by decide +kernel
theorem dX12_unary_6 : decode cX12_unary 6 = .ok (.iload_n 1, 1) := by decide +kernel
theorem dX12_unary_7 : decode cX12_unary 7 = .ok (.ineg, 1) := by decide +kernel
theorem dX12_unary_8 : decode cX12_unary 8 = .ok (.goto 24, 3) := by decide +kernel
theorem dX12_unary_11 : decode cX12_unary 11 = .ok (.iload_n 0, 1) := by decide +kernel
theorem dX12_unary_12 : decode cX12_unary 12 = .ok (.bipush 25, 2) := by decide +kernel
theorem dX12_unary_14 : decode cX12_unary 14 = .ok (.if_icmp .ne 15, 3) := by decide +kernel
theorem dX12_unary_17 : decode cX12_unary 17 = .ok (.iload_n 1, 1) := by decide +kernel
theorem dX12_unary_18 : decode cX12_unary 18 = .ok (.ifCond .ne 7, 3) := by decide +kernel
theorem dX12_unary_21 : decode cX12_unary 21 = .ok (.iconst 1, 1) := by decide +kernel
theorem dX12_unary_22 : decode cX12_unary 22 = .ok (.goto 10, 3) := by decide +kernel
theorem dX12_unary_25 : decode cX12_unary 25 = .ok (.iconst 0, 1) := by decide +kernel
theorem dX12_unary_26 : decode cX12_unary 26 = .ok (.goto 6, 3) := by decide +kernel
theorem dX12_unary_29 : decode cX12_unary 29 = .ok (.iload_n 1, 1) := by decide +kernel
theorem dX12_unary_30 : decode cX12_unary 30 = .ok (.iconst (-1), 1) := by decide +kernel
theorem dX12_unary_31 : decode cX12_unary 31 = .ok (.ixor, 1) := by decide +kernel
theorem dX12_unary_32 : decode cX12_unary 32 = .ok (.ireturn, 1) := by decide +kernel
theorem dX12_binary__0 : decode cX12_binary_ 0 = .ok (.iload_n 0, 1) := by decide +kernel
theorem dX12_binary__1 : decode cX12_binary_ 1 = .ok (.tableswitch 189 10 27 #[87, 91, 95, 99, 110, 121, 132, 143, 154, 165, 169, 173, 177, 181, 189, 189, 189, 185], 87) := by decide +kernel
theorem dX12_binary__88 : decode cX12_binary_ 88 = .ok (.iload_n 1, 1) := by decide +kernel
theorem dX12_binary__89 : decode cX12_binary_ 89 = .ok (.iload_n 2, 1) := by decide +kernel
theorem dX12_binary__90 : decode cX12_binary_ 90 = .ok (.ior, 1) := by decide +kernel
theorem dX12_binary__91 : decode cX12_binary_ 91 = .ok (.ireturn, 1) := by decide +kernel
theorem dX12_binary__92 : decode cX12_binary_ 92 = .ok (.iload_n 1, 1) := by decide +kernel
theorem dX12_binary__93 : decode cX12_binary_ 93 = .ok (.iload_n 2, 1) := by decide +kernel
theorem dX12_binary__94 : decode cX12_binary_ 94 = .ok (.ixor, 1) := by decide +kernel
theorem dX12_binary__95 : decode cX12_binary_ 95 = .ok (.ireturn, 1) := by decide +kernel
theorem dX12_binary__96 : decode cX12_binary_ 96 = .ok (.iload_n 1, 1) := by decide +kernel
theorem dX12_binary__97 : decode cX12_binary_ 97 = .ok (.iload_n 2, 1) := by decide +kernel
theorem dX12_binary__98 : decode cX12_binary_ 98 = .ok (.iand, 1) := by decide +kernel
theorem dX12_binary__99 : decode cX12_binary_ 99 = .ok (.ireturn, 1) := by decide +kernel
theorem dX12_binary__100 : decode cX12_binary_ 100 = .ok (.iload_n 1, 1) := by decide +kernel
theorem dX12_binary__101 : decode cX12_binary_ 101 = .ok (.iload_n 2, 1) := by decide +kernel
theorem dX12_binary__102 : decode cX12_binary_ 102 = .ok (.if_icmp .ne 7, 3) := by decide +kernel
theorem dX12_binary__105 : decode cX12_binary_ 105 = .ok (.iconst 1, 1) := by decide +kernel
theorem dX12_binary__106 : decode cX12_binary_ 106 = .ok (.goto 4, 3) := by decide +kernel
theorem dX12_binary__109 : decode cX12_binary_ 109 = .ok (.iconst 0, 1) := by decide +kernel
theorem dX12_binary__110 : decode cX12_binary_ 110 = .ok (.ireturn, 1) := by decide +kernel
theorem dX12_binary__111 : decode cX12_binary_ 111 = .ok (.iload_n 1, 1) := by decide +kernel
theorem dX12_binary__112 : decode cX12_binary_ 112 = .ok (.iload_n 2, 1) := by decide +kernel
theorem dX12_binary__113 : decode cX12_binary_ 113 = .ok (.if_icmp .eq 7, 3) := by decide +kernel
theorem dX12_binary__116 : decode cX12_binary_ 116 = .ok (.iconst 1, 1) := by decide +kernel
theorem dX12_binary__117 : decode cX12_binary_ 117 = .ok (.goto 4, 3) := by decide +kernel
theorem dX12_binary__120 : decode cX12_binary_ 120 = .ok (.iconst 0, 1) := by decide +kernel
theorem dX12_binary__121 : decode cX12_binary_ 121 = .ok (.ireturn, 1) := by decide +kernel
theorem dX12_binary__122 : decode cX12_binary_ 122 = .ok (.iload_n 1, 1) := by decide +kernel
theorem dX12_binary__123 : decode cX12_binary_ 123 = .ok (.iload_n 2, 1) := by decide +kernel
theorem dX12_binary__124 : decode cX12_binary_ 124 = .ok (.if_icmp .ge 7, 3) := by decide +kernel
theorem dX12_binary__127 : decode cX12_binary_ 127 = .ok (.iconst 1, 1) := by decide +kernel
theorem dX12_binary__128 : decode cX12_binary_ 128 = .ok (.goto 4, 3) := by decide +kernel
theorem dX12_binary__131 : decode cX12_binary_ 131 = .ok (.iconst 0, 1) := by decide +kernel
theorem dX12_binary__132 : decode cX12_binary_ 132 = .ok (.ireturn, 1) := by decide +kernel
theorem dX12_binary__133 : decode cX12_binary_ 133 = .ok (.iload_n 1, 1) := by decide +kernel
theorem dX12_binary__134 : decode cX12_binary_ 134 = .ok (.iload_n 2, 1) := by decide +kernel
theorem dX12_binary__135 : decode cX12_binary_ 135 = .ok (.if_icmp .gt 7, 3) := by decide +kernel
theorem dX12_binary__138 : decode cX12_binary_ 138 = .ok (.iconst 1, 1) := by decide +kernel
theorem dX12_binary__139 : decode cX12_binary_ 139 = .ok (.goto 4, 3) := by decide +kernel
theorem dX12_binary__142 : decode cX12_binary_ 142 = .ok (.iconst 0, 1) := by decide +kernel
theorem dX12_binary__143 : decode cX12_binary_ 143 = .ok (.ireturn, 1) := by decide +kernel
theorem dX12_binary__144 : decode cX12_binary_ 144 = .ok (.iload_n 1, 1) := by decide +kernel
theorem dX12_binary__145 : decode cX12_binary_ 145 = .ok (.iload_n 2, 1) := by decide +kernel
theorem dX12_binary__146 : decode cX12_binary_ 146 = .ok (.if_icmp .le 7, 3) := by decide +kernel
theorem dX12_binary__149 : decode cX12_binary_ 149 = .ok (.iconst 1, 1) := by decide +kernel
theorem dX12_binary__150 : decode cX12_binary_ 150 = .ok (.goto 4, 3) := by decide +kernel
theorem dX12_binary__153 : decode cX12_binary_ 153 = .ok (.iconst 0, 1) := by decide +kernel
theorem dX12_binary__154 : decode cX12_binary_ 154 = .ok (.ireturn, 1) := by decide +kernel
theorem dX12_binary__155 : decode cX12_binary_ 155 = .ok (.iload_n 1, 1) := by decide +kernel
theorem dX12_binary__156 : decode cX12_binary_ 156 = .ok (.iload_n 2, 1) := by decide +kernel
theorem dX12_binary__157 : decode cX12_binary_ 157 = .ok (.if_icmp .lt 7, 3) := by decide +kernel
theorem dX12_binary__160 : decode cX12_binary_ 160 = .ok (.iconst 1, 1) := by decide +kernel
theorem dX12_binary__161 : decode cX12_binary_ 161 = .ok (.goto 4, 3) := by decide +kernel
theorem dX12_binary__164 : decode cX12_binary_ 164 = .ok (.iconst 0, 1) := by decide +kernel
theorem dX12_binary__165 : decode cX12_binary_ 165 = .ok (.ireturn, 1) := by decide +kernel
theorem dX12_binary__166 : decode cX12_binary_ 166 = .ok (.iload_n 1, 1) := by decide +kernel
theorem dX12_binary__167 : decode cX12_binary_ 167 = .ok (.iload_n 2, 1) := by decide +kernel
theorem dX12_binary__168 : decode cX12_binary_ 168 = .ok (.ishl, 1) := by decide +kernel
theorem dX12_binary__169 : decode cX12_binary_ 169 = .ok (.ireturn, 1) := by decide +kernel
theorem dX12_binary__170 : decode cX12_binary_ 170 = .ok (.iload_n 1, 1) := by decide +kernel
theorem dX12_binary__171 : decode cX12_binary_ 171 = .ok (.iload_n 2, 1) := by decide +kernel
theorem dX12_binary__172 : decode cX12_binary_ 172 = .ok (.ishr, 1) := by decide +kernel
theorem dX12_binary__173 : decode cX12_binary_ 173 = .ok (.ireturn, 1) := by decide +kernel
theorem dX12_binary__174 : decode cX12_binary_ 174 = .ok (.iload_n 1, 1) := by decide +kernel
theorem dX12_binary__175 : decode cX12_binary_ 175 = .ok (.iload_n 2, 1) := by decide +kernel
theorem dX12_binary__176 : decode cX12_binary_ 176 = .ok (.iadd, 1) := by decide +kernel
theorem dX12_binary__177 : decode cX12_binary_ 177 = .ok (.ireturn, 1) := by decide +kernel
theorem dX12_binary__178 : decode cX12_binary_ 178 = .ok (.iload_n 1, 1) := by decide +kernel
theorem dX12_binary__179 : decode cX12_binary_ 179 = .ok (.iload_n 2, 1) := by decide +kernel
theorem dX12_binary__180 : decode cX12_binary_ 180 = .ok (.isub, 1) := by decide +kernel
theorem dX12_binary__181 : decode cX12_binary_ 181 = .ok (.ireturn, 1) := by decide +kernel
theorem dX12_binary__182 : decode cX12_binary_ 182 = .ok (.iload_n 1, 1) := by decide +kernel
theorem dX12_binary__183 : decode cX12_binary_ 183 = .ok (.iload_n 2, 1) := by decide +kernel
theorem dX12_binary__184 : decode cX12_binary_ 184 = .ok (.imul, 1) := by decide +kernel
theorem dX12_binary__185 : decode cX12_binary_ 185 = .ok (.ireturn, 1) := by decide +kernel
theorem dX12_binary__186 : decode cX12_binary_ 186 = .ok (.iload_n 1, 1) := by decide +kernel
theorem dX12_binary__187 : decode cX12_binary_ 187 = .ok (.iload_n 2, 1) := by decide +kernel
theorem dX12_binary__188 : decode cX12_binary_ 188 = .ok (.idiv, 1) := by decide +kernel
theorem dX12_binary__189 : decode cX12_binary_ 189 = .ok (.ireturn, 1) := by decide +kernel
theorem dX12_binary__190 : decode cX12_binary_ 190 = .ok (.iload_n 1, 1) := by decide +kernel
theorem dX12_binary__191 : decode cX12_binary_ 191 = .ok (.iload_n 2, 1) := by decide +kernel
theorem dX12_binary__192 : decode cX12_binary_ 192 = .ok (.irem, 1) := by decide +kernel
theorem dX12_binary__193 : decode cX12_binary_ 193 = .ok (.ireturn, 1) := by decide +kernel
theorem dX12_push_0 : decode cX12_push 0 = .ok (.aload_n 0, 1) := by decide +kernel
theorem dX12_push_1 : decode cX12_push 1 = .ok (.getfield 141, 3) := by decide +kernel
theorem dX12_push_4 : decode cX12_push 4 = .ok (.aload_n 0, 1) := by decide +kernel
theorem dX12_push_5 : decode cX12_push 5 = .ok (.getfield 509, 3) := by decide +kernel
theorem dX12_push_8 : decode cX12_push 8 = .ok (.iload_n 1, 1) := by decide +kernel
theorem dX12_push_9 : decode cX12_push 9 = .ok (.iastore, 1) := by decide +kernel
theorem dX12_push_10 : decode cX12_push 10 = .ok (.aload_n 0, 1) := by decide +kernel
theorem dX12_push_11 : decode cX12_push 11 = .ok (.getfield 144, 3) := by decide +kernel
theorem dX12_push_14 : decode cX12_push 14 = .ok (.aload_n 0, 1) := by decide +kernel
theorem dX12_push_15 : decode cX12_push 15 = .ok (.getfield 509, 3) := by decide +kernel
theorem dX12_push_18 : decode cX12_push 18 = .ok (.iload_n 2, 1) := by decide +kernel
theorem dX12_push_19 : decode cX12_push 19 = .ok (.iastore, 1) := by decide +kernel
theorem dX12_push_20 : decode cX12_push 20 = .ok (.aload_n 0, 1) := by decide +kernel
theorem dX12_push_21 : decode cX12_push 21 = .ok (.dup, 1) := by decide +kernel
theorem dX12_push_22 : decode cX12_push 22 = .ok (.getfield 509, 3) := by decide +kernel
theorem dX12_push_25 : decode cX12_push 25 = .ok (.iconst 1, 1) := by decide +kernel
theorem dX12_push_26 : decode cX12_push 26 = .ok (.iadd, 1) := by decide +kernel
theorem dX12_push_27 : decode cX12_push 27 = .ok (.putfield 509, 3) := by decide +kernel
theorem dX12_push_30 : decode cX12_push 30 = .ok (.return_, 1) := by decide +kernel
theorem dX12_gives_0 : decode cX12_gives 0 = .ok (.aload_n 0, 1) := by decide +kernel
theorem dX12_gives_1 : decode cX12_gives 1 = .ok (.getfield 138, 3) := by decide +kernel
theorem dX12_gives_4 : decode cX12_gives 4 = .ok (.aload_n 0, 1) := by decide +kernel
theorem dX12_gives_5 : decode cX12_gives 5 = .ok (.getfield 506, 3) := by decide +kernel
theorem dX12_gives_8 : decode cX12_gives 8 = .ok (.iload_n 1, 1) := by decide +kernel
theorem dX12_gives_9 : decode cX12_gives 9 = .ok (.iastore, 1) := by decide +kernel
theorem dX12_gives_10 : decode cX12_gives 10 = .ok (.aload_n 0, 1) := by decide +kernel
theorem dX12_gives_11 : decode cX12_gives 11 = .ok (.dup, 1) := by decide +kernel
theorem dX12_gives_12 : decode cX12_gives 12 = .ok (.getfield 506, 3) := by decide +kernel
theorem dX12_gives_15 : decode cX12_gives 15 = .ok (.iconst 1, 1) := by decide +kernel
theorem dX12_gives_16 : decode cX12_gives 16 = .ok (.iadd, 1) := by decide +kernel
theorem dX12_gives_17 : decode cX12_gives 17 = .ok (.putfield 506, 3) := by decide +kernel
theorem dX12_gives_20 : decode cX12_gives 20 = .ok (.return_, 1) := by decide +kernel
theorem dX12_goes_0 : decode cX12_goes 0 = .ok (.aload_n 0, 1) := by decide +kernel
theorem dX12_goes_1 : decode cX12_goes 1 = .ok (.dup, 1) := by decide +kernel
theorem dX12_goes_2 : decode cX12_goes 2 = .ok (.getfield 506, 3) := by decide +kernel
theorem dX12_goes_5 : decode cX12_goes 5 = .ok (.iconst 1, 1) := by decide +kernel
theorem dX12_goes_6 : decode cX12_goes 6 = .ok (.isub, 1) := by decide +kernel
theorem dX12_goes_7 : decode cX12_goes 7 = .ok (.putfield 506, 3) := by decide +kernel
theorem dX12_goes_10 : decode cX12_goes 10 = .ok (.aload_n 0, 1) := by decide +kernel
theorem dX12_goes_11 : decode cX12_goes 11 = .ok (.getfield 138, 3) := by decide +kernel
theorem dX12_goes_14 : decode cX12_goes 14 = .ok (.aload_n 0, 1) := by decide +kernel
theorem dX12_goes_15 : decode cX12_goes 15 = .ok (.getfield 506, 3) := by decide +kernel
theorem dX12_goes_18 : decode cX12_goes 18 = .ok (.iaload, 1) := by decide +kernel
theorem dX12_goes_19 : decode cX12_goes 19 = .ok (.ireturn, 1) := by decide +kernel
theorem dX12_where_0 : decode cX12_where 0 = .ok (.aload_n 0, 1) := by decide +kernel
theorem dX12_where_1 : decode cX12_where 1 = .ok (.getfield 38, 3) := by decide +kernel
theorem dX12_where_4 : decode cX12_where 4 = .ok (.aload_n 0, 1) := by decide +kernel
theorem dX12_where_5 : decode cX12_where 5 = .ok (.getfield 153, 3) := by decide +kernel
theorem dX12_where_8 : decode cX12_where 8 = .ok (.aload_n 0, 1) := by decide +kernel
theorem dX12_where_9 : decode cX12_where 9 = .ok (.getfield 512, 3) := by decide +kernel
theorem dX12_where_12 : decode cX12_where 12 = .ok (.iconst 1, 1) := by decide +kernel
theorem dX12_where_13 : decode cX12_where 13 = .ok (.isub, 1) := by decide +kernel
theorem dX12_where_14 : decode cX12_where 14 = .ok (.iaload, 1) := by decide +kernel
theorem dX12_where_15 : decode cX12_where 15 = .ok (.iaload, 1) := by decide +kernel
theorem dX12_where_16 : decode cX12_where 16 = .ok (.istore_n 2, 1) := by decide +kernel
theorem dX12_where_17 : decode cX12_where 17 = .ok (.aload_n 0, 1) := by decide +kernel
theorem dX12_where_18 : decode cX12_where 18 = .ok (.getfield 150, 3) := by decide +kernel
theorem dX12_where_21 : decode cX12_where 21 = .ok (.aload_n 0, 1) := by decide +kernel
theorem dX12_where_22 : decode cX12_where 22 = .ok (.getfield 512, 3) := by decide +kernel
theorem dX12_where_25 : decode cX12_where 25 = .ok (.iconst 1, 1) := by decide +kernel
theorem dX12_where_26 : decode cX12_where 26 = .ok (.isub, 1) := by decide +kernel
theorem dX12_where_27 : decode cX12_where 27 = .ok (.iaload, 1) := by decide +kernel
theorem dX12_where_28 : decode cX12_where 28 = .ok (.iload_n 1, 1) := by decide +kernel
theorem dX12_where_29 : decode cX12_where 29 = .ok (.ifCond .ge 11, 3) := by decide +kernel
theorem dX12_where_32 : decode cX12_where 32 = .ok (.iload_n 1, 1) := by decide +kernel
theorem dX12_where_33 : decode cX12_where 33 = .ok (.iconst 2, 1) := by decide +kernel
theorem dX12_where_34 : decode cX12_where 34 = .ok (.iadd, 1) := by decide +kernel
theorem dX12_where_35 : decode cX12_where 35 = .ok (.iload_n 2, 1) := by decide +kernel
theorem dX12_where_36 : decode cX12_where 36 = .ok (.iadd, 1) := by decide +kernel
theorem dX12_where_37 : decode cX12_where 37 = .ok (.goto 6, 3) := by decide +kernel
theorem dX12_where_40 : decode cX12_where 40 = .ok (.iload_n 2, 1) := by decide +kernel
theorem dX12_where_41 : decode cX12_where 41 = .ok (.iload_n 1, 1) := by decide +kernel
theorem dX12_where_42 : decode cX12_where 42 = .ok (.iadd, 1) := by decide +kernel
theorem dX12_where_43 : decode cX12_where 43 = .ok (.iadd, 1) := by decide +kernel
theorem dX12_where_44 : decode cX12_where 44 = .ok (.ireturn, 1) := by decide +kernel
theorem dX12_interpret_0 : decode cX12_interpret 0 = .ok (.aload_n 0, 1) := by decide +kernel
theorem dX12_interpret_1 : decode cX12_interpret 1 = .ok (.getfield 475, 3) := by decide +kernel
theorem dX12_interpret_4 : decode cX12_interpret 4 = .ok (.ifCond .ne 5, 3) := by decide +kernel
theorem dX12_interpret_7 : decode cX12_interpret 7 = .ok (.iconst (-1), 1) := by decide +kernel
theorem dX12_interpret_8 : decode cX12_interpret 8 = .ok (.ireturn, 1) := by decide +kernel
theorem dX12_interpret_9 : decode cX12_interpret 9 = .ok (.aload_n 0, 1) := by decide +kernel
theorem dX12_interpret_10 : decode cX12_interpret 10 = .ok (.getfield 497, 3) := by decide +kernel
theorem dX12_interpret_13 : decode cX12_interpret 13 = .ok (.iconst 1, 1) := by decide +kernel
theorem dX12_interpret_14 : decode cX12_interpret 14 = .ok (.if_icmp .ne 6, 3) := by decide +kernel
theorem dX12_interpret_17 : decode cX12_interpret 17 = .ok (.bipush (-2), 2) := by decide +kernel
theorem dX12_interpret_19 : decode cX12_interpret 19 = .ok (.ireturn, 1) := by decide +kernel
theorem dX12_interpret_20 : decode cX12_interpret 20 = .ok (.iconst 0, 1) := by decide +kernel
theorem dX12_interpret_21 : decode cX12_interpret 21 = .ok (.istore_n 2, 1) := by decide +kernel
theorem dX12_interpret_22 : decode cX12_interpret 22 = .ok (.iload_n 2, 1) := by decide +kernel
theorem dX12_interpret_23 : decode cX12_interpret 23 = .ok (.iload_n 1, 1) := by decide +kernel
theorem dX12_interpret_24 : decode cX12_interpret 24 = .ok (.if_icmp .ge 25, 3) := by decide +kernel
theorem dX12_interpret_27 : decode cX12_interpret 27 = .ok (.aload_n 0, 1) := by decide +kernel
theorem dX12_interpret_28 : decode cX12_interpret 28 = .ok (.getfield 494, 3) := by decide +kernel
theorem dX12_interpret_31 : decode cX12_interpret 31 = .ok (.ifCond .ne 18, 3) := by decide +kernel
theorem dX12_interpret_34 : decode cX12_interpret 34 = .ok (.aload_n 0, 1) := by decide +kernel
theorem dX12_interpret_35 : decode cX12_interpret 35 = .ok (.iconst 2, 1) := by decide +kernel
theorem dX12_interpret_36 : decode cX12_interpret 36 = .ok (.putfield 497, 3) := by decide +kernel
theorem dX12_interpret_39 : decode cX12_interpret 39 = .ok (.aload_n 0, 1) := by decide +kernel
theorem dX12_interpret_40 : decode cX12_interpret 40 = .ok (.invokevirtual 556, 3) := by decide +kernel
theorem dX12_interpret_43 : decode cX12_interpret 43 = .ok (.iinc 2 1, 3) := by decide +kernel
theorem dX12_interpret_46 : decode cX12_interpret 46 = .ok (.goto (-24), 3) := by decide +kernel
theorem dX12_interpret_49 : decode cX12_interpret 49 = .ok (.aload_n 0, 1) := by decide +kernel
theorem dX12_interpret_50 : decode cX12_interpret 50 = .ok (.getfield 494, 3) := by decide +kernel
theorem dX12_interpret_53 : decode cX12_interpret 53 = .ok (.ireturn, 1) := by decide +kernel
theorem dX12_goesOn_0 : decode cX12_goesOn 0 = .ok (.aload_n 0, 1) := by decide +kernel
theorem dX12_goesOn_1 : decode cX12_goesOn 1 = .ok (.getfield 278, 3) := by decide +kernel
theorem dX12_goesOn_4 : decode cX12_goesOn 4 = .ok (.aload_n 0, 1) := by decide +kernel
theorem dX12_goesOn_5 : decode cX12_goesOn 5 = .ok (.getfield 170, 3) := by decide +kernel
theorem dX12_goesOn_8 : decode cX12_goesOn 8 = .ok (.if_icmp .le 9, 3) := by decide +kernel
theorem dX12_goesOn_11 : decode cX12_goesOn 11 = .ok (.aload_n 0, 1) := by decide +kernel
theorem dX12_goesOn_12 : decode cX12_goesOn 12 = .ok (.iconst 4, 1) := by decide +kernel
theorem dX12_goesOn_13 : decode cX12_goesOn 13 = .ok (.putfield 494, 3) := by decide +kernel
theorem dX12_goesOn_16 : decode cX12_goesOn 16 = .ok (.return_, 1) := by decide +kernel
theorem dX12_goesOn_17 : decode cX12_goesOn 17 = .ok (.aload_n 0, 1) := by decide +kernel
theorem dX12_goesOn_18 : decode cX12_goesOn 18 = .ok (.dup, 1) := by decide +kernel
theorem dX12_goesOn_19 : decode cX12_goesOn 19 = .ok (.getfield 509, 3) := by decide +kernel
theorem dX12_goesOn_22 : decode cX12_goesOn 22 = .ok (.iconst 1, 1) := by decide +kernel
theorem dX12_goesOn_23 : decode cX12_goesOn 23 = .ok (.isub, 1) := by decide +kernel
theorem dX12_goesOn_24 : decode cX12_goesOn 24 = .ok (.putfield 509, 3) := by decide +kernel
theorem dX12_goesOn_27 : decode cX12_goesOn 27 = .ok (.aload_n 0, 1) := by decide +kernel
theorem dX12_goesOn_28 : decode cX12_goesOn 28 = .ok (.getfield 141, 3) := by decide +kernel
theorem dX12_goesOn_31 : decode cX12_goesOn 31 = .ok (.aload_n 0, 1) := by decide +kernel
theorem dX12_goesOn_32 : decode cX12_goesOn 32 = .ok (.getfield 509, 3) := by decide +kernel
theorem dX12_goesOn_35 : decode cX12_goesOn 35 = .ok (.iaload, 1) := by decide +kernel
theorem dX12_goesOn_36 : decode cX12_goesOn 36 = .ok (.istore_n 1, 1) := by decide +kernel
theorem dX12_goesOn_37 : decode cX12_goesOn 37 = .ok (.aload_n 0, 1) := by decide +kernel
theorem dX12_goesOn_38 : decode cX12_goesOn 38 = .ok (.getfield 144, 3) := by decide +kernel
theorem dX12_goesOn_41 : decode cX12_goesOn 41 = .ok (.aload_n 0, 1) := by decide +kernel
theorem dX12_goesOn_42 : decode cX12_goesOn 42 = .ok (.getfield 509, 3) := by decide +kernel
theorem dX12_goesOn_45 : decode cX12_goesOn 45 = .ok (.iaload, 1) := by decide +kernel
theorem dX12_goesOn_46 : decode cX12_goesOn 46 = .ok (.istore_n 2, 1) := by decide +kernel
theorem dX12_goesOn_47 : decode cX12_goesOn 47 = .ok (.aload_n 0, 1) := by decide +kernel
theorem dX12_goesOn_48 : decode cX12_goesOn 48 = .ok (.iload_n 1, 1) := by decide +kernel
theorem dX12_goesOn_49 : decode cX12_goesOn 49 = .ok (.iload_n 2, 1) := by decide +kernel
theorem dX12_goesOn_50 : decode cX12_goesOn 50 = .ok (.invokevirtual 559, 3) := by decide +kernel
theorem dX12_goesOn_53 : decode cX12_goesOn 53 = .ok (.aload_n 0, 1) := by decide +kernel
theorem dX12_goesOn_54 : decode cX12_goesOn 54 = .ok (.getfield 494, 3) := by decide +kernel
theorem dX12_goesOn_57 : decode cX12_goesOn 57 = .ok (.ifCond .eq 4, 3) := by decide +kernel
theorem dX12_goesOn_60 : decode cX12_goesOn 60 = .ok (.return_, 1) := by decide +kernel
theorem dX12_goesOn_61 : decode cX12_goesOn 61 = .ok (.aload_n 0, 1) := by decide +kernel
theorem dX12_goesOn_62 : decode cX12_goesOn 62 = .ok (.getfield 506, 3) := by decide +kernel
theorem dX12_goesOn_65 : decode cX12_goesOn 65 = .ok (.aload_n 0, 1) := by decide +kernel
theorem dX12_goesOn_66 : decode cX12_goesOn 66 = .ok (.getfield 509, 3) := by decide +kernel
theorem dX12_goesOn_69 : decode cX12_goesOn 69 = .ok (.iadd, 1) := by decide +kernel
theorem dX12_goesOn_70 : decode cX12_goesOn 70 = .ok (.aload_n 0, 1) := by decide +kernel
theorem dX12_goesOn_71 : decode cX12_goesOn 71 = .ok (.getfield 278, 3) := by decide +kernel
theorem dX12_goesOn_74 : decode cX12_goesOn 74 = .ok (.iadd, 1) := by decide +kernel
theorem dX12_goesOn_75 : decode cX12_goesOn 75 = .ok (.aload_n 0, 1) := by decide +kernel
theorem dX12_goesOn_76 : decode cX12_goesOn 76 = .ok (.getfield 515, 3) := by decide +kernel
theorem dX12_goesOn_79 : decode cX12_goesOn 79 = .ok (.iadd, 1) := by decide +kernel
theorem dX12_goesOn_80 : decode cX12_goesOn 80 = .ok (.aload_n 0, 1) := by decide +kernel
theorem dX12_goesOn_81 : decode cX12_goesOn 81 = .ok (.getfield 170, 3) := by decide +kernel
theorem dX12_goesOn_84 : decode cX12_goesOn 84 = .ok (.if_icmp .le 11, 3) := by decide +kernel
theorem dX12_goesOn_87 : decode cX12_goesOn 87 = .ok (.aload_n 0, 1) := by decide +kernel
theorem dX12_goesOn_88 : decode cX12_goesOn 88 = .ok (.iconst 4, 1) := by decide +kernel
theorem dX12_goesOn_89 : decode cX12_goesOn 89 = .ok (.putfield 494, 3) := by decide +kernel
theorem dX12_goesOn_92 : decode cX12_goesOn 92 = .ok (.goto 44, 3) := by decide +kernel
theorem dX12_goesOn_95 : decode cX12_goesOn 95 = .ok (.aload_n 0, 1) := by decide +kernel
theorem dX12_goesOn_96 : decode cX12_goesOn 96 = .ok (.getfield 509, 3) := by decide +kernel
theorem dX12_goesOn_99 : decode cX12_goesOn 99 = .ok (.ifCond .ne 37, 3) := by decide +kernel
theorem dX12_goesOn_102 : decode cX12_goesOn 102 = .ok (.aload_n 0, 1) := by decide +kernel
theorem dX12_goesOn_103 : decode cX12_goesOn 103 = .ok (.aload_n 0, 1) := by decide +kernel
theorem dX12_goesOn_104 : decode cX12_goesOn 104 = .ok (.getfield 138, 3) := by decide +kernel
theorem dX12_goesOn_107 : decode cX12_goesOn 107 = .ok (.aload_n 0, 1) := by decide +kernel
theorem dX12_goesOn_108 : decode cX12_goesOn 108 = .ok (.getfield 506, 3) := by decide +kernel
theorem dX12_goesOn_111 : decode cX12_goesOn 111 = .ok (.iconst 1, 1) := by decide +kernel
theorem dX12_goesOn_112 : decode cX12_goesOn 112 = .ok (.isub, 1) := by decide +kernel
theorem dX12_goesOn_113 : decode cX12_goesOn 113 = .ok (.iaload, 1) := by decide +kernel
theorem dX12_goesOn_114 : decode cX12_goesOn 114 = .ok (.invokevirtual 547, 3) := by decide +kernel
theorem dX12_goesOn_117 : decode cX12_goesOn 117 = .ok (.aload_n 0, 1) := by decide +kernel
theorem dX12_goesOn_118 : decode cX12_goesOn 118 = .ok (.aload_n 0, 1) := by decide +kernel
theorem dX12_goesOn_119 : decode cX12_goesOn 119 = .ok (.getfield 494, 3) := by decide +kernel
theorem dX12_goesOn_122 : decode cX12_goesOn 122 = .ok (.ifCond .ne 7, 3) := by decide +kernel
theorem dX12_goesOn_125 : decode cX12_goesOn 125 = .ok (.iconst 1, 1) := by decide +kernel
theorem dX12_goesOn_126 : decode cX12_goesOn 126 = .ok (.goto 7, 3) := by decide +kernel
theorem dX12_goesOn_129 : decode cX12_goesOn 129 = .ok (.aload_n 0, 1) := by decide +kernel
theorem dX12_goesOn_130 : decode cX12_goesOn 130 = .ok (.getfield 494, 3) := by decide +kernel
theorem dX12_goesOn_133 : decode cX12_goesOn 133 = .ok (.putfield 494, 3) := by decide +kernel
theorem dX12_goesOn_136 : decode cX12_goesOn 136 = .ok (.return_, 1) := by decide +kernel
theorem dX12_takesItem_0 : decode cX12_takesItem 0 = .ok (.iload_n 1, 1) := by decide +kernel
theorem dX12_takesItem_1 : decode cX12_takesItem 1 = .ok (.tableswitch 180 1 9 #[51, 78, 86, 94, 102, 121, 133, 164, 172], 51) := by decide +kernel
theorem dX12_takesItem_52 : decode cX12_takesItem 52 = .ok (.aload_n 0, 1) := by decide +kernel
theorem dX12_takesItem_53 : decode cX12_takesItem 53 = .ok (.iload_n 2, 1) := by decide +kernel
theorem dX12_takesItem_54 : decode cX12_takesItem 54 = .ok (.ifCond .ge 13, 3) := by decide +kernel
theorem dX12_takesItem_57 : decode cX12_takesItem 57 = .ok (.aload_n 0, 1) := by decide +kernel
theorem dX12_takesItem_58 : decode cX12_takesItem 58 = .ok (.ldc2_w 284, 3) := by decide +kernel
theorem dX12_takesItem_61 : decode cX12_takesItem 61 = .ok (.invokevirtual 286, 3) := by decide +kernel
theorem dX12_takesItem_64 : decode cX12_takesItem 64 = .ok (.goto 9, 3) := by decide +kernel
theorem dX12_takesItem_67 : decode cX12_takesItem 67 = .ok (.aload_n 0, 1) := by decide +kernel
theorem dX12_takesItem_68 : decode cX12_takesItem 68 = .ok (.getfield 65, 3) := by decide +kernel
theorem dX12_takesItem_71 : decode cX12_takesItem 71 = .ok (.iload_n 2, 1) := by decide +kernel
theorem dX12_takesItem_72 : decode cX12_takesItem 72 = .ok (.iaload, 1) := by decide +kernel
theorem dX12_takesItem_73 : decode cX12_takesItem 73 = .ok (.invokevirtual 562, 3) := by decide +kernel
theorem dX12_takesItem_76 : decode cX12_takesItem 76 = .ok (.goto 113, 3) := by decide +kernel
theorem dX12_takesItem_79 : decode cX12_takesItem 79 = .ok (.aload_n 0, 1) := by decide +kernel
theorem dX12_takesItem_80 : decode cX12_takesItem 80 = .ok (.iload_n 2, 1) := by decide +kernel
theorem dX12_takesItem_81 : decode cX12_takesItem 81 = .ok (.invokevirtual 565, 3) := by decide +kernel
theorem dX12_takesItem_84 : decode cX12_takesItem 84 = .ok (.goto 105, 3) := by decide +kernel
theorem dX12_takesItem_87 : decode cX12_takesItem 87 = .ok (.aload_n 0, 1) := by decide +kernel
theorem dX12_takesItem_88 : decode cX12_takesItem 88 = .ok (.iload_n 2, 1) := by decide +kernel
theorem dX12_takesItem_89 : decode cX12_takesItem 89 = .ok (.invokevirtual 568, 3) := by decide +kernel
theorem dX12_takesItem_92 : decode cX12_takesItem 92 = .ok (.goto 97, 3) := by decide +kernel
theorem dX12_takesItem_95 : decode cX12_takesItem 95 = .ok (.aload_n 0, 1) := by decide +kernel
theorem dX12_takesItem_96 : decode cX12_takesItem 96 = .ok (.iload_n 2, 1) := by decide +kernel
theorem dX12_takesItem_97 : decode cX12_takesItem 97 = .ok (.invokevirtual 571, 3) := by decide +kernel
theorem dX12_takesItem_100 : decode cX12_takesItem 100 = .ok (.goto 89, 3) := by decide +kernel
theorem dX12_takesItem_103 : decode cX12_takesItem 103 = .ok (.aload_n 0, 1) := by decide +kernel
theorem dX12_takesItem_104 : decode cX12_takesItem 104 = .ok (.aload_n 0, 1) := by decide +kernel
theorem dX12_takesItem_105 : decode cX12_takesItem 105 = .ok (.invokevirtual 574, 3) := by decide +kernel
theorem dX12_takesItem_108 : decode cX12_takesItem 108 = .ok (.ifCond .eq 7, 3) := by decide +kernel
theorem dX12_takesItem_111 : decode cX12_takesItem 111 = .ok (.iconst 1, 1) := by decide +kernel
theorem dX12_takesItem_112 : decode cX12_takesItem 112 = .ok (.goto 4, 3) := by decide +kernel
theorem dX12_takesItem_115 : decode cX12_takesItem 115 = .ok (.iconst 0, 1) := by decide +kernel
theorem dX12_takesItem_116 : decode cX12_takesItem 116 = .ok (.invokevirtual 577, 3) := by decide +kernel
theorem dX12_takesItem_119 : decode cX12_takesItem 119 = .ok (.goto 70, 3) := by decide +kernel
theorem dX12_takesItem_122 : decode cX12_takesItem 122 = .ok (.aload_n 0, 1) := by decide +kernel
theorem dX12_takesItem_123 : decode cX12_takesItem 123 = .ok (.iconst 0, 1) := by decide +kernel
theorem dX12_takesItem_124 : decode cX12_takesItem 124 = .ok (.invokevirtual 577, 3) := by decide +kernel
theorem dX12_takesItem_127 : decode cX12_takesItem 127 = .ok (.aload_n 0, 1) := by decide +kernel
theorem dX12_takesItem_128 : decode cX12_takesItem 128 = .ok (.invokevirtual 580, 3) := by decide +kernel
theorem dX12_takesItem_131 : decode cX12_takesItem 131 = .ok (.goto 58, 3) := by decide +kernel
theorem dX12_takesItem_134 : decode cX12_takesItem 134 = .ok (.aload_n 0, 1) := by decide +kernel
theorem dX12_takesItem_135 : decode cX12_takesItem 135 = .ok (.getfield 71, 3) := by decide +kernel
theorem dX12_takesItem_138 : decode cX12_takesItem 138 = .ok (.iload_n 2, 1) := by decide +kernel
theorem dX12_takesItem_139 : decode cX12_takesItem 139 = .ok (.iaload, 1) := by decide +kernel
theorem dX12_takesItem_140 : decode cX12_takesItem 140 = .ok (.ifCond .lt 15, 3) := by decide +kernel
theorem dX12_takesItem_143 : decode cX12_takesItem 143 = .ok (.aload_n 0, 1) := by decide +kernel
theorem dX12_takesItem_144 : decode cX12_takesItem 144 = .ok (.bipush 7, 2) := by decide +kernel
theorem dX12_takesItem_146 : decode cX12_takesItem 146 = .ok (.aload_n 0, 1) := by decide +kernel
theorem dX12_takesItem_147 : decode cX12_takesItem 147 = .ok (.getfield 71, 3) := by decide +kernel
theorem dX12_takesItem_150 : decode cX12_takesItem 150 = .ok (.iload_n 2, 1) := by decide +kernel
theorem dX12_takesItem_151 : decode cX12_takesItem 151 = .ok (.iaload, 1) := by decide +kernel
theorem dX12_takesItem_152 : decode cX12_takesItem 152 = .ok (.invokevirtual 518, 3) := by decide +kernel
theorem dX12_takesItem_155 : decode cX12_takesItem 155 = .ok (.aload_n 0, 1) := by decide +kernel
theorem dX12_takesItem_156 : decode cX12_takesItem 156 = .ok (.bipush 8, 2) := by decide +kernel
theorem dX12_takesItem_158 : decode cX12_takesItem 158 = .ok (.iload_n 2, 1) := by decide +kernel
theorem dX12_takesItem_159 : decode cX12_takesItem 159 = .ok (.invokevirtual 518, 3) := by decide +kernel
theorem dX12_takesItem_162 : decode cX12_takesItem 162 = .ok (.goto 27, 3) := by decide +kernel
theorem dX12_takesItem_165 : decode cX12_takesItem 165 = .ok (.aload_n 0, 1) := by decide +kernel
theorem dX12_takesItem_166 : decode cX12_takesItem 166 = .ok (.iload_n 2, 1) := by decide +kernel
theorem dX12_takesItem_167 : decode cX12_takesItem 167 = .ok (.invokevirtual 583, 3) := by decide +kernel
theorem dX12_takesItem_170 : decode cX12_takesItem 170 = .ok (.goto 19, 3) := by decide +kernel
theorem dX12_takesItem_173 : decode cX12_takesItem 173 = .ok (.aload_n 0, 1) := by decide +kernel
theorem dX12_takesItem_174 : decode cX12_takesItem 174 = .ok (.iload_n 2, 1) := by decide +kernel
theorem dX12_takesItem_175 : decode cX12_takesItem 175 = .ok (.invokevirtual 586, 3) := by decide +kernel
theorem dX12_takesItem_178 : decode cX12_takesItem 178 = .ok (.goto 11, 3) := by decide +kernel
theorem dX12_takesItem_181 : decode cX12_takesItem 181 = .ok (.aload_n 0, 1) := by decide +kernel
theorem dX12_takesItem_182 : decode cX12_takesItem 182 = .ok (.invokevirtual 574, 3) := by decide +kernel
theorem dX12_takesItem_185 : decode cX12_takesItem 185 = .ok (.istore_n 3, 1) := by decide +kernel
theorem dX12_takesItem_186 : decode cX12_takesItem 186 = .ok (.goto 3, 3) := by decide +kernel
theorem dX12_takesItem_189 : decode cX12_takesItem 189 = .ok (.return_, 1) := by decide +kernel
theorem dX12_enters_0 : decode cX12_enters 0 = .ok (.aload_n 0, 1) := by decide +kernel
theorem dX12_enters_1 : decode cX12_enters 1 = .ok (.getfield 150, 3) := by decide +kernel
theorem dX12_enters_4 : decode cX12_enters 4 = .ok (.aload_n 0, 1) := by decide +kernel
theorem dX12_enters_5 : decode cX12_enters 5 = .ok (.getfield 512, 3) := by decide +kernel
theorem dX12_enters_8 : decode cX12_enters 8 = .ok (.aload_n 0, 1) := by decide +kernel
theorem dX12_enters_9 : decode cX12_enters 9 = .ok (.getfield 515, 3) := by decide +kernel
theorem dX12_enters_12 : decode cX12_enters 12 = .ok (.iastore, 1) := by decide +kernel
theorem dX12_enters_13 : decode cX12_enters 13 = .ok (.aload_n 0, 1) := by decide +kernel
theorem dX12_enters_14 : decode cX12_enters 14 = .ok (.getfield 153, 3) := by decide +kernel
theorem dX12_enters_17 : decode cX12_enters 17 = .ok (.aload_n 0, 1) := by decide +kernel
theorem dX12_enters_18 : decode cX12_enters 18 = .ok (.getfield 512, 3) := by decide +kernel
theorem dX12_enters_21 : decode cX12_enters 21 = .ok (.iload_n 1, 1) := by decide +kernel
theorem dX12_enters_22 : decode cX12_enters 22 = .ok (.iastore, 1) := by decide +kernel
theorem dX12_enters_23 : decode cX12_enters 23 = .ok (.aload_n 0, 1) := by decide +kernel
theorem dX12_enters_24 : decode cX12_enters 24 = .ok (.dup, 1) := by decide +kernel
theorem dX12_enters_25 : decode cX12_enters 25 = .ok (.getfield 512, 3) := by decide +kernel
theorem dX12_enters_28 : decode cX12_enters 28 = .ok (.iconst 1, 1) := by decide +kernel
theorem dX12_enters_29 : decode cX12_enters 29 = .ok (.iadd, 1) := by decide +kernel
theorem dX12_enters_30 : decode cX12_enters 30 = .ok (.putfield 512, 3) := by decide +kernel
theorem dX12_enters_33 : decode cX12_enters 33 = .ok (.aload_n 0, 1) := by decide +kernel
theorem dX12_enters_34 : decode cX12_enters 34 = .ok (.dup, 1) := by decide +kernel
theorem dX12_enters_35 : decode cX12_enters 35 = .ok (.getfield 506, 3) := by decide +kernel
theorem dX12_enters_38 : decode cX12_enters 38 = .ok (.aload_n 0, 1) := by decide +kernel
theorem dX12_enters_39 : decode cX12_enters 39 = .ok (.getfield 38, 3) := by decide +kernel
theorem dX12_enters_42 : decode cX12_enters 42 = .ok (.iload_n 1, 1) := by decide +kernel
theorem dX12_enters_43 : decode cX12_enters 43 = .ok (.iaload, 1) := by decide +kernel
theorem dX12_enters_44 : decode cX12_enters 44 = .ok (.isub, 1) := by decide +kernel
theorem dX12_enters_45 : decode cX12_enters 45 = .ok (.putfield 506, 3) := by decide +kernel
theorem dX12_enters_48 : decode cX12_enters 48 = .ok (.iconst 0, 1) := by decide +kernel
theorem dX12_enters_49 : decode cX12_enters 49 = .ok (.istore_n 2, 1) := by decide +kernel
theorem dX12_enters_50 : decode cX12_enters 50 = .ok (.iload_n 2, 1) := by decide +kernel
theorem dX12_enters_51 : decode cX12_enters 51 = .ok (.aload_n 0, 1) := by decide +kernel
theorem dX12_enters_52 : decode cX12_enters 52 = .ok (.getfield 38, 3) := by decide +kernel
theorem dX12_enters_55 : decode cX12_enters 55 = .ok (.iload_n 1, 1) := by decide +kernel
theorem dX12_enters_56 : decode cX12_enters 56 = .ok (.iaload, 1) := by decide +kernel
theorem dX12_enters_57 : decode cX12_enters 57 = .ok (.if_icmp .ge 31, 3) := by decide +kernel
theorem dX12_enters_60 : decode cX12_enters 60 = .ok (.aload_n 0, 1) := by decide +kernel
theorem dX12_enters_61 : decode cX12_enters 61 = .ok (.getfield 147, 3) := by decide +kernel
theorem dX12_enters_64 : decode cX12_enters 64 = .ok (.aload_n 0, 1) := by decide +kernel
theorem dX12_enters_65 : decode cX12_enters 65 = .ok (.getfield 515, 3) := by decide +kernel
theorem dX12_enters_68 : decode cX12_enters 68 = .ok (.iload_n 2, 1) := by decide +kernel
theorem dX12_enters_69 : decode cX12_enters 69 = .ok (.iadd, 1) := by decide +kernel
theorem dX12_enters_70 : decode cX12_enters 70 = .ok (.aload_n 0, 1) := by decide +kernel
theorem dX12_enters_71 : decode cX12_enters 71 = .ok (.getfield 138, 3) := by decide +kernel
theorem dX12_enters_74 : decode cX12_enters 74 = .ok (.aload_n 0, 1) := by decide +kernel
theorem dX12_enters_75 : decode cX12_enters 75 = .ok (.getfield 506, 3) := by decide +kernel
theorem dX12_enters_78 : decode cX12_enters 78 = .ok (.iload_n 2, 1) := by decide +kernel
theorem dX12_enters_79 : decode cX12_enters 79 = .ok (.iadd, 1) := by decide +kernel
theorem dX12_enters_80 : decode cX12_enters 80 = .ok (.iaload, 1) := by decide +kernel
theorem dX12_enters_81 : decode cX12_enters 81 = .ok (.iastore, 1) := by decide +kernel
theorem dX12_enters_82 : decode cX12_enters 82 = .ok (.iinc 2 1, 3) := by decide +kernel
theorem dX12_enters_85 : decode cX12_enters 85 = .ok (.goto (-35), 3) := by decide +kernel
theorem dX12_enters_88 : decode cX12_enters 88 = .ok (.iconst 0, 1) := by decide +kernel
theorem dX12_enters_89 : decode cX12_enters 89 = .ok (.istore_n 2, 1) := by decide +kernel
theorem dX12_enters_90 : decode cX12_enters 90 = .ok (.iload_n 2, 1) := by decide +kernel
theorem dX12_enters_91 : decode cX12_enters 91 = .ok (.aload_n 0, 1) := by decide +kernel
theorem dX12_enters_92 : decode cX12_enters 92 = .ok (.getfield 44, 3) := by decide +kernel
theorem dX12_enters_95 : decode cX12_enters 95 = .ok (.iload_n 1, 1) := by decide +kernel
theorem dX12_enters_96 : decode cX12_enters 96 = .ok (.iaload, 1) := by decide +kernel
theorem dX12_enters_97 : decode cX12_enters 97 = .ok (.if_icmp .ge 28, 3) := by decide +kernel
theorem dX12_enters_100 : decode cX12_enters 100 = .ok (.aload_n 0, 1) := by decide +kernel
theorem dX12_enters_101 : decode cX12_enters 101 = .ok (.getfield 147, 3) := by decide +kernel
theorem dX12_enters_104 : decode cX12_enters 104 = .ok (.aload_n 0, 1) := by decide +kernel
theorem dX12_enters_105 : decode cX12_enters 105 = .ok (.getfield 515, 3) := by decide +kernel
theorem dX12_enters_108 : decode cX12_enters 108 = .ok (.aload_n 0, 1) := by decide +kernel
theorem dX12_enters_109 : decode cX12_enters 109 = .ok (.getfield 38, 3) := by decide +kernel
theorem dX12_enters_112 : decode cX12_enters 112 = .ok (.iload_n 1, 1) := by decide +kernel
theorem dX12_enters_113 : decode cX12_enters 113 = .ok (.iaload, 1) := by decide +kernel
theorem dX12_enters_114 : decode cX12_enters 114 = .ok (.iadd, 1) := by decide +kernel
theorem dX12_enters_115 : decode cX12_enters 115 = .ok (.iload_n 2, 1) := by decide +kernel
theorem dX12_enters_116 : decode cX12_enters 116 = .ok (.iadd, 1) := by decide +kernel
theorem dX12_enters_117 : decode cX12_enters 117 = .ok (.iconst 0, 1) := by decide +kernel
theorem dX12_enters_118 : decode cX12_enters 118 = .ok (.iastore, 1) := by decide +kernel
theorem dX12_enters_119 : decode cX12_enters 119 = .ok (.iinc 2 1, 3) := by decide +kernel
theorem dX12_enters_122 : decode cX12_enters 122 = .ok (.goto (-32), 3) := by decide +kernel
theorem dX12_enters_125 : decode cX12_enters 125 = .ok (.aload_n 0, 1) := by decide +kernel
theorem dX12_enters_126 : decode cX12_enters 126 = .ok (.dup, 1) := by decide +kernel
theorem dX12_enters_127 : decode cX12_enters 127 = .ok (.getfield 515, 3) := by decide +kernel
theorem dX12_enters_130 : decode cX12_enters 130 = .ok (.aload_n 0, 1) := by decide +kernel
theorem dX12_enters_131 : decode cX12_enters 131 = .ok (.getfield 38, 3) := by decide +kernel
theorem dX12_enters_134 : decode cX12_enters 134 = .ok (.iload_n 1, 1) := by decide +kernel
theorem dX12_enters_135 : decode cX12_enters 135 = .ok (.iaload, 1) := by decide +kernel
theorem dX12_enters_136 : decode cX12_enters 136 = .ok (.aload_n 0, 1) := by decide +kernel
theorem dX12_enters_137 : decode cX12_enters 137 = .ok (.getfield 44, 3) := by decide +kernel
theorem dX12_enters_140 : decode cX12_enters 140 = .ok (.iload_n 1, 1) := by decide +kernel
theorem dX12_enters_141 : decode cX12_enters 141 = .ok (.iaload, 1) := by decide +kernel
theorem dX12_enters_142 : decode cX12_enters 142 = .ok (.iadd, 1) := by decide +kernel
theorem dX12_enters_143 : decode cX12_enters 143 = .ok (.iadd, 1) := by decide +kernel
theorem dX12_enters_144 : decode cX12_enters 144 = .ok (.putfield 515, 3) := by decide +kernel
theorem dX12_enters_147 : decode cX12_enters 147 = .ok (.aload_n 0, 1) := by decide +kernel
theorem dX12_enters_148 : decode cX12_enters 148 = .ok (.bipush 6, 2) := by decide +kernel
theorem dX12_enters_150 : decode cX12_enters 150 = .ok (.iload_n 1, 1) := by decide +kernel
theorem dX12_enters_151 : decode cX12_enters 151 = .ok (.invokevirtual 518, 3) := by decide +kernel
theorem dX12_enters_154 : decode cX12_enters 154 = .ok (.aload_n 0, 1) := by decide +kernel
theorem dX12_enters_155 : decode cX12_enters 155 = .ok (.bipush 8, 2) := by decide +kernel
theorem dX12_enters_157 : decode cX12_enters 157 = .ok (.aload_n 0, 1) := by decide +kernel
theorem dX12_enters_158 : decode cX12_enters 158 = .ok (.getfield 41, 3) := by decide +kernel
theorem dX12_enters_161 : decode cX12_enters 161 = .ok (.iload_n 1, 1) := by decide +kernel
theorem dX12_enters_162 : decode cX12_enters 162 = .ok (.iaload, 1) := by decide +kernel
theorem dX12_enters_163 : decode cX12_enters 163 = .ok (.invokevirtual 518, 3) := by decide +kernel
theorem dX12_enters_166 : decode cX12_enters 166 = .ok (.return_, 1) := by decide +kernel
theorem dX12_leaves_0 : decode cX12_leaves 0 = .ok (.aload_n 0, 1) := by decide +kernel
theorem dX12_leaves_1 : decode cX12_leaves 1 = .ok (.dup, 1) := by decide +kernel
theorem dX12_leaves_2 : decode cX12_leaves 2 = .ok (.getfield 512, 3) := by decide +kernel
theorem dX12_leaves_5 : decode cX12_leaves 5 = .ok (.iconst 1, 1) := by decide +kernel
theorem dX12_leaves_6 : decode cX12_leaves 6 = .ok (.isub, 1) := by decide +kernel
theorem dX12_leaves_7 : decode cX12_leaves 7 = .ok (.putfield 512, 3) := by decide +kernel
theorem dX12_leaves_10 : decode cX12_leaves 10 = .ok (.aload_n 0, 1) := by decide +kernel
theorem dX12_leaves_11 : decode cX12_leaves 11 = .ok (.aload_n 0, 1) := by decide +kernel
theorem dX12_leaves_12 : decode cX12_leaves 12 = .ok (.getfield 150, 3) := by decide +kernel
theorem dX12_leaves_15 : decode cX12_leaves 15 = .ok (.aload_n 0, 1) := by decide +kernel
theorem dX12_leaves_16 : decode cX12_leaves 16 = .ok (.getfield 512, 3) := by decide +kernel
theorem dX12_leaves_19 : decode cX12_leaves 19 = .ok (.iaload, 1) := by decide +kernel
theorem dX12_leaves_20 : decode cX12_leaves 20 = .ok (.putfield 515, 3) := by decide +kernel
theorem dX12_leaves_23 : decode cX12_leaves 23 = .ok (.return_, 1) := by decide +kernel
theorem dX12_begins_0 : decode cX12_begins 0 = .ok (.aload_n 0, 1) := by decide +kernel
theorem dX12_begins_1 : decode cX12_begins 1 = .ok (.getfield 53, 3) := by decide +kernel
theorem dX12_begins_4 : decode cX12_begins 4 = .ok (.iload_n 1, 1) := by decide +kernel
theorem dX12_begins_5 : decode cX12_begins 5 = .ok (.iaload, 1) := by decide +kernel
theorem dX12_begins_6 : decode cX12_begins 6 = .ok (.tableswitch 223 1 10 #[54, 67, 85, 152, 152, 172, 203, 203, 223, 107], 54) := by decide +kernel
theorem dX12_begins_60 : decode cX12_begins 60 = .ok (.aload_n 0, 1) := by decide +kernel
theorem dX12_begins_61 : decode cX12_begins 61 = .ok (.aload_n 0, 1) := by decide +kernel
theorem dX12_begins_62 : decode cX12_begins 62 = .ok (.getfield 65, 3) := by decide +kernel
theorem dX12_begins_65 : decode cX12_begins 65 = .ok (.iload_n 1, 1) := by decide +kernel
theorem dX12_begins_66 : decode cX12_begins 66 = .ok (.iaload, 1) := by decide +kernel
theorem dX12_begins_67 : decode cX12_begins 67 = .ok (.invokevirtual 577, 3) := by decide +kernel
theorem dX12_begins_70 : decode cX12_begins 70 = .ok (.goto 175, 3) := by decide +kernel
theorem dX12_begins_73 : decode cX12_begins 73 = .ok (.aload_n 0, 1) := by decide +kernel
theorem dX12_begins_74 : decode cX12_begins 74 = .ok (.aload_n 0, 1) := by decide +kernel
theorem dX12_begins_75 : decode cX12_begins 75 = .ok (.getfield 135, 3) := by decide +kernel
theorem dX12_begins_78 : decode cX12_begins 78 = .ok (.aload_n 0, 1) := by decide +kernel
theorem dX12_begins_79 : decode cX12_begins 79 = .ok (.getfield 65, 3) := by decide +kernel
theorem dX12_begins_82 : decode cX12_begins 82 = .ok (.iload_n 1, 1) := by decide +kernel
theorem dX12_begins_83 : decode cX12_begins 83 = .ok (.iaload, 1) := by decide +kernel
theorem dX12_begins_84 : decode cX12_begins 84 = .ok (.iaload, 1) := by decide +kernel
theorem dX12_begins_85 : decode cX12_begins 85 = .ok (.invokevirtual 577, 3) := by decide +kernel
theorem dX12_begins_88 : decode cX12_begins 88 = .ok (.goto 157, 3) := by decide +kernel
theorem dX12_begins_91 : decode cX12_begins 91 = .ok (.aload_n 0, 1) := by decide +kernel
theorem dX12_begins_92 : decode cX12_begins 92 = .ok (.aload_n 0, 1) := by decide +kernel
theorem dX12_begins_93 : decode cX12_begins 93 = .ok (.getfield 147, 3) := by decide +kernel
theorem dX12_begins_96 : decode cX12_begins 96 = .ok (.aload_n 0, 1) := by decide +kernel
theorem dX12_begins_97 : decode cX12_begins 97 = .ok (.aload_n 0, 1) := by decide +kernel
theorem dX12_begins_98 : decode cX12_begins 98 = .ok (.getfield 65, 3) := by decide +kernel
theorem dX12_begins_101 : decode cX12_begins 101 = .ok (.iload_n 1, 1) := by decide +kernel
theorem dX12_begins_102 : decode cX12_begins 102 = .ok (.iaload, 1) := by decide +kernel
theorem dX12_begins_103 : decode cX12_begins 103 = .ok (.invokevirtual 589, 3) := by decide +kernel
theorem dX12_begins_106 : decode cX12_begins 106 = .ok (.iaload, 1) := by decide +kernel
theorem dX12_begins_107 : decode cX12_begins 107 = .ok (.invokevirtual 577, 3) := by decide +kernel
theorem dX12_begins_110 : decode cX12_begins 110 = .ok (.goto 135, 3) := by decide +kernel
theorem dX12_begins_113 : decode cX12_begins 113 = .ok (.aload_n 0, 1) := by decide +kernel
theorem dX12_begins_114 : decode cX12_begins 114 = .ok (.getfield 503, 3) := by decide +kernel
theorem dX12_begins_117 : decode cX12_begins 117 = .ok (.aload_n 0, 1) := by decide +kernel
theorem dX12_begins_118 : decode cX12_begins 118 = .ok (.getfield 482, 3) := by decide +kernel
theorem dX12_begins_121 : decode cX12_begins 121 = .ok (.if_icmp .ne 11, 3) := by decide +kernel
theorem dX12_begins_124 : decode cX12_begins 124 = .ok (.aload_n 0, 1) := by decide +kernel
theorem dX12_begins_125 : decode cX12_begins 125 = .ok (.iconst 5, 1) := by decide +kernel
theorem dX12_begins_126 : decode cX12_begins 126 = .ok (.putfield 494, 3) := by decide +kernel
theorem dX12_begins_129 : decode cX12_begins 129 = .ok (.goto 116, 3) := by decide +kernel
theorem dX12_begins_132 : decode cX12_begins 132 = .ok (.aload_n 0, 1) := by decide +kernel
theorem dX12_begins_133 : decode cX12_begins 133 = .ok (.aload_n 0, 1) := by decide +kernel
theorem dX12_begins_134 : decode cX12_begins 134 = .ok (.getfield 19, 3) := by decide +kernel
theorem dX12_begins_137 : decode cX12_begins 137 = .ok (.aload_n 0, 1) := by decide +kernel
theorem dX12_begins_138 : decode cX12_begins 138 = .ok (.getfield 503, 3) := by decide +kernel
theorem dX12_begins_141 : decode cX12_begins 141 = .ok (.iaload, 1) := by decide +kernel
theorem dX12_begins_142 : decode cX12_begins 142 = .ok (.invokevirtual 577, 3) := by decide +kernel
theorem dX12_begins_145 : decode cX12_begins 145 = .ok (.aload_n 0, 1) := by decide +kernel
theorem dX12_begins_146 : decode cX12_begins 146 = .ok (.dup, 1) := by decide +kernel
theorem dX12_begins_147 : decode cX12_begins 147 = .ok (.getfield 503, 3) := by decide +kernel
theorem dX12_begins_150 : decode cX12_begins 150 = .ok (.iconst 1, 1) := by decide +kernel
theorem dX12_begins_151 : decode cX12_begins 151 = .ok (.iadd, 1) := by decide +kernel
theorem dX12_begins_152 : decode cX12_begins 152 = .ok (.putfield 503, 3) := by decide +kernel
theorem dX12_begins_155 : decode cX12_begins 155 = .ok (.goto 90, 3) := by decide +kernel
theorem dX12_begins_158 : decode cX12_begins 158 = .ok (.aload_n 0, 1) := by decide +kernel
theorem dX12_begins_159 : decode cX12_begins 159 = .ok (.iconst 3, 1) := by decide +kernel
theorem dX12_begins_160 : decode cX12_begins 160 = .ok (.iload_n 1, 1) := by decide +kernel
theorem dX12_begins_161 : decode cX12_begins 161 = .ok (.invokevirtual 518, 3) := by decide +kernel
theorem dX12_begins_164 : decode cX12_begins 164 = .ok (.aload_n 0, 1) := by decide +kernel
theorem dX12_begins_165 : decode cX12_begins 165 = .ok (.iconst 2, 1) := by decide +kernel
theorem dX12_begins_166 : decode cX12_begins 166 = .ok (.aload_n 0, 1) := by decide +kernel
theorem dX12_begins_167 : decode cX12_begins 167 = .ok (.getfield 56, 3) := by decide +kernel
theorem dX12_begins_170 : decode cX12_begins 170 = .ok (.iload_n 1, 1) := by decide +kernel
theorem dX12_begins_171 : decode cX12_begins 171 = .ok (.iaload, 1) := by decide +kernel
theorem dX12_begins_172 : decode cX12_begins 172 = .ok (.invokevirtual 518, 3) := by decide +kernel
theorem dX12_begins_175 : decode cX12_begins 175 = .ok (.goto 70, 3) := by decide +kernel
theorem dX12_begins_178 : decode cX12_begins 178 = .ok (.aload_n 0, 1) := by decide +kernel
theorem dX12_begins_179 : decode cX12_begins 179 = .ok (.iconst 3, 1) := by decide +kernel
theorem dX12_begins_180 : decode cX12_begins 180 = .ok (.iload_n 1, 1) := by decide +kernel
theorem dX12_begins_181 : decode cX12_begins 181 = .ok (.invokevirtual 518, 3) := by decide +kernel
theorem dX12_begins_184 : decode cX12_begins 184 = .ok (.aload_n 0, 1) := by decide +kernel
theorem dX12_begins_185 : decode cX12_begins 185 = .ok (.iconst 2, 1) := by decide +kernel
theorem dX12_begins_186 : decode cX12_begins 186 = .ok (.aload_n 0, 1) := by decide +kernel
theorem dX12_begins_187 : decode cX12_begins 187 = .ok (.getfield 59, 3) := by decide +kernel
theorem dX12_begins_190 : decode cX12_begins 190 = .ok (.iload_n 1, 1) := by decide +kernel
theorem dX12_begins_191 : decode cX12_begins 191 = .ok (.iaload, 1) := by decide +kernel
theorem dX12_begins_192 : decode cX12_begins 192 = .ok (.invokevirtual 518, 3) := by decide +kernel
theorem dX12_begins_195 : decode cX12_begins 195 = .ok (.aload_n 0, 1) := by decide +kernel
theorem dX12_begins_196 : decode cX12_begins 196 = .ok (.iconst 2, 1) := by decide +kernel
theorem dX12_begins_197 : decode cX12_begins 197 = .ok (.aload_n 0, 1) := by decide +kernel
theorem dX12_begins_198 : decode cX12_begins 198 = .ok (.getfield 56, 3) := by decide +kernel
theorem dX12_begins_201 : decode cX12_begins 201 = .ok (.iload_n 1, 1) := by decide +kernel
theorem dX12_begins_202 : decode cX12_begins 202 = .ok (.iaload, 1) := by decide +kernel
theorem dX12_begins_203 : decode cX12_begins 203 = .ok (.invokevirtual 518, 3) := by decide +kernel
theorem dX12_begins_206 : decode cX12_begins 206 = .ok (.goto 39, 3) := by decide +kernel
theorem dX12_begins_209 : decode cX12_begins 209 = .ok (.aload_n 0, 1) := by decide +kernel
theorem dX12_begins_210 : decode cX12_begins 210 = .ok (.iconst 4, 1) := by decide +kernel
theorem dX12_begins_211 : decode cX12_begins 211 = .ok (.iload_n 1, 1) := by decide +kernel
theorem dX12_begins_212 : decode cX12_begins 212 = .ok (.invokevirtual 518, 3) := by decide +kernel
theorem dX12_begins_215 : decode cX12_begins 215 = .ok (.aload_n 0, 1) := by decide +kernel
theorem dX12_begins_216 : decode cX12_begins 216 = .ok (.iconst 2, 1) := by decide +kernel
theorem dX12_begins_217 : decode cX12_begins 217 = .ok (.aload_n 0, 1) := by decide +kernel
theorem dX12_begins_218 : decode cX12_begins 218 = .ok (.getfield 56, 3) := by decide +kernel
theorem dX12_begins_221 : decode cX12_begins 221 = .ok (.iload_n 1, 1) := by decide +kernel
theorem dX12_begins_222 : decode cX12_begins 222 = .ok (.iaload, 1) := by decide +kernel
theorem dX12_begins_223 : decode cX12_begins 223 = .ok (.invokevirtual 518, 3) := by decide +kernel
theorem dX12_begins_226 : decode cX12_begins 226 = .ok (.goto 19, 3) := by decide +kernel
theorem dX12_begins_229 : decode cX12_begins 229 = .ok (.aload_n 0, 1) := by decide +kernel
theorem dX12_begins_230 : decode cX12_begins 230 = .ok (.iconst 1, 1) := by decide +kernel
theorem dX12_begins_231 : decode cX12_begins 231 = .ok (.iload_n 1, 1) := by decide +kernel
theorem dX12_begins_232 : decode cX12_begins 232 = .ok (.invokevirtual 518, 3) := by decide +kernel
theorem dX12_begins_235 : decode cX12_begins 235 = .ok (.aload_n 0, 1) := by decide +kernel
theorem dX12_begins_236 : decode cX12_begins 236 = .ok (.aload_n 0, 1) := by decide +kernel
theorem dX12_begins_237 : decode cX12_begins 237 = .ok (.getfield 56, 3) := by decide +kernel
theorem dX12_begins_240 : decode cX12_begins 240 = .ok (.iload_n 1, 1) := by decide +kernel
theorem dX12_begins_241 : decode cX12_begins 241 = .ok (.iaload, 1) := by decide +kernel
theorem dX12_begins_242 : decode cX12_begins 242 = .ok (.invokevirtual 592, 3) := by decide +kernel
theorem dX12_begins_245 : decode cX12_begins 245 = .ok (.return_, 1) := by decide +kernel
theorem dX12_parts_0 : decode cX12_parts 0 = .ok (.iconst 0, 1) := by decide +kernel
theorem dX12_parts_1 : decode cX12_parts 1 = .ok (.istore_n 2, 1) := by decide +kernel
theorem dX12_parts_2 : decode cX12_parts 2 = .ok (.iload_n 1, 1) := by decide +kernel
theorem dX12_parts_3 : decode cX12_parts 3 = .ok (.istore_n 3, 1) := by decide +kernel
theorem dX12_parts_4 : decode cX12_parts 4 = .ok (.iload_n 3, 1) := by decide +kernel
theorem dX12_parts_5 : decode cX12_parts 5 = .ok (.ifCond .lt 16, 3) := by decide +kernel
theorem dX12_parts_8 : decode cX12_parts 8 = .ok (.iinc 2 1, 3) := by decide +kernel
theorem dX12_parts_11 : decode cX12_parts 11 = .ok (.aload_n 0, 1) := by decide +kernel
theorem dX12_parts_12 : decode cX12_parts 12 = .ok (.getfield 71, 3) := by decide +kernel
theorem dX12_parts_15 : decode cX12_parts 15 = .ok (.iload_n 3, 1) := by decide +kernel
theorem dX12_parts_16 : decode cX12_parts 16 = .ok (.iaload, 1) := by decide +kernel
theorem dX12_parts_17 : decode cX12_parts 17 = .ok (.istore_n 3, 1) := by decide +kernel
theorem dX12_parts_18 : decode cX12_parts 18 = .ok (.goto (-14), 3) := by decide +kernel
theorem dX12_parts_21 : decode cX12_parts 21 = .ok (.iload_n 2, 1) := by decide +kernel
theorem dX12_parts_22 : decode cX12_parts 22 = .ok (.istore_n 3, 1) := by decide +kernel
theorem dX12_parts_23 : decode cX12_parts 23 = .ok (.iload_n 1, 1) := by decide +kernel
theorem dX12_parts_24 : decode cX12_parts 24 = .ok (.istore 4, 2) := by decide +kernel
theorem dX12_parts_26 : decode cX12_parts 26 = .ok (.iload 4, 2) := by decide +kernel
theorem dX12_parts_28 : decode cX12_parts 28 = .ok (.ifCond .lt 43, 3) := by decide +kernel
theorem dX12_parts_31 : decode cX12_parts 31 = .ok (.iinc 3 (-1), 3) := by decide +kernel
theorem dX12_parts_34 : decode cX12_parts 34 = .ok (.aload_n 0, 1) := by decide +kernel
theorem dX12_parts_35 : decode cX12_parts 35 = .ok (.getfield 141, 3) := by decide +kernel
theorem dX12_parts_38 : decode cX12_parts 38 = .ok (.aload_n 0, 1) := by decide +kernel
theorem dX12_parts_39 : decode cX12_parts 39 = .ok (.getfield 509, 3) := by decide +kernel
theorem dX12_parts_42 : decode cX12_parts 42 = .ok (.iload_n 3, 1) := by decide +kernel
theorem dX12_parts_43 : decode cX12_parts 43 = .ok (.iadd, 1) := by decide +kernel
theorem dX12_parts_44 : decode cX12_parts 44 = .ok (.iconst 2, 1) := by decide +kernel
theorem dX12_parts_45 : decode cX12_parts 45 = .ok (.iastore, 1) := by decide +kernel
theorem dX12_parts_46 : decode cX12_parts 46 = .ok (.aload_n 0, 1) := by decide +kernel
theorem dX12_parts_47 : decode cX12_parts 47 = .ok (.getfield 144, 3) := by decide +kernel
theorem dX12_parts_50 : decode cX12_parts 50 = .ok (.aload_n 0, 1) := by decide +kernel
theorem dX12_parts_51 : decode cX12_parts 51 = .ok (.getfield 509, 3) := by decide +kernel
theorem dX12_parts_54 : decode cX12_parts 54 = .ok (.iload_n 3, 1) := by decide +kernel
theorem dX12_parts_55 : decode cX12_parts 55 = .ok (.iadd, 1) := by decide +kernel
theorem dX12_parts_56 : decode cX12_parts 56 = .ok (.iload 4, 2) := by decide +kernel
theorem dX12_parts_58 : decode cX12_parts 58 = .ok (.iastore, 1) := by decide +kernel
theorem dX12_parts_59 : decode cX12_parts 59 = .ok (.aload_n 0, 1) := by decide +kernel
theorem dX12_parts_60 : decode cX12_parts 60 = .ok (.getfield 71, 3) := by decide +kernel
theorem dX12_parts_63 : decode cX12_parts 63 = .ok (.iload 4, 2) := by decide +kernel
theorem dX12_parts_65 : decode cX12_parts 65 = .ok (.iaload, 1) := by decide +kernel
theorem dX12_parts_66 : decode cX12_parts 66 = .ok (.istore 4, 2) := by decide +kernel
theorem dX12_parts_68 : decode cX12_parts 68 = .ok (.goto (-42), 3) := by decide +kernel
theorem dX12_parts_71 : decode cX12_parts 71 = .ok (.aload_n 0, 1) := by decide +kernel
theorem dX12_parts_72 : decode cX12_parts 72 = .ok (.dup, 1) := by decide +kernel
theorem dX12_parts_73 : decode cX12_parts 73 = .ok (.getfield 509, 3) := by decide +kernel
theorem dX12_parts_76 : decode cX12_parts 76 = .ok (.iload_n 2, 1) := by decide +kernel
theorem dX12_parts_77 : decode cX12_parts 77 = .ok (.iadd, 1) := by decide +kernel
theorem dX12_parts_78 : decode cX12_parts 78 = .ok (.putfield 509, 3) := by decide +kernel
theorem dX12_parts_81 : decode cX12_parts 81 = .ok (.return_, 1) := by decide +kernel
theorem dX12_ops_0 : decode cX12_ops 0 = .ok (.aload_n 0, 1) := by decide +kernel
theorem dX12_ops_1 : decode cX12_ops 1 = .ok (.getfield 53, 3) := by decide +kernel
theorem dX12_ops_4 : decode cX12_ops 4 = .ok (.iload_n 1, 1) := by decide +kernel
theorem dX12_ops_5 : decode cX12_ops 5 = .ok (.iaload, 1) := by decide +kernel
theorem dX12_ops_6 : decode cX12_ops 6 = .ok (.iconst 4, 1) := by decide +kernel
theorem dX12_ops_7 : decode cX12_ops 7 = .ok (.if_icmp .ne 48, 3) := by decide +kernel
theorem dX12_ops_10 : decode cX12_ops 10 = .ok (.aload_n 0, 1) := by decide +kernel
theorem dX12_ops_11 : decode cX12_ops 11 = .ok (.invokevirtual 574, 3) := by decide +kernel
theorem dX12_ops_14 : decode cX12_ops 14 = .ok (.istore_n 2, 1) := by decide +kernel
theorem dX12_ops_15 : decode cX12_ops 15 = .ok (.iload_n 2, 1) := by decide +kernel
theorem dX12_ops_16 : decode cX12_ops 16 = .ok (.ifCond .lt 13, 3) := by decide +kernel
theorem dX12_ops_19 : decode cX12_ops 19 = .ok (.iload_n 2, 1) := by decide +kernel
theorem dX12_ops_20 : decode cX12_ops 20 = .ok (.aload_n 0, 1) := by decide +kernel
theorem dX12_ops_21 : decode cX12_ops 21 = .ok (.getfield 68, 3) := by decide +kernel
theorem dX12_ops_24 : decode cX12_ops 24 = .ok (.iload_n 1, 1) := by decide +kernel
theorem dX12_ops_25 : decode cX12_ops 25 = .ok (.iaload, 1) := by decide +kernel
theorem dX12_ops_26 : decode cX12_ops 26 = .ok (.if_icmp .lt 11, 3) := by decide +kernel
theorem dX12_ops_29 : decode cX12_ops 29 = .ok (.aload_n 0, 1) := by decide +kernel
theorem dX12_ops_30 : decode cX12_ops 30 = .ok (.iconst 3, 1) := by decide +kernel
theorem dX12_ops_31 : decode cX12_ops 31 = .ok (.putfield 494, 3) := by decide +kernel
theorem dX12_ops_34 : decode cX12_ops 34 = .ok (.goto 20, 3) := by decide +kernel
theorem dX12_ops_37 : decode cX12_ops 37 = .ok (.aload_n 0, 1) := by decide +kernel
theorem dX12_ops_38 : decode cX12_ops 38 = .ok (.aload_n 0, 1) := by decide +kernel
theorem dX12_ops_39 : decode cX12_ops 39 = .ok (.getfield 135, 3) := by decide +kernel
theorem dX12_ops_42 : decode cX12_ops 42 = .ok (.aload_n 0, 1) := by decide +kernel
theorem dX12_ops_43 : decode cX12_ops 43 = .ok (.getfield 65, 3) := by decide +kernel
theorem dX12_ops_46 : decode cX12_ops 46 = .ok (.iload_n 1, 1) := by decide +kernel
theorem dX12_ops_47 : decode cX12_ops 47 = .ok (.iaload, 1) := by decide +kernel
theorem dX12_ops_48 : decode cX12_ops 48 = .ok (.iload_n 2, 1) := by decide +kernel
theorem dX12_ops_49 : decode cX12_ops 49 = .ok (.iadd, 1) := by decide +kernel
theorem dX12_ops_50 : decode cX12_ops 50 = .ok (.iaload, 1) := by decide +kernel
theorem dX12_ops_51 : decode cX12_ops 51 = .ok (.invokevirtual 577, 3) := by decide +kernel
theorem dX12_ops_54 : decode cX12_ops 54 = .ok (.return_, 1) := by decide +kernel
theorem dX12_ops_55 : decode cX12_ops 55 = .ok (.aload_n 0, 1) := by decide +kernel
theorem dX12_ops_56 : decode cX12_ops 56 = .ok (.invokevirtual 574, 3) := by decide +kernel
theorem dX12_ops_59 : decode cX12_ops 59 = .ok (.istore_n 2, 1) := by decide +kernel
theorem dX12_ops_60 : decode cX12_ops 60 = .ok (.aload_n 0, 1) := by decide +kernel
theorem dX12_ops_61 : decode cX12_ops 61 = .ok (.getfield 53, 3) := by decide +kernel
theorem dX12_ops_64 : decode cX12_ops 64 = .ok (.iload_n 1, 1) := by decide +kernel
theorem dX12_ops_65 : decode cX12_ops 65 = .ok (.iaload, 1) := by decide +kernel
theorem dX12_ops_66 : decode cX12_ops 66 = .ok (.iconst 5, 1) := by decide +kernel
theorem dX12_ops_67 : decode cX12_ops 67 = .ok (.if_icmp .ne 18, 3) := by decide +kernel
theorem dX12_ops_70 : decode cX12_ops 70 = .ok (.aload_n 0, 1) := by decide +kernel
theorem dX12_ops_71 : decode cX12_ops 71 = .ok (.aload_n 0, 1) := by decide +kernel
theorem dX12_ops_72 : decode cX12_ops 72 = .ok (.getfield 65, 3) := by decide +kernel
theorem dX12_ops_75 : decode cX12_ops 75 = .ok (.iload_n 1, 1) := by decide +kernel
theorem dX12_ops_76 : decode cX12_ops 76 = .ok (.iaload, 1) := by decide +kernel
theorem dX12_ops_77 : decode cX12_ops 77 = .ok (.iload_n 2, 1) := by decide +kernel
theorem dX12_ops_78 : decode cX12_ops 78 = .ok (.invokestatic 550, 3) := by decide +kernel
theorem dX12_ops_81 : decode cX12_ops 81 = .ok (.invokevirtual 577, 3) := by decide +kernel
theorem dX12_ops_84 : decode cX12_ops 84 = .ok (.return_, 1) := by decide +kernel
theorem dX12_ops_85 : decode cX12_ops 85 = .ok (.aload_n 0, 1) := by decide +kernel
theorem dX12_ops_86 : decode cX12_ops 86 = .ok (.invokevirtual 574, 3) := by decide +kernel
theorem dX12_ops_89 : decode cX12_ops 89 = .ok (.istore_n 3, 1) := by decide +kernel
theorem dX12_ops_90 : decode cX12_ops 90 = .ok (.iload_n 2, 1) := by decide +kernel
theorem dX12_ops_91 : decode cX12_ops 91 = .ok (.ifCond .ne 22, 3) := by decide +kernel
theorem dX12_ops_94 : decode cX12_ops 94 = .ok (.aload_n 0, 1) := by decide +kernel
theorem dX12_ops_95 : decode cX12_ops 95 = .ok (.getfield 65, 3) := by decide +kernel
theorem dX12_ops_98 : decode cX12_ops 98 = .ok (.iload_n 1, 1) := by decide +kernel
theorem dX12_ops_99 : decode cX12_ops 99 = .ok (.iaload, 1) := by decide +kernel
theorem dX12_ops_100 : decode cX12_ops 100 = .ok (.bipush 27, 2) := by decide +kernel
theorem dX12_ops_102 : decode cX12_ops 102 = .ok (.if_icmp .lt 11, 3) := by decide +kernel
theorem dX12_ops_105 : decode cX12_ops 105 = .ok (.aload_n 0, 1) := by decide +kernel
theorem dX12_ops_106 : decode cX12_ops 106 = .ok (.iconst 2, 1) := by decide +kernel
theorem dX12_ops_107 : decode cX12_ops 107 = .ok (.putfield 494, 3) := by decide +kernel
theorem dX12_ops_110 : decode cX12_ops 110 = .ok (.goto 18, 3) := by decide +kernel
theorem dX12_ops_113 : decode cX12_ops 113 = .ok (.aload_n 0, 1) := by decide +kernel
theorem dX12_ops_114 : decode cX12_ops 114 = .ok (.aload_n 0, 1) := by decide +kernel
theorem dX12_ops_115 : decode cX12_ops 115 = .ok (.getfield 65, 3) := by decide +kernel
theorem dX12_ops_118 : decode cX12_ops 118 = .ok (.iload_n 1, 1) := by decide +kernel
theorem dX12_ops_119 : decode cX12_ops 119 = .ok (.iaload, 1) := by decide +kernel
theorem dX12_ops_120 : decode cX12_ops 120 = .ok (.iload_n 3, 1) := by decide +kernel
theorem dX12_ops_121 : decode cX12_ops 121 = .ok (.iload_n 2, 1) := by decide +kernel
theorem dX12_ops_122 : decode cX12_ops 122 = .ok (.invokestatic 553, 3) := by decide +kernel
theorem dX12_ops_125 : decode cX12_ops 125 = .ok (.invokevirtual 577, 3) := by decide +kernel
theorem dX12_ops_128 : decode cX12_ops 128 = .ok (.return_, 1) := by decide +kernel
theorem dX12_logic_0 : decode cX12_logic 0 = .ok (.aload_n 0, 1) := by decide +kernel
theorem dX12_logic_1 : decode cX12_logic 1 = .ok (.invokevirtual 574, 3) := by decide +kernel
theorem dX12_logic_4 : decode cX12_logic 4 = .ok (.ifCond .eq 7, 3) := by decide +kernel
theorem dX12_logic_7 : decode cX12_logic 7 = .ok (.iconst 1, 1) := by decide +kernel
theorem dX12_logic_8 : decode cX12_logic 8 = .ok (.goto 4, 3) := by decide +kernel
theorem dX12_logic_11 : decode cX12_logic 11 = .ok (.iconst 0, 1) := by decide +kernel
theorem dX12_logic_12 : decode cX12_logic 12 = .ok (.istore_n 2, 1) := by decide +kernel
theorem dX12_logic_13 : decode cX12_logic 13 = .ok (.aload_n 0, 1) := by decide +kernel
theorem dX12_logic_14 : decode cX12_logic 14 = .ok (.getfield 53, 3) := by decide +kernel
theorem dX12_logic_17 : decode cX12_logic 17 = .ok (.iload_n 1, 1) := by decide +kernel
theorem dX12_logic_18 : decode cX12_logic 18 = .ok (.iaload, 1) := by decide +kernel
theorem dX12_logic_19 : decode cX12_logic 19 = .ok (.bipush 8, 2) := by decide +kernel
theorem dX12_logic_21 : decode cX12_logic 21 = .ok (.if_icmp .ne 7, 3) := by decide +kernel
theorem dX12_logic_24 : decode cX12_logic 24 = .ok (.iconst 1, 1) := by decide +kernel
theorem dX12_logic_25 : decode cX12_logic 25 = .ok (.goto 4, 3) := by decide +kernel
theorem dX12_logic_28 : decode cX12_logic 28 = .ok (.iconst 0, 1) := by decide +kernel
theorem dX12_logic_29 : decode cX12_logic 29 = .ok (.istore_n 3, 1) := by decide +kernel
theorem dX12_logic_30 : decode cX12_logic 30 = .ok (.iload_n 2, 1) := by decide +kernel
theorem dX12_logic_31 : decode cX12_logic 31 = .ok (.iload_n 3, 1) := by decide +kernel
theorem dX12_logic_32 : decode cX12_logic 32 = .ok (.if_icmp .ne 17, 3) := by decide +kernel
theorem dX12_logic_35 : decode cX12_logic 35 = .ok (.aload_n 0, 1) := by decide +kernel
theorem dX12_logic_36 : decode cX12_logic 36 = .ok (.iload_n 3, 1) := by decide +kernel
theorem dX12_logic_37 : decode cX12_logic 37 = .ok (.ifCond .eq 7, 3) := by decide +kernel
theorem dX12_logic_40 : decode cX12_logic 40 = .ok (.iconst 1, 1) := by decide +kernel
theorem dX12_logic_41 : decode cX12_logic 41 = .ok (.goto 4, 3) := by decide +kernel
theorem dX12_logic_44 : decode cX12_logic 44 = .ok (.iconst 0, 1) := by decide +kernel
theorem dX12_logic_45 : decode cX12_logic 45 = .ok (.invokevirtual 577, 3) := by decide +kernel
theorem dX12_logic_48 : decode cX12_logic 48 = .ok (.return_, 1) := by decide +kernel
theorem dX12_logic_49 : decode cX12_logic 49 = .ok (.aload_n 0, 1) := by decide +kernel
theorem dX12_logic_50 : decode cX12_logic 50 = .ok (.iconst 5, 1) := by decide +kernel
theorem dX12_logic_51 : decode cX12_logic 51 = .ok (.iconst (-1), 1) := by decide +kernel
theorem dX12_logic_52 : decode cX12_logic 52 = .ok (.invokevirtual 518, 3) := by decide +kernel
theorem dX12_logic_55 : decode cX12_logic 55 = .ok (.aload_n 0, 1) := by decide +kernel
theorem dX12_logic_56 : decode cX12_logic 56 = .ok (.iconst 2, 1) := by decide +kernel
theorem dX12_logic_57 : decode cX12_logic 57 = .ok (.aload_n 0, 1) := by decide +kernel
theorem dX12_logic_58 : decode cX12_logic 58 = .ok (.getfield 59, 3) := by decide +kernel
theorem dX12_logic_61 : decode cX12_logic 61 = .ok (.iload_n 1, 1) := by decide +kernel
theorem dX12_logic_62 : decode cX12_logic 62 = .ok (.iaload, 1) := by decide +kernel
theorem dX12_logic_63 : decode cX12_logic 63 = .ok (.invokevirtual 518, 3) := by decide +kernel
theorem dX12_logic_66 : decode cX12_logic 66 = .ok (.return_, 1) := by decide +kernel
theorem dX12_states_0 : decode cX12_states 0 = .ok (.aload_n 0, 1) := by decide +kernel
theorem dX12_states_1 : decode cX12_states 1 = .ok (.getfield 53, 3) := by decide +kernel
theorem dX12_states_4 : decode cX12_states 4 = .ok (.iload_n 1, 1) := by decide +kernel
theorem dX12_states_5 : decode cX12_states 5 = .ok (.iaload, 1) := by decide +kernel
theorem dX12_states_6 : decode cX12_states 6 = .ok (.tableswitch 187 20 30 #[58, 82, 187, 187, 187, 187, 187, 187, 131, 163, 184], 58) := by decide +kernel
theorem dX12_states_64 : decode cX12_states 64 = .ok (.aload_n 0, 1) := by decide +kernel
theorem dX12_states_65 : decode cX12_states 65 = .ok (.getfield 56, 3) := by decide +kernel
theorem dX12_states_68 : decode cX12_states 68 = .ok (.iload_n 1, 1) := by decide +kernel
theorem dX12_states_69 : decode cX12_states 69 = .ok (.iaload, 1) := by decide +kernel
theorem dX12_states_70 : decode cX12_states 70 = .ok (.ifCond .lt 141, 3) := by decide +kernel
theorem dX12_states_73 : decode cX12_states 73 = .ok (.aload_n 0, 1) := by decide +kernel
theorem dX12_states_74 : decode cX12_states 74 = .ok (.bipush 7, 2) := by decide +kernel
theorem dX12_states_76 : decode cX12_states 76 = .ok (.aload_n 0, 1) := by decide +kernel
theorem dX12_states_77 : decode cX12_states 77 = .ok (.getfield 56, 3) := by decide +kernel
theorem dX12_states_80 : decode cX12_states 80 = .ok (.iload_n 1, 1) := by decide +kernel
theorem dX12_states_81 : decode cX12_states 81 = .ok (.iaload, 1) := by decide +kernel
theorem dX12_states_82 : decode cX12_states 82 = .ok (.invokevirtual 518, 3) := by decide +kernel
theorem dX12_states_85 : decode cX12_states 85 = .ok (.goto 126, 3) := by decide +kernel
theorem dX12_states_88 : decode cX12_states 88 = .ok (.aload_n 0, 1) := by decide +kernel
theorem dX12_states_89 : decode cX12_states 89 = .ok (.getfield 56, 3) := by decide +kernel
theorem dX12_states_92 : decode cX12_states 92 = .ok (.iload_n 1, 1) := by decide +kernel
theorem dX12_states_93 : decode cX12_states 93 = .ok (.iaload, 1) := by decide +kernel
theorem dX12_states_94 : decode cX12_states 94 = .ok (.ifCond .ge 22, 3) := by decide +kernel
theorem dX12_states_97 : decode cX12_states 97 = .ok (.aload_n 0, 1) := by decide +kernel
theorem dX12_states_98 : decode cX12_states 98 = .ok (.getfield 147, 3) := by decide +kernel
theorem dX12_states_101 : decode cX12_states 101 = .ok (.aload_n 0, 1) := by decide +kernel
theorem dX12_states_102 : decode cX12_states 102 = .ok (.aload_n 0, 1) := by decide +kernel
theorem dX12_states_103 : decode cX12_states 103 = .ok (.getfield 65, 3) := by decide +kernel
theorem dX12_states_106 : decode cX12_states 106 = .ok (.iload_n 1, 1) := by decide +kernel
theorem dX12_states_107 : decode cX12_states 107 = .ok (.iaload, 1) := by decide +kernel
theorem dX12_states_108 : decode cX12_states 108 = .ok (.invokevirtual 589, 3) := by decide +kernel
theorem dX12_states_111 : decode cX12_states 111 = .ok (.iconst 0, 1) := by decide +kernel
theorem dX12_states_112 : decode cX12_states 112 = .ok (.iastore, 1) := by decide +kernel
theorem dX12_states_113 : decode cX12_states 113 = .ok (.goto 98, 3) := by decide +kernel
theorem dX12_states_116 : decode cX12_states 116 = .ok (.aload_n 0, 1) := by decide +kernel
theorem dX12_states_117 : decode cX12_states 117 = .ok (.bipush 9, 2) := by decide +kernel
theorem dX12_states_119 : decode cX12_states 119 = .ok (.iload_n 1, 1) := by decide +kernel
theorem dX12_states_120 : decode cX12_states 120 = .ok (.invokevirtual 518, 3) := by decide +kernel
theorem dX12_states_123 : decode cX12_states 123 = .ok (.aload_n 0, 1) := by decide +kernel
theorem dX12_states_124 : decode cX12_states 124 = .ok (.iconst 2, 1) := by decide +kernel
theorem dX12_states_125 : decode cX12_states 125 = .ok (.aload_n 0, 1) := by decide +kernel
theorem dX12_states_126 : decode cX12_states 126 = .ok (.getfield 56, 3) := by decide +kernel
theorem dX12_states_129 : decode cX12_states 129 = .ok (.iload_n 1, 1) := by decide +kernel
theorem dX12_states_130 : decode cX12_states 130 = .ok (.iaload, 1) := by decide +kernel
theorem dX12_states_131 : decode cX12_states 131 = .ok (.invokevirtual 518, 3) := by decide +kernel
theorem dX12_states_134 : decode cX12_states 134 = .ok (.goto 77, 3) := by decide +kernel
theorem dX12_states_137 : decode cX12_states 137 = .ok (.aload_n 0, 1) := by decide +kernel
theorem dX12_states_138 : decode cX12_states 138 = .ok (.bipush 9, 2) := by decide +kernel
theorem dX12_states_140 : decode cX12_states 140 = .ok (.iload_n 1, 1) := by decide +kernel
theorem dX12_states_141 : decode cX12_states 141 = .ok (.invokevirtual 518, 3) := by decide +kernel
theorem dX12_states_144 : decode cX12_states 144 = .ok (.aload_n 0, 1) := by decide +kernel
theorem dX12_states_145 : decode cX12_states 145 = .ok (.iconst 2, 1) := by decide +kernel
theorem dX12_states_146 : decode cX12_states 146 = .ok (.aload_n 0, 1) := by decide +kernel
theorem dX12_states_147 : decode cX12_states 147 = .ok (.getfield 59, 3) := by decide +kernel
theorem dX12_states_150 : decode cX12_states 150 = .ok (.iload_n 1, 1) := by decide +kernel
theorem dX12_states_151 : decode cX12_states 151 = .ok (.iaload, 1) := by decide +kernel
theorem dX12_states_152 : decode cX12_states 152 = .ok (.invokevirtual 518, 3) := by decide +kernel
theorem dX12_states_155 : decode cX12_states 155 = .ok (.aload_n 0, 1) := by decide +kernel
theorem dX12_states_156 : decode cX12_states 156 = .ok (.iconst 2, 1) := by decide +kernel
theorem dX12_states_157 : decode cX12_states 157 = .ok (.aload_n 0, 1) := by decide +kernel
theorem dX12_states_158 : decode cX12_states 158 = .ok (.getfield 56, 3) := by decide +kernel
theorem dX12_states_161 : decode cX12_states 161 = .ok (.iload_n 1, 1) := by decide +kernel
theorem dX12_states_162 : decode cX12_states 162 = .ok (.iaload, 1) := by decide +kernel
theorem dX12_states_163 : decode cX12_states 163 = .ok (.invokevirtual 518, 3) := by decide +kernel
theorem dX12_states_166 : decode cX12_states 166 = .ok (.goto 45, 3) := by decide +kernel
theorem dX12_states_169 : decode cX12_states 169 = .ok (.aload_n 0, 1) := by decide +kernel
theorem dX12_states_170 : decode cX12_states 170 = .ok (.bipush 10, 2) := by decide +kernel
theorem dX12_states_172 : decode cX12_states 172 = .ok (.iload_n 1, 1) := by decide +kernel
theorem dX12_states_173 : decode cX12_states 173 = .ok (.invokevirtual 518, 3) := by decide +kernel
theorem dX12_states_176 : decode cX12_states 176 = .ok (.aload_n 0, 1) := by decide +kernel
theorem dX12_states_177 : decode cX12_states 177 = .ok (.iconst 2, 1) := by decide +kernel
theorem dX12_states_178 : decode cX12_states 178 = .ok (.aload_n 0, 1) := by decide +kernel
theorem dX12_states_179 : decode cX12_states 179 = .ok (.getfield 56, 3) := by decide +kernel
theorem dX12_states_182 : decode cX12_states 182 = .ok (.iload_n 1, 1) := by decide +kernel
theorem dX12_states_183 : decode cX12_states 183 = .ok (.iaload, 1) := by decide +kernel
theorem dX12_states_184 : decode cX12_states 184 = .ok (.invokevirtual 518, 3) := by decide +kernel
theorem dX12_states_187 : decode cX12_states 187 = .ok (.goto 24, 3) := by decide +kernel
theorem dX12_states_190 : decode cX12_states 190 = .ok (.goto 21, 3) := by decide +kernel
theorem dX12_states_193 : decode cX12_states 193 = .ok (.aload_n 0, 1) := by decide +kernel
theorem dX12_states_194 : decode cX12_states 194 = .ok (.bipush 9, 2) := by decide +kernel
theorem dX12_states_196 : decode cX12_states 196 = .ok (.iload_n 1, 1) := by decide +kernel
theorem dX12_states_197 : decode cX12_states 197 = .ok (.invokevirtual 518, 3) := by decide +kernel
theorem dX12_states_200 : decode cX12_states 200 = .ok (.aload_n 0, 1) := by decide +kernel
theorem dX12_states_201 : decode cX12_states 201 = .ok (.iconst 2, 1) := by decide +kernel
theorem dX12_states_202 : decode cX12_states 202 = .ok (.aload_n 0, 1) := by decide +kernel
theorem dX12_states_203 : decode cX12_states 203 = .ok (.getfield 56, 3) := by decide +kernel
theorem dX12_states_206 : decode cX12_states 206 = .ok (.iload_n 1, 1) := by decide +kernel
theorem dX12_states_207 : decode cX12_states 207 = .ok (.iaload, 1) := by decide +kernel
theorem dX12_states_208 : decode cX12_states 208 = .ok (.invokevirtual 518, 3) := by decide +kernel
theorem dX12_states_211 : decode cX12_states 211 = .ok (.return_, 1) := by decide +kernel
theorem dX12_does_0 : decode cX12_does 0 = .ok (.aload_n 0, 1) := by decide +kernel
theorem dX12_does_1 : decode cX12_does 1 = .ok (.invokevirtual 574, 3) := by decide +kernel
theorem dX12_does_4 : decode cX12_does 4 = .ok (.istore_n 2, 1) := by decide +kernel
theorem dX12_does_5 : decode cX12_does 5 = .ok (.aload_n 0, 1) := by decide +kernel
theorem dX12_does_6 : decode cX12_does 6 = .ok (.getfield 53, 3) := by decide +kernel
theorem dX12_does_9 : decode cX12_does 9 = .ok (.iload_n 1, 1) := by decide +kernel
theorem dX12_does_10 : decode cX12_does 10 = .ok (.iaload, 1) := by decide +kernel
theorem dX12_does_11 : decode cX12_does 11 = .ok (.tableswitch 200 21 28 #[45, 87, 130, 200, 79, 64, 45, 156], 45) := by decide +kernel
theorem dX12_does_56 : decode cX12_does 56 = .ok (.aload_n 0, 1) := by decide +kernel
theorem dX12_does_57 : decode cX12_does 57 = .ok (.getfield 147, 3) := by decide +kernel
theorem dX12_does_60 : decode cX12_does 60 = .ok (.aload_n 0, 1) := by decide +kernel
theorem dX12_does_61 : decode cX12_does 61 = .ok (.aload_n 0, 1) := by decide +kernel
theorem dX12_does_62 : decode cX12_does 62 = .ok (.getfield 65, 3) := by decide +kernel
theorem dX12_does_65 : decode cX12_does 65 = .ok (.iload_n 1, 1) := by decide +kernel
theorem dX12_does_66 : decode cX12_does 66 = .ok (.iaload, 1) := by decide +kernel
theorem dX12_does_67 : decode cX12_does 67 = .ok (.invokevirtual 589, 3) := by decide +kernel
theorem dX12_does_70 : decode cX12_does 70 = .ok (.iload_n 2, 1) := by decide +kernel
theorem dX12_does_71 : decode cX12_does 71 = .ok (.iastore, 1) := by decide +kernel
theorem dX12_does_72 : decode cX12_does 72 = .ok (.goto 187, 3) := by decide +kernel
theorem dX12_does_75 : decode cX12_does 75 = .ok (.aload_n 0, 1) := by decide +kernel
theorem dX12_does_76 : decode cX12_does 76 = .ok (.getfield 135, 3) := by decide +kernel
theorem dX12_does_79 : decode cX12_does 79 = .ok (.aload_n 0, 1) := by decide +kernel
theorem dX12_does_80 : decode cX12_does 80 = .ok (.getfield 65, 3) := by decide +kernel
theorem dX12_does_83 : decode cX12_does 83 = .ok (.iload_n 1, 1) := by decide +kernel
theorem dX12_does_84 : decode cX12_does 84 = .ok (.iaload, 1) := by decide +kernel
theorem dX12_does_85 : decode cX12_does 85 = .ok (.iload_n 2, 1) := by decide +kernel
theorem dX12_does_86 : decode cX12_does 86 = .ok (.iastore, 1) := by decide +kernel
theorem dX12_does_87 : decode cX12_does 87 = .ok (.goto 172, 3) := by decide +kernel
theorem dX12_does_90 : decode cX12_does 90 = .ok (.aload_n 0, 1) := by decide +kernel
theorem dX12_does_91 : decode cX12_does 91 = .ok (.iload_n 2, 1) := by decide +kernel
theorem dX12_does_92 : decode cX12_does 92 = .ok (.invokevirtual 547, 3) := by decide +kernel
theorem dX12_does_95 : decode cX12_does 95 = .ok (.goto 164, 3) := by decide +kernel
theorem dX12_does_98 : decode cX12_does 98 = .ok (.iload_n 2, 1) := by decide +kernel
theorem dX12_does_99 : decode cX12_does 99 = .ok (.ifCond .eq 18, 3) := by decide +kernel
theorem dX12_does_102 : decode cX12_does 102 = .ok (.aload_n 0, 1) := by decide +kernel
theorem dX12_does_103 : decode cX12_does 103 = .ok (.bipush 8, 2) := by decide +kernel
theorem dX12_does_105 : decode cX12_does 105 = .ok (.aload_n 0, 1) := by decide +kernel
theorem dX12_does_106 : decode cX12_does 106 = .ok (.getfield 59, 3) := by decide +kernel
theorem dX12_does_109 : decode cX12_does 109 = .ok (.iload_n 1, 1) := by decide +kernel
theorem dX12_does_110 : decode cX12_does 110 = .ok (.iaload, 1) := by decide +kernel
theorem dX12_does_111 : decode cX12_does 111 = .ok (.invokevirtual 518, 3) := by decide +kernel
theorem dX12_does_114 : decode cX12_does 114 = .ok (.goto 145, 3) := by decide +kernel
theorem dX12_does_117 : decode cX12_does 117 = .ok (.aload_n 0, 1) := by decide +kernel
theorem dX12_does_118 : decode cX12_does 118 = .ok (.getfield 62, 3) := by decide +kernel
theorem dX12_does_121 : decode cX12_does 121 = .ok (.iload_n 1, 1) := by decide +kernel
theorem dX12_does_122 : decode cX12_does 122 = .ok (.iaload, 1) := by decide +kernel
theorem dX12_does_123 : decode cX12_does 123 = .ok (.ifCond .lt 136, 3) := by decide +kernel
theorem dX12_does_126 : decode cX12_does 126 = .ok (.aload_n 0, 1) := by decide +kernel
theorem dX12_does_127 : decode cX12_does 127 = .ok (.bipush 8, 2) := by decide +kernel
theorem dX12_does_129 : decode cX12_does 129 = .ok (.aload_n 0, 1) := by decide +kernel
theorem dX12_does_130 : decode cX12_does 130 = .ok (.getfield 62, 3) := by decide +kernel
theorem dX12_does_133 : decode cX12_does 133 = .ok (.iload_n 1, 1) := by decide +kernel
theorem dX12_does_134 : decode cX12_does 134 = .ok (.iaload, 1) := by decide +kernel
theorem dX12_does_135 : decode cX12_does 135 = .ok (.invokevirtual 518, 3) := by decide +kernel
theorem dX12_does_138 : decode cX12_does 138 = .ok (.goto 121, 3) := by decide +kernel
theorem dX12_does_141 : decode cX12_does 141 = .ok (.iload_n 2, 1) := by decide +kernel
theorem dX12_does_142 : decode cX12_does 142 = .ok (.ifCond .eq 117, 3) := by decide +kernel
theorem dX12_does_145 : decode cX12_does 145 = .ok (.aload_n 0, 1) := by decide +kernel
theorem dX12_does_146 : decode cX12_does 146 = .ok (.bipush 8, 2) := by decide +kernel
theorem dX12_does_148 : decode cX12_does 148 = .ok (.iload_n 1, 1) := by decide +kernel
theorem dX12_does_149 : decode cX12_does 149 = .ok (.invokevirtual 518, 3) := by decide +kernel
theorem dX12_does_152 : decode cX12_does 152 = .ok (.aload_n 0, 1) := by decide +kernel
theorem dX12_does_153 : decode cX12_does 153 = .ok (.bipush 8, 2) := by decide +kernel
theorem dX12_does_155 : decode cX12_does 155 = .ok (.aload_n 0, 1) := by decide +kernel
theorem dX12_does_156 : decode cX12_does 156 = .ok (.getfield 59, 3) := by decide +kernel
theorem dX12_does_159 : decode cX12_does 159 = .ok (.iload_n 1, 1) := by decide +kernel
theorem dX12_does_160 : decode cX12_does 160 = .ok (.iaload, 1) := by decide +kernel
theorem dX12_does_161 : decode cX12_does 161 = .ok (.invokevirtual 518, 3) := by decide +kernel
theorem dX12_does_164 : decode cX12_does 164 = .ok (.goto 95, 3) := by decide +kernel
theorem dX12_does_167 : decode cX12_does 167 = .ok (.aload_n 0, 1) := by decide +kernel
theorem dX12_does_168 : decode cX12_does 168 = .ok (.invokevirtual 574, 3) := by decide +kernel
theorem dX12_does_171 : decode cX12_does 171 = .ok (.istore_n 3, 1) := by decide +kernel
theorem dX12_does_172 : decode cX12_does 172 = .ok (.iload_n 3, 1) := by decide +kernel
theorem dX12_does_173 : decode cX12_does 173 = .ok (.ifCond .lt 13, 3) := by decide +kernel
theorem dX12_does_176 : decode cX12_does 176 = .ok (.iload_n 3, 1) := by decide +kernel
theorem dX12_does_177 : decode cX12_does 177 = .ok (.aload_n 0, 1) := by decide +kernel
theorem dX12_does_178 : decode cX12_does 178 = .ok (.getfield 68, 3) := by decide +kernel
theorem dX12_does_181 : decode cX12_does 181 = .ok (.iload_n 1, 1) := by decide +kernel
theorem dX12_does_182 : decode cX12_does 182 = .ok (.iaload, 1) := by decide +kernel
theorem dX12_does_183 : decode cX12_does 183 = .ok (.if_icmp .lt 11, 3) := by decide +kernel
theorem dX12_does_186 : decode cX12_does 186 = .ok (.aload_n 0, 1) := by decide +kernel
theorem dX12_does_187 : decode cX12_does 187 = .ok (.iconst 3, 1) := by decide +kernel
theorem dX12_does_188 : decode cX12_does 188 = .ok (.putfield 494, 3) := by decide +kernel
theorem dX12_does_191 : decode cX12_does 191 = .ok (.goto 68, 3) := by decide +kernel
theorem dX12_does_194 : decode cX12_does 194 = .ok (.aload_n 0, 1) := by decide +kernel
theorem dX12_does_195 : decode cX12_does 195 = .ok (.getfield 135, 3) := by decide +kernel
theorem dX12_does_198 : decode cX12_does 198 = .ok (.aload_n 0, 1) := by decide +kernel
theorem dX12_does_199 : decode cX12_does 199 = .ok (.getfield 65, 3) := by decide +kernel
theorem dX12_does_202 : decode cX12_does 202 = .ok (.iload_n 1, 1) := by decide +kernel
theorem dX12_does_203 : decode cX12_does 203 = .ok (.iaload, 1) := by decide +kernel
theorem dX12_does_204 : decode cX12_does 204 = .ok (.iload_n 3, 1) := by decide +kernel
theorem dX12_does_205 : decode cX12_does 205 = .ok (.iadd, 1) := by decide +kernel
theorem dX12_does_206 : decode cX12_does 206 = .ok (.iload_n 2, 1) := by decide +kernel
theorem dX12_does_207 : decode cX12_does 207 = .ok (.iastore, 1) := by decide +kernel
theorem dX12_does_208 : decode cX12_does 208 = .ok (.goto 51, 3) := by decide +kernel
theorem dX12_does_211 : decode cX12_does 211 = .ok (.aload_n 0, 1) := by decide +kernel
theorem dX12_does_212 : decode cX12_does 212 = .ok (.iload_n 2, 1) := by decide +kernel
theorem dX12_does_213 : decode cX12_does 213 = .ok (.invokevirtual 577, 3) := by decide +kernel
theorem dX12_does_216 : decode cX12_does 216 = .ok (.aload_n 0, 1) := by decide +kernel
theorem dX12_does_217 : decode cX12_does 217 = .ok (.getfield 141, 3) := by decide +kernel
theorem dX12_does_220 : decode cX12_does 220 = .ok (.aload_n 0, 1) := by decide +kernel
theorem dX12_does_221 : decode cX12_does 221 = .ok (.getfield 509, 3) := by decide +kernel
theorem dX12_does_224 : decode cX12_does 224 = .ok (.iconst 1, 1) := by decide +kernel
theorem dX12_does_225 : decode cX12_does 225 = .ok (.isub, 1) := by decide +kernel
theorem dX12_does_226 : decode cX12_does 226 = .ok (.iaload, 1) := by decide +kernel
theorem dX12_does_227 : decode cX12_does 227 = .ok (.bipush 6, 2) := by decide +kernel
theorem dX12_does_229 : decode cX12_does 229 = .ok (.if_icmp .eq 16, 3) := by decide +kernel
theorem dX12_does_232 : decode cX12_does 232 = .ok (.aload_n 0, 1) := by decide +kernel
theorem dX12_does_233 : decode cX12_does 233 = .ok (.dup, 1) := by decide +kernel
theorem dX12_does_234 : decode cX12_does 234 = .ok (.getfield 509, 3) := by decide +kernel
theorem dX12_does_237 : decode cX12_does 237 = .ok (.iconst 1, 1) := by decide +kernel
theorem dX12_does_238 : decode cX12_does 238 = .ok (.isub, 1) := by decide +kernel
theorem dX12_does_239 : decode cX12_does 239 = .ok (.putfield 509, 3) := by decide +kernel
theorem dX12_does_242 : decode cX12_does 242 = .ok (.goto (-26), 3) := by decide +kernel
theorem dX12_does_245 : decode cX12_does 245 = .ok (.aload_n 0, 1) := by decide +kernel
theorem dX12_does_246 : decode cX12_does 246 = .ok (.dup, 1) := by decide +kernel
theorem dX12_does_247 : decode cX12_does 247 = .ok (.getfield 509, 3) := by decide +kernel
theorem dX12_does_250 : decode cX12_does 250 = .ok (.iconst 1, 1) := by decide +kernel
theorem dX12_does_251 : decode cX12_does 251 = .ok (.isub, 1) := by decide +kernel
theorem dX12_does_252 : decode cX12_does 252 = .ok (.putfield 509, 3) := by decide +kernel
theorem dX12_does_255 : decode cX12_does 255 = .ok (.aload_n 0, 1) := by decide +kernel
theorem dX12_does_256 : decode cX12_does 256 = .ok (.invokevirtual 580, 3) := by decide +kernel
theorem dX12_does_259 : decode cX12_does 259 = .ok (.return_, 1) := by decide +kernel
theorem dX12_outSize_0 : decode cX12_outSize 0 = .ok (.aload_n 0, 1) := by decide +kernel
theorem dX12_outSize_1 : decode cX12_outSize 1 = .ok (.getfield 500, 3) := by decide +kernel
theorem dX12_outSize_4 : decode cX12_outSize 4 = .ok (.ireturn, 1) := by decide +kernel
theorem dX12_out_0 : decode cX12_out 0 = .ok (.iload_n 1, 1) := by decide +kernel
theorem dX12_out_1 : decode cX12_out 1 = .ok (.ifCond .lt 11, 3) := by decide +kernel
theorem dX12_out_4 : decode cX12_out 4 = .ok (.iload_n 1, 1) := by decide +kernel
theorem dX12_out_5 : decode cX12_out 5 = .ok (.aload_n 0, 1) := by decide +kernel
theorem dX12_out_6 : decode cX12_out 6 = .ok (.getfield 500, 3) := by decide +kernel
theorem dX12_out_9 : decode cX12_out 9 = .ok (.if_icmp .lt 7, 3) := by decide +kernel
theorem dX12_out_12 : decode cX12_out 12 = .ok (.iconst (-1), 1) := by decide +kernel
theorem dX12_out_13 : decode cX12_out 13 = .ok (.goto 9, 3) := by decide +kernel
theorem dX12_out_16 : decode cX12_out 16 = .ok (.aload_n 0, 1) := by decide +kernel
theorem dX12_out_17 : decode cX12_out 17 = .ok (.getfield 22, 3) := by decide +kernel
theorem dX12_out_20 : decode cX12_out 20 = .ok (.iload_n 1, 1) := by decide +kernel
theorem dX12_out_21 : decode cX12_out 21 = .ok (.iaload, 1) := by decide +kernel
theorem dX12_out_22 : decode cX12_out 22 = .ok (.ireturn, 1) := by decide +kernel
theorem dX12_codeSize_0 : decode cX12_codeSize 0 = .ok (.aload_n 0, 1) := by decide +kernel
theorem dX12_codeSize_1 : decode cX12_codeSize 1 = .ok (.getfield 472, 3) := by decide +kernel
theorem dX12_codeSize_4 : decode cX12_codeSize 4 = .ok (.ireturn, 1) := by decide +kernel
theorem dX12_codeAt_0 : decode cX12_codeAt 0 = .ok (.iload_n 1, 1) := by decide +kernel
theorem dX12_codeAt_1 : decode cX12_codeAt 1 = .ok (.ifCond .lt 11, 3) := by decide +kernel
theorem dX12_codeAt_4 : decode cX12_codeAt 4 = .ok (.iload_n 1, 1) := by decide +kernel
theorem dX12_codeAt_5 : decode cX12_codeAt 5 = .ok (.aload_n 0, 1) := by decide +kernel
theorem dX12_codeAt_6 : decode cX12_codeAt 6 = .ok (.getfield 472, 3) := by decide +kernel
theorem dX12_codeAt_9 : decode cX12_codeAt 9 = .ok (.if_icmp .lt 7, 3) := by decide +kernel
theorem dX12_codeAt_12 : decode cX12_codeAt 12 = .ok (.iconst (-1), 1) := by decide +kernel
theorem dX12_codeAt_13 : decode cX12_codeAt 13 = .ok (.goto 9, 3) := by decide +kernel
theorem dX12_codeAt_16 : decode cX12_codeAt 16 = .ok (.aload_n 0, 1) := by decide +kernel
theorem dX12_codeAt_17 : decode cX12_codeAt 17 = .ok (.getfield 13, 3) := by decide +kernel
theorem dX12_codeAt_20 : decode cX12_codeAt 20 = .ok (.iload_n 1, 1) := by decide +kernel
theorem dX12_codeAt_21 : decode cX12_codeAt 21 = .ok (.iaload, 1) := by decide +kernel
theorem dX12_codeAt_22 : decode cX12_codeAt 22 = .ok (.ireturn, 1) := by decide +kernel
