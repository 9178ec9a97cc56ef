theorem dX6_readAll_66 : decode cX6_readAll 66 = .ok (.iconst 0, 1) := by decide +kernel
theorem dX6_readAll_67 : decode cX6_readAll 67 = .ok (.istore_n 2, 1) := by decide +kernel
theorem dX6_readAll_68 : decode cX6_readAll 68 = .ok (.iload_n 2, 1) := by decide +kernel
theorem dX6_readAll_69 : decode cX6_readAll 69 = .ok (.aload_n 0, 1) := by decide +kernel
theorem dX6_readAll_70 : decode cX6_readAll 70 = .ok (.getfield 21, 3) := by decide +kernel
theorem dX6_readAll_73 : decode cX6_readAll 73 = .ok (.getfield 74, 3) := by decide +kernel
theorem dX6_readAll_76 : decode cX6_readAll 76 = .ok (.if_icmp .gt 86, 3) := by decide +kernel
theorem dX6_readAll_79 : decode cX6_readAll 79 = .ok (.aload_n 0, 1) := by decide +kernel
theorem dX6_readAll_80 : decode cX6_readAll 80 = .ok (.getfield 21, 3) := by decide +kernel
theorem dX6_readAll_83 : decode cX6_readAll 83 = .ok (.getfield 78, 3) := by decide +kernel
theorem dX6_readAll_86 : decode cX6_readAll 86 = .ok (.bipush 42, 2) := by decide +kernel
theorem dX6_readAll_88 : decode cX6_readAll 88 = .ok (.if_icmp .ne 74, 3) := by decide +kernel
theorem dX6_readAll_91 : decode cX6_readAll 91 = .ok (.aload_n 0, 1) := by decide +kernel
theorem dX6_readAll_92 : decode cX6_readAll 92 = .ok (.getfield 21, 3) := by decide +kernel
theorem dX6_readAll_95 : decode cX6_readAll 95 = .ok (.invokevirtual 81, 3) := by decide +kernel
theorem dX6_readAll_98 : decode cX6_readAll 98 = .ok (.aload_n 0, 1) := by decide +kernel
theorem dX6_readAll_99 : decode cX6_readAll 99 = .ok (.getfield 21, 3) := by decide +kernel
theorem dX6_readAll_102 : decode cX6_readAll 102 = .ok (.getfield 84, 3) := by decide +kernel
theorem dX6_readAll_105 : decode cX6_readAll 105 = .ok (.istore_n 3, 1) := by decide +kernel
theorem dX6_readAll_106 : decode cX6_readAll 106 = .ok (.aload_n 0, 1) := by decide +kernel
theorem dX6_readAll_107 : decode cX6_readAll 107 = .ok (.getfield 21, 3) := by decide +kernel
theorem dX6_readAll_110 : decode cX6_readAll 110 = .ok (.getfield 87, 3) := by decide +kernel
theorem dX6_readAll_113 : decode cX6_readAll 113 = .ok (.lstore 4, 2) := by decide +kernel
theorem dX6_readAll_115 : decode cX6_readAll 115 = .ok (.aload_n 0, 1) := by decide +kernel
theorem dX6_readAll_116 : decode cX6_readAll 116 = .ok (.iconst 0, 1) := by decide +kernel
theorem dX6_readAll_117 : decode cX6_readAll 117 = .ok (.invokevirtual 91, 3) := by decide +kernel
theorem dX6_readAll_120 : decode cX6_readAll 120 = .ok (.aload_n 0, 1) := by decide +kernel
theorem dX6_readAll_121 : decode cX6_readAll 121 = .ok (.getfield 21, 3) := by decide +kernel
theorem dX6_readAll_124 : decode cX6_readAll 124 = .ok (.getfield 78, 3) := by decide +kernel
theorem dX6_readAll_127 : decode cX6_readAll 127 = .ok (.bipush 49, 2) := by decide +kernel
theorem dX6_readAll_129 : decode cX6_readAll 129 = .ok (.if_icmp .ne 21, 3) := by decide +kernel
theorem dX6_readAll_132 : decode cX6_readAll 132 = .ok (.aload_n 0, 1) := by decide +kernel
theorem dX6_readAll_133 : decode cX6_readAll 133 = .ok (.lload 4, 2) := by decide +kernel
theorem dX6_readAll_135 : decode cX6_readAll 135 = .ok (.iload_n 3, 1) := by decide +kernel
theorem dX6_readAll_136 : decode cX6_readAll 136 = .ok (.invokevirtual 94, 3) := by decide +kernel
theorem dX6_readAll_139 : decode cX6_readAll 139 = .ok (.aload_n 0, 1) := by decide +kernel
theorem dX6_readAll_140 : decode cX6_readAll 140 = .ok (.aload_n 0, 1) := by decide +kernel
theorem dX6_readAll_141 : decode cX6_readAll 141 = .ok (.invokevirtual 98, 3) := by decide +kernel
theorem dX6_readAll_144 : decode cX6_readAll 144 = .ok (.invokevirtual 102, 3) := by decide +kernel
theorem dX6_readAll_147 : decode cX6_readAll 147 = .ok (.goto 9, 3) := by decide +kernel
theorem dX6_readAll_150 : decode cX6_readAll 150 = .ok (.aload_n 0, 1) := by decide +kernel
theorem dX6_readAll_151 : decode cX6_readAll 151 = .ok (.lload 4, 2) := by decide +kernel
theorem dX6_readAll_153 : decode cX6_readAll 153 = .ok (.invokevirtual 105, 3) := by decide +kernel
theorem dX6_readAll_156 : decode cX6_readAll 156 = .ok (.iinc 2 1, 3) := by decide +kernel
theorem dX6_readAll_159 : decode cX6_readAll 159 = .ok (.goto (-91), 3) := by decide +kernel
theorem dX6_readAll_162 : decode cX6_readAll 162 = .ok (.aload_n 0, 1) := by decide +kernel
theorem dX6_readAll_163 : decode cX6_readAll 163 = .ok (.getfield 21, 3) := by decide +kernel
theorem dX6_readAll_166 : decode cX6_readAll 166 = .ok (.bipush 58, 2) := by decide +kernel
theorem dX6_readAll_168 : decode cX6_readAll 168 = .ok (.invokevirtual 109, 3) := by decide +kernel
theorem dX6_readAll_171 : decode cX6_readAll 171 = .ok (.aload_n 0, 1) := by decide +kernel
theorem dX6_readAll_172 : decode cX6_readAll 172 = .ok (.invokevirtual 112, 3) := by decide +kernel
theorem dX6_readAll_175 : decode cX6_readAll 175 = .ok (.aload_n 0, 1) := by decide +kernel
theorem dX6_readAll_176 : decode cX6_readAll 176 = .ok (.getfield 21, 3) := by decide +kernel
theorem dX6_readAll_179 : decode cX6_readAll 179 = .ok (.getfield 115, 3) := by decide +kernel
theorem dX6_readAll_182 : decode cX6_readAll 182 = .ok (.ireturn, 1) := by decide +kernel
theorem dX6_finish_0 : decode cX6_finish 0 = .ok (.aload_n 0, 1) := by decide +kernel
theorem dX6_finish_1 : decode cX6_finish 1 = .ok (.getfield 36, 3) := by decide +kernel
theorem dX6_finish_4 : decode cX6_finish 4 = .ok (.getfield 118, 3) := by decide +kernel
theorem dX6_finish_7 : decode cX6_finish 7 = .ok (.ifCond .ge 19, 3) := by decide +kernel
theorem dX6_finish_10 : decode cX6_finish 10 = .ok (.aload_n 0, 1) := by decide +kernel
theorem dX6_finish_11 : decode cX6_finish 11 = .ok (.getfield 21, 3) := by decide +kernel
theorem dX6_finish_14 : decode cX6_finish 14 = .ok (.bipush 7, 2) := by decide +kernel
theorem dX6_finish_16 : decode cX6_finish 16 = .ok (.aload_n 0, 1) := by decide +kernel
theorem dX6_finish_17 : decode cX6_finish 17 = .ok (.getfield 21, 3) := by decide +kernel
theorem dX6_finish_20 : decode cX6_finish 20 = .ok (.getfield 74, 3) := by decide +kernel
theorem dX6_finish_23 : decode cX6_finish 23 = .ok (.invokevirtual 121, 3) := by decide +kernel
theorem dX6_finish_26 : decode cX6_finish 26 = .ok (.aload_n 0, 1) := by decide +kernel
theorem dX6_finish_27 : decode cX6_finish 27 = .ok (.getfield 51, 3) := by decide +kernel
theorem dX6_finish_30 : decode cX6_finish 30 = .ok (.invokevirtual 125, 3) := by decide +kernel
theorem dX6_finish_33 : decode cX6_finish 33 = .ok (.ifCond .ne 19, 3) := by decide +kernel
theorem dX6_finish_36 : decode cX6_finish 36 = .ok (.aload_n 0, 1) := by decide +kernel
theorem dX6_finish_37 : decode cX6_finish 37 = .ok (.getfield 21, 3) := by decide +kernel
theorem dX6_finish_40 : decode cX6_finish 40 = .ok (.bipush 10, 2) := by decide +kernel
theorem dX6_finish_42 : decode cX6_finish 42 = .ok (.aload_n 0, 1) := by decide +kernel
theorem dX6_finish_43 : decode cX6_finish 43 = .ok (.getfield 21, 3) := by decide +kernel
theorem dX6_finish_46 : decode cX6_finish 46 = .ok (.getfield 74, 3) := by decide +kernel
theorem dX6_finish_49 : decode cX6_finish 49 = .ok (.invokevirtual 121, 3) := by decide +kernel
theorem dX6_finish_52 : decode cX6_finish 52 = .ok (.aload_n 0, 1) := by decide +kernel
theorem dX6_finish_53 : decode cX6_finish 53 = .ok (.getfield 36, 3) := by decide +kernel
theorem dX6_finish_56 : decode cX6_finish 56 = .ok (.aload_n 0, 1) := by decide +kernel
theorem dX6_finish_57 : decode cX6_finish 57 = .ok (.getfield 21, 3) := by decide +kernel
theorem dX6_finish_60 : decode cX6_finish 60 = .ok (.getfield 115, 3) := by decide +kernel
theorem dX6_finish_63 : decode cX6_finish 63 = .ok (.ifCond .ne 7, 3) := by decide +kernel
theorem dX6_finish_66 : decode cX6_finish 66 = .ok (.iconst 1, 1) := by decide +kernel
theorem dX6_finish_67 : decode cX6_finish 67 = .ok (.goto 4, 3) := by decide +kernel
theorem dX6_finish_70 : decode cX6_finish 70 = .ok (.iconst 0, 1) := by decide +kernel
theorem dX6_finish_71 : decode cX6_finish 71 = .ok (.putfield 129, 3) := by decide +kernel
theorem dX6_finish_74 : decode cX6_finish 74 = .ok (.return_, 1) := by decide +kernel
theorem dX6_toldName_0 : decode cX6_toldName 0 = .ok (.aload_n 0, 1) := by decide +kernel
theorem dX6_toldName_1 : decode cX6_toldName 1 = .ok (.getfield 21, 3) := by decide +kernel
theorem dX6_toldName_4 : decode cX6_toldName 4 = .ok (.getfield 78, 3) := by decide +kernel
theorem dX6_toldName_7 : decode cX6_toldName 7 = .ok (.bipush 40, 2) := by decide +kernel
theorem dX6_toldName_9 : decode cX6_toldName 9 = .ok (.if_icmp .eq 14, 3) := by decide +kernel
theorem dX6_toldName_12 : decode cX6_toldName 12 = .ok (.aload_n 0, 1) := by decide +kernel
theorem dX6_toldName_13 : decode cX6_toldName 13 = .ok (.getfield 21, 3) := by decide +kernel
theorem dX6_toldName_16 : decode cX6_toldName 16 = .ok (.iconst 2, 1) := by decide +kernel
theorem dX6_toldName_17 : decode cX6_toldName 17 = .ok (.invokevirtual 133, 3) := by decide +kernel
theorem dX6_toldName_20 : decode cX6_toldName 20 = .ok (.goto 29, 3) := by decide +kernel
theorem dX6_toldName_23 : decode cX6_toldName 23 = .ok (.aload_n 0, 1) := by decide +kernel
theorem dX6_toldName_24 : decode cX6_toldName 24 = .ok (.getfield 26, 3) := by decide +kernel
theorem dX6_toldName_27 : decode cX6_toldName 27 = .ok (.aload_n 0, 1) := by decide +kernel
theorem dX6_toldName_28 : decode cX6_toldName 28 = .ok (.getfield 21, 3) := by decide +kernel
theorem dX6_toldName_31 : decode cX6_toldName 31 = .ok (.getfield 87, 3) := by decide +kernel
theorem dX6_toldName_34 : decode cX6_toldName 34 = .ok (.iload_n 1, 1) := by decide +kernel
theorem dX6_toldName_35 : decode cX6_toldName 35 = .ok (.invokevirtual 136, 3) := by decide +kernel
theorem dX6_toldName_38 : decode cX6_toldName 38 = .ok (.ifCond .lt 11, 3) := by decide +kernel
theorem dX6_toldName_41 : decode cX6_toldName 41 = .ok (.aload_n 0, 1) := by decide +kernel
theorem dX6_toldName_42 : decode cX6_toldName 42 = .ok (.getfield 21, 3) := by decide +kernel
theorem dX6_toldName_45 : decode cX6_toldName 45 = .ok (.iconst 4, 1) := by decide +kernel
theorem dX6_toldName_46 : decode cX6_toldName 46 = .ok (.invokevirtual 133, 3) := by decide +kernel
theorem dX6_toldName_49 : decode cX6_toldName 49 = .ok (.aload_n 0, 1) := by decide +kernel
theorem dX6_toldName_50 : decode cX6_toldName 50 = .ok (.getfield 21, 3) := by decide +kernel
theorem dX6_toldName_53 : decode cX6_toldName 53 = .ok (.invokevirtual 81, 3) := by decide +kernel
theorem dX6_toldName_56 : decode cX6_toldName 56 = .ok (.return_, 1) := by decide +kernel
theorem dX6_global_0 : decode cX6_global 0 = .ok (.iconst 0, 1) := by decide +kernel
theorem dX6_global_1 : decode cX6_global 1 = .ok (.istore_n 3, 1) := by decide +kernel
theorem dX6_global_2 : decode cX6_global 2 = .ok (.iconst 1, 1) := by decide +kernel
theorem dX6_global_3 : decode cX6_global 3 = .ok (.istore 4, 2) := by decide +kernel
theorem dX6_global_5 : decode cX6_global 5 = .ok (.aload_n 0, 1) := by decide +kernel
theorem dX6_global_6 : decode cX6_global 6 = .ok (.getfield 21, 3) := by decide +kernel
theorem dX6_global_9 : decode cX6_global 9 = .ok (.getfield 78, 3) := by decide +kernel
theorem dX6_global_12 : decode cX6_global 12 = .ok (.bipush 53, 2) := by decide +kernel
theorem dX6_global_14 : decode cX6_global 14 = .ok (.if_icmp .ne 36, 3) := by decide +kernel
theorem dX6_global_17 : decode cX6_global 17 = .ok (.iconst 1, 1) := by decide +kernel
theorem dX6_global_18 : decode cX6_global 18 = .ok (.istore_n 3, 1) := by decide +kernel
theorem dX6_global_19 : decode cX6_global 19 = .ok (.aload_n 0, 1) := by decide +kernel
theorem dX6_global_20 : decode cX6_global 20 = .ok (.getfield 21, 3) := by decide +kernel
theorem dX6_global_23 : decode cX6_global 23 = .ok (.invokevirtual 81, 3) := by decide +kernel
theorem dX6_global_26 : decode cX6_global 26 = .ok (.aload_n 0, 1) := by decide +kernel
theorem dX6_global_27 : decode cX6_global 27 = .ok (.invokevirtual 142, 3) := by decide +kernel
theorem dX6_global_30 : decode cX6_global 30 = .ok (.istore 4, 2) := by decide +kernel
theorem dX6_global_32 : decode cX6_global 32 = .ok (.aload_n 0, 1) := by decide +kernel
theorem dX6_global_33 : decode cX6_global 33 = .ok (.getfield 21, 3) := by decide +kernel
theorem dX6_global_36 : decode cX6_global 36 = .ok (.bipush 41, 2) := by decide +kernel
theorem dX6_global_38 : decode cX6_global 38 = .ok (.invokevirtual 145, 3) := by decide +kernel
theorem dX6_global_41 : decode cX6_global 41 = .ok (.aload_n 0, 1) := by decide +kernel
theorem dX6_global_42 : decode cX6_global 42 = .ok (.getfield 21, 3) := by decide +kernel
theorem dX6_global_45 : decode cX6_global 45 = .ok (.bipush 54, 2) := by decide +kernel
theorem dX6_global_47 : decode cX6_global 47 = .ok (.invokevirtual 145, 3) := by decide +kernel
theorem dX6_global_50 : decode cX6_global 50 = .ok (.aload_n 0, 1) := by decide +kernel
theorem dX6_global_51 : decode cX6_global 51 = .ok (.getfield 21, 3) := by decide +kernel
theorem dX6_global_54 : decode cX6_global 54 = .ok (.bipush 56, 2) := by decide +kernel
theorem dX6_global_56 : decode cX6_global 56 = .ok (.invokevirtual 145, 3) := by decide +kernel
theorem dX6_global_59 : decode cX6_global 59 = .ok (.aload_n 0, 1) := by decide +kernel
theorem dX6_global_60 : decode cX6_global 60 = .ok (.getfield 26, 3) := by decide +kernel
theorem dX6_global_63 : decode cX6_global 63 = .ok (.lload_n 1, 1) := by decide +kernel
theorem dX6_global_64 : decode cX6_global 64 = .ok (.iload_n 3, 1) := by decide +kernel
theorem dX6_global_65 : decode cX6_global 65 = .ok (.aload_n 0, 1) := by decide +kernel
theorem dX6_global_66 : decode cX6_global 66 = .ok (.getfield 36, 3) := by decide +kernel
theorem dX6_global_69 : decode cX6_global 69 = .ok (.getfield 148, 3) := by decide +kernel
theorem dX6_global_72 : decode cX6_global 72 = .ok (.iload 4, 2) := by decide +kernel
theorem dX6_global_74 : decode cX6_global 74 = .ok (.invokevirtual 151, 3) := by decide +kernel
theorem dX6_global_77 : decode cX6_global 77 = .ok (.aload_n 0, 1) := by decide +kernel
theorem dX6_global_78 : decode cX6_global 78 = .ok (.getfield 36, 3) := by decide +kernel
theorem dX6_global_81 : decode cX6_global 81 = .ok (.dup, 1) := by decide +kernel
theorem dX6_global_82 : decode cX6_global 82 = .ok (.getfield 148, 3) := by decide +kernel
theorem dX6_global_85 : decode cX6_global 85 = .ok (.iload 4, 2) := by decide +kernel
theorem dX6_global_87 : decode cX6_global 87 = .ok (.iadd, 1) := by decide +kernel
theorem dX6_global_88 : decode cX6_global 88 = .ok (.putfield 148, 3) := by decide +kernel
theorem dX6_global_91 : decode cX6_global 91 = .ok (.return_, 1) := by decide +kernel
theorem dX6_arraySize_0 : decode cX6_arraySize 0 = .ok (.aload_n 0, 1) := by decide +kernel
theorem dX6_arraySize_1 : decode cX6_arraySize 1 = .ok (.getfield 21, 3) := by decide +kernel
theorem dX6_arraySize_4 : decode cX6_arraySize 4 = .ok (.getfield 78, 3) := by decide +kernel
theorem dX6_arraySize_7 : decode cX6_arraySize 7 = .ok (.bipush 41, 2) := by decide +kernel
theorem dX6_arraySize_9 : decode cX6_arraySize 9 = .ok (.if_icmp .eq 5, 3) := by decide +kernel
theorem dX6_arraySize_12 : decode cX6_arraySize 12 = .ok (.iconst 0, 1) := by decide +kernel
theorem dX6_arraySize_13 : decode cX6_arraySize 13 = .ok (.ireturn, 1) := by decide +kernel
theorem dX6_arraySize_14 : decode cX6_arraySize 14 = .ok (.aload_n 0, 1) := by decide +kernel
theorem dX6_arraySize_15 : decode cX6_arraySize 15 = .ok (.getfield 21, 3) := by decide +kernel
theorem dX6_arraySize_18 : decode cX6_arraySize 18 = .ok (.getfield 154, 3) := by decide +kernel
theorem dX6_arraySize_21 : decode cX6_arraySize 21 = .ok (.lconst 1, 1) := by decide +kernel
theorem dX6_arraySize_22 : decode cX6_arraySize 22 = .ok (.lcmp, 1) := by decide +kernel
theorem dX6_arraySize_23 : decode cX6_arraySize 23 = .ok (.ifCond .lt 17, 3) := by decide +kernel
theorem dX6_arraySize_26 : decode cX6_arraySize 26 = .ok (.aload_n 0, 1) := by decide +kernel
theorem dX6_arraySize_27 : decode cX6_arraySize 27 = .ok (.getfield 21, 3) := by decide +kernel
theorem dX6_arraySize_30 : decode cX6_arraySize 30 = .ok (.getfield 154, 3) := by decide +kernel
theorem dX6_arraySize_33 : decode cX6_arraySize 33 = .ok (.ldc2_w 157, 3) := by decide +kernel
theorem dX6_arraySize_36 : decode cX6_arraySize 36 = .ok (.lcmp, 1) := by decide +kernel
theorem dX6_arraySize_37 : decode cX6_arraySize 37 = .ok (.ifCond .le 14, 3) := by decide +kernel
theorem dX6_arraySize_40 : decode cX6_arraySize 40 = .ok (.aload_n 0, 1) := by decide +kernel
theorem dX6_arraySize_41 : decode cX6_arraySize 41 = .ok (.getfield 21, 3) := by decide +kernel
theorem dX6_arraySize_44 : decode cX6_arraySize 44 = .ok (.bipush 11, 2) := by decide +kernel
theorem dX6_arraySize_46 : decode cX6_arraySize 46 = .ok (.invokevirtual 133, 3) := by decide +kernel
theorem dX6_arraySize_49 : decode cX6_arraySize 49 = .ok (.iconst 0, 1) := by decide +kernel
theorem dX6_arraySize_50 : decode cX6_arraySize 50 = .ok (.ireturn, 1) := by decide +kernel
theorem dX6_arraySize_51 : decode cX6_arraySize 51 = .ok (.aload_n 0, 1) := by decide +kernel
theorem dX6_arraySize_52 : decode cX6_arraySize 52 = .ok (.getfield 21, 3) := by decide +kernel
theorem dX6_arraySize_55 : decode cX6_arraySize 55 = .ok (.getfield 154, 3) := by decide +kernel
theorem dX6_arraySize_58 : decode cX6_arraySize 58 = .ok (.l2i, 1) := by decide +kernel
theorem dX6_arraySize_59 : decode cX6_arraySize 59 = .ok (.ireturn, 1) := by decide +kernel
theorem dX6_openFunction_0 : decode cX6_openFunction 0 = .ok (.aload_n 0, 1) := by decide +kernel
theorem dX6_openFunction_1 : decode cX6_openFunction 1 = .ok (.getfield 9, 3) := by decide +kernel
theorem dX6_openFunction_4 : decode cX6_openFunction 4 = .ok (.iload_n 3, 1) := by decide +kernel
theorem dX6_openFunction_5 : decode cX6_openFunction 5 = .ok (.invokevirtual 159, 3) := by decide +kernel
theorem dX6_openFunction_8 : decode cX6_openFunction 8 = .ok (.aload_n 0, 1) := by decide +kernel
theorem dX6_openFunction_9 : decode cX6_openFunction 9 = .ok (.getfield 51, 3) := by decide +kernel
theorem dX6_openFunction_12 : decode cX6_openFunction 12 = .ok (.getfield 162, 3) := by decide +kernel
theorem dX6_openFunction_15 : decode cX6_openFunction 15 = .ok (.istore 4, 2) := by decide +kernel
theorem dX6_openFunction_17 : decode cX6_openFunction 17 = .ok (.aload_n 0, 1) := by decide +kernel
theorem dX6_openFunction_18 : decode cX6_openFunction 18 = .ok (.aload_n 0, 1) := by decide +kernel
theorem dX6_openFunction_19 : decode cX6_openFunction 19 = .ok (.getfield 26, 3) := by decide +kernel
theorem dX6_openFunction_22 : decode cX6_openFunction 22 = .ok (.getfield 163, 3) := by decide +kernel
theorem dX6_openFunction_25 : decode cX6_openFunction 25 = .ok (.putfield 164, 3) := by decide +kernel
theorem dX6_openFunction_28 : decode cX6_openFunction 28 = .ok (.aload_n 0, 1) := by decide +kernel
theorem dX6_openFunction_29 : decode cX6_openFunction 29 = .ok (.getfield 46, 3) := by decide +kernel
theorem dX6_openFunction_32 : decode cX6_openFunction 32 = .ok (.bipush 19, 2) := by decide +kernel
theorem dX6_openFunction_34 : decode cX6_openFunction 34 = .ok (.iconst 0, 1) := by decide +kernel
theorem dX6_openFunction_35 : decode cX6_openFunction 35 = .ok (.iconst (-1), 1) := by decide +kernel
theorem dX6_openFunction_36 : decode cX6_openFunction 36 = .ok (.iconst 0, 1) := by decide +kernel
theorem dX6_openFunction_37 : decode cX6_openFunction 37 = .ok (.invokevirtual 169, 3) := by decide +kernel
theorem dX6_openFunction_40 : decode cX6_openFunction 40 = .ok (.istore 5, 2) := by decide +kernel
theorem dX6_openFunction_42 : decode cX6_openFunction 42 = .ok (.aload_n 0, 1) := by decide +kernel
theorem dX6_openFunction_43 : decode cX6_openFunction 43 = .ok (.getfield 26, 3) := by decide +kernel
theorem dX6_openFunction_46 : decode cX6_openFunction 46 = .ok (.lload_n 1, 1) := by decide +kernel
theorem dX6_openFunction_47 : decode cX6_openFunction 47 = .ok (.iconst 2, 1) := by decide +kernel
theorem dX6_openFunction_48 : decode cX6_openFunction 48 = .ok (.iload 4, 2) := by decide +kernel
theorem dX6_openFunction_50 : decode cX6_openFunction 50 = .ok (.iconst 0, 1) := by decide +kernel
theorem dX6_openFunction_51 : decode cX6_openFunction 51 = .ok (.invokevirtual 151, 3) := by decide +kernel
theorem dX6_openFunction_54 : decode cX6_openFunction 54 = .ok (.aload_n 0, 1) := by decide +kernel
theorem dX6_openFunction_55 : decode cX6_openFunction 55 = .ok (.getfield 26, 3) := by decide +kernel
theorem dX6_openFunction_58 : decode cX6_openFunction 58 = .ok (.aload_n 0, 1) := by decide +kernel
theorem dX6_openFunction_59 : decode cX6_openFunction 59 = .ok (.getfield 164, 3) := by decide +kernel
theorem dX6_openFunction_62 : decode cX6_openFunction 62 = .ok (.iload 5, 2) := by decide +kernel
theorem dX6_openFunction_64 : decode cX6_openFunction 64 = .ok (.invokevirtual 172, 3) := by decide +kernel
theorem dX6_openFunction_67 : decode cX6_openFunction 67 = .ok (.aload_n 0, 1) := by decide +kernel
theorem dX6_openFunction_68 : decode cX6_openFunction 68 = .ok (.aload_n 0, 1) := by decide +kernel
theorem dX6_openFunction_69 : decode cX6_openFunction 69 = .ok (.getfield 164, 3) := by decide +kernel
theorem dX6_openFunction_72 : decode cX6_openFunction 72 = .ok (.iconst 1, 1) := by decide +kernel
theorem dX6_openFunction_73 : decode cX6_openFunction 73 = .ok (.iadd, 1) := by decide +kernel
theorem dX6_openFunction_74 : decode cX6_openFunction 74 = .ok (.invokevirtual 175, 3) := by decide +kernel
theorem dX6_openFunction_77 : decode cX6_openFunction 77 = .ok (.istore 6, 2) := by decide +kernel
theorem dX6_openFunction_79 : decode cX6_openFunction 79 = .ok (.aload_n 0, 1) := by decide +kernel
theorem dX6_openFunction_80 : decode cX6_openFunction 80 = .ok (.getfield 26, 3) := by decide +kernel
theorem dX6_openFunction_83 : decode cX6_openFunction 83 = .ok (.aload_n 0, 1) := by decide +kernel
theorem dX6_openFunction_84 : decode cX6_openFunction 84 = .ok (.getfield 164, 3) := by decide +kernel
theorem dX6_openFunction_87 : decode cX6_openFunction 87 = .ok (.iload 6, 2) := by decide +kernel
theorem dX6_openFunction_89 : decode cX6_openFunction 89 = .ok (.invokevirtual 179, 3) := by decide +kernel
theorem dX6_openFunction_92 : decode cX6_openFunction 92 = .ok (.aload_n 0, 1) := by decide +kernel
theorem dX6_openFunction_93 : decode cX6_openFunction 93 = .ok (.getfield 46, 3) := by decide +kernel
theorem dX6_openFunction_96 : decode cX6_openFunction 96 = .ok (.iload 5, 2) := by decide +kernel
theorem dX6_openFunction_98 : decode cX6_openFunction 98 = .ok (.iload 6, 2) := by decide +kernel
theorem dX6_openFunction_100 : decode cX6_openFunction 100 = .ok (.invokevirtual 182, 3) := by decide +kernel
theorem dX6_openFunction_103 : decode cX6_openFunction 103 = .ok (.lload_n 1, 1) := by decide +kernel
theorem dX6_openFunction_104 : decode cX6_openFunction 104 = .ok (.ldc2_w 185, 3) := by decide +kernel
theorem dX6_openFunction_107 : decode cX6_openFunction 107 = .ok (.lcmp, 1) := by decide +kernel
theorem dX6_openFunction_108 : decode cX6_openFunction 108 = .ok (.ifCond .ne 27, 3) := by decide +kernel
theorem dX6_openFunction_111 : decode cX6_openFunction 111 = .ok (.iload 6, 2) := by decide +kernel
theorem dX6_openFunction_113 : decode cX6_openFunction 113 = .ok (.ifCond .ne 22, 3) := by decide +kernel
theorem dX6_openFunction_116 : decode cX6_openFunction 116 = .ok (.aload_n 0, 1) := by decide +kernel
theorem dX6_openFunction_117 : decode cX6_openFunction 117 = .ok (.getfield 36, 3) := by decide +kernel
theorem dX6_openFunction_120 : decode cX6_openFunction 120 = .ok (.iload 5, 2) := by decide +kernel
theorem dX6_openFunction_122 : decode cX6_openFunction 122 = .ok (.putfield 118, 3) := by decide +kernel
theorem dX6_openFunction_125 : decode cX6_openFunction 125 = .ok (.aload_n 0, 1) := by decide +kernel
theorem dX6_openFunction_126 : decode cX6_openFunction 126 = .ok (.getfield 51, 3) := by decide +kernel
theorem dX6_openFunction_129 : decode cX6_openFunction 129 = .ok (.iconst 1, 1) := by decide +kernel
theorem dX6_openFunction_130 : decode cX6_openFunction 130 = .ok (.iload 4, 2) := by decide +kernel
theorem dX6_openFunction_132 : decode cX6_openFunction 132 = .ok (.invokevirtual 187, 3) := by decide +kernel
theorem dX6_openFunction_135 : decode cX6_openFunction 135 = .ok (.aload_n 0, 1) := by decide +kernel
theorem dX6_openFunction_136 : decode cX6_openFunction 136 = .ok (.iconst 0, 1) := by decide +kernel
theorem dX6_openFunction_137 : decode cX6_openFunction 137 = .ok (.putfield 190, 3) := by decide +kernel
theorem dX6_openFunction_140 : decode cX6_openFunction 140 = .ok (.aload_n 0, 1) := by decide +kernel
theorem dX6_openFunction_141 : decode cX6_openFunction 141 = .ok (.iconst 0, 1) := by decide +kernel
theorem dX6_openFunction_142 : decode cX6_openFunction 142 = .ok (.putfield 193, 3) := by decide +kernel
theorem dX6_openFunction_145 : decode cX6_openFunction 145 = .ok (.aload_n 0, 1) := by decide +kernel
theorem dX6_openFunction_146 : decode cX6_openFunction 146 = .ok (.getfield 51, 3) := by decide +kernel
theorem dX6_openFunction_149 : decode cX6_openFunction 149 = .ok (.bipush 37, 2) := by decide +kernel
theorem dX6_openFunction_151 : decode cX6_openFunction 151 = .ok (.iconst 0, 1) := by decide +kernel
theorem dX6_openFunction_152 : decode cX6_openFunction 152 = .ok (.invokevirtual 196, 3) := by decide +kernel
theorem dX6_openFunction_155 : decode cX6_openFunction 155 = .ok (.aload_n 0, 1) := by decide +kernel
theorem dX6_openFunction_156 : decode cX6_openFunction 156 = .ok (.getfield 21, 3) := by decide +kernel
theorem dX6_openFunction_159 : decode cX6_openFunction 159 = .ok (.bipush 51, 2) := by decide +kernel
theorem dX6_openFunction_161 : decode cX6_openFunction 161 = .ok (.invokevirtual 109, 3) := by decide +kernel
theorem dX6_openFunction_164 : decode cX6_openFunction 164 = .ok (.aload_n 0, 1) := by decide +kernel
theorem dX6_openFunction_165 : decode cX6_openFunction 165 = .ok (.getfield 9, 3) := by decide +kernel
theorem dX6_openFunction_168 : decode cX6_openFunction 168 = .ok (.invokevirtual 199, 3) := by decide +kernel
theorem dX6_openFunction_171 : decode cX6_openFunction 171 = .ok (.return_, 1) := by decide +kernel
theorem dX6_closeFunction_0 : decode cX6_closeFunction 0 = .ok (.aload_n 0, 1) := by decide +kernel
theorem dX6_closeFunction_1 : decode cX6_closeFunction 1 = .ok (.getfield 51, 3) := by decide +kernel
theorem dX6_closeFunction_4 : decode cX6_closeFunction 4 = .ok (.iconst 1, 1) := by decide +kernel
theorem dX6_closeFunction_5 : decode cX6_closeFunction 5 = .ok (.iconst 0, 1) := by decide +kernel
theorem dX6_closeFunction_6 : decode cX6_closeFunction 6 = .ok (.invokevirtual 196, 3) := by decide +kernel
theorem dX6_closeFunction_9 : decode cX6_closeFunction 9 = .ok (.aload_n 0, 1) := by decide +kernel
theorem dX6_closeFunction_10 : decode cX6_closeFunction 10 = .ok (.getfield 51, 3) := by decide +kernel
theorem dX6_closeFunction_13 : decode cX6_closeFunction 13 = .ok (.bipush 33, 2) := by decide +kernel
theorem dX6_closeFunction_15 : decode cX6_closeFunction 15 = .ok (.aload_n 0, 1) := by decide +kernel
theorem dX6_closeFunction_16 : decode cX6_closeFunction 16 = .ok (.getfield 9, 3) := by decide +kernel
theorem dX6_closeFunction_19 : decode cX6_closeFunction 19 = .ok (.getfield 202, 3) := by decide +kernel
theorem dX6_closeFunction_22 : decode cX6_closeFunction 22 = .ok (.invokevirtual 196, 3) := by decide +kernel
theorem dX6_closeFunction_25 : decode cX6_closeFunction 25 = .ok (.aload_n 0, 1) := by decide +kernel
theorem dX6_closeFunction_26 : decode cX6_closeFunction 26 = .ok (.getfield 51, 3) := by decide +kernel
theorem dX6_closeFunction_29 : decode cX6_closeFunction 29 = .ok (.aload_n 0, 1) := by decide +kernel
theorem dX6_closeFunction_30 : decode cX6_closeFunction 30 = .ok (.getfield 26, 3) := by decide +kernel
theorem dX6_closeFunction_33 : decode cX6_closeFunction 33 = .ok (.aload_n 0, 1) := by decide +kernel
theorem dX6_closeFunction_34 : decode cX6_closeFunction 34 = .ok (.getfield 164, 3) := by decide +kernel
theorem dX6_closeFunction_37 : decode cX6_closeFunction 37 = .ok (.invokevirtual 204, 3) := by decide +kernel
theorem dX6_closeFunction_40 : decode cX6_closeFunction 40 = .ok (.iconst 1, 1) := by decide +kernel
theorem dX6_closeFunction_41 : decode cX6_closeFunction 41 = .ok (.iadd, 1) := by decide +kernel
theorem dX6_closeFunction_42 : decode cX6_closeFunction 42 = .ok (.aload_n 0, 1) := by decide +kernel
theorem dX6_closeFunction_43 : decode cX6_closeFunction 43 = .ok (.getfield 193, 3) := by decide +kernel
theorem dX6_closeFunction_46 : decode cX6_closeFunction 46 = .ok (.invokevirtual 187, 3) := by decide +kernel
theorem dX6_closeFunction_49 : decode cX6_closeFunction 49 = .ok (.aload_n 0, 1) := by decide +kernel
theorem dX6_closeFunction_50 : decode cX6_closeFunction 50 = .ok (.getfield 46, 3) := by decide +kernel
theorem dX6_closeFunction_53 : decode cX6_closeFunction 53 = .ok (.aload_n 0, 1) := by decide +kernel
theorem dX6_closeFunction_54 : decode cX6_closeFunction 54 = .ok (.getfield 26, 3) := by decide +kernel
theorem dX6_closeFunction_57 : decode cX6_closeFunction 57 = .ok (.aload_n 0, 1) := by decide +kernel
theorem dX6_closeFunction_58 : decode cX6_closeFunction 58 = .ok (.getfield 164, 3) := by decide +kernel
theorem dX6_closeFunction_61 : decode cX6_closeFunction 61 = .ok (.invokevirtual 207, 3) := by decide +kernel
theorem dX6_closeFunction_64 : decode cX6_closeFunction 64 = .ok (.iload_n 1, 1) := by decide +kernel
theorem dX6_closeFunction_65 : decode cX6_closeFunction 65 = .ok (.aload_n 0, 1) := by decide +kernel
theorem dX6_closeFunction_66 : decode cX6_closeFunction 66 = .ok (.getfield 193, 3) := by decide +kernel
theorem dX6_closeFunction_69 : decode cX6_closeFunction 69 = .ok (.iconst (-1), 1) := by decide +kernel
theorem dX6_closeFunction_70 : decode cX6_closeFunction 70 = .ok (.invokevirtual 210, 3) := by decide +kernel
theorem dX6_closeFunction_73 : decode cX6_closeFunction 73 = .ok (.aload_n 0, 1) := by decide +kernel
theorem dX6_closeFunction_74 : decode cX6_closeFunction 74 = .ok (.getfield 26, 3) := by decide +kernel
theorem dX6_closeFunction_77 : decode cX6_closeFunction 77 = .ok (.aload_n 0, 1) := by decide +kernel
theorem dX6_closeFunction_78 : decode cX6_closeFunction 78 = .ok (.getfield 164, 3) := by decide +kernel
theorem dX6_closeFunction_81 : decode cX6_closeFunction 81 = .ok (.iconst 1, 1) := by decide +kernel
theorem dX6_closeFunction_82 : decode cX6_closeFunction 82 = .ok (.iadd, 1) := by decide +kernel
theorem dX6_closeFunction_83 : decode cX6_closeFunction 83 = .ok (.invokevirtual 214, 3) := by decide +kernel
theorem dX6_closeFunction_86 : decode cX6_closeFunction 86 = .ok (.return_, 1) := by decide +kernel
theorem dX6_parameters_0 : decode cX6_parameters 0 = .ok (.aload_n 0, 1) := by decide +kernel
theorem dX6_parameters_1 : decode cX6_parameters 1 = .ok (.getfield 9, 3) := by decide +kernel
theorem dX6_parameters_4 : decode cX6_parameters 4 = .ok (.invokevirtual 199, 3) := by decide +kernel
theorem dX6_parameters_7 : decode cX6_parameters 7 = .ok (.aload_n 0, 1) := by decide +kernel
theorem dX6_parameters_8 : decode cX6_parameters 8 = .ok (.getfield 21, 3) := by decide +kernel
theorem dX6_parameters_11 : decode cX6_parameters 11 = .ok (.invokevirtual 81, 3) := by decide +kernel
theorem dX6_parameters_14 : decode cX6_parameters 14 = .ok (.iconst 0, 1) := by decide +kernel
theorem dX6_parameters_15 : decode cX6_parameters 15 = .ok (.istore_n 2, 1) := by decide +kernel
theorem dX6_parameters_16 : decode cX6_parameters 16 = .ok (.aload_n 0, 1) := by decide +kernel
theorem dX6_parameters_17 : decode cX6_parameters 17 = .ok (.getfield 21, 3) := by decide +kernel
theorem dX6_parameters_20 : decode cX6_parameters 20 = .ok (.getfield 78, 3) := by decide +kernel
theorem dX6_parameters_23 : decode cX6_parameters 23 = .ok (.bipush 50, 2) := by decide +kernel
theorem dX6_parameters_25 : decode cX6_parameters 25 = .ok (.if_icmp .eq 62, 3) := by decide +kernel
theorem dX6_parameters_28 : decode cX6_parameters 28 = .ok (.iconst 0, 1) := by decide +kernel
theorem dX6_parameters_29 : decode cX6_parameters 29 = .ok (.istore_n 3, 1) := by decide +kernel
theorem dX6_parameters_30 : decode cX6_parameters 30 = .ok (.iload_n 3, 1) := by decide +kernel
theorem dX6_parameters_31 : decode cX6_parameters 31 = .ok (.aload_n 0, 1) := by decide +kernel
theorem dX6_parameters_32 : decode cX6_parameters 32 = .ok (.getfield 21, 3) := by decide +kernel
theorem dX6_parameters_35 : decode cX6_parameters 35 = .ok (.getfield 74, 3) := by decide +kernel
theorem dX6_parameters_38 : decode cX6_parameters 38 = .ok (.if_icmp .gt 49, 3) := by decide +kernel
theorem dX6_parameters_41 : decode cX6_parameters 41 = .ok (.aload_n 0, 1) := by decide +kernel
theorem dX6_parameters_42 : decode cX6_parameters 42 = .ok (.getfield 21, 3) := by decide +kernel
theorem dX6_parameters_45 : decode cX6_parameters 45 = .ok (.bipush 42, 2) := by decide +kernel
theorem dX6_parameters_47 : decode cX6_parameters 47 = .ok (.invokevirtual 145, 3) := by decide +kernel
theorem dX6_parameters_50 : decode cX6_parameters 50 = .ok (.aload_n 0, 1) := by decide +kernel
theorem dX6_parameters_51 : decode cX6_parameters 51 = .ok (.iload_n 1, 1) := by decide +kernel
theorem dX6_parameters_52 : decode cX6_parameters 52 = .ok (.iload_n 2, 1) := by decide +kernel
theorem dX6_parameters_53 : decode cX6_parameters 53 = .ok (.invokevirtual 217, 3) := by decide +kernel
theorem dX6_parameters_56 : decode cX6_parameters 56 = .ok (.iinc 2 1, 3) := by decide +kernel
theorem dX6_parameters_59 : decode cX6_parameters 59 = .ok (.aload_n 0, 1) := by decide +kernel
theorem dX6_parameters_60 : decode cX6_parameters 60 = .ok (.getfield 21, 3) := by decide +kernel
theorem dX6_parameters_63 : decode cX6_parameters 63 = .ok (.getfield 78, 3) := by decide +kernel
theorem dX6_parameters_66 : decode cX6_parameters 66 = .ok (.bipush 55, 2) := by decide +kernel
theorem dX6_parameters_68 : decode cX6_parameters 68 = .ok (.if_icmp .eq 6, 3) := by decide +kernel
theorem dX6_parameters_71 : decode cX6_parameters 71 = .ok (.goto 16, 3) := by decide +kernel
theorem dX6_parameters_74 : decode cX6_parameters 74 = .ok (.aload_n 0, 1) := by decide +kernel
theorem dX6_parameters_75 : decode cX6_parameters 75 = .ok (.getfield 21, 3) := by decide +kernel
theorem dX6_parameters_78 : decode cX6_parameters 78 = .ok (.invokevirtual 81, 3) := by decide +kernel
theorem dX6_parameters_81 : decode cX6_parameters 81 = .ok (.iinc 3 1, 3) := by decide +kernel
theorem dX6_parameters_84 : decode cX6_parameters 84 = .ok (.goto (-54), 3) := by decide +kernel
theorem dX6_parameters_87 : decode cX6_parameters 87 = .ok (.aload_n 0, 1) := by decide +kernel
theorem dX6_parameters_88 : decode cX6_parameters 88 = .ok (.getfield 21, 3) := by decide +kernel
theorem dX6_parameters_91 : decode cX6_parameters 91 = .ok (.bipush 50, 2) := by decide +kernel
theorem dX6_parameters_93 : decode cX6_parameters 93 = .ok (.invokevirtual 145, 3) := by decide +kernel
theorem dX6_parameters_96 : decode cX6_parameters 96 = .ok (.aload_n 0, 1) := by decide +kernel
theorem dX6_parameters_97 : decode cX6_parameters 97 = .ok (.getfield 9, 3) := by decide +kernel
theorem dX6_parameters_100 : decode cX6_parameters 100 = .ok (.invokevirtual 220, 3) := by decide +kernel
theorem dX6_parameters_103 : decode cX6_parameters 103 = .ok (.aload_n 0, 1) := by decide +kernel
theorem dX6_parameters_104 : decode cX6_parameters 104 = .ok (.getfield 9, 3) := by decide +kernel
theorem dX6_parameters_107 : decode cX6_parameters 107 = .ok (.iload_n 2, 1) := by decide +kernel
theorem dX6_parameters_108 : decode cX6_parameters 108 = .ok (.putfield 202, 3) := by decide +kernel
theorem dX6_parameters_111 : decode cX6_parameters 111 = .ok (.iconst 0, 1) := by decide +kernel
theorem dX6_parameters_112 : decode cX6_parameters 112 = .ok (.istore_n 3, 1) := by decide +kernel
theorem dX6_parameters_113 : decode cX6_parameters 113 = .ok (.iload_n 3, 1) := by decide +kernel
theorem dX6_parameters_114 : decode cX6_parameters 114 = .ok (.iload_n 2, 1) := by decide +kernel
theorem dX6_parameters_115 : decode cX6_parameters 115 = .ok (.if_icmp .ge 24, 3) := by decide +kernel
theorem dX6_parameters_118 : decode cX6_parameters 118 = .ok (.aload_n 0, 1) := by decide +kernel
theorem dX6_parameters_119 : decode cX6_parameters 119 = .ok (.getfield 26, 3) := by decide +kernel
theorem dX6_parameters_122 : decode cX6_parameters 122 = .ok (.iload_n 1, 1) := by decide +kernel
theorem dX6_parameters_123 : decode cX6_parameters 123 = .ok (.iload_n 3, 1) := by decide +kernel
theorem dX6_parameters_124 : decode cX6_parameters 124 = .ok (.iadd, 1) := by decide +kernel
theorem dX6_parameters_125 : decode cX6_parameters 125 = .ok (.iload_n 3, 1) := by decide +kernel
theorem dX6_parameters_126 : decode cX6_parameters 126 = .ok (.iconst 2, 1) := by decide +kernel
theorem dX6_parameters_127 : decode cX6_parameters 127 = .ok (.isub, 1) := by decide +kernel
theorem dX6_parameters_128 : decode cX6_parameters 128 = .ok (.iload_n 2, 1) := by decide +kernel
theorem dX6_parameters_129 : decode cX6_parameters 129 = .ok (.isub, 1) := by decide +kernel
theorem dX6_parameters_130 : decode cX6_parameters 130 = .ok (.invokevirtual 223, 3) := by decide +kernel
theorem dX6_parameters_133 : decode cX6_parameters 133 = .ok (.iinc 3 1, 3) := by decide +kernel
theorem dX6_parameters_136 : decode cX6_parameters 136 = .ok (.goto (-23), 3) := by decide +kernel
theorem dX6_parameters_139 : decode cX6_parameters 139 = .ok (.iload_n 2, 1) := by decide +kernel
theorem dX6_parameters_140 : decode cX6_parameters 140 = .ok (.ireturn, 1) := by decide +kernel
theorem dX6_parameter_0 : decode cX6_parameter 0 = .ok (.aload_n 0, 1) := by decide +kernel
theorem dX6_parameter_1 : decode cX6_parameter 1 = .ok (.getfield 21, 3) := by decide +kernel
theorem dX6_parameter_4 : decode cX6_parameter 4 = .ok (.getfield 87, 3) := by decide +kernel
theorem dX6_parameter_7 : decode cX6_parameter 7 = .ok (.lstore_n 3, 1) := by decide +kernel
theorem dX6_parameter_8 : decode cX6_parameter 8 = .ok (.aload_n 0, 1) := by decide +kernel
theorem dX6_parameter_9 : decode cX6_parameter 9 = .ok (.getfield 21, 3) := by decide +kernel
theorem dX6_parameter_12 : decode cX6_parameter 12 = .ok (.getfield 78, 3) := by decide +kernel
theorem dX6_parameter_15 : decode cX6_parameter 15 = .ok (.bipush 40, 2) := by decide +kernel
theorem dX6_parameter_17 : decode cX6_parameter 17 = .ok (.if_icmp .eq 14, 3) := by decide +kernel
theorem dX6_parameter_20 : decode cX6_parameter 20 = .ok (.aload_n 0, 1) := by decide +kernel
theorem dX6_parameter_21 : decode cX6_parameter 21 = .ok (.getfield 21, 3) := by decide +kernel
theorem dX6_parameter_24 : decode cX6_parameter 24 = .ok (.iconst 2, 1) := by decide +kernel
theorem dX6_parameter_25 : decode cX6_parameter 25 = .ok (.invokevirtual 133, 3) := by decide +kernel
theorem dX6_parameter_28 : decode cX6_parameter 28 = .ok (.goto 41, 3) := by decide +kernel
theorem dX6_parameter_31 : decode cX6_parameter 31 = .ok (.aload_n 0, 1) := by decide +kernel
theorem dX6_parameter_32 : decode cX6_parameter 32 = .ok (.getfield 26, 3) := by decide +kernel
theorem dX6_parameter_35 : decode cX6_parameter 35 = .ok (.lload_n 3, 1) := by decide +kernel
theorem dX6_parameter_36 : decode cX6_parameter 36 = .ok (.iload_n 1, 1) := by decide +kernel
theorem dX6_parameter_37 : decode cX6_parameter 37 = .ok (.invokevirtual 136, 3) := by decide +kernel
theorem dX6_parameter_40 : decode cX6_parameter 40 = .ok (.ifCond .lt 14, 3) := by decide +kernel
theorem dX6_parameter_43 : decode cX6_parameter 43 = .ok (.aload_n 0, 1) := by decide +kernel
theorem dX6_parameter_44 : decode cX6_parameter 44 = .ok (.getfield 21, 3) := by decide +kernel
theorem dX6_parameter_47 : decode cX6_parameter 47 = .ok (.iconst 4, 1) := by decide +kernel
theorem dX6_parameter_48 : decode cX6_parameter 48 = .ok (.invokevirtual 133, 3) := by decide +kernel
theorem dX6_parameter_51 : decode cX6_parameter 51 = .ok (.goto 18, 3) := by decide +kernel
theorem dX6_parameter_54 : decode cX6_parameter 54 = .ok (.iload_n 2, 1) := by decide +kernel
theorem dX6_parameter_55 : decode cX6_parameter 55 = .ok (.bipush 8, 2) := by decide +kernel
theorem dX6_parameter_57 : decode cX6_parameter 57 = .ok (.if_icmp .lt 12, 3) := by decide +kernel
theorem dX6_parameter_60 : decode cX6_parameter 60 = .ok (.aload_n 0, 1) := by decide +kernel
theorem dX6_parameter_61 : decode cX6_parameter 61 = .ok (.getfield 21, 3) := by decide +kernel
theorem dX6_parameter_64 : decode cX6_parameter 64 = .ok (.bipush 6, 2) := by decide +kernel
theorem dX6_parameter_66 : decode cX6_parameter 66 = .ok (.invokevirtual 133, 3) := by decide +kernel
theorem dX6_parameter_69 : decode cX6_parameter 69 = .ok (.aload_n 0, 1) := by decide +kernel
theorem dX6_parameter_70 : decode cX6_parameter 70 = .ok (.getfield 26, 3) := by decide +kernel
theorem dX6_parameter_73 : decode cX6_parameter 73 = .ok (.lload_n 3, 1) := by decide +kernel
theorem dX6_parameter_74 : decode cX6_parameter 74 = .ok (.iconst 3, 1) := by decide +kernel
theorem dX6_parameter_75 : decode cX6_parameter 75 = .ok (.iload_n 2, 1) := by decide +kernel
theorem dX6_parameter_76 : decode cX6_parameter 76 = .ok (.iconst 0, 1) := by decide +kernel
theorem dX6_parameter_77 : decode cX6_parameter 77 = .ok (.invokevirtual 151, 3) := by decide +kernel
theorem dX6_parameter_80 : decode cX6_parameter 80 = .ok (.aload_n 0, 1) := by decide +kernel
theorem dX6_parameter_81 : decode cX6_parameter 81 = .ok (.getfield 21, 3) := by decide +kernel
theorem dX6_parameter_84 : decode cX6_parameter 84 = .ok (.invokevirtual 81, 3) := by decide +kernel
theorem dX6_parameter_87 : decode cX6_parameter 87 = .ok (.return_, 1) := by decide +kernel
theorem dX6_block_0 : decode cX6_block 0 = .ok (.aload_n 0, 1) := by decide +kernel
theorem dX6_block_1 : decode cX6_block 1 = .ok (.getfield 26, 3) := by decide +kernel
theorem dX6_block_4 : decode cX6_block 4 = .ok (.getfield 163, 3) := by decide +kernel
theorem dX6_block_7 : decode cX6_block 7 = .ok (.istore_n 1, 1) := by decide +kernel
theorem dX6_block_8 : decode cX6_block 8 = .ok (.aload_n 0, 1) := by decide +kernel
theorem dX6_block_9 : decode cX6_block 9 = .ok (.getfield 190, 3) := by decide +kernel
theorem dX6_block_12 : decode cX6_block 12 = .ok (.istore_n 2, 1) := by decide +kernel
theorem dX6_block_13 : decode cX6_block 13 = .ok (.iconst (-1), 1) := by decide +kernel
theorem dX6_block_14 : decode cX6_block 14 = .ok (.istore_n 3, 1) := by decide +kernel
theorem dX6_block_15 : decode cX6_block 15 = .ok (.iconst (-1), 1) := by decide +kernel
theorem dX6_block_16 : decode cX6_block 16 = .ok (.istore 4, 2) := by decide +kernel
theorem dX6_block_18 : decode cX6_block 18 = .ok (.iconst 1, 1) := by decide +kernel
theorem dX6_block_19 : decode cX6_block 19 = .ok (.istore 5, 2) := by decide +kernel
theorem dX6_block_21 : decode cX6_block 21 = .ok (.aload_n 0, 1) := by decide +kernel
theorem dX6_block_22 : decode cX6_block 22 = .ok (.getfield 21, 3) := by decide +kernel
theorem dX6_block_25 : decode cX6_block 25 = .ok (.invokevirtual 81, 3) := by decide +kernel
theorem dX6_block_28 : decode cX6_block 28 = .ok (.iconst 0, 1) := by decide +kernel
theorem dX6_block_29 : decode cX6_block 29 = .ok (.istore 6, 2) := by decide +kernel
theorem dX6_block_31 : decode cX6_block 31 = .ok (.iload 6, 2) := by decide +kernel
theorem dX6_block_33 : decode cX6_block 33 = .ok (.aload_n 0, 1) := by decide +kernel
theorem dX6_block_34 : decode cX6_block 34 = .ok (.getfield 21, 3) := by decide +kernel
theorem dX6_block_37 : decode cX6_block 37 = .ok (.getfield 74, 3) := by decide +kernel
theorem dX6_block_40 : decode cX6_block 40 = .ok (.if_icmp .gt 102, 3) := by decide +kernel
theorem dX6_block_43 : decode cX6_block 43 = .ok (.aload_n 0, 1) := by decide +kernel
theorem dX6_block_44 : decode cX6_block 44 = .ok (.getfield 21, 3) := by decide +kernel
theorem dX6_block_47 : decode cX6_block 47 = .ok (.getfield 78, 3) := by decide +kernel
theorem dX6_block_50 : decode cX6_block 50 = .ok (.bipush 52, 2) := by decide +kernel
theorem dX6_block_52 : decode cX6_block 52 = .ok (.if_icmp .eq 90, 3) := by decide +kernel
theorem dX6_block_55 : decode cX6_block 55 = .ok (.aload_n 0, 1) := by decide +kernel
theorem dX6_block_56 : decode cX6_block 56 = .ok (.getfield 21, 3) := by decide +kernel
theorem dX6_block_59 : decode cX6_block 59 = .ok (.getfield 78, 3) := by decide +kernel
theorem dX6_block_62 : decode cX6_block 62 = .ok (.iconst (-1), 1) := by decide +kernel
theorem dX6_block_63 : decode cX6_block 63 = .ok (.if_icmp .eq 79, 3) := by decide +kernel
theorem dX6_block_66 : decode cX6_block 66 = .ok (.iload 5, 2) := by decide +kernel
theorem dX6_block_68 : decode cX6_block 68 = .ok (.ifCond .eq 19, 3) := by decide +kernel
theorem dX6_block_71 : decode cX6_block 71 = .ok (.aload_n 0, 1) := by decide +kernel
theorem dX6_block_72 : decode cX6_block 72 = .ok (.getfield 21, 3) := by decide +kernel
theorem dX6_block_75 : decode cX6_block 75 = .ok (.getfield 78, 3) := by decide +kernel
theorem dX6_block_78 : decode cX6_block 78 = .ok (.bipush 42, 2) := by decide +kernel
theorem dX6_block_80 : decode cX6_block 80 = .ok (.if_icmp .ne 7, 3) := by decide +kernel
theorem dX6_block_83 : decode cX6_block 83 = .ok (.iconst 1, 1) := by decide +kernel
theorem dX6_block_84 : decode cX6_block 84 = .ok (.goto 4, 3) := by decide +kernel
theorem dX6_block_87 : decode cX6_block 87 = .ok (.iconst 0, 1) := by decide +kernel
theorem dX6_block_88 : decode cX6_block 88 = .ok (.istore 5, 2) := by decide +kernel
theorem dX6_block_90 : decode cX6_block 90 = .ok (.iload 5, 2) := by decide +kernel
theorem dX6_block_92 : decode cX6_block 92 = .ok (.ifCond .eq 11, 3) := by decide +kernel
theorem dX6_block_95 : decode cX6_block 95 = .ok (.aload_n 0, 1) := by decide +kernel
theorem dX6_block_96 : decode cX6_block 96 = .ok (.iload_n 1, 1) := by decide +kernel
theorem dX6_block_97 : decode cX6_block 97 = .ok (.invokevirtual 226, 3) := by decide +kernel
theorem dX6_block_100 : decode cX6_block 100 = .ok (.goto 7, 3) := by decide +kernel
theorem dX6_block_103 : decode cX6_block 103 = .ok (.aload_n 0, 1) := by decide +kernel
theorem dX6_block_104 : decode cX6_block 104 = .ok (.invokevirtual 229, 3) := by decide +kernel
theorem dX6_block_107 : decode cX6_block 107 = .ok (.istore 7, 2) := by decide +kernel
theorem dX6_block_109 : decode cX6_block 109 = .ok (.aload_n 0, 1) := by decide +kernel
theorem dX6_block_110 : decode cX6_block 110 = .ok (.getfield 46, 3) := by decide +kernel
theorem dX6_block_113 : decode cX6_block 113 = .ok (.iload 4, 2) := by decide +kernel
theorem dX6_block_115 : decode cX6_block 115 = .ok (.iload 7, 2) := by decide +kernel
theorem dX6_block_117 : decode cX6_block 117 = .ok (.invokevirtual 232, 3) := by decide +kernel
theorem dX6_block_120 : decode cX6_block 120 = .ok (.iload 6, 2) := by decide +kernel
theorem dX6_block_122 : decode cX6_block 122 = .ok (.ifCond .ne 8, 3) := by decide +kernel
theorem dX6_block_125 : decode cX6_block 125 = .ok (.iload 7, 2) := by decide +kernel
theorem dX6_block_127 : decode cX6_block 127 = .ok (.goto 4, 3) := by decide +kernel
theorem dX6_block_130 : decode cX6_block 130 = .ok (.iload_n 3, 1) := by decide +kernel
theorem dX6_block_131 : decode cX6_block 131 = .ok (.istore_n 3, 1) := by decide +kernel
theorem dX6_block_132 : decode cX6_block 132 = .ok (.iload 7, 2) := by decide +kernel
theorem dX6_block_134 : decode cX6_block 134 = .ok (.istore 4, 2) := by decide +kernel
theorem dX6_block_136 : decode cX6_block 136 = .ok (.iinc 6 1, 3) := by decide +kernel
theorem dX6_block_139 : decode cX6_block 139 = .ok (.goto (-108), 3) := by decide +kernel
theorem dX6_block_142 : decode cX6_block 142 = .ok (.aload_n 0, 1) := by decide +kernel
theorem dX6_block_143 : decode cX6_block 143 = .ok (.getfield 26, 3) := by decide +kernel
theorem dX6_block_146 : decode cX6_block 146 = .ok (.iload_n 1, 1) := by decide +kernel
theorem dX6_block_147 : decode cX6_block 147 = .ok (.invokevirtual 214, 3) := by decide +kernel
theorem dX6_block_150 : decode cX6_block 150 = .ok (.aload_n 0, 1) := by decide +kernel
theorem dX6_block_151 : decode cX6_block 151 = .ok (.iload_n 2, 1) := by decide +kernel
theorem dX6_block_152 : decode cX6_block 152 = .ok (.putfield 190, 3) := by decide +kernel
theorem dX6_block_155 : decode cX6_block 155 = .ok (.aload_n 0, 1) := by decide +kernel
theorem dX6_block_156 : decode cX6_block 156 = .ok (.getfield 9, 3) := by decide +kernel
theorem dX6_block_159 : decode cX6_block 159 = .ok (.invokevirtual 220, 3) := by decide +kernel
theorem dX6_block_162 : decode cX6_block 162 = .ok (.aload_n 0, 1) := by decide +kernel
theorem dX6_block_163 : decode cX6_block 163 = .ok (.getfield 21, 3) := by decide +kernel
theorem dX6_block_166 : decode cX6_block 166 = .ok (.invokevirtual 81, 3) := by decide +kernel
theorem dX6_block_169 : decode cX6_block 169 = .ok (.iload_n 3, 1) := by decide +kernel
theorem dX6_block_170 : decode cX6_block 170 = .ok (.ireturn, 1) := by decide +kernel
theorem dX6_local_0 : decode cX6_local 0 = .ok (.aload_n 0, 1) := by decide +kernel
theorem dX6_local_1 : decode cX6_local 1 = .ok (.getfield 21, 3) := by decide +kernel
theorem dX6_local_4 : decode cX6_local 4 = .ok (.invokevirtual 81, 3) := by decide +kernel
theorem dX6_local_7 : decode cX6_local 7 = .ok (.aload_n 0, 1) := by decide +kernel
theorem dX6_local_8 : decode cX6_local 8 = .ok (.getfield 21, 3) := by decide +kernel
theorem dX6_local_11 : decode cX6_local 11 = .ok (.getfield 87, 3) := by decide +kernel
theorem dX6_local_14 : decode cX6_local 14 = .ok (.lstore_n 2, 1) := by decide +kernel
theorem dX6_local_15 : decode cX6_local 15 = .ok (.aload_n 0, 1) := by decide +kernel
theorem dX6_local_16 : decode cX6_local 16 = .ok (.iload_n 1, 1) := by decide +kernel
theorem dX6_local_17 : decode cX6_local 17 = .ok (.invokevirtual 91, 3) := by decide +kernel
theorem dX6_local_20 : decode cX6_local 20 = .ok (.iconst (-1), 1) := by decide +kernel
theorem dX6_local_21 : decode cX6_local 21 = .ok (.istore 4, 2) := by decide +kernel
theorem dX6_local_23 : decode cX6_local 23 = .ok (.aload_n 0, 1) := by decide +kernel
theorem dX6_local_24 : decode cX6_local 24 = .ok (.getfield 21, 3) := by decide +kernel
theorem dX6_local_27 : decode cX6_local 27 = .ok (.getfield 78, 3) := by decide +kernel
theorem dX6_local_30 : decode cX6_local 30 = .ok (.bipush 57, 2) := by decide +kernel
theorem dX6_local_32 : decode cX6_local 32 = .ok (.if_icmp .ne 24, 3) := by decide +kernel
theorem dX6_local_35 : decode cX6_local 35 = .ok (.aload_n 0, 1) := by decide +kernel
theorem dX6_local_36 : decode cX6_local 36 = .ok (.getfield 21, 3) := by decide +kernel
theorem dX6_local_39 : decode cX6_local 39 = .ok (.invokevirtual 81, 3) := by decide +kernel
theorem dX6_local_42 : decode cX6_local 42 = .ok (.aload_n 0, 1) := by decide +kernel
theorem dX6_local_43 : decode cX6_local 43 = .ok (.getfield 32, 3) := by decide +kernel
theorem dX6_local_46 : decode cX6_local 46 = .ok (.bipush 56, 2) := by decide +kernel
theorem dX6_local_48 : decode cX6_local 48 = .ok (.invokevirtual 235, 3) := by decide +kernel
theorem dX6_local_51 : decode cX6_local 51 = .ok (.istore 4, 2) := by decide +kernel
theorem dX6_local_53 : decode cX6_local 53 = .ok (.goto 12, 3) := by decide +kernel
theorem dX6_local_56 : decode cX6_local 56 = .ok (.aload_n 0, 1) := by decide +kernel
theorem dX6_local_57 : decode cX6_local 57 = .ok (.getfield 51, 3) := by decide +kernel
theorem dX6_local_60 : decode cX6_local 60 = .ok (.iconst 1, 1) := by decide +kernel
theorem dX6_local_61 : decode cX6_local 61 = .ok (.iconst 0, 1) := by decide +kernel
theorem dX6_local_62 : decode cX6_local 62 = .ok (.invokevirtual 196, 3) := by decide +kernel
theorem dX6_local_65 : decode cX6_local 65 = .ok (.aload_n 0, 1) := by decide +kernel
theorem dX6_local_66 : decode cX6_local 66 = .ok (.getfield 190, 3) := by decide +kernel
theorem dX6_local_69 : decode cX6_local 69 = .ok (.istore 5, 2) := by decide +kernel
theorem dX6_local_71 : decode cX6_local 71 = .ok (.aload_n 0, 1) := by decide +kernel
theorem dX6_local_72 : decode cX6_local 72 = .ok (.getfield 51, 3) := by decide +kernel
theorem dX6_local_75 : decode cX6_local 75 = .ok (.iconst 5, 1) := by decide +kernel
theorem dX6_local_76 : decode cX6_local 76 = .ok (.iload 5, 2) := by decide +kernel
theorem dX6_local_78 : decode cX6_local 78 = .ok (.invokevirtual 196, 3) := by decide +kernel
theorem dX6_local_81 : decode cX6_local 81 = .ok (.aload_n 0, 1) := by decide +kernel
theorem dX6_local_82 : decode cX6_local 82 = .ok (.getfield 26, 3) := by decide +kernel
theorem dX6_local_85 : decode cX6_local 85 = .ok (.lload_n 2, 1) := by decide +kernel
theorem dX6_local_86 : decode cX6_local 86 = .ok (.iconst 3, 1) := by decide +kernel
theorem dX6_local_87 : decode cX6_local 87 = .ok (.iload 5, 2) := by decide +kernel
theorem dX6_local_89 : decode cX6_local 89 = .ok (.iconst 0, 1) := by decide +kernel
theorem dX6_local_90 : decode cX6_local 90 = .ok (.invokevirtual 151, 3) := by decide +kernel
theorem dX6_local_93 : decode cX6_local 93 = .ok (.aload_n 0, 1) := by decide +kernel
theorem dX6_local_94 : decode cX6_local 94 = .ok (.dup, 1) := by decide +kernel
theorem dX6_local_95 : decode cX6_local 95 = .ok (.getfield 190, 3) := by decide +kernel
theorem dX6_local_98 : decode cX6_local 98 = .ok (.iconst 1, 1) := by decide +kernel
theorem dX6_local_99 : decode cX6_local 99 = .ok (.iadd, 1) := by decide +kernel
theorem dX6_local_100 : decode cX6_local 100 = .ok (.putfield 190, 3) := by decide +kernel
theorem dX6_local_103 : decode cX6_local 103 = .ok (.aload_n 0, 1) := by decide +kernel
theorem dX6_local_104 : decode cX6_local 104 = .ok (.aload_n 0, 1) := by decide +kernel
theorem dX6_local_105 : decode cX6_local 105 = .ok (.getfield 193, 3) := by decide +kernel
theorem dX6_local_108 : decode cX6_local 108 = .ok (.aload_n 0, 1) := by decide +kernel
theorem dX6_local_109 : decode cX6_local 109 = .ok (.getfield 190, 3) := by decide +kernel
theorem dX6_local_112 : decode cX6_local 112 = .ok (.invokestatic 238, 3) := by decide +kernel
theorem dX6_local_115 : decode cX6_local 115 = .ok (.putfield 193, 3) := by decide +kernel
theorem dX6_local_118 : decode cX6_local 118 = .ok (.aload_n 0, 1) := by decide +kernel
theorem dX6_local_119 : decode cX6_local 119 = .ok (.getfield 21, 3) := by decide +kernel
theorem dX6_local_122 : decode cX6_local 122 = .ok (.bipush 56, 2) := by decide +kernel
theorem dX6_local_124 : decode cX6_local 124 = .ok (.invokevirtual 145, 3) := by decide +kernel
theorem dX6_local_127 : decode cX6_local 127 = .ok (.aload_n 0, 1) := by decide +kernel
theorem dX6_local_128 : decode cX6_local 128 = .ok (.getfield 46, 3) := by decide +kernel
theorem dX6_local_131 : decode cX6_local 131 = .ok (.bipush 15, 2) := by decide +kernel
theorem dX6_local_133 : decode cX6_local 133 = .ok (.aload_n 0, 1) := by decide +kernel
theorem dX6_local_134 : decode cX6_local 134 = .ok (.getfield 9, 3) := by decide +kernel
theorem dX6_local_137 : decode cX6_local 137 = .ok (.iload 5, 2) := by decide +kernel
theorem dX6_local_139 : decode cX6_local 139 = .ok (.invokevirtual 244, 3) := by decide +kernel
theorem dX6_local_142 : decode cX6_local 142 = .ok (.iload 4, 2) := by decide +kernel
theorem dX6_local_144 : decode cX6_local 144 = .ok (.iconst (-1), 1) := by decide +kernel
theorem dX6_local_145 : decode cX6_local 145 = .ok (.invokevirtual 169, 3) := by decide +kernel
theorem dX6_local_148 : decode cX6_local 148 = .ok (.ireturn, 1) := by decide +kernel
theorem dX6_statement_0 : decode cX6_statement 0 = .ok (.aload_n 0, 1) := by decide +kernel
theorem dX6_statement_1 : decode cX6_statement 1 = .ok (.getfield 21, 3) := by decide +kernel
theorem dX6_statement_4 : decode cX6_statement 4 = .ok (.getfield 78, 3) := by decide +kernel
theorem dX6_statement_7 : decode cX6_statement 7 = .ok (.tableswitch 223 40 56 #[143, 223, 223, 118, 223, 123, 128, 133, 223, 223, 223, 81, 223, 223, 223, 223, 138], 81) := by decide +kernel
theorem dX6_statement_88 : decode cX6_statement 88 = .ok (.aload_n 0, 1) := by decide +kernel
theorem dX6_statement_89 : decode cX6_statement 89 = .ok (.getfield 9, 3) := by decide +kernel
theorem dX6_statement_92 : decode cX6_statement 92 = .ok (.invokevirtual 199, 3) := by decide +kernel
theorem dX6_statement_95 : decode cX6_statement 95 = .ok (.aload_n 0, 1) := by decide +kernel
theorem dX6_statement_96 : decode cX6_statement 96 = .ok (.getfield 9, 3) := by decide +kernel
theorem dX6_statement_99 : decode cX6_statement 99 = .ok (.aload_n 0, 1) := by decide +kernel
theorem dX6_statement_100 : decode cX6_statement 100 = .ok (.getfield 21, 3) := by decide +kernel
theorem dX6_statement_103 : decode cX6_statement 103 = .ok (.getfield 84, 3) := by decide +kernel
theorem dX6_statement_106 : decode cX6_statement 106 = .ok (.invokevirtual 159, 3) := by decide +kernel
theorem dX6_statement_109 : decode cX6_statement 109 = .ok (.aload_n 0, 1) := by decide +kernel
theorem dX6_statement_110 : decode cX6_statement 110 = .ok (.getfield 46, 3) := by decide +kernel
theorem dX6_statement_113 : decode cX6_statement 113 = .ok (.bipush 9, 2) := by decide +kernel
theorem dX6_statement_115 : decode cX6_statement 115 = .ok (.iconst 0, 1) := by decide +kernel
theorem dX6_statement_116 : decode cX6_statement 116 = .ok (.aload_n 0, 1) := by decide +kernel
theorem dX6_statement_117 : decode cX6_statement 117 = .ok (.invokevirtual 98, 3) := by decide +kernel
theorem dX6_statement_120 : decode cX6_statement 120 = .ok (.iconst (-1), 1) := by decide +kernel
theorem dX6_statement_121 : decode cX6_statement 121 = .ok (.invokevirtual 169, 3) := by decide +kernel
theorem dX6_statement_124 : decode cX6_statement 124 = .ok (.ireturn, 1) := by decide +kernel
theorem dX6_statement_125 : decode cX6_statement 125 = .ok (.aload_n 0, 1) := by decide +kernel
theorem dX6_statement_126 : decode cX6_statement 126 = .ok (.invokevirtual 247, 3) := by decide +kernel
theorem dX6_statement_129 : decode cX6_statement 129 = .ok (.ireturn, 1) := by decide +kernel
theorem dX6_statement_130 : decode cX6_statement 130 = .ok (.aload_n 0, 1) := by decide +kernel
theorem dX6_statement_131 : decode cX6_statement 131 = .ok (.invokevirtual 250, 3) := by decide +kernel
theorem dX6_statement_134 : decode cX6_statement 134 = .ok (.ireturn, 1) := by decide +kernel
theorem dX6_statement_135 : decode cX6_statement 135 = .ok (.aload_n 0, 1) := by decide +kernel
theorem dX6_statement_136 : decode cX6_statement 136 = .ok (.invokevirtual 253, 3) := by decide +kernel
theorem dX6_statement_139 : decode cX6_statement 139 = .ok (.ireturn, 1) := by decide +kernel
theorem dX6_statement_140 : decode cX6_statement 140 = .ok (.aload_n 0, 1) := by decide +kernel
theorem dX6_statement_141 : decode cX6_statement 141 = .ok (.invokevirtual 256, 3) := by decide +kernel
theorem dX6_statement_144 : decode cX6_statement 144 = .ok (.ireturn, 1) := by decide +kernel
theorem dX6_statement_145 : decode cX6_statement 145 = .ok (.aload_n 0, 1) := by decide +kernel
theorem dX6_statement_146 : decode cX6_statement 146 = .ok (.invokevirtual 259, 3) := by decide +kernel
theorem dX6_statement_149 : decode cX6_statement 149 = .ok (.ireturn, 1) := by decide +kernel
theorem dX6_statement_150 : decode cX6_statement 150 = .ok (.aload_n 0, 1) := by decide +kernel
theorem dX6_statement_151 : decode cX6_statement 151 = .ok (.getfield 21, 3) := by decide +kernel
theorem dX6_statement_154 : decode cX6_statement 154 = .ok (.getfield 84, 3) := by decide +kernel
theorem dX6_statement_157 : decode cX6_statement 157 = .ok (.istore_n 1, 1) := by decide +kernel
theorem dX6_statement_158 : decode cX6_statement 158 = .ok (.aload_n 0, 1) := by decide +kernel
theorem dX6_statement_159 : decode cX6_statement 159 = .ok (.invokevirtual 262, 3) := by decide +kernel
theorem dX6_statement_162 : decode cX6_statement 162 = .ok (.istore_n 2, 1) := by decide +kernel
theorem dX6_statement_163 : decode cX6_statement 163 = .ok (.aload_n 0, 1) := by decide +kernel
theorem dX6_statement_164 : decode cX6_statement 164 = .ok (.getfield 21, 3) := by decide +kernel
theorem dX6_statement_167 : decode cX6_statement 167 = .ok (.getfield 78, 3) := by decide +kernel
theorem dX6_statement_170 : decode cX6_statement 170 = .ok (.lookupswitch 55 #[(49, 48), (53, 41), (57, 34)], 34) := by decide +kernel
theorem dX6_statement_204 : decode cX6_statement 204 = .ok (.aload_n 0, 1) := by decide +kernel
theorem dX6_statement_205 : decode cX6_statement 205 = .ok (.iload_n 2, 1) := by decide +kernel
theorem dX6_statement_206 : decode cX6_statement 206 = .ok (.iload_n 1, 1) := by decide +kernel
theorem dX6_statement_207 : decode cX6_statement 207 = .ok (.invokevirtual 265, 3) := by decide +kernel
theorem dX6_statement_210 : decode cX6_statement 210 = .ok (.ireturn, 1) := by decide +kernel
theorem dX6_statement_211 : decode cX6_statement 211 = .ok (.aload_n 0, 1) := by decide +kernel
theorem dX6_statement_212 : decode cX6_statement 212 = .ok (.iload_n 2, 1) := by decide +kernel
theorem dX6_statement_213 : decode cX6_statement 213 = .ok (.iload_n 1, 1) := by decide +kernel
theorem dX6_statement_214 : decode cX6_statement 214 = .ok (.invokevirtual 268, 3) := by decide +kernel
theorem dX6_statement_217 : decode cX6_statement 217 = .ok (.ireturn, 1) := by decide +kernel
theorem dX6_statement_218 : decode cX6_statement 218 = .ok (.aload_n 0, 1) := by decide +kernel
theorem dX6_statement_219 : decode cX6_statement 219 = .ok (.iload_n 2, 1) := by decide +kernel
theorem dX6_statement_220 : decode cX6_statement 220 = .ok (.iload_n 1, 1) := by decide +kernel
theorem dX6_statement_221 : decode cX6_statement 221 = .ok (.invokevirtual 271, 3) := by decide +kernel
theorem dX6_statement_224 : decode cX6_statement 224 = .ok (.ireturn, 1) := by decide +kernel
theorem dX6_statement_225 : decode cX6_statement 225 = .ok (.aload_n 0, 1) := by decide +kernel
theorem dX6_statement_226 : decode cX6_statement 226 = .ok (.invokevirtual 274, 3) := by decide +kernel
theorem dX6_statement_229 : decode cX6_statement 229 = .ok (.ireturn, 1) := by decide +kernel
theorem dX6_statement_230 : decode cX6_statement 230 = .ok (.aload_n 0, 1) := by decide +kernel
theorem dX6_statement_231 : decode cX6_statement 231 = .ok (.invokevirtual 274, 3) := by decide +kernel
theorem dX6_statement_234 : decode cX6_statement 234 = .ok (.ireturn, 1) := by decide +kernel
theorem dX6_empty_0 : decode cX6_empty 0 = .ok (.aload_n 0, 1) := by decide +kernel
theorem dX6_empty_1 : decode cX6_empty 1 = .ok (.getfield 9, 3) := by decide +kernel
theorem dX6_empty_4 : decode cX6_empty 4 = .ok (.aload_n 0, 1) := by decide +kernel
theorem dX6_empty_5 : decode cX6_empty 5 = .ok (.getfield 21, 3) := by decide +kernel
theorem dX6_empty_8 : decode cX6_empty 8 = .ok (.getfield 84, 3) := by decide +kernel
theorem dX6_empty_11 : decode cX6_empty 11 = .ok (.invokevirtual 159, 3) := by decide +kernel
theorem dX6_empty_14 : decode cX6_empty 14 = .ok (.aload_n 0, 1) := by decide +kernel
theorem dX6_empty_15 : decode cX6_empty 15 = .ok (.getfield 21, 3) := by decide +kernel
theorem dX6_empty_18 : decode cX6_empty 18 = .ok (.invokevirtual 81, 3) := by decide +kernel
theorem dX6_empty_21 : decode cX6_empty 21 = .ok (.aload_n 0, 1) := by decide +kernel
theorem dX6_empty_22 : decode cX6_empty 22 = .ok (.getfield 46, 3) := by decide +kernel
theorem dX6_empty_25 : decode cX6_empty 25 = .ok (.bipush 18, 2) := by decide +kernel
theorem dX6_empty_27 : decode cX6_empty 27 = .ok (.iconst 0, 1) := by decide +kernel
theorem dX6_empty_28 : decode cX6_empty 28 = .ok (.iconst (-1), 1) := by decide +kernel
theorem dX6_empty_29 : decode cX6_empty 29 = .ok (.iconst (-1), 1) := by decide +kernel
theorem dX6_empty_30 : decode cX6_empty 30 = .ok (.invokevirtual 169, 3) := by decide +kernel
theorem dX6_empty_33 : decode cX6_empty 33 = .ok (.ireturn, 1) := by decide +kernel
theorem dX6_misplaced_0 : decode cX6_misplaced 0 = .ok (.aload_n 0, 1) := by decide +kernel
theorem dX6_misplaced_1 : decode cX6_misplaced 1 = .ok (.getfield 21, 3) := by decide +kernel
theorem dX6_misplaced_4 : decode cX6_misplaced 4 = .ok (.iconst 2, 1) := by decide +kernel
theorem dX6_misplaced_5 : decode cX6_misplaced 5 = .ok (.invokevirtual 133, 3) := by decide +kernel
theorem dX6_misplaced_8 : decode cX6_misplaced 8 = .ok (.iconst (-1), 1) := by decide +kernel
theorem dX6_misplaced_9 : decode cX6_misplaced 9 = .ok (.ireturn, 1) := by decide +kernel
theorem dX6_choice_0 : decode cX6_choice 0 = .ok (.aload_n 0, 1) := by decide +kernel
theorem dX6_choice_1 : decode cX6_choice 1 = .ok (.getfield 9, 3) := by decide +kernel
theorem dX6_choice_4 : decode cX6_choice 4 = .ok (.invokevirtual 199, 3) := by decide +kernel
theorem dX6_choice_7 : decode cX6_choice 7 = .ok (.aload_n 0, 1) := by decide +kernel
theorem dX6_choice_8 : decode cX6_choice 8 = .ok (.getfield 9, 3) := by decide +kernel
theorem dX6_choice_11 : decode cX6_choice 11 = .ok (.aload_n 0, 1) := by decide +kernel
theorem dX6_choice_12 : decode cX6_choice 12 = .ok (.getfield 21, 3) := by decide +kernel
theorem dX6_choice_15 : decode cX6_choice 15 = .ok (.getfield 84, 3) := by decide +kernel
theorem dX6_choice_18 : decode cX6_choice 18 = .ok (.invokevirtual 159, 3) := by decide +kernel
theorem dX6_choice_21 : decode cX6_choice 21 = .ok (.aload_n 0, 1) := by decide +kernel
theorem dX6_choice_22 : decode cX6_choice 22 = .ok (.getfield 21, 3) := by decide +kernel
theorem dX6_choice_25 : decode cX6_choice 25 = .ok (.invokevirtual 81, 3) := by decide +kernel
theorem dX6_choice_28 : decode cX6_choice 28 = .ok (.aload_n 0, 1) := by decide +kernel
theorem dX6_choice_29 : decode cX6_choice 29 = .ok (.getfield 32, 3) := by decide +kernel
theorem dX6_choice_32 : decode cX6_choice 32 = .ok (.invokevirtual 277, 3) := by decide +kernel
theorem dX6_choice_35 : decode cX6_choice 35 = .ok (.istore_n 1, 1) := by decide +kernel
theorem dX6_choice_36 : decode cX6_choice 36 = .ok (.aload_n 0, 1) := by decide +kernel
theorem dX6_choice_37 : decode cX6_choice 37 = .ok (.getfield 51, 3) := by decide +kernel
theorem dX6_choice_40 : decode cX6_choice 40 = .ok (.bipush 31, 2) := by decide +kernel
theorem dX6_choice_42 : decode cX6_choice 42 = .ok (.iconst 0, 1) := by decide +kernel
theorem dX6_choice_43 : decode cX6_choice 43 = .ok (.invokevirtual 196, 3) := by decide +kernel
theorem dX6_choice_46 : decode cX6_choice 46 = .ok (.aload_n 0, 1) := by decide +kernel
theorem dX6_choice_47 : decode cX6_choice 47 = .ok (.getfield 51, 3) := by decide +kernel
theorem dX6_choice_50 : decode cX6_choice 50 = .ok (.getfield 162, 3) := by decide +kernel
theorem dX6_choice_53 : decode cX6_choice 53 = .ok (.iconst 1, 1) := by decide +kernel
theorem dX6_choice_54 : decode cX6_choice 54 = .ok (.isub, 1) := by decide +kernel
theorem dX6_choice_55 : decode cX6_choice 55 = .ok (.istore_n 2, 1) := by decide +kernel
theorem dX6_choice_56 : decode cX6_choice 56 = .ok (.aload_n 0, 1) := by decide +kernel
theorem dX6_choice_57 : decode cX6_choice 57 = .ok (.invokevirtual 229, 3) := by decide +kernel
theorem dX6_choice_60 : decode cX6_choice 60 = .ok (.istore_n 3, 1) := by decide +kernel
theorem dX6_choice_61 : decode cX6_choice 61 = .ok (.iconst (-1), 1) := by decide +kernel
theorem dX6_choice_62 : decode cX6_choice 62 = .ok (.istore 4, 2) := by decide +kernel
theorem dX6_choice_64 : decode cX6_choice 64 = .ok (.aload_n 0, 1) := by decide +kernel
theorem dX6_choice_65 : decode cX6_choice 65 = .ok (.getfield 21, 3) := by decide +kernel
theorem dX6_choice_68 : decode cX6_choice 68 = .ok (.getfield 78, 3) := by decide +kernel
theorem dX6_choice_71 : decode cX6_choice 71 = .ok (.bipush 44, 2) := by decide +kernel
theorem dX6_choice_73 : decode cX6_choice 73 = .ok (.if_icmp .ne 65, 3) := by decide +kernel
theorem dX6_choice_76 : decode cX6_choice 76 = .ok (.aload_n 0, 1) := by decide +kernel
theorem dX6_choice_77 : decode cX6_choice 77 = .ok (.getfield 9, 3) := by decide +kernel
theorem dX6_choice_80 : decode cX6_choice 80 = .ok (.invokevirtual 199, 3) := by decide +kernel
theorem dX6_choice_83 : decode cX6_choice 83 = .ok (.aload_n 0, 1) := by decide +kernel
theorem dX6_choice_84 : decode cX6_choice 84 = .ok (.getfield 21, 3) := by decide +kernel
theorem dX6_choice_87 : decode cX6_choice 87 = .ok (.invokevirtual 81, 3) := by decide +kernel
theorem dX6_choice_90 : decode cX6_choice 90 = .ok (.aload_n 0, 1) := by decide +kernel
theorem dX6_choice_91 : decode cX6_choice 91 = .ok (.getfield 51, 3) := by decide +kernel
theorem dX6_choice_94 : decode cX6_choice 94 = .ok (.bipush 30, 2) := by decide +kernel
theorem dX6_choice_96 : decode cX6_choice 96 = .ok (.iconst 0, 1) := by decide +kernel
theorem dX6_choice_97 : decode cX6_choice 97 = .ok (.invokevirtual 196, 3) := by decide +kernel
theorem dX6_choice_100 : decode cX6_choice 100 = .ok (.aload_n 0, 1) := by decide +kernel
theorem dX6_choice_101 : decode cX6_choice 101 = .ok (.getfield 51, 3) := by decide +kernel
theorem dX6_choice_104 : decode cX6_choice 104 = .ok (.iload_n 2, 1) := by decide +kernel
theorem dX6_choice_105 : decode cX6_choice 105 = .ok (.aload_n 0, 1) := by decide +kernel
theorem dX6_choice_106 : decode cX6_choice 106 = .ok (.getfield 51, 3) := by decide +kernel
theorem dX6_choice_109 : decode cX6_choice 109 = .ok (.getfield 162, 3) := by decide +kernel
theorem dX6_choice_112 : decode cX6_choice 112 = .ok (.invokevirtual 187, 3) := by decide +kernel
theorem dX6_choice_115 : decode cX6_choice 115 = .ok (.aload_n 0, 1) := by decide +kernel
theorem dX6_choice_116 : decode cX6_choice 116 = .ok (.getfield 51, 3) := by decide +kernel
theorem dX6_choice_119 : decode cX6_choice 119 = .ok (.getfield 162, 3) := by decide +kernel
theorem dX6_choice_122 : decode cX6_choice 122 = .ok (.iconst 1, 1) := by decide +kernel
theorem dX6_choice_123 : decode cX6_choice 123 = .ok (.isub, 1) := by decide +kernel
theorem dX6_choice_124 : decode cX6_choice 124 = .ok (.istore_n 2, 1) := by decide +kernel
theorem dX6_choice_125 : decode cX6_choice 125 = .ok (.aload_n 0, 1) := by decide +kernel
theorem dX6_choice_126 : decode cX6_choice 126 = .ok (.invokevirtual 229, 3) := by decide +kernel
theorem dX6_choice_129 : decode cX6_choice 129 = .ok (.istore 4, 2) := by decide +kernel
theorem dX6_choice_131 : decode cX6_choice 131 = .ok (.aload_n 0, 1) := by decide +kernel
theorem dX6_choice_132 : decode cX6_choice 132 = .ok (.getfield 9, 3) := by decide +kernel
theorem dX6_choice_135 : decode cX6_choice 135 = .ok (.invokevirtual 220, 3) := by decide +kernel
theorem dX6_choice_138 : decode cX6_choice 138 = .ok (.aload_n 0, 1) := by decide +kernel
theorem dX6_choice_139 : decode cX6_choice 139 = .ok (.getfield 9, 3) := by decide +kernel
theorem dX6_choice_142 : decode cX6_choice 142 = .ok (.invokevirtual 220, 3) := by decide +kernel
theorem dX6_choice_145 : decode cX6_choice 145 = .ok (.aload_n 0, 1) := by decide +kernel
theorem dX6_choice_146 : decode cX6_choice 146 = .ok (.getfield 51, 3) := by decide +kernel
theorem dX6_choice_149 : decode cX6_choice 149 = .ok (.iload_n 2, 1) := by decide +kernel
theorem dX6_choice_150 : decode cX6_choice 150 = .ok (.aload_n 0, 1) := by decide +kernel
theorem dX6_choice_151 : decode cX6_choice 151 = .ok (.getfield 51, 3) := by decide +kernel
theorem dX6_choice_154 : decode cX6_choice 154 = .ok (.getfield 162, 3) := by decide +kernel
theorem dX6_choice_157 : decode cX6_choice 157 = .ok (.invokevirtual 187, 3) := by decide +kernel
theorem dX6_choice_160 : decode cX6_choice 160 = .ok (.aload_n 0, 1) := by decide +kernel
theorem dX6_choice_161 : decode cX6_choice 161 = .ok (.getfield 46, 3) := by decide +kernel
theorem dX6_choice_164 : decode cX6_choice 164 = .ok (.bipush 10, 2) := by decide +kernel
theorem dX6_choice_166 : decode cX6_choice 166 = .ok (.iconst 0, 1) := by decide +kernel
theorem dX6_choice_167 : decode cX6_choice 167 = .ok (.iconst (-1), 1) := by decide +kernel
theorem dX6_choice_168 : decode cX6_choice 168 = .ok (.iconst (-1), 1) := by decide +kernel
theorem dX6_choice_169 : decode cX6_choice 169 = .ok (.invokevirtual 169, 3) := by decide +kernel
theorem dX6_choice_172 : decode cX6_choice 172 = .ok (.istore 5, 2) := by decide +kernel
theorem dX6_choice_174 : decode cX6_choice 174 = .ok (.aload_n 0, 1) := by decide +kernel
theorem dX6_choice_175 : decode cX6_choice 175 = .ok (.getfield 46, 3) := by decide +kernel
theorem dX6_choice_178 : decode cX6_choice 178 = .ok (.iload 5, 2) := by decide +kernel
theorem dX6_choice_180 : decode cX6_choice 180 = .ok (.iload_n 1, 1) := by decide +kernel
theorem dX6_choice_181 : decode cX6_choice 181 = .ok (.iload_n 3, 1) := by decide +kernel
theorem dX6_choice_182 : decode cX6_choice 182 = .ok (.iload 4, 2) := by decide +kernel
theorem dX6_choice_184 : decode cX6_choice 184 = .ok (.invokevirtual 210, 3) := by decide +kernel
theorem dX6_choice_187 : decode cX6_choice 187 = .ok (.iload 5, 2) := by decide +kernel
theorem dX6_choice_189 : decode cX6_choice 189 = .ok (.ireturn, 1) := by decide +kernel
theorem dX6_loop_0 : decode cX6_loop 0 = .ok (.aload_n 0, 1) := by decide +kernel
theorem dX6_loop_1 : decode cX6_loop 1 = .ok (.getfield 9, 3) := by decide +kernel
theorem dX6_loop_4 : decode cX6_loop 4 = .ok (.invokevirtual 199, 3) := by decide +kernel
theorem dX6_loop_7 : decode cX6_loop 7 = .ok (.aload_n 0, 1) := by decide +kernel
theorem dX6_loop_8 : decode cX6_loop 8 = .ok (.getfield 9, 3) := by decide +kernel
theorem dX6_loop_11 : decode cX6_loop 11 = .ok (.aload_n 0, 1) := by decide +kernel
theorem dX6_loop_12 : decode cX6_loop 12 = .ok (.getfield 21, 3) := by decide +kernel
theorem dX6_loop_15 : decode cX6_loop 15 = .ok (.getfield 84, 3) := by decide +kernel
theorem dX6_loop_18 : decode cX6_loop 18 = .ok (.invokevirtual 159, 3) := by decide +kernel
theorem dX6_loop_21 : decode cX6_loop 21 = .ok (.aload_n 0, 1) := by decide +kernel
theorem dX6_loop_22 : decode cX6_loop 22 = .ok (.getfield 21, 3) := by decide +kernel
theorem dX6_loop_25 : decode cX6_loop 25 = .ok (.invokevirtual 81, 3) := by decide +kernel
theorem dX6_loop_28 : decode cX6_loop 28 = .ok (.aload_n 0, 1) := by decide +kernel
theorem dX6_loop_29 : decode cX6_loop 29 = .ok (.getfield 51, 3) := by decide +kernel
theorem dX6_loop_32 : decode cX6_loop 32 = .ok (.getfield 162, 3) := by decide +kernel
theorem dX6_loop_35 : decode cX6_loop 35 = .ok (.istore_n 1, 1) := by decide +kernel
theorem dX6_loop_36 : decode cX6_loop 36 = .ok (.aload_n 0, 1) := by decide +kernel
theorem dX6_loop_37 : decode cX6_loop 37 = .ok (.getfield 32, 3) := by decide +kernel
theorem dX6_loop_40 : decode cX6_loop 40 = .ok (.invokevirtual 277, 3) := by decide +kernel
theorem dX6_loop_43 : decode cX6_loop 43 = .ok (.istore_n 2, 1) := by decide +kernel
theorem dX6_loop_44 : decode cX6_loop 44 = .ok (.aload_n 0, 1) := by decide +kernel
theorem dX6_loop_45 : decode cX6_loop 45 = .ok (.getfield 51, 3) := by decide +kernel
theorem dX6_loop_48 : decode cX6_loop 48 = .ok (.bipush 31, 2) := by decide +kernel
theorem dX6_loop_50 : decode cX6_loop 50 = .ok (.iconst 0, 1) := by decide +kernel
theorem dX6_loop_51 : decode cX6_loop 51 = .ok (.invokevirtual 196, 3) := by decide +kernel
theorem dX6_loop_54 : decode cX6_loop 54 = .ok (.aload_n 0, 1) := by decide +kernel
theorem dX6_loop_55 : decode cX6_loop 55 = .ok (.getfield 51, 3) := by decide +kernel
theorem dX6_loop_58 : decode cX6_loop 58 = .ok (.getfield 162, 3) := by decide +kernel
theorem dX6_loop_61 : decode cX6_loop 61 = .ok (.iconst 1, 1) := by decide +kernel
theorem dX6_loop_62 : decode cX6_loop 62 = .ok (.isub, 1) := by decide +kernel
theorem dX6_loop_63 : decode cX6_loop 63 = .ok (.istore_n 3, 1) := by decide +kernel
theorem dX6_loop_64 : decode cX6_loop 64 = .ok (.aload_n 0, 1) := by decide +kernel
theorem dX6_loop_65 : decode cX6_loop 65 = .ok (.invokevirtual 229, 3) := by decide +kernel
theorem dX6_loop_68 : decode cX6_loop 68 = .ok (.istore 4, 2) := by decide +kernel
theorem dX6_loop_70 : decode cX6_loop 70 = .ok (.aload_n 0, 1) := by decide +kernel
theorem dX6_loop_71 : decode cX6_loop 71 = .ok (.getfield 51, 3) := by decide +kernel
theorem dX6_loop_74 : decode cX6_loop 74 = .ok (.bipush 30, 2) := by decide +kernel
theorem dX6_loop_76 : decode cX6_loop 76 = .ok (.iload_n 1, 1) := by decide +kernel
theorem dX6_loop_77 : decode cX6_loop 77 = .ok (.invokevirtual 196, 3) := by decide +kernel
theorem dX6_loop_80 : decode cX6_loop 80 = .ok (.aload_n 0, 1) := by decide +kernel
theorem dX6_loop_81 : decode cX6_loop 81 = .ok (.getfield 51, 3) := by decide +kernel
theorem dX6_loop_84 : decode cX6_loop 84 = .ok (.iload_n 3, 1) := by decide +kernel
theorem dX6_loop_85 : decode cX6_loop 85 = .ok (.aload_n 0, 1) := by decide +kernel
theorem dX6_loop_86 : decode cX6_loop 86 = .ok (.getfield 51, 3) := by decide +kernel
theorem dX6_loop_89 : decode cX6_loop 89 = .ok (.getfield 162, 3) := by decide +kernel
theorem dX6_loop_92 : decode cX6_loop 92 = .ok (.invokevirtual 187, 3) := by decide +kernel
theorem dX6_loop_95 : decode cX6_loop 95 = .ok (.aload_n 0, 1) := by decide +kernel
theorem dX6_loop_96 : decode cX6_loop 96 = .ok (.getfield 9, 3) := by decide +kernel
theorem dX6_loop_99 : decode cX6_loop 99 = .ok (.invokevirtual 220, 3) := by decide +kernel
theorem dX6_loop_102 : decode cX6_loop 102 = .ok (.aload_n 0, 1) := by decide +kernel
theorem dX6_loop_103 : decode cX6_loop 103 = .ok (.getfield 46, 3) := by decide +kernel
theorem dX6_loop_106 : decode cX6_loop 106 = .ok (.bipush 11, 2) := by decide +kernel
theorem dX6_loop_108 : decode cX6_loop 108 = .ok (.iconst 0, 1) := by decide +kernel
theorem dX6_loop_109 : decode cX6_loop 109 = .ok (.iload_n 2, 1) := by decide +kernel
theorem dX6_loop_110 : decode cX6_loop 110 = .ok (.iload 4, 2) := by decide +kernel
theorem dX6_loop_112 : decode cX6_loop 112 = .ok (.invokevirtual 169, 3) := by decide +kernel
theorem dX6_loop_115 : decode cX6_loop 115 = .ok (.ireturn, 1) := by decide +kernel
theorem dX6_returning_0 : decode cX6_returning 0 = .ok (.aload_n 0, 1) := by decide +kernel
theorem dX6_returning_1 : decode cX6_returning 1 = .ok (.getfield 9, 3) := by decide +kernel
theorem dX6_returning_4 : decode cX6_returning 4 = .ok (.aload_n 0, 1) := by decide +kernel
theorem dX6_returning_5 : decode cX6_returning 5 = .ok (.getfield 21, 3) := by decide +kernel
theorem dX6_returning_8 : decode cX6_returning 8 = .ok (.getfield 84, 3) := by decide +kernel
theorem dX6_returning_11 : decode cX6_returning 11 = .ok (.invokevirtual 159, 3) := by decide +kernel
theorem dX6_returning_14 : decode cX6_returning 14 = .ok (.aload_n 0, 1) := by decide +kernel
theorem dX6_returning_15 : decode cX6_returning 15 = .ok (.getfield 21, 3) := by decide +kernel
theorem dX6_returning_18 : decode cX6_returning 18 = .ok (.invokevirtual 81, 3) := by decide +kernel
theorem dX6_returning_21 : decode cX6_returning 21 = .ok (.aload_n 0, 1) := by decide +kernel
theorem dX6_returning_22 : decode cX6_returning 22 = .ok (.getfield 32, 3) := by decide +kernel
theorem dX6_returning_25 : decode cX6_returning 25 = .ok (.bipush 56, 2) := by decide +kernel
theorem dX6_returning_27 : decode cX6_returning 27 = .ok (.invokevirtual 235, 3) := by decide +kernel
theorem dX6_returning_30 : decode cX6_returning 30 = .ok (.istore_n 1, 1) := by decide +kernel
theorem dX6_returning_31 : decode cX6_returning 31 = .ok (.aload_n 0, 1) := by decide +kernel
theorem dX6_returning_32 : decode cX6_returning 32 = .ok (.getfield 21, 3) := by decide +kernel
theorem dX6_returning_35 : decode cX6_returning 35 = .ok (.invokevirtual 81, 3) := by decide +kernel
theorem dX6_returning_38 : decode cX6_returning 38 = .ok (.aload_n 0, 1) := by decide +kernel
theorem dX6_returning_39 : decode cX6_returning 39 = .ok (.getfield 51, 3) := by decide +kernel
theorem dX6_returning_42 : decode cX6_returning 42 = .ok (.bipush 33, 2) := by decide +kernel
theorem dX6_returning_44 : decode cX6_returning 44 = .ok (.aload_n 0, 1) := by decide +kernel
theorem dX6_returning_45 : decode cX6_returning 45 = .ok (.getfield 9, 3) := by decide +kernel
theorem dX6_returning_48 : decode cX6_returning 48 = .ok (.getfield 202, 3) := by decide +kernel
theorem dX6_returning_51 : decode cX6_returning 51 = .ok (.invokevirtual 196, 3) := by decide +kernel
theorem dX6_returning_54 : decode cX6_returning 54 = .ok (.aload_n 0, 1) := by decide +kernel
theorem dX6_returning_55 : decode cX6_returning 55 = .ok (.getfield 46, 3) := by decide +kernel
theorem dX6_returning_58 : decode cX6_returning 58 = .ok (.bipush 12, 2) := by decide +kernel
theorem dX6_returning_60 : decode cX6_returning 60 = .ok (.iconst 0, 1) := by decide +kernel
theorem dX6_returning_61 : decode cX6_returning 61 = .ok (.iload_n 1, 1) := by decide +kernel
theorem dX6_returning_62 : decode cX6_returning 62 = .ok (.iconst (-1), 1) := by decide +kernel
theorem dX6_returning_63 : decode cX6_returning 63 = .ok (.invokevirtual 169, 3) := by decide +kernel
theorem dX6_returning_66 : decode cX6_returning 66 = .ok (.ireturn, 1) := by decide +kernel
theorem dX6_printing_0 : decode cX6_printing 0 = .ok (.aload_n 0, 1) := by decide +kernel
theorem dX6_printing_1 : decode cX6_printing 1 = .ok (.getfield 9, 3) := by decide +kernel
theorem dX6_printing_4 : decode cX6_printing 4 = .ok (.aload_n 0, 1) := by decide +kernel
theorem dX6_printing_5 : decode cX6_printing 5 = .ok (.getfield 21, 3) := by decide +kernel
theorem dX6_printing_8 : decode cX6_printing 8 = .ok (.getfield 84, 3) := by decide +kernel
theorem dX6_printing_11 : decode cX6_printing 11 = .ok (.invokevirtual 159, 3) := by decide +kernel
theorem dX6_printing_14 : decode cX6_printing 14 = .ok (.aload_n 0, 1) := by decide +kernel
theorem dX6_printing_15 : decode cX6_printing 15 = .ok (.getfield 21, 3) := by decide +kernel
theorem dX6_printing_18 : decode cX6_printing 18 = .ok (.invokevirtual 81, 3) := by decide +kernel
theorem dX6_printing_21 : decode cX6_printing 21 = .ok (.aload_n 0, 1) := by decide +kernel
theorem dX6_printing_22 : decode cX6_printing 22 = .ok (.getfield 32, 3) := by decide +kernel
theorem dX6_printing_25 : decode cX6_printing 25 = .ok (.invokevirtual 277, 3) := by decide +kernel
theorem dX6_printing_28 : decode cX6_printing 28 = .ok (.istore_n 1, 1) := by decide +kernel
theorem dX6_printing_29 : decode cX6_printing 29 = .ok (.aload_n 0, 1) := by decide +kernel
theorem dX6_printing_30 : decode cX6_printing 30 = .ok (.getfield 21, 3) := by decide +kernel
theorem dX6_printing_33 : decode cX6_printing 33 = .ok (.bipush 56, 2) := by decide +kernel
theorem dX6_printing_35 : decode cX6_printing 35 = .ok (.invokevirtual 145, 3) := by decide +kernel
theorem dX6_printing_38 : decode cX6_printing 38 = .ok (.aload_n 0, 1) := by decide +kernel
theorem dX6_printing_39 : decode cX6_printing 39 = .ok (.getfield 51, 3) := by decide +kernel
theorem dX6_printing_42 : decode cX6_printing 42 = .ok (.bipush 34, 2) := by decide +kernel
theorem dX6_printing_44 : decode cX6_printing 44 = .ok (.invokevirtual 70, 3) := by decide +kernel
theorem dX6_printing_47 : decode cX6_printing 47 = .ok (.aload_n 0, 1) := by decide +kernel
theorem dX6_printing_48 : decode cX6_printing 48 = .ok (.getfield 46, 3) := by decide +kernel
theorem dX6_printing_51 : decode cX6_printing 51 = .ok (.bipush 13, 2) := by decide +kernel
theorem dX6_printing_53 : decode cX6_printing 53 = .ok (.iconst 0, 1) := by decide +kernel
theorem dX6_printing_54 : decode cX6_printing 54 = .ok (.iload_n 1, 1) := by decide +kernel
theorem dX6_printing_55 : decode cX6_printing 55 = .ok (.iconst (-1), 1) := by decide +kernel
theorem dX6_printing_56 : decode cX6_printing 56 = .ok (.invokevirtual 169, 3) := by decide +kernel
theorem dX6_printing_59 : decode cX6_printing 59 = .ok (.ireturn, 1) := by decide +kernel
theorem dX6_startName_0 : decode cX6_startName 0 = .ok (.aload_n 0, 1) := by decide +kernel
theorem dX6_startName_1 : decode cX6_startName 1 = .ok (.getfield 26, 3) := by decide +kernel
theorem dX6_startName_4 : decode cX6_startName 4 = .ok (.aload_n 0, 1) := by decide +kernel
theorem dX6_startName_5 : decode cX6_startName 5 = .ok (.getfield 21, 3) := by decide +kernel
theorem dX6_startName_8 : decode cX6_startName 8 = .ok (.getfield 87, 3) := by decide +kernel
theorem dX6_startName_11 : decode cX6_startName 11 = .ok (.iconst 0, 1) := by decide +kernel
theorem dX6_startName_12 : decode cX6_startName 12 = .ok (.invokevirtual 136, 3) := by decide +kernel
theorem dX6_startName_15 : decode cX6_startName 15 = .ok (.istore_n 1, 1) := by decide +kernel
theorem dX6_startName_16 : decode cX6_startName 16 = .ok (.iload_n 1, 1) := by decide +kernel
theorem dX6_startName_17 : decode cX6_startName 17 = .ok (.ifCond .ge 11, 3) := by decide +kernel
theorem dX6_startName_20 : decode cX6_startName 20 = .ok (.aload_n 0, 1) := by decide +kernel
theorem dX6_startName_21 : decode cX6_startName 21 = .ok (.getfield 21, 3) := by decide +kernel
theorem dX6_startName_24 : decode cX6_startName 24 = .ok (.iconst 3, 1) := by decide +kernel
theorem dX6_startName_25 : decode cX6_startName 25 = .ok (.invokevirtual 133, 3) := by decide +kernel
theorem dX6_startName_28 : decode cX6_startName 28 = .ok (.aload_n 0, 1) := by decide +kernel
theorem dX6_startName_29 : decode cX6_startName 29 = .ok (.getfield 9, 3) := by decide +kernel
theorem dX6_startName_32 : decode cX6_startName 32 = .ok (.aload_n 0, 1) := by decide +kernel
theorem dX6_startName_33 : decode cX6_startName 33 = .ok (.getfield 21, 3) := by decide +kernel
theorem dX6_startName_36 : decode cX6_startName 36 = .ok (.getfield 84, 3) := by decide +kernel
theorem dX6_startName_39 : decode cX6_startName 39 = .ok (.invokevirtual 159, 3) := by decide +kernel
theorem dX6_startName_42 : decode cX6_startName 42 = .ok (.aload_n 0, 1) := by decide +kernel
theorem dX6_startName_43 : decode cX6_startName 43 = .ok (.getfield 21, 3) := by decide +kernel
theorem dX6_startName_46 : decode cX6_startName 46 = .ok (.invokevirtual 81, 3) := by decide +kernel
theorem dX6_startName_49 : decode cX6_startName 49 = .ok (.iload_n 1, 1) := by decide +kernel
theorem dX6_startName_50 : decode cX6_startName 50 = .ok (.ireturn, 1) := by decide +kernel
theorem dX6_callAlone_0 : decode cX6_callAlone 0 = .ok (.aload_n 0, 1) := by decide +kernel
theorem dX6_callAlone_1 : decode cX6_callAlone 1 = .ok (.getfield 32, 3) := by decide +kernel
theorem dX6_callAlone_4 : decode cX6_callAlone 4 = .ok (.iload_n 1, 1) := by decide +kernel
theorem dX6_callAlone_5 : decode cX6_callAlone 5 = .ok (.iload_n 2, 1) := by decide +kernel
theorem dX6_callAlone_6 : decode cX6_callAlone 6 = .ok (.invokevirtual 280, 3) := by decide +kernel
theorem dX6_callAlone_9 : decode cX6_callAlone 9 = .ok (.istore_n 3, 1) := by decide +kernel
theorem dX6_callAlone_10 : decode cX6_callAlone 10 = .ok (.aload_n 0, 1) := by decide +kernel
theorem dX6_callAlone_11 : decode cX6_callAlone 11 = .ok (.getfield 21, 3) := by decide +kernel
theorem dX6_callAlone_14 : decode cX6_callAlone 14 = .ok (.bipush 56, 2) := by decide +kernel
theorem dX6_callAlone_16 : decode cX6_callAlone 16 = .ok (.invokevirtual 145, 3) := by decide +kernel
theorem dX6_callAlone_19 : decode cX6_callAlone 19 = .ok (.aload_n 0, 1) := by decide +kernel
theorem dX6_callAlone_20 : decode cX6_callAlone 20 = .ok (.getfield 51, 3) := by decide +kernel
theorem dX6_callAlone_23 : decode cX6_callAlone 23 = .ok (.bipush 36, 2) := by decide +kernel
theorem dX6_callAlone_25 : decode cX6_callAlone 25 = .ok (.invokevirtual 70, 3) := by decide +kernel
theorem dX6_callAlone_28 : decode cX6_callAlone 28 = .ok (.aload_n 0, 1) := by decide +kernel
theorem dX6_callAlone_29 : decode cX6_callAlone 29 = .ok (.getfield 46, 3) := by decide +kernel
theorem dX6_callAlone_32 : decode cX6_callAlone 32 = .ok (.bipush 17, 2) := by decide +kernel
theorem dX6_callAlone_34 : decode cX6_callAlone 34 = .ok (.iconst 0, 1) := by decide +kernel
theorem dX6_callAlone_35 : decode cX6_callAlone 35 = .ok (.iload_n 3, 1) := by decide +kernel
theorem dX6_callAlone_36 : decode cX6_callAlone 36 = .ok (.iconst (-1), 1) := by decide +kernel
theorem dX6_callAlone_37 : decode cX6_callAlone 37 = .ok (.invokevirtual 169, 3) := by decide +kernel
theorem dX6_callAlone_40 : decode cX6_callAlone 40 = .ok (.ireturn, 1) := by decide +kernel
theorem dX6_assignment_0 : decode cX6_assignment 0 = .ok (.aload_n 0, 1) := by decide +kernel
theorem dX6_assignment_1 : decode cX6_assignment 1 = .ok (.getfield 26, 3) := by decide +kernel
theorem dX6_assignment_4 : decode cX6_assignment 4 = .ok (.iload_n 1, 1) := by decide +kernel
theorem dX6_assignment_5 : decode cX6_assignment 5 = .ok (.invokevirtual 283, 3) := by decide +kernel
theorem dX6_assignment_8 : decode cX6_assignment 8 = .ok (.ifCond .ne 12, 3) := by decide +kernel
theorem dX6_assignment_11 : decode cX6_assignment 11 = .ok (.aload_n 0, 1) := by decide +kernel
theorem dX6_assignment_12 : decode cX6_assignment 12 = .ok (.getfield 21, 3) := by decide +kernel
theorem dX6_assignment_15 : decode cX6_assignment 15 = .ok (.iconst 5, 1) := by decide +kernel
theorem dX6_assignment_16 : decode cX6_assignment 16 = .ok (.iload_n 2, 1) := by decide +kernel
theorem dX6_assignment_17 : decode cX6_assignment 17 = .ok (.invokevirtual 121, 3) := by decide +kernel
theorem dX6_assignment_20 : decode cX6_assignment 20 = .ok (.aload_n 0, 1) := by decide +kernel
theorem dX6_assignment_21 : decode cX6_assignment 21 = .ok (.getfield 21, 3) := by decide +kernel
theorem dX6_assignment_24 : decode cX6_assignment 24 = .ok (.invokevirtual 81, 3) := by decide +kernel
theorem dX6_assignment_27 : decode cX6_assignment 27 = .ok (.aload_n 0, 1) := by decide +kernel
theorem dX6_assignment_28 : decode cX6_assignment 28 = .ok (.getfield 32, 3) := by decide +kernel
theorem dX6_assignment_31 : decode cX6_assignment 31 = .ok (.bipush 56, 2) := by decide +kernel
theorem dX6_assignment_33 : decode cX6_assignment 33 = .ok (.invokevirtual 235, 3) := by decide +kernel
theorem dX6_assignment_36 : decode cX6_assignment 36 = .ok (.istore_n 3, 1) := by decide +kernel
theorem dX6_assignment_37 : decode cX6_assignment 37 = .ok (.aload_n 0, 1) := by decide +kernel
theorem dX6_assignment_38 : decode cX6_assignment 38 = .ok (.getfield 21, 3) := by decide +kernel
theorem dX6_assignment_41 : decode cX6_assignment 41 = .ok (.invokevirtual 81, 3) := by decide +kernel
theorem dX6_assignment_44 : decode cX6_assignment 44 = .ok (.aload_n 0, 1) := by decide +kernel
theorem dX6_assignment_45 : decode cX6_assignment 45 = .ok (.getfield 26, 3) := by decide +kernel
theorem dX6_assignment_48 : decode cX6_assignment 48 = .ok (.iload_n 1, 1) := by decide +kernel
theorem dX6_assignment_49 : decode cX6_assignment 49 = .ok (.invokevirtual 204, 3) := by decide +kernel
theorem dX6_assignment_52 : decode cX6_assignment 52 = .ok (.istore 4, 2) := by decide +kernel
theorem dX6_assignment_54 : decode cX6_assignment 54 = .ok (.aload_n 0, 1) := by decide +kernel
theorem dX6_assignment_55 : decode cX6_assignment 55 = .ok (.getfield 26, 3) := by decide +kernel
theorem dX6_assignment_58 : decode cX6_assignment 58 = .ok (.iload_n 1, 1) := by decide +kernel
theorem dX6_assignment_59 : decode cX6_assignment 59 = .ok (.iconst 3, 1) := by decide +kernel
theorem dX6_assignment_60 : decode cX6_assignment 60 = .ok (.invokevirtual 287, 3) := by decide +kernel
theorem dX6_assignment_63 : decode cX6_assignment 63 = .ok (.ifCond .eq 34, 3) := by decide +kernel
theorem dX6_assignment_66 : decode cX6_assignment 66 = .ok (.aload_n 0, 1) := by decide +kernel
theorem dX6_assignment_67 : decode cX6_assignment 67 = .ok (.getfield 51, 3) := by decide +kernel
theorem dX6_assignment_70 : decode cX6_assignment 70 = .ok (.iconst 5, 1) := by decide +kernel
theorem dX6_assignment_71 : decode cX6_assignment 71 = .ok (.iload 4, 2) := by decide +kernel
theorem dX6_assignment_73 : decode cX6_assignment 73 = .ok (.invokevirtual 196, 3) := by decide +kernel
theorem dX6_assignment_76 : decode cX6_assignment 76 = .ok (.aload_n 0, 1) := by decide +kernel
theorem dX6_assignment_77 : decode cX6_assignment 77 = .ok (.getfield 46, 3) := by decide +kernel
theorem dX6_assignment_80 : decode cX6_assignment 80 = .ok (.bipush 15, 2) := by decide +kernel
theorem dX6_assignment_82 : decode cX6_assignment 82 = .ok (.aload_n 0, 1) := by decide +kernel
theorem dX6_assignment_83 : decode cX6_assignment 83 = .ok (.getfield 9, 3) := by decide +kernel
theorem dX6_assignment_86 : decode cX6_assignment 86 = .ok (.iload 4, 2) := by decide +kernel
theorem dX6_assignment_88 : decode cX6_assignment 88 = .ok (.invokevirtual 244, 3) := by decide +kernel
theorem dX6_assignment_91 : decode cX6_assignment 91 = .ok (.iload_n 3, 1) := by decide +kernel
theorem dX6_assignment_92 : decode cX6_assignment 92 = .ok (.iconst (-1), 1) := by decide +kernel
theorem dX6_assignment_93 : decode cX6_assignment 93 = .ok (.invokevirtual 169, 3) := by decide +kernel
theorem dX6_assignment_96 : decode cX6_assignment 96 = .ok (.ireturn, 1) := by decide +kernel
theorem dX6_assignment_97 : decode cX6_assignment 97 = .ok (.aload_n 0, 1) := by decide +kernel
theorem dX6_assignment_98 : decode cX6_assignment 98 = .ok (.getfield 51, 3) := by decide +kernel
theorem dX6_assignment_101 : decode cX6_assignment 101 = .ok (.iconst 3, 1) := by decide +kernel
theorem dX6_assignment_102 : decode cX6_assignment 102 = .ok (.iload 4, 2) := by decide +kernel
theorem dX6_assignment_104 : decode cX6_assignment 104 = .ok (.invokevirtual 196, 3) := by decide +kernel
theorem dX6_assignment_107 : decode cX6_assignment 107 = .ok (.aload_n 0, 1) := by decide +kernel
theorem dX6_assignment_108 : decode cX6_assignment 108 = .ok (.getfield 46, 3) := by decide +kernel
theorem dX6_assignment_111 : decode cX6_assignment 111 = .ok (.bipush 14, 2) := by decide +kernel
theorem dX6_assignment_113 : decode cX6_assignment 113 = .ok (.iload 4, 2) := by decide +kernel
theorem dX6_assignment_115 : decode cX6_assignment 115 = .ok (.iload_n 3, 1) := by decide +kernel
theorem dX6_assignment_116 : decode cX6_assignment 116 = .ok (.iconst (-1), 1) := by decide +kernel
theorem dX6_assignment_117 : decode cX6_assignment 117 = .ok (.invokevirtual 169, 3) := by decide +kernel
theorem dX6_assignment_120 : decode cX6_assignment 120 = .ok (.ireturn, 1) := by decide +kernel
theorem dX6_itemAssignment_0 : decode cX6_itemAssignment 0 = .ok (.aload_n 0, 1) := by decide +kernel
theorem dX6_itemAssignment_1 : decode cX6_itemAssignment 1 = .ok (.getfield 32, 3) := by decide +kernel
theorem dX6_itemAssignment_4 : decode cX6_itemAssignment 4 = .ok (.iload_n 1, 1) := by decide +kernel
theorem dX6_itemAssignment_5 : decode cX6_itemAssignment 5 = .ok (.iload_n 2, 1) := by decide +kernel
theorem dX6_itemAssignment_6 : decode cX6_itemAssignment 6 = .ok (.invokevirtual 291, 3) := by decide +kernel
theorem dX6_itemAssignment_9 : decode cX6_itemAssignment 9 = .ok (.istore_n 3, 1) := by decide +kernel
theorem dX6_itemAssignment_10 : decode cX6_itemAssignment 10 = .ok (.aload_n 0, 1) := by decide +kernel
theorem dX6_itemAssignment_11 : decode cX6_itemAssignment 11 = .ok (.getfield 21, 3) := by decide +kernel
theorem dX6_itemAssignment_14 : decode cX6_itemAssignment 14 = .ok (.bipush 57, 2) := by decide +kernel
theorem dX6_itemAssignment_16 : decode cX6_itemAssignment 16 = .ok (.invokevirtual 145, 3) := by decide +kernel
theorem dX6_itemAssignment_19 : decode cX6_itemAssignment 19 = .ok (.aload_n 0, 1) := by decide +kernel
theorem dX6_itemAssignment_20 : decode cX6_itemAssignment 20 = .ok (.getfield 32, 3) := by decide +kernel
theorem dX6_itemAssignment_23 : decode cX6_itemAssignment 23 = .ok (.bipush 56, 2) := by decide +kernel
theorem dX6_itemAssignment_25 : decode cX6_itemAssignment 25 = .ok (.invokevirtual 235, 3) := by decide +kernel
theorem dX6_itemAssignment_28 : decode cX6_itemAssignment 28 = .ok (.istore 4, 2) := by decide +kernel
theorem dX6_itemAssignment_30 : decode cX6_itemAssignment 30 = .ok (.aload_n 0, 1) := by decide +kernel
theorem dX6_itemAssignment_31 : decode cX6_itemAssignment 31 = .ok (.getfield 21, 3) := by decide +kernel
theorem dX6_itemAssignment_34 : decode cX6_itemAssignment 34 = .ok (.invokevirtual 81, 3) := by decide +kernel
theorem dX6_itemAssignment_37 : decode cX6_itemAssignment 37 = .ok (.aload_n 0, 1) := by decide +kernel
theorem dX6_itemAssignment_38 : decode cX6_itemAssignment 38 = .ok (.getfield 26, 3) := by decide +kernel
theorem dX6_itemAssignment_41 : decode cX6_itemAssignment 41 = .ok (.iload_n 1, 1) := by decide +kernel
theorem dX6_itemAssignment_42 : decode cX6_itemAssignment 42 = .ok (.invokevirtual 204, 3) := by decide +kernel
theorem dX6_itemAssignment_45 : decode cX6_itemAssignment 45 = .ok (.istore 5, 2) := by decide +kernel
theorem dX6_itemAssignment_47 : decode cX6_itemAssignment 47 = .ok (.aload_n 0, 1) := by decide +kernel
theorem dX6_itemAssignment_48 : decode cX6_itemAssignment 48 = .ok (.getfield 26, 3) := by decide +kernel
theorem dX6_itemAssignment_51 : decode cX6_itemAssignment 51 = .ok (.iload_n 1, 1) := by decide +kernel
theorem dX6_itemAssignment_52 : decode cX6_itemAssignment 52 = .ok (.invokevirtual 294, 3) := by decide +kernel
theorem dX6_itemAssignment_55 : decode cX6_itemAssignment 55 = .ok (.istore 6, 2) := by decide +kernel
theorem dX6_itemAssignment_57 : decode cX6_itemAssignment 57 = .ok (.aload_n 0, 1) := by decide +kernel
theorem dX6_itemAssignment_58 : decode cX6_itemAssignment 58 = .ok (.getfield 51, 3) := by decide +kernel
theorem dX6_itemAssignment_61 : decode cX6_itemAssignment 61 = .ok (.bipush 7, 2) := by decide +kernel
theorem dX6_itemAssignment_63 : decode cX6_itemAssignment 63 = .ok (.iload 5, 2) := by decide +kernel
theorem dX6_itemAssignment_65 : decode cX6_itemAssignment 65 = .ok (.iload 6, 2) := by decide +kernel
theorem dX6_itemAssignment_67 : decode cX6_itemAssignment 67 = .ok (.invokevirtual 64, 3) := by decide +kernel
theorem dX6_itemAssignment_70 : decode cX6_itemAssignment 70 = .ok (.aload_n 0, 1) := by decide +kernel
theorem dX6_itemAssignment_71 : decode cX6_itemAssignment 71 = .ok (.getfield 46, 3) := by decide +kernel
theorem dX6_itemAssignment_74 : decode cX6_itemAssignment 74 = .ok (.bipush 16, 2) := by decide +kernel
theorem dX6_itemAssignment_76 : decode cX6_itemAssignment 76 = .ok (.iload 5, 2) := by decide +kernel
theorem dX6_itemAssignment_78 : decode cX6_itemAssignment 78 = .ok (.iconst (-1), 1) := by decide +kernel
theorem dX6_itemAssignment_79 : decode cX6_itemAssignment 79 = .ok (.iconst (-1), 1) := by decide +kernel
theorem dX6_itemAssignment_80 : decode cX6_itemAssignment 80 = .ok (.invokevirtual 169, 3) := by decide +kernel
theorem dX6_itemAssignment_83 : decode cX6_itemAssignment 83 = .ok (.istore 7, 2) := by decide +kernel
theorem dX6_itemAssignment_85 : decode cX6_itemAssignment 85 = .ok (.aload_n 0, 1) := by decide +kernel
theorem dX6_itemAssignment_86 : decode cX6_itemAssignment 86 = .ok (.getfield 46, 3) := by decide +kernel
theorem dX6_itemAssignment_89 : decode cX6_itemAssignment 89 = .ok (.iload 7, 2) := by decide +kernel
theorem dX6_itemAssignment_91 : decode cX6_itemAssignment 91 = .ok (.iload_n 3, 1) := by decide +kernel
theorem dX6_itemAssignment_92 : decode cX6_itemAssignment 92 = .ok (.iload 6, 2) := by decide +kernel
theorem dX6_itemAssignment_94 : decode cX6_itemAssignment 94 = .ok (.iload 4, 2) := by decide +kernel
theorem dX6_itemAssignment_96 : decode cX6_itemAssignment 96 = .ok (.invokevirtual 210, 3) := by decide +kernel
theorem dX6_itemAssignment_99 : decode cX6_itemAssignment 99 = .ok (.iload 7, 2) := by decide +kernel
theorem dX6_itemAssignment_101 : decode cX6_itemAssignment 101 = .ok (.ireturn, 1) := by decide +kernel
theorem dX7_init_0 : decode cX7_init 0 = .ok (.aload_n 0, 1) := by decide +kernel
theorem dX7_init_1 : decode cX7_init 1 = .ok (.invokespecial 3, 3) := by decide +kernel
theorem dX7_init_4 : decode cX7_init 4 = .ok (.aload_n 0, 1) := by decide +kernel
theorem dX7_init_5 : decode cX7_init 5 = .ok (.iload_n 1, 1) := by decide +kernel
theorem dX7_init_6 : decode cX7_init 6 = .ok (.newarray .int, 2) := by decide +kernel
theorem dX7_init_8 : decode cX7_init 8 = .ok (.putfield 9, 3) := by decide +kernel
theorem dX7_init_11 : decode cX7_init 11 = .ok (.return_, 1) := by decide +kernel
theorem dX7_put_0 : decode cX7_put 0 = .ok (.aload_n 0, 1) := by decide +kernel
theorem dX7_put_1 : decode cX7_put 1 = .ok (.getfield 15, 3) := by decide +kernel
theorem dX7_put_4 : decode cX7_put 4 = .ok (.aload_n 0, 1) := by decide +kernel
theorem dX7_put_5 : decode cX7_put 5 = .ok (.getfield 9, 3) := by decide +kernel
theorem dX7_put_8 : decode cX7_put 8 = .ok (.arraylength, 1) := by decide +kernel
theorem dX7_put_9 : decode cX7_put 9 = .ok (.if_icmp .lt 5, 3) := by decide +kernel
theorem dX7_put_12 : decode cX7_put 12 = .ok (.iconst 0, 1) := by decide +kernel
theorem dX7_put_13 : decode cX7_put 13 = .ok (.ireturn, 1) := by decide +kernel
theorem dX7_put_14 : decode cX7_put 14 = .ok (.aload_n 0, 1) := by decide +kernel
theorem dX7_put_15 : decode cX7_put 15 = .ok (.getfield 9, 3) := by decide +kernel
theorem dX7_put_18 : decode cX7_put 18 = .ok (.aload_n 0, 1) := by decide +kernel
theorem dX7_put_19 : decode cX7_put 19 = .ok (.getfield 15, 3) := by decide +kernel
theorem dX7_put_22 : decode cX7_put 22 = .ok (.iload_n 1, 1) := by decide +kernel
theorem dX7_put_23 : decode cX7_put 23 = .ok (.iastore, 1) := by decide +kernel
theorem dX7_put_24 : decode cX7_put 24 = .ok (.aload_n 0, 1) := by decide +kernel
theorem dX7_put_25 : decode cX7_put 25 = .ok (.dup, 1) := by decide +kernel
theorem dX7_put_26 : decode cX7_put 26 = .ok (.getfield 15, 3) := by decide +kernel
theorem dX7_put_29 : decode cX7_put 29 = .ok (.iconst 1, 1) := by decide +kernel
theorem dX7_put_30 : decode cX7_put 30 = .ok (.iadd, 1) := by decide +kernel
theorem dX7_put_31 : decode cX7_put 31 = .ok (.putfield 15, 3) := by decide +kernel
theorem dX7_put_34 : decode cX7_put 34 = .ok (.iconst 1, 1) := by decide +kernel
theorem dX7_put_35 : decode cX7_put 35 = .ok (.ireturn, 1) := by decide +kernel
theorem dX7_begin_0 : decode cX7_begin 0 = .ok (.aload_n 0, 1) := by decide +kernel
theorem dX7_begin_1 : decode cX7_begin 1 = .ok (.iconst 0, 1) := by decide +kernel
theorem dX7_begin_2 : decode cX7_begin 2 = .ok (.putfield 19, 3) := by decide +kernel
theorem dX7_begin_5 : decode cX7_begin 5 = .ok (.aload_n 0, 1) := by decide +kernel
theorem dX7_begin_6 : decode cX7_begin 6 = .ok (.iconst 0, 1) := by decide +kernel
theorem dX7_begin_7 : decode cX7_begin 7 = .ok (.putfield 22, 3) := by decide +kernel
theorem dX7_begin_10 : decode cX7_begin 10 = .ok (.aload_n 0, 1) := by decide +kernel
theorem dX7_begin_11 : decode cX7_begin 11 = .ok (.invokevirtual 25, 3) := by decide +kernel
theorem dX7_begin_14 : decode cX7_begin 14 = .ok (.return_, 1) := by decide +kernel
theorem dX7_fail_0 : decode cX7_fail 0 = .ok (.aload_n 0, 1) := by decide +kernel
theorem dX7_fail_1 : decode cX7_fail 1 = .ok (.getfield 19, 3) := by decide +kernel
theorem dX7_fail_4 : decode cX7_fail 4 = .ok (.ifCond .ne 13, 3) := by decide +kernel
theorem dX7_fail_7 : decode cX7_fail 7 = .ok (.aload_n 0, 1) := by decide +kernel
theorem dX7_fail_8 : decode cX7_fail 8 = .ok (.iload_n 1, 1) := by decide +kernel
theorem dX7_fail_9 : decode cX7_fail 9 = .ok (.bipush 16, 2) := by decide +kernel
theorem dX7_fail_11 : decode cX7_fail 11 = .ok (.iload_n 2, 1) := by decide +kernel
theorem dX7_fail_12 : decode cX7_fail 12 = .ok (.imul, 1) := by decide +kernel
theorem dX7_fail_13 : decode cX7_fail 13 = .ok (.iadd, 1) := by decide +kernel
theorem dX7_fail_14 : decode cX7_fail 14 = .ok (.putfield 19, 3) := by decide +kernel
theorem dX7_fail_17 : decode cX7_fail 17 = .ok (.aload_n 0, 1) := by decide +kernel
theorem dX7_fail_18 : decode cX7_fail 18 = .ok (.iconst (-1), 1) := by decide +kernel
theorem dX7_fail_19 : decode cX7_fail 19 = .ok (.putfield 28, 3) := by decide +kernel
theorem dX7_fail_22 : decode cX7_fail 22 = .ok (.return_, 1) := by decide +kernel
theorem dX7_failHere_0 : decode cX7_failHere 0 = .ok (.aload_n 0, 1) := by decide +kernel
theorem dX7_failHere_1 : decode cX7_failHere 1 = .ok (.getfield 19, 3) := by decide +kernel
theorem dX7_failHere_4 : decode cX7_failHere 4 = .ok (.ifCond .ne 16, 3) := by decide +kernel
theorem dX7_failHere_7 : decode cX7_failHere 7 = .ok (.aload_n 0, 1) := by decide +kernel
theorem dX7_failHere_8 : decode cX7_failHere 8 = .ok (.iload_n 1, 1) := by decide +kernel
theorem dX7_failHere_9 : decode cX7_failHere 9 = .ok (.bipush 16, 2) := by decide +kernel
theorem dX7_failHere_11 : decode cX7_failHere 11 = .ok (.aload_n 0, 1) := by decide +kernel
theorem dX7_failHere_12 : decode cX7_failHere 12 = .ok (.getfield 31, 3) := by decide +kernel
theorem dX7_failHere_15 : decode cX7_failHere 15 = .ok (.imul, 1) := by decide +kernel
theorem dX7_failHere_16 : decode cX7_failHere 16 = .ok (.iadd, 1) := by decide +kernel
theorem dX7_failHere_17 : decode cX7_failHere 17 = .ok (.putfield 19, 3) := by decide +kernel
theorem dX7_failHere_20 : decode cX7_failHere 20 = .ok (.aload_n 0, 1) := by decide +kernel
theorem dX7_failHere_21 : decode cX7_failHere 21 = .ok (.iconst (-1), 1) := by decide +kernel
theorem dX7_failHere_22 : decode cX7_failHere 22 = .ok (.putfield 28, 3) := by decide +kernel
theorem dX7_failHere_25 : decode cX7_failHere 25 = .ok (.return_, 1) := by decide +kernel
theorem dX7_need_0 : decode cX7_need 0 = .ok (.aload_n 0, 1) := by decide +kernel
theorem dX7_need_1 : decode cX7_need 1 = .ok (.getfield 28, 3) := by decide +kernel
theorem dX7_need_4 : decode cX7_need 4 = .ok (.iload_n 1, 1) := by decide +kernel
theorem dX7_need_5 : decode cX7_need 5 = .ok (.if_icmp .eq 8, 3) := by decide +kernel
theorem dX7_need_8 : decode cX7_need 8 = .ok (.aload_n 0, 1) := by decide +kernel
theorem dX7_need_9 : decode cX7_need 9 = .ok (.iconst 2, 1) := by decide +kernel
theorem dX7_need_10 : decode cX7_need 10 = .ok (.invokevirtual 34, 3) := by decide +kernel
theorem dX7_need_13 : decode cX7_need 13 = .ok (.return_, 1) := by decide +kernel
theorem dX7_pass_0 : decode cX7_pass 0 = .ok (.aload_n 0, 1) := by decide +kernel
theorem dX7_pass_1 : decode cX7_pass 1 = .ok (.iload_n 1, 1) := by decide +kernel
theorem dX7_pass_2 : decode cX7_pass 2 = .ok (.invokevirtual 38, 3) := by decide +kernel
theorem dX7_pass_5 : decode cX7_pass 5 = .ok (.aload_n 0, 1) := by decide +kernel
theorem dX7_pass_6 : decode cX7_pass 6 = .ok (.invokevirtual 25, 3) := by decide +kernel
theorem dX7_pass_9 : decode cX7_pass 9 = .ok (.return_, 1) := by decide +kernel
theorem dX7_come_0 : decode cX7_come 0 = .ok (.aload_n 0, 1) := by decide +kernel
theorem dX7_come_1 : decode cX7_come 1 = .ok (.getfield 19, 3) := by decide +kernel
theorem dX7_come_4 : decode cX7_come 4 = .ok (.ifCond .eq 4, 3) := by decide +kernel
theorem dX7_come_7 : decode cX7_come 7 = .ok (.return_, 1) := by decide +kernel
theorem dX7_come_8 : decode cX7_come 8 = .ok (.aload_n 0, 1) := by decide +kernel
theorem dX7_come_9 : decode cX7_come 9 = .ok (.invokevirtual 41, 3) := by decide +kernel
theorem dX7_come_12 : decode cX7_come 12 = .ok (.aload_n 0, 1) := by decide +kernel
theorem dX7_come_13 : decode cX7_come 13 = .ok (.aload_n 0, 1) := by decide +kernel
theorem dX7_come_14 : decode cX7_come 14 = .ok (.getfield 22, 3) := by decide +kernel
theorem dX7_come_17 : decode cX7_come 17 = .ok (.putfield 31, 3) := by decide +kernel
theorem dX7_come_20 : decode cX7_come 20 = .ok (.aload_n 0, 1) := by decide +kernel
theorem dX7_come_21 : decode cX7_come 21 = .ok (.getfield 22, 3) := by decide +kernel
theorem dX7_come_24 : decode cX7_come 24 = .ok (.aload_n 0, 1) := by decide +kernel
theorem dX7_come_25 : decode cX7_come 25 = .ok (.getfield 15, 3) := by decide +kernel
theorem dX7_come_28 : decode cX7_come 28 = .ok (.if_icmp .lt 10, 3) := by decide +kernel
theorem dX7_come_31 : decode cX7_come 31 = .ok (.aload_n 0, 1) := by decide +kernel
theorem dX7_come_32 : decode cX7_come 32 = .ok (.bipush 58, 2) := by decide +kernel
theorem dX7_come_34 : decode cX7_come 34 = .ok (.putfield 28, 3) := by decide +kernel
theorem dX7_come_37 : decode cX7_come 37 = .ok (.return_, 1) := by decide +kernel
theorem dX7_come_38 : decode cX7_come 38 = .ok (.aload_n 0, 1) := by decide +kernel
theorem dX7_come_39 : decode cX7_come 39 = .ok (.getfield 9, 3) := by decide +kernel
theorem dX7_come_42 : decode cX7_come 42 = .ok (.aload_n 0, 1) := by decide +kernel
theorem dX7_come_43 : decode cX7_come 43 = .ok (.getfield 22, 3) := by decide +kernel
theorem dX7_come_46 : decode cX7_come 46 = .ok (.iaload, 1) := by decide +kernel
theorem dX7_come_47 : decode cX7_come 47 = .ok (.istore_n 1, 1) := by decide +kernel
theorem dX7_come_48 : decode cX7_come 48 = .ok (.aload_n 0, 1) := by decide +kernel
theorem dX7_come_49 : decode cX7_come 49 = .ok (.getfield 22, 3) := by decide +kernel
theorem dX7_come_52 : decode cX7_come 52 = .ok (.iconst 1, 1) := by decide +kernel
theorem dX7_come_53 : decode cX7_come 53 = .ok (.iadd, 1) := by decide +kernel
theorem dX7_come_54 : decode cX7_come 54 = .ok (.aload_n 0, 1) := by decide +kernel
theorem dX7_come_55 : decode cX7_come 55 = .ok (.getfield 15, 3) := by decide +kernel
theorem dX7_come_58 : decode cX7_come 58 = .ok (.if_icmp .ge 17, 3) := by decide +kernel
theorem dX7_come_61 : decode cX7_come 61 = .ok (.aload_n 0, 1) := by decide +kernel
theorem dX7_come_62 : decode cX7_come 62 = .ok (.getfield 9, 3) := by decide +kernel
theorem dX7_come_65 : decode cX7_come 65 = .ok (.aload_n 0, 1) := by decide +kernel
theorem dX7_come_66 : decode cX7_come 66 = .ok (.getfield 22, 3) := by decide +kernel
theorem dX7_come_69 : decode cX7_come 69 = .ok (.iconst 1, 1) := by decide +kernel
theorem dX7_come_70 : decode cX7_come 70 = .ok (.iadd, 1) := by decide +kernel
theorem dX7_come_71 : decode cX7_come 71 = .ok (.iaload, 1) := by decide +kernel
theorem dX7_come_72 : decode cX7_come 72 = .ok (.goto 4, 3) := by decide +kernel
theorem dX7_come_75 : decode cX7_come 75 = .ok (.iconst 0, 1) := by decide +kernel
theorem dX7_come_76 : decode cX7_come 76 = .ok (.istore_n 2, 1) := by decide +kernel
theorem dX7_come_77 : decode cX7_come 77 = .ok (.iload_n 1, 1) := by decide +kernel
theorem dX7_come_78 : decode cX7_come 78 = .ok (.invokestatic 44, 3) := by decide +kernel
theorem dX7_come_81 : decode cX7_come 81 = .ok (.ifCond .eq 14, 3) := by decide +kernel
theorem dX7_come_84 : decode cX7_come 84 = .ok (.aload_n 0, 1) := by decide +kernel
theorem dX7_come_85 : decode cX7_come 85 = .ok (.aload_n 0, 1) := by decide +kernel
theorem dX7_come_86 : decode cX7_come 86 = .ok (.invokevirtual 48, 3) := by decide +kernel
theorem dX7_come_89 : decode cX7_come 89 = .ok (.putfield 28, 3) := by decide +kernel
theorem dX7_come_92 : decode cX7_come 92 = .ok (.goto 75, 3) := by decide +kernel
theorem dX7_come_95 : decode cX7_come 95 = .ok (.iload_n 1, 1) := by decide +kernel
theorem dX7_come_96 : decode cX7_come 96 = .ok (.invokestatic 52, 3) := by decide +kernel
theorem dX7_come_99 : decode cX7_come 99 = .ok (.ifCond .eq 14, 3) := by decide +kernel
theorem dX7_come_102 : decode cX7_come 102 = .ok (.aload_n 0, 1) := by decide +kernel
theorem dX7_come_103 : decode cX7_come 103 = .ok (.aload_n 0, 1) := by decide +kernel
theorem dX7_come_104 : decode cX7_come 104 = .ok (.invokevirtual 55, 3) := by decide +kernel
theorem dX7_come_107 : decode cX7_come 107 = .ok (.putfield 28, 3) := by decide +kernel
theorem dX7_come_110 : decode cX7_come 110 = .ok (.goto 57, 3) := by decide +kernel
theorem dX7_come_113 : decode cX7_come 113 = .ok (.aload_n 0, 1) := by decide +kernel
theorem dX7_come_114 : decode cX7_come 114 = .ok (.iload_n 1, 1) := by decide +kernel
theorem dX7_come_115 : decode cX7_come 115 = .ok (.iload_n 2, 1) := by decide +kernel
theorem dX7_come_116 : decode cX7_come 116 = .ok (.invokestatic 58, 3) := by decide +kernel
theorem dX7_come_119 : decode cX7_come 119 = .ok (.putfield 28, 3) := by decide +kernel
theorem dX7_come_122 : decode cX7_come 122 = .ok (.aload_n 0, 1) := by decide +kernel
theorem dX7_come_123 : decode cX7_come 123 = .ok (.dup, 1) := by decide +kernel
theorem dX7_come_124 : decode cX7_come 124 = .ok (.getfield 22, 3) := by decide +kernel
theorem dX7_come_127 : decode cX7_come 127 = .ok (.aload_n 0, 1) := by decide +kernel
theorem dX7_come_128 : decode cX7_come 128 = .ok (.getfield 28, 3) := by decide +kernel
theorem dX7_come_131 : decode cX7_come 131 = .ok (.iconst (-1), 1) := by decide +kernel
theorem dX7_come_132 : decode cX7_come 132 = .ok (.if_icmp .ne 7, 3) := by decide +kernel
theorem dX7_come_135 : decode cX7_come 135 = .ok (.iconst 1, 1) := by decide +kernel
theorem dX7_come_136 : decode cX7_come 136 = .ok (.goto 4, 3) := by decide +kernel
theorem dX7_come_139 : decode cX7_come 139 = .ok (.iconst 2, 1) := by decide +kernel
theorem dX7_come_140 : decode cX7_come 140 = .ok (.iadd, 1) := by decide +kernel
theorem dX7_come_141 : decode cX7_come 141 = .ok (.putfield 22, 3) := by decide +kernel
theorem dX7_come_144 : decode cX7_come 144 = .ok (.aload_n 0, 1) := by decide +kernel
theorem dX7_come_145 : decode cX7_come 145 = .ok (.aload_n 0, 1) := by decide +kernel
theorem dX7_come_146 : decode cX7_come 146 = .ok (.getfield 28, 3) := by decide +kernel
theorem dX7_come_149 : decode cX7_come 149 = .ok (.iconst (-1), 1) := by decide +kernel
theorem dX7_come_150 : decode cX7_come 150 = .ok (.if_icmp .ne 10, 3) := by decide +kernel
theorem dX7_come_153 : decode cX7_come 153 = .ok (.iload_n 1, 1) := by decide +kernel
theorem dX7_come_154 : decode cX7_come 154 = .ok (.invokestatic 62, 3) := by decide +kernel
theorem dX7_come_157 : decode cX7_come 157 = .ok (.goto 7, 3) := by decide +kernel
theorem dX7_come_160 : decode cX7_come 160 = .ok (.aload_n 0, 1) := by decide +kernel
theorem dX7_come_161 : decode cX7_come 161 = .ok (.getfield 28, 3) := by decide +kernel
theorem dX7_come_164 : decode cX7_come 164 = .ok (.putfield 28, 3) := by decide +kernel
theorem dX7_come_167 : decode cX7_come 167 = .ok (.aload_n 0, 1) := by decide +kernel
theorem dX7_come_168 : decode cX7_come 168 = .ok (.getfield 28, 3) := by decide +kernel
theorem dX7_come_171 : decode cX7_come 171 = .ok (.iconst (-1), 1) := by decide +kernel
theorem dX7_come_172 : decode cX7_come 172 = .ok (.if_icmp .ne 12, 3) := by decide +kernel
theorem dX7_come_175 : decode cX7_come 175 = .ok (.aload_n 0, 1) := by decide +kernel
theorem dX7_come_176 : decode cX7_come 176 = .ok (.iconst 1, 1) := by decide +kernel
theorem dX7_come_177 : decode cX7_come 177 = .ok (.aload_n 0, 1) := by decide +kernel
theorem dX7_come_178 : decode cX7_come 178 = .ok (.getfield 31, 3) := by decide +kernel
theorem dX7_come_181 : decode cX7_come 181 = .ok (.invokevirtual 66, 3) := by decide +kernel
theorem dX7_come_184 : decode cX7_come 184 = .ok (.return_, 1) := by decide +kernel
theorem dX7_skipBlanks_0 : decode cX7_skipBlanks 0 = .ok (.aload_n 0, 1) := by decide +kernel
theorem dX7_skipBlanks_1 : decode cX7_skipBlanks 1 = .ok (.getfield 22, 3) := by decide +kernel
theorem dX7_skipBlanks_4 : decode cX7_skipBlanks 4 = .ok (.aload_n 0, 1) := by decide +kernel
theorem dX7_skipBlanks_5 : decode cX7_skipBlanks 5 = .ok (.getfield 15, 3) := by decide +kernel
theorem dX7_skipBlanks_8 : decode cX7_skipBlanks 8 = .ok (.if_icmp .ge 44, 3) := by decide +kernel
theorem dX7_skipBlanks_11 : decode cX7_skipBlanks 11 = .ok (.aload_n 0, 1) := by decide +kernel
theorem dX7_skipBlanks_12 : decode cX7_skipBlanks 12 = .ok (.getfield 9, 3) := by decide +kernel
theorem dX7_skipBlanks_15 : decode cX7_skipBlanks 15 = .ok (.aload_n 0, 1) := by decide +kernel
theorem dX7_skipBlanks_16 : decode cX7_skipBlanks 16 = .ok (.getfield 22, 3) := by decide +kernel
theorem dX7_skipBlanks_19 : decode cX7_skipBlanks 19 = .ok (.iaload, 1) := by decide +kernel
theorem dX7_skipBlanks_20 : decode cX7_skipBlanks 20 = .ok (.bipush 32, 2) := by decide +kernel
theorem dX7_skipBlanks_22 : decode cX7_skipBlanks 22 = .ok (.if_icmp .eq 17, 3) := by decide +kernel
theorem dX7_skipBlanks_25 : decode cX7_skipBlanks 25 = .ok (.aload_n 0, 1) := by decide +kernel
theorem dX7_skipBlanks_26 : decode cX7_skipBlanks 26 = .ok (.getfield 9, 3) := by decide +kernel
theorem dX7_skipBlanks_29 : decode cX7_skipBlanks 29 = .ok (.aload_n 0, 1) := by decide +kernel
theorem dX7_skipBlanks_30 : decode cX7_skipBlanks 30 = .ok (.getfield 22, 3) := by decide +kernel
theorem dX7_skipBlanks_33 : decode cX7_skipBlanks 33 = .ok (.iaload, 1) := by decide +kernel
theorem dX7_skipBlanks_34 : decode cX7_skipBlanks 34 = .ok (.bipush 10, 2) := by decide +kernel
theorem dX7_skipBlanks_36 : decode cX7_skipBlanks 36 = .ok (.if_icmp .ne 16, 3) := by decide +kernel
theorem dX7_skipBlanks_39 : decode cX7_skipBlanks 39 = .ok (.aload_n 0, 1) := by decide +kernel
theorem dX7_skipBlanks_40 : decode cX7_skipBlanks 40 = .ok (.dup, 1) := by decide +kernel
theorem dX7_skipBlanks_41 : decode cX7_skipBlanks 41 = .ok (.getfield 22, 3) := by decide +kernel
theorem dX7_skipBlanks_44 : decode cX7_skipBlanks 44 = .ok (.iconst 1, 1) := by decide +kernel
theorem dX7_skipBlanks_45 : decode cX7_skipBlanks 45 = .ok (.iadd, 1) := by decide +kernel
theorem dX7_skipBlanks_46 : decode cX7_skipBlanks 46 = .ok (.putfield 22, 3) := by decide +kernel
theorem dX7_skipBlanks_49 : decode cX7_skipBlanks 49 = .ok (.goto (-49), 3) := by decide +kernel
theorem dX7_skipBlanks_52 : decode cX7_skipBlanks 52 = .ok (.return_, 1) := by decide +kernel
theorem dX7_comeNumber_0 : decode cX7_comeNumber 0 = .ok (.aload_n 0, 1) := by decide +kernel
theorem dX7_comeNumber_1 : decode cX7_comeNumber 1 = .ok (.lconst 0, 1) := by decide +kernel
theorem dX7_comeNumber_2 : decode cX7_comeNumber 2 = .ok (.putfield 70, 3) := by decide +kernel
theorem dX7_comeNumber_5 : decode cX7_comeNumber 5 = .ok (.aload_n 0, 1) := by decide +kernel
theorem dX7_comeNumber_6 : decode cX7_comeNumber 6 = .ok (.getfield 22, 3) := by decide +kernel
theorem dX7_comeNumber_9 : decode cX7_comeNumber 9 = .ok (.aload_n 0, 1) := by decide +kernel
theorem dX7_comeNumber_10 : decode cX7_comeNumber 10 = .ok (.getfield 15, 3) := by decide +kernel
theorem dX7_comeNumber_13 : decode cX7_comeNumber 13 = .ok (.if_icmp .ge 84, 3) := by decide +kernel
theorem dX7_comeNumber_16 : decode cX7_comeNumber 16 = .ok (.aload_n 0, 1) := by decide +kernel
theorem dX7_comeNumber_17 : decode cX7_comeNumber 17 = .ok (.getfield 9, 3) := by decide +kernel
theorem dX7_comeNumber_20 : decode cX7_comeNumber 20 = .ok (.aload_n 0, 1) := by decide +kernel
theorem dX7_comeNumber_21 : decode cX7_comeNumber 21 = .ok (.getfield 22, 3) := by decide +kernel
theorem dX7_comeNumber_24 : decode cX7_comeNumber 24 = .ok (.iaload, 1) := by decide +kernel
theorem dX7_comeNumber_25 : decode cX7_comeNumber 25 = .ok (.bipush 48, 2) := by decide +kernel
theorem dX7_comeNumber_27 : decode cX7_comeNumber 27 = .ok (.if_icmp .lt 70, 3) := by decide +kernel
theorem dX7_comeNumber_30 : decode cX7_comeNumber 30 = .ok (.aload_n 0, 1) := by decide +kernel
theorem dX7_comeNumber_31 : decode cX7_comeNumber 31 = .ok (.getfield 9, 3) := by decide +kernel
theorem dX7_comeNumber_34 : decode cX7_comeNumber 34 = .ok (.aload_n 0, 1) := by decide +kernel
theorem dX7_comeNumber_35 : decode cX7_comeNumber 35 = .ok (.getfield 22, 3) := by decide +kernel
theorem dX7_comeNumber_38 : decode cX7_comeNumber 38 = .ok (.iaload, 1) := by decide +kernel
theorem dX7_comeNumber_39 : decode cX7_comeNumber 39 = .ok (.bipush 57, 2) := by decide +kernel
theorem dX7_comeNumber_41 : decode cX7_comeNumber 41 = .ok (.if_icmp .gt 56, 3) := by decide +kernel
theorem dX7_comeNumber_44 : decode cX7_comeNumber 44 = .ok (.aload_n 0, 1) := by decide +kernel
theorem dX7_comeNumber_45 : decode cX7_comeNumber 45 = .ok (.getfield 22, 3) := by decide +kernel
theorem dX7_comeNumber_48 : decode cX7_comeNumber 48 = .ok (.aload_n 0, 1) := by decide +kernel
theorem dX7_comeNumber_49 : decode cX7_comeNumber 49 = .ok (.getfield 31, 3) := by decide +kernel
theorem dX7_comeNumber_52 : decode cX7_comeNumber 52 = .ok (.isub, 1) := by decide +kernel
theorem dX7_comeNumber_53 : decode cX7_comeNumber 53 = .ok (.bipush 10, 2) := by decide +kernel
theorem dX7_comeNumber_55 : decode cX7_comeNumber 55 = .ok (.if_icmp .ge 29, 3) := by decide +kernel
theorem dX7_comeNumber_58 : decode cX7_comeNumber 58 = .ok (.aload_n 0, 1) := by decide +kernel
theorem dX7_comeNumber_59 : decode cX7_comeNumber 59 = .ok (.aload_n 0, 1) := by decide +kernel
theorem dX7_comeNumber_60 : decode cX7_comeNumber 60 = .ok (.getfield 70, 3) := by decide +kernel
theorem dX7_comeNumber_63 : decode cX7_comeNumber 63 = .ok (.ldc2_w 74, 3) := by decide +kernel
theorem dX7_comeNumber_66 : decode cX7_comeNumber 66 = .ok (.lmul, 1) := by decide +kernel
theorem dX7_comeNumber_67 : decode cX7_comeNumber 67 = .ok (.aload_n 0, 1) := by decide +kernel
theorem dX7_comeNumber_68 : decode cX7_comeNumber 68 = .ok (.getfield 9, 3) := by decide +kernel
theorem dX7_comeNumber_71 : decode cX7_comeNumber 71 = .ok (.aload_n 0, 1) := by decide +kernel
theorem dX7_comeNumber_72 : decode cX7_comeNumber 72 = .ok (.getfield 22, 3) := by decide +kernel
theorem dX7_comeNumber_75 : decode cX7_comeNumber 75 = .ok (.iaload, 1) := by decide +kernel
theorem dX7_comeNumber_76 : decode cX7_comeNumber 76 = .ok (.bipush 48, 2) := by decide +kernel
theorem dX7_comeNumber_78 : decode cX7_comeNumber 78 = .ok (.isub, 1) := by decide +kernel
theorem dX7_comeNumber_79 : decode cX7_comeNumber 79 = .ok (.i2l, 1) := by decide +kernel
theorem dX7_comeNumber_80 : decode cX7_comeNumber 80 = .ok (.ladd, 1) := by decide +kernel
theorem dX7_comeNumber_81 : decode cX7_comeNumber 81 = .ok (.putfield 70, 3) := by decide +kernel
theorem dX7_comeNumber_84 : decode cX7_comeNumber 84 = .ok (.aload_n 0, 1) := by decide +kernel
theorem dX7_comeNumber_85 : decode cX7_comeNumber 85 = .ok (.dup, 1) := by decide +kernel
theorem dX7_comeNumber_86 : decode cX7_comeNumber 86 = .ok (.getfield 22, 3) := by decide +kernel
theorem dX7_comeNumber_89 : decode cX7_comeNumber 89 = .ok (.iconst 1, 1) := by decide +kernel
theorem dX7_comeNumber_90 : decode cX7_comeNumber 90 = .ok (.iadd, 1) := by decide +kernel
theorem dX7_comeNumber_91 : decode cX7_comeNumber 91 = .ok (.putfield 22, 3) := by decide +kernel
theorem dX7_comeNumber_94 : decode cX7_comeNumber 94 = .ok (.goto (-89), 3) := by decide +kernel
theorem dX7_comeNumber_97 : decode cX7_comeNumber 97 = .ok (.aload_n 0, 1) := by decide +kernel
theorem dX7_comeNumber_98 : decode cX7_comeNumber 98 = .ok (.getfield 22, 3) := by decide +kernel
theorem dX7_comeNumber_101 : decode cX7_comeNumber 101 = .ok (.aload_n 0, 1) := by decide +kernel
theorem dX7_comeNumber_102 : decode cX7_comeNumber 102 = .ok (.getfield 31, 3) := by decide +kernel
theorem dX7_comeNumber_105 : decode cX7_comeNumber 105 = .ok (.isub, 1) := by decide +kernel
theorem dX7_comeNumber_106 : decode cX7_comeNumber 106 = .ok (.bipush 10, 2) := by decide +kernel
theorem dX7_comeNumber_108 : decode cX7_comeNumber 108 = .ok (.if_icmp .le 7, 3) := by decide +kernel
theorem dX7_comeNumber_111 : decode cX7_comeNumber 111 = .ok (.iconst (-1), 1) := by decide +kernel
theorem dX7_comeNumber_112 : decode cX7_comeNumber 112 = .ok (.goto 5, 3) := by decide +kernel
theorem dX7_comeNumber_115 : decode cX7_comeNumber 115 = .ok (.bipush 41, 2) := by decide +kernel
theorem dX7_comeNumber_117 : decode cX7_comeNumber 117 = .ok (.ireturn, 1) := by decide +kernel
theorem dX7_comeWord_0 : decode cX7_comeWord 0 = .ok (.aload_n 0, 1) := by decide +kernel
theorem dX7_comeWord_1 : decode cX7_comeWord 1 = .ok (.lconst 0, 1) := by decide +kernel
theorem dX7_comeWord_2 : decode cX7_comeWord 2 = .ok (.putfield 76, 3) := by decide +kernel
theorem dX7_comeWord_5 : decode cX7_comeWord 5 = .ok (.aload_n 0, 1) := by decide +kernel
theorem dX7_comeWord_6 : decode cX7_comeWord 6 = .ok (.getfield 22, 3) := by decide +kernel
theorem dX7_comeWord_9 : decode cX7_comeWord 9 = .ok (.aload_n 0, 1) := by decide +kernel
theorem dX7_comeWord_10 : decode cX7_comeWord 10 = .ok (.getfield 15, 3) := by decide +kernel
theorem dX7_comeWord_13 : decode cX7_comeWord 13 = .ok (.if_icmp .ge 88, 3) := by decide +kernel
theorem dX7_comeWord_16 : decode cX7_comeWord 16 = .ok (.aload_n 0, 1) := by decide +kernel
theorem dX7_comeWord_17 : decode cX7_comeWord 17 = .ok (.getfield 9, 3) := by decide +kernel
theorem dX7_comeWord_20 : decode cX7_comeWord 20 = .ok (.aload_n 0, 1) := by decide +kernel
theorem dX7_comeWord_21 : decode cX7_comeWord 21 = .ok (.getfield 22, 3) := by decide +kernel
theorem dX7_comeWord_24 : decode cX7_comeWord 24 = .ok (.iaload, 1) := by decide +kernel
theorem dX7_comeWord_25 : decode cX7_comeWord 25 = .ok (.istore_n 1, 1) := by decide +kernel
theorem dX7_comeWord_26 : decode cX7_comeWord 26 = .ok (.iload_n 1, 1) := by decide +kernel
theorem dX7_comeWord_27 : decode cX7_comeWord 27 = .ok (.bipush 32, 2) := by decide +kernel
theorem dX7_comeWord_29 : decode cX7_comeWord 29 = .ok (.ior, 1) := by decide +kernel
theorem dX7_comeWord_30 : decode cX7_comeWord 30 = .ok (.istore_n 2, 1) := by decide +kernel
theorem dX7_comeWord_31 : decode cX7_comeWord 31 = .ok (.iload_n 2, 1) := by decide +kernel
theorem dX7_comeWord_32 : decode cX7_comeWord 32 = .ok (.bipush 97, 2) := by decide +kernel
theorem dX7_comeWord_34 : decode cX7_comeWord 34 = .ok (.if_icmp .lt 9, 3) := by decide +kernel
theorem dX7_comeWord_37 : decode cX7_comeWord 37 = .ok (.iload_n 2, 1) := by decide +kernel
theorem dX7_comeWord_38 : decode cX7_comeWord 38 = .ok (.bipush 122, 2) := by decide +kernel
theorem dX7_comeWord_40 : decode cX7_comeWord 40 = .ok (.if_icmp .le 9, 3) := by decide +kernel
theorem dX7_comeWord_43 : decode cX7_comeWord 43 = .ok (.iload_n 1, 1) := by decide +kernel
theorem dX7_comeWord_44 : decode cX7_comeWord 44 = .ok (.bipush 95, 2) := by decide +kernel
theorem dX7_comeWord_46 : decode cX7_comeWord 46 = .ok (.if_icmp .ne 7, 3) := by decide +kernel
theorem dX7_comeWord_49 : decode cX7_comeWord 49 = .ok (.iconst 1, 1) := by decide +kernel
theorem dX7_comeWord_50 : decode cX7_comeWord 50 = .ok (.goto 4, 3) := by decide +kernel
theorem dX7_comeWord_53 : decode cX7_comeWord 53 = .ok (.iconst 0, 1) := by decide +kernel
theorem dX7_comeWord_54 : decode cX7_comeWord 54 = .ok (.istore_n 3, 1) := by decide +kernel
theorem dX7_comeWord_55 : decode cX7_comeWord 55 = .ok (.iload_n 3, 1) := by decide +kernel
theorem dX7_comeWord_56 : decode cX7_comeWord 56 = .ok (.ifCond .ne 18, 3) := by decide +kernel
theorem dX7_comeWord_59 : decode cX7_comeWord 59 = .ok (.iload_n 1, 1) := by decide +kernel
theorem dX7_comeWord_60 : decode cX7_comeWord 60 = .ok (.bipush 48, 2) := by decide +kernel
theorem dX7_comeWord_62 : decode cX7_comeWord 62 = .ok (.if_icmp .lt 39, 3) := by decide +kernel
theorem dX7_comeWord_65 : decode cX7_comeWord 65 = .ok (.iload_n 1, 1) := by decide +kernel
theorem dX7_comeWord_66 : decode cX7_comeWord 66 = .ok (.bipush 57, 2) := by decide +kernel
theorem dX7_comeWord_68 : decode cX7_comeWord 68 = .ok (.if_icmp .le 6, 3) := by decide +kernel
theorem dX7_comeWord_71 : decode cX7_comeWord 71 = .ok (.goto 30, 3) := by decide +kernel
theorem dX7_comeWord_74 : decode cX7_comeWord 74 = .ok (.aload_n 0, 1) := by decide +kernel
theorem dX7_comeWord_75 : decode cX7_comeWord 75 = .ok (.aload_n 0, 1) := by decide +kernel
theorem dX7_comeWord_76 : decode cX7_comeWord 76 = .ok (.getfield 76, 3) := by decide +kernel
theorem dX7_comeWord_79 : decode cX7_comeWord 79 = .ok (.bipush 8, 2) := by decide +kernel
theorem dX7_comeWord_81 : decode cX7_comeWord 81 = .ok (.lshl, 1) := by decide +kernel
theorem dX7_comeWord_82 : decode cX7_comeWord 82 = .ok (.iload_n 1, 1) := by decide +kernel
theorem dX7_comeWord_83 : decode cX7_comeWord 83 = .ok (.i2l, 1) := by decide +kernel
theorem dX7_comeWord_84 : decode cX7_comeWord 84 = .ok (.lor, 1) := by decide +kernel
theorem dX7_comeWord_85 : decode cX7_comeWord 85 = .ok (.putfield 76, 3) := by decide +kernel
theorem dX7_comeWord_88 : decode cX7_comeWord 88 = .ok (.aload_n 0, 1) := by decide +kernel
theorem dX7_comeWord_89 : decode cX7_comeWord 89 = .ok (.dup, 1) := by decide +kernel
theorem dX7_comeWord_90 : decode cX7_comeWord 90 = .ok (.getfield 22, 3) := by decide +kernel
theorem dX7_comeWord_93 : decode cX7_comeWord 93 = .ok (.iconst 1, 1) := by decide +kernel
theorem dX7_comeWord_94 : decode cX7_comeWord 94 = .ok (.iadd, 1) := by decide +kernel
theorem dX7_comeWord_95 : decode cX7_comeWord 95 = .ok (.putfield 22, 3) := by decide +kernel
theorem dX7_comeWord_98 : decode cX7_comeWord 98 = .ok (.goto (-93), 3) := by decide +kernel
theorem dX7_comeWord_101 : decode cX7_comeWord 101 = .ok (.aload_n 0, 1) := by decide +kernel
theorem dX7_comeWord_102 : decode cX7_comeWord 102 = .ok (.getfield 22, 3) := by decide +kernel
theorem dX7_comeWord_105 : decode cX7_comeWord 105 = .ok (.aload_n 0, 1) := by decide +kernel
theorem dX7_comeWord_106 : decode cX7_comeWord 106 = .ok (.getfield 31, 3) := by decide +kernel
theorem dX7_comeWord_109 : decode cX7_comeWord 109 = .ok (.isub, 1) := by decide +kernel
theorem dX7_comeWord_110 : decode cX7_comeWord 110 = .ok (.bipush 8, 2) := by decide +kernel
theorem dX7_comeWord_112 : decode cX7_comeWord 112 = .ok (.if_icmp .le 5, 3) := by decide +kernel
theorem dX7_comeWord_115 : decode cX7_comeWord 115 = .ok (.iconst (-1), 1) := by decide +kernel
theorem dX7_comeWord_116 : decode cX7_comeWord 116 = .ok (.ireturn, 1) := by decide +kernel
theorem dX7_comeWord_117 : decode cX7_comeWord 117 = .ok (.iconst 0, 1) := by decide +kernel
theorem dX7_comeWord_118 : decode cX7_comeWord 118 = .ok (.istore_n 1, 1) := by decide +kernel
theorem dX7_comeWord_119 : decode cX7_comeWord 119 = .ok (.iload_n 1, 1) := by decide +kernel
theorem dX7_comeWord_120 : decode cX7_comeWord 120 = .ok (.getstatic 79, 3) := by decide +kernel
theorem dX7_comeWord_123 : decode cX7_comeWord 123 = .ok (.arraylength, 1) := by decide +kernel
theorem dX7_comeWord_124 : decode cX7_comeWord 124 = .ok (.if_icmp .ge 27, 3) := by decide +kernel
theorem dX7_comeWord_127 : decode cX7_comeWord 127 = .ok (.getstatic 79, 3) := by decide +kernel
theorem dX7_comeWord_130 : decode cX7_comeWord 130 = .ok (.iload_n 1, 1) := by decide +kernel
theorem dX7_comeWord_131 : decode cX7_comeWord 131 = .ok (.laload, 1) := by decide +kernel
theorem dX7_comeWord_132 : decode cX7_comeWord 132 = .ok (.aload_n 0, 1) := by decide +kernel
theorem dX7_comeWord_133 : decode cX7_comeWord 133 = .ok (.getfield 76, 3) := by decide +kernel
theorem dX7_comeWord_136 : decode cX7_comeWord 136 = .ok (.lcmp, 1) := by decide +kernel
theorem dX7_comeWord_137 : decode cX7_comeWord 137 = .ok (.ifCond .ne 8, 3) := by decide +kernel
theorem dX7_comeWord_140 : decode cX7_comeWord 140 = .ok (.bipush 42, 2) := by decide +kernel
theorem dX7_comeWord_142 : decode cX7_comeWord 142 = .ok (.iload_n 1, 1) := by decide +kernel
theorem dX7_comeWord_143 : decode cX7_comeWord 143 = .ok (.iadd, 1) := by decide +kernel
theorem dX7_comeWord_144 : decode cX7_comeWord 144 = .ok (.ireturn, 1) := by decide +kernel
theorem dX7_comeWord_145 : decode cX7_comeWord 145 = .ok (.iinc 1 1, 3) := by decide +kernel
theorem dX7_comeWord_148 : decode cX7_comeWord 148 = .ok (.goto (-29), 3) := by decide +kernel
theorem dX7_comeWord_151 : decode cX7_comeWord 151 = .ok (.bipush 40, 2) := by decide +kernel
theorem dX7_comeWord_153 : decode cX7_comeWord 153 = .ok (.ireturn, 1) := by decide +kernel
theorem dX7_kindOfPair_0 : decode cX7_kindOfPair 0 = .ok (.iload_n 1, 1) := by decide +kernel
theorem dX7_kindOfPair_1 : decode cX7_kindOfPair 1 = .ok (.bipush 61, 2) := by decide +kernel
theorem dX7_kindOfPair_3 : decode cX7_kindOfPair 3 = .ok (.if_icmp .ne 59, 3) := by decide +kernel
theorem dX7_kindOfPair_6 : decode cX7_kindOfPair 6 = .ok (.iload_n 0, 1) := by decide +kernel
theorem dX7_kindOfPair_7 : decode cX7_kindOfPair 7 = .ok (.lookupswitch 53 #[(33, 44), (60, 47), (61, 41), (62, 50)], 41) := by decide +kernel
theorem dX7_kindOfPair_48 : decode cX7_kindOfPair 48 = .ok (.bipush 13, 2) := by decide +kernel
theorem dX7_kindOfPair_50 : decode cX7_kindOfPair 50 = .ok (.ireturn, 1) := by decide +kernel
theorem dX7_kindOfPair_51 : decode cX7_kindOfPair 51 = .ok (.bipush 14, 2) := by decide +kernel
theorem dX7_kindOfPair_53 : decode cX7_kindOfPair 53 = .ok (.ireturn, 1) := by decide +kernel
theorem dX7_kindOfPair_54 : decode cX7_kindOfPair 54 = .ok (.bipush 16, 2) := by decide +kernel
theorem dX7_kindOfPair_56 : decode cX7_kindOfPair 56 = .ok (.ireturn, 1) := by decide +kernel
theorem dX7_kindOfPair_57 : decode cX7_kindOfPair 57 = .ok (.bipush 18, 2) := by decide +kernel
theorem dX7_kindOfPair_59 : decode cX7_kindOfPair 59 = .ok (.ireturn, 1) := by decide +kernel
theorem dX7_kindOfPair_60 : decode cX7_kindOfPair 60 = .ok (.iconst (-1), 1) := by decide +kernel
theorem dX7_kindOfPair_61 : decode cX7_kindOfPair 61 = .ok (.ireturn, 1) := by decide +kernel
theorem dX7_kindOfPair_62 : decode cX7_kindOfPair 62 = .ok (.iload_n 0, 1) := by decide +kernel
theorem dX7_kindOfPair_63 : decode cX7_kindOfPair 63 = .ok (.iload_n 1, 1) := by decide +kernel
theorem dX7_kindOfPair_64 : decode cX7_kindOfPair 64 = .ok (.if_icmp .eq 5, 3) := by decide +kernel
theorem dX7_kindOfPair_67 : decode cX7_kindOfPair 67 = .ok (.iconst (-1), 1) := by decide +kernel
theorem dX7_kindOfPair_68 : decode cX7_kindOfPair 68 = .ok (.ireturn, 1) := by decide +kernel
theorem dX7_kindOfPair_69 : decode cX7_kindOfPair 69 = .ok (.iload_n 0, 1) := by decide +kernel
theorem dX7_kindOfPair_70 : decode cX7_kindOfPair 70 = .ok (.lookupswitch 54 #[(38, 45), (60, 48), (62, 51), (124, 42)], 42) := by decide +kernel
theorem dX7_kindOfPair_112 : decode cX7_kindOfPair 112 = .ok (.bipush 9, 2) := by decide +kernel
theorem dX7_kindOfPair_114 : decode cX7_kindOfPair 114 = .ok (.ireturn, 1) := by decide +kernel
theorem dX7_kindOfPair_115 : decode cX7_kindOfPair 115 = .ok (.bipush 8, 2) := by decide +kernel
theorem dX7_kindOfPair_117 : decode cX7_kindOfPair 117 = .ok (.ireturn, 1) := by decide +kernel
theorem dX7_kindOfPair_118 : decode cX7_kindOfPair 118 = .ok (.bipush 19, 2) := by decide +kernel
theorem dX7_kindOfPair_120 : decode cX7_kindOfPair 120 = .ok (.ireturn, 1) := by decide +kernel
theorem dX7_kindOfPair_121 : decode cX7_kindOfPair 121 = .ok (.bipush 20, 2) := by decide +kernel
theorem dX7_kindOfPair_123 : decode cX7_kindOfPair 123 = .ok (.ireturn, 1) := by decide +kernel
theorem dX7_kindOfPair_124 : decode cX7_kindOfPair 124 = .ok (.iconst (-1), 1) := by decide +kernel
theorem dX7_kindOfPair_125 : decode cX7_kindOfPair 125 = .ok (.ireturn, 1) := by decide +kernel
theorem dX7_kindOfSign_0 : decode cX7_kindOfSign 0 = .ok (.iload_n 0, 1) := by decide +kernel
theorem dX7_kindOfSign_1 : decode cX7_kindOfSign 1 = .ok (.tableswitch 454 33 126 #[448, 454, 454, 454, 445, 424, 454, 391, 394, 439, 433, 409, 436, 454, 442, 454, 454, 454, 454, 454, 454, 454, 454, 454, 454, 454, 412, 427, 415, 430, 454, 454, 454, 454, 454, 454, 454, 454, 454, 454, 454, 454, 454, 454, 454, 454, 454, 454, 454, 454, 454, 454, 454, 454, 454, 454, 454, 454, 403, 454, 406, 421, 454, 454, 454, 454, 454, 454, 454, 454, 454, 454, 454, 454, 454, 454, 454, 454, 454, 454, 454, 454, 454, 454, 454, 454, 454, 454, 454, 454, 397, 418, 400, 451], 391) := by decide +kernel
theorem dX7_kindOfSign_392 : decode cX7_kindOfSign 392 = .ok (.bipush 49, 2) := by decide +kernel
theorem dX7_kindOfSign_394 : decode cX7_kindOfSign 394 = .ok (.ireturn, 1) := by decide +kernel
theorem dX7_kindOfSign_395 : decode cX7_kindOfSign 395 = .ok (.bipush 50, 2) := by decide +kernel
theorem dX7_kindOfSign_397 : decode cX7_kindOfSign 397 = .ok (.ireturn, 1) := by decide +kernel
theorem dX7_kindOfSign_398 : decode cX7_kindOfSign 398 = .ok (.bipush 51, 2) := by decide +kernel
theorem dX7_kindOfSign_400 : decode cX7_kindOfSign 400 = .ok (.ireturn, 1) := by decide +kernel
theorem dX7_kindOfSign_401 : decode cX7_kindOfSign 401 = .ok (.bipush 52, 2) := by decide +kernel
theorem dX7_kindOfSign_403 : decode cX7_kindOfSign 403 = .ok (.ireturn, 1) := by decide +kernel
theorem dX7_kindOfSign_404 : decode cX7_kindOfSign 404 = .ok (.bipush 53, 2) := by decide +kernel
theorem dX7_kindOfSign_406 : decode cX7_kindOfSign 406 = .ok (.ireturn, 1) := by decide +kernel
theorem dX7_kindOfSign_407 : decode cX7_kindOfSign 407 = .ok (.bipush 54, 2) := by decide +kernel
theorem dX7_kindOfSign_409 : decode cX7_kindOfSign 409 = .ok (.ireturn, 1) := by decide +kernel
theorem dX7_kindOfSign_410 : decode cX7_kindOfSign 410 = .ok (.bipush 55, 2) := by decide +kernel
theorem dX7_kindOfSign_412 : decode cX7_kindOfSign 412 = .ok (.ireturn, 1) := by decide +kernel
theorem dX7_kindOfSign_413 : decode cX7_kindOfSign 413 = .ok (.bipush 56, 2) := by decide +kernel
theorem dX7_kindOfSign_415 : decode cX7_kindOfSign 415 = .ok (.ireturn, 1) := by decide +kernel
theorem dX7_kindOfSign_416 : decode cX7_kindOfSign 416 = .ok (.bipush 57, 2) := by decide +kernel
theorem dX7_kindOfSign_418 : decode cX7_kindOfSign 418 = .ok (.ireturn, 1) := by decide +kernel
theorem dX7_kindOfSign_419 : decode cX7_kindOfSign 419 = .ok (.bipush 10, 2) := by decide +kernel
theorem dX7_kindOfSign_421 : decode cX7_kindOfSign 421 = .ok (.ireturn, 1) := by decide +kernel
theorem dX7_kindOfSign_422 : decode cX7_kindOfSign 422 = .ok (.bipush 11, 2) := by decide +kernel
theorem dX7_kindOfSign_424 : decode cX7_kindOfSign 424 = .ok (.ireturn, 1) := by decide +kernel
theorem dX7_kindOfSign_425 : decode cX7_kindOfSign 425 = .ok (.bipush 12, 2) := by decide +kernel
theorem dX7_kindOfSign_427 : decode cX7_kindOfSign 427 = .ok (.ireturn, 1) := by decide +kernel
theorem dX7_kindOfSign_428 : decode cX7_kindOfSign 428 = .ok (.bipush 15, 2) := by decide +kernel
theorem dX7_kindOfSign_430 : decode cX7_kindOfSign 430 = .ok (.ireturn, 1) := by decide +kernel
theorem dX7_kindOfSign_431 : decode cX7_kindOfSign 431 = .ok (.bipush 17, 2) := by decide +kernel
theorem dX7_kindOfSign_433 : decode cX7_kindOfSign 433 = .ok (.ireturn, 1) := by decide +kernel
theorem dX7_kindOfSign_434 : decode cX7_kindOfSign 434 = .ok (.bipush 21, 2) := by decide +kernel
theorem dX7_kindOfSign_436 : decode cX7_kindOfSign 436 = .ok (.ireturn, 1) := by decide +kernel
theorem dX7_kindOfSign_437 : decode cX7_kindOfSign 437 = .ok (.bipush 22, 2) := by decide +kernel
theorem dX7_kindOfSign_439 : decode cX7_kindOfSign 439 = .ok (.ireturn, 1) := by decide +kernel
theorem dX7_kindOfSign_440 : decode cX7_kindOfSign 440 = .ok (.bipush 23, 2) := by decide +kernel
theorem dX7_kindOfSign_442 : decode cX7_kindOfSign 442 = .ok (.ireturn, 1) := by decide +kernel
theorem dX7_kindOfSign_443 : decode cX7_kindOfSign 443 = .ok (.bipush 27, 2) := by decide +kernel
theorem dX7_kindOfSign_445 : decode cX7_kindOfSign 445 = .ok (.ireturn, 1) := by decide +kernel
theorem dX7_kindOfSign_446 : decode cX7_kindOfSign 446 = .ok (.bipush 28, 2) := by decide +kernel
theorem dX7_kindOfSign_448 : decode cX7_kindOfSign 448 = .ok (.ireturn, 1) := by decide +kernel
theorem dX7_kindOfSign_449 : decode cX7_kindOfSign 449 = .ok (.bipush 25, 2) := by decide +kernel
theorem dX7_kindOfSign_451 : decode cX7_kindOfSign 451 = .ok (.ireturn, 1) := by decide +kernel
theorem dX7_kindOfSign_452 : decode cX7_kindOfSign 452 = .ok (.bipush 26, 2) := by decide +kernel
theorem dX7_kindOfSign_454 : decode cX7_kindOfSign 454 = .ok (.ireturn, 1) := by decide +kernel
theorem dX7_kindOfSign_455 : decode cX7_kindOfSign 455 = .ok (.iconst (-1), 1) := by decide +kernel
theorem dX7_kindOfSign_456 : decode cX7_kindOfSign 456 = .ok (.ireturn, 1) := by decide +kernel
theorem dX7_isDigit_0 : decode cX7_isDigit 0 = .ok (.iload_n 0, 1) := by decide +kernel
theorem dX7_isDigit_1 : decode cX7_isDigit 1 = .ok (.bipush 48, 2) := by decide +kernel
theorem dX7_isDigit_3 : decode cX7_isDigit 3 = .ok (.if_icmp .lt 13, 3) := by decide +kernel
theorem dX7_isDigit_6 : decode cX7_isDigit 6 = .ok (.iload_n 0, 1) := by decide +kernel
theorem dX7_isDigit_7 : decode cX7_isDigit 7 = .ok (.bipush 57, 2) := by decide +kernel
theorem dX7_isDigit_9 : decode cX7_isDigit 9 = .ok (.if_icmp .gt 7, 3) := by decide +kernel
theorem dX7_isDigit_12 : decode cX7_isDigit 12 = .ok (.iconst 1, 1) := by decide +kernel
theorem dX7_isDigit_13 : decode cX7_isDigit 13 = .ok (.goto 4, 3) := by decide +kernel
theorem dX7_isDigit_16 : decode cX7_isDigit 16 = .ok (.iconst 0, 1) := by decide +kernel
theorem dX7_isDigit_17 : decode cX7_isDigit 17 = .ok (.ireturn, 1) := by decide +kernel
theorem dX7_isLetter_0 : decode cX7_isLetter 0 = .ok (.iload_n 0, 1) := by decide +kernel
theorem dX7_isLetter_1 : decode cX7_isLetter 1 = .ok (.bipush 97, 2) := by decide +kernel
theorem dX7_isLetter_3 : decode cX7_isLetter 3 = .ok (.if_icmp .lt 9, 3) := by decide +kernel
theorem dX7_isLetter_6 : decode cX7_isLetter 6 = .ok (.iload_n 0, 1) := by decide +kernel
theorem dX7_isLetter_7 : decode cX7_isLetter 7 = .ok (.bipush 122, 2) := by decide +kernel
theorem dX7_isLetter_9 : decode cX7_isLetter 9 = .ok (.if_icmp .le 21, 3) := by decide +kernel
theorem dX7_isLetter_12 : decode cX7_isLetter 12 = .ok (.iload_n 0, 1) := by decide +kernel
theorem dX7_isLetter_13 : decode cX7_isLetter 13 = .ok (.bipush 65, 2) := by decide +kernel
theorem dX7_isLetter_15 : decode cX7_isLetter 15 = .ok (.if_icmp .lt 9, 3) := by decide +kernel
theorem dX7_isLetter_18 : decode cX7_isLetter 18 = .ok (.iload_n 0, 1) := by decide +kernel
theorem dX7_isLetter_19 : decode cX7_isLetter 19 = .ok (.bipush 90, 2) := by decide +kernel
theorem dX7_isLetter_21 : decode cX7_isLetter 21 = .ok (.if_icmp .le 9, 3) := by decide +kernel
theorem dX7_isLetter_24 : decode cX7_isLetter 24 = .ok (.iload_n 0, 1) := by decide +kernel
theorem dX7_isLetter_25 : decode cX7_isLetter 25 = .ok (.bipush 95, 2) := by decide +kernel
theorem dX7_isLetter_27 : decode cX7_isLetter 27 = .ok (.if_icmp .ne 7, 3) := by decide +kernel
theorem dX7_isLetter_30 : decode cX7_isLetter 30 = .ok (.iconst 1, 1) := by decide +kernel
theorem dX7_isLetter_31 : decode cX7_isLetter 31 = .ok (.goto 4, 3) := by decide +kernel
theorem dX7_isLetter_34 : decode cX7_isLetter 34 = .ok (.iconst 0, 1) := by decide +kernel
theorem dX7_isLetter_35 : decode cX7_isLetter 35 = .ok (.ireturn, 1) := by decide +kernel
theorem dX8_init_0 : decode cX8_init 0 = .ok (.aload_n 0, 1) := by decide +kernel
theorem dX8_init_1 : decode cX8_init 1 = .ok (.invokespecial 1, 3) := by decide +kernel
theorem dX8_init_4 : decode cX8_init 4 = .ok (.aload_n 0, 1) := by decide +kernel
theorem dX8_init_5 : decode cX8_init 5 = .ok (.iload_n 1, 1) := by decide +kernel
theorem dX8_init_6 : decode cX8_init 6 = .ok (.newarray .int, 2) := by decide +kernel
theorem dX8_init_8 : decode cX8_init 8 = .ok (.putfield 7, 3) := by decide +kernel
theorem dX8_init_11 : decode cX8_init 11 = .ok (.aload_n 0, 1) := by decide +kernel
theorem dX8_init_12 : decode cX8_init 12 = .ok (.iload_n 1, 1) := by decide +kernel
theorem dX8_init_13 : decode cX8_init 13 = .ok (.newarray .int, 2) := by decide +kernel
theorem dX8_init_15 : decode cX8_init 15 = .ok (.putfield 13, 3) := by decide +kernel
theorem dX8_init_18 : decode cX8_init 18 = .ok (.return_, 1) := by decide +kernel
theorem dX8_putInput_0 : decode cX8_putInput 0 = .ok (.aload_n 0, 1) := by decide +kernel
theorem dX8_putInput_1 : decode cX8_putInput 1 = .ok (.getfield 16, 3) := by decide +kernel
theorem dX8_putInput_4 : decode cX8_putInput 4 = .ok (.aload_n 0, 1) := by decide +kernel
theorem dX8_putInput_5 : decode cX8_putInput 5 = .ok (.getfield 7, 3) := by decide +kernel
theorem dX8_putInput_8 : decode cX8_putInput 8 = .ok (.arraylength, 1) := by decide +kernel
theorem dX8_putInput_9 : decode cX8_putInput 9 = .ok (.if_icmp .lt 5, 3) := by decide +kernel
theorem dX8_putInput_12 : decode cX8_putInput 12 = .ok (.iconst 0, 1) := by decide +kernel
theorem dX8_putInput_13 : decode cX8_putInput 13 = .ok (.ireturn, 1) := by decide +kernel
theorem dX8_putInput_14 : decode cX8_putInput 14 = .ok (.aload_n 0, 1) := by decide +kernel
theorem dX8_putInput_15 : decode cX8_putInput 15 = .ok (.getfield 7, 3) := by decide +kernel
theorem dX8_putInput_18 : decode cX8_putInput 18 = .ok (.aload_n 0, 1) := by decide +kernel
theorem dX8_putInput_19 : decode cX8_putInput 19 = .ok (.getfield 16, 3) := by decide +kernel
theorem dX8_putInput_22 : decode cX8_putInput 22 = .ok (.iload_n 1, 1) := by decide +kernel
theorem dX8_putInput_23 : decode cX8_putInput 23 = .ok (.iastore, 1) := by decide +kernel
theorem dX8_putInput_24 : decode cX8_putInput 24 = .ok (.aload_n 0, 1) := by decide +kernel
theorem dX8_putInput_25 : decode cX8_putInput 25 = .ok (.dup, 1) := by decide +kernel
theorem dX8_putInput_26 : decode cX8_putInput 26 = .ok (.getfield 16, 3) := by decide +kernel
theorem dX8_putInput_29 : decode cX8_putInput 29 = .ok (.iconst 1, 1) := by decide +kernel
theorem dX8_putInput_30 : decode cX8_putInput 30 = .ok (.iadd, 1) := by decide +kernel
theorem dX8_putInput_31 : decode cX8_putInput 31 = .ok (.putfield 16, 3) := by decide +kernel
theorem dX8_putInput_34 : decode cX8_putInput 34 = .ok (.iconst 1, 1) := by decide +kernel
theorem dX8_putInput_35 : decode cX8_putInput 35 = .ok (.ireturn, 1) := by decide +kernel
theorem dX8_hasInput_0 : decode cX8_hasInput 0 = .ok (.aload_n 0, 1) := by decide +kernel
theorem dX8_hasInput_1 : decode cX8_hasInput 1 = .ok (.getfield 20, 3) := by decide +kernel
theorem dX8_hasInput_4 : decode cX8_hasInput 4 = .ok (.aload_n 0, 1) := by decide +kernel
theorem dX8_hasInput_5 : decode cX8_hasInput 5 = .ok (.getfield 16, 3) := by decide +kernel
theorem dX8_hasInput_8 : decode cX8_hasInput 8 = .ok (.if_icmp .ge 19, 3) := by decide +kernel
theorem dX8_hasInput_11 : decode cX8_hasInput 11 = .ok (.aload_n 0, 1) := by decide +kernel
theorem dX8_hasInput_12 : decode cX8_hasInput 12 = .ok (.getfield 20, 3) := by decide +kernel
theorem dX8_hasInput_15 : decode cX8_hasInput 15 = .ok (.aload_n 0, 1) := by decide +kernel
theorem dX8_hasInput_16 : decode cX8_hasInput 16 = .ok (.getfield 7, 3) := by decide +kernel
theorem dX8_hasInput_19 : decode cX8_hasInput 19 = .ok (.arraylength, 1) := by decide +kernel
theorem dX8_hasInput_20 : decode cX8_hasInput 20 = .ok (.if_icmp .ge 7, 3) := by decide +kernel
theorem dX8_hasInput_23 : decode cX8_hasInput 23 = .ok (.iconst 1, 1) := by decide +kernel
theorem dX8_hasInput_24 : decode cX8_hasInput 24 = .ok (.goto 4, 3) := by decide +kernel
theorem dX8_hasInput_27 : decode cX8_hasInput 27 = .ok (.iconst 0, 1) := by decide +kernel
theorem dX8_hasInput_28 : decode cX8_hasInput 28 = .ok (.ireturn, 1) := by decide +kernel
theorem dX8_nextInput_0 : decode cX8_nextInput 0 = .ok (.aload_n 0, 1) := by decide +kernel
theorem dX8_nextInput_1 : decode cX8_nextInput 1 = .ok (.getfield 20, 3) := by decide +kernel
theorem dX8_nextInput_4 : decode cX8_nextInput 4 = .ok (.aload_n 0, 1) := by decide +kernel
theorem dX8_nextInput_5 : decode cX8_nextInput 5 = .ok (.getfield 16, 3) := by decide +kernel
theorem dX8_nextInput_8 : decode cX8_nextInput 8 = .ok (.if_icmp .ge 15, 3) := by decide +kernel
theorem dX8_nextInput_11 : decode cX8_nextInput 11 = .ok (.aload_n 0, 1) := by decide +kernel
theorem dX8_nextInput_12 : decode cX8_nextInput 12 = .ok (.getfield 20, 3) := by decide +kernel
theorem dX8_nextInput_15 : decode cX8_nextInput 15 = .ok (.aload_n 0, 1) := by decide +kernel
theorem dX8_nextInput_16 : decode cX8_nextInput 16 = .ok (.getfield 7, 3) := by decide +kernel
theorem dX8_nextInput_19 : decode cX8_nextInput 19 = .ok (.arraylength, 1) := by decide +kernel
theorem dX8_nextInput_20 : decode cX8_nextInput 20 = .ok (.if_icmp .lt 5, 3) := by decide +kernel
theorem dX8_nextInput_23 : decode cX8_nextInput 23 = .ok (.iconst 0, 1) := by decide +kernel
theorem dX8_nextInput_24 : decode cX8_nextInput 24 = .ok (.ireturn, 1) := by decide +kernel
theorem dX8_nextInput_25 : decode cX8_nextInput 25 = .ok (.aload_n 0, 1) := by decide +kernel
theorem dX8_nextInput_26 : decode cX8_nextInput 26 = .ok (.dup, 1) := by decide +kernel
theorem dX8_nextInput_27 : decode cX8_nextInput 27 = .ok (.getfield 20, 3) := by decide +kernel
theorem dX8_nextInput_30 : decode cX8_nextInput 30 = .ok (.iconst 1, 1) := by decide +kernel
theorem dX8_nextInput_31 : decode cX8_nextInput 31 = .ok (.iadd, 1) := by decide +kernel
theorem dX8_nextInput_32 : decode cX8_nextInput 32 = .ok (.putfield 20, 3) := by decide +kernel
theorem dX8_nextInput_35 : decode cX8_nextInput 35 = .ok (.aload_n 0, 1) := by decide +kernel
theorem dX8_nextInput_36 : decode cX8_nextInput 36 = .ok (.getfield 7, 3) := by decide +kernel
theorem dX8_nextInput_39 : decode cX8_nextInput 39 = .ok (.aload_n 0, 1) := by decide +kernel
theorem dX8_nextInput_40 : decode cX8_nextInput 40 = .ok (.getfield 20, 3) := by decide +kernel
theorem dX8_nextInput_43 : decode cX8_nextInput 43 = .ok (.iconst 1, 1) := by decide +kernel
theorem dX8_nextInput_44 : decode cX8_nextInput 44 = .ok (.isub, 1) := by decide +kernel
theorem dX8_nextInput_45 : decode cX8_nextInput 45 = .ok (.iaload, 1) := by decide +kernel
theorem dX8_nextInput_46 : decode cX8_nextInput 46 = .ok (.ireturn, 1) := by decide +kernel
theorem dX8_putOutput_0 : decode cX8_putOutput 0 = .ok (.aload_n 0, 1) := by decide +kernel
theorem dX8_putOutput_1 : decode cX8_putOutput 1 = .ok (.getfield 23, 3) := by decide +kernel
theorem dX8_putOutput_4 : decode cX8_putOutput 4 = .ok (.aload_n 0, 1) := by decide +kernel
theorem dX8_putOutput_5 : decode cX8_putOutput 5 = .ok (.getfield 13, 3) := by decide +kernel
theorem dX8_putOutput_8 : decode cX8_putOutput 8 = .ok (.arraylength, 1) := by decide +kernel
theorem dX8_putOutput_9 : decode cX8_putOutput 9 = .ok (.if_icmp .lt 5, 3) := by decide +kernel
theorem dX8_putOutput_12 : decode cX8_putOutput 12 = .ok (.iconst 0, 1) := by decide +kernel
theorem dX8_putOutput_13 : decode cX8_putOutput 13 = .ok (.ireturn, 1) := by decide +kernel
theorem dX8_putOutput_14 : decode cX8_putOutput 14 = .ok (.aload_n 0, 1) := by decide +kernel
theorem dX8_putOutput_15 : decode cX8_putOutput 15 = .ok (.getfield 13, 3) := by decide +kernel
theorem dX8_putOutput_18 : decode cX8_putOutput 18 = .ok (.aload_n 0, 1) := by decide +kernel
theorem dX8_putOutput_19 : decode cX8_putOutput 19 = .ok (.getfield 23, 3) := by decide +kernel
theorem dX8_putOutput_22 : decode cX8_putOutput 22 = .ok (.iload_n 1, 1) := by decide +kernel
theorem dX8_putOutput_23 : decode cX8_putOutput 23 = .ok (.iastore, 1) := by decide +kernel
theorem dX8_putOutput_24 : decode cX8_putOutput 24 = .ok (.aload_n 0, 1) := by decide +kernel
theorem dX8_putOutput_25 : decode cX8_putOutput 25 = .ok (.dup, 1) := by decide +kernel
theorem dX8_putOutput_26 : decode cX8_putOutput 26 = .ok (.getfield 23, 3) := by decide +kernel
theorem dX8_putOutput_29 : decode cX8_putOutput 29 = .ok (.iconst 1, 1) := by decide +kernel
theorem dX8_putOutput_30 : decode cX8_putOutput 30 = .ok (.iadd, 1) := by decide +kernel
theorem dX8_putOutput_31 : decode cX8_putOutput 31 = .ok (.putfield 23, 3) := by decide +kernel
theorem dX8_putOutput_34 : decode cX8_putOutput 34 = .ok (.iconst 1, 1) := by decide +kernel
theorem dX8_putOutput_35 : decode cX8_putOutput 35 = .ok (.ireturn, 1) := by decide +kernel
theorem dX8_outputAt_0 : decode cX8_outputAt 0 = .ok (.iload_n 1, 1) := by decide +kernel
theorem dX8_outputAt_1 : decode cX8_outputAt 1 = .ok (.ifCond .lt 29, 3) := by decide +kernel
theorem dX8_outputAt_4 : decode cX8_outputAt 4 = .ok (.iload_n 1, 1) := by decide +kernel
theorem dX8_outputAt_5 : decode cX8_outputAt 5 = .ok (.aload_n 0, 1) := by decide +kernel
theorem dX8_outputAt_6 : decode cX8_outputAt 6 = .ok (.getfield 23, 3) := by decide +kernel
theorem dX8_outputAt_9 : decode cX8_outputAt 9 = .ok (.if_icmp .ge 21, 3) := by decide +kernel
theorem dX8_outputAt_12 : decode cX8_outputAt 12 = .ok (.iload_n 1, 1) := by decide +kernel
theorem dX8_outputAt_13 : decode cX8_outputAt 13 = .ok (.aload_n 0, 1) := by decide +kernel
theorem dX8_outputAt_14 : decode cX8_outputAt 14 = .ok (.getfield 13, 3) := by decide +kernel
theorem dX8_outputAt_17 : decode cX8_outputAt 17 = .ok (.arraylength, 1) := by decide +kernel
theorem dX8_outputAt_18 : decode cX8_outputAt 18 = .ok (.if_icmp .ge 12, 3) := by decide +kernel
theorem dX8_outputAt_21 : decode cX8_outputAt 21 = .ok (.aload_n 0, 1) := by decide +kernel
theorem dX8_outputAt_22 : decode cX8_outputAt 22 = .ok (.getfield 13, 3) := by decide +kernel
theorem dX8_outputAt_25 : decode cX8_outputAt 25 = .ok (.iload_n 1, 1) := by decide +kernel
theorem dX8_outputAt_26 : decode cX8_outputAt 26 = .ok (.iaload, 1) := by decide +kernel
theorem dX8_outputAt_27 : decode cX8_outputAt 27 = .ok (.goto 4, 3) := by decide +kernel
theorem dX8_outputAt_30 : decode cX8_outputAt 30 = .ok (.iconst (-1), 1) := by decide +kernel
theorem dX8_outputAt_31 : decode cX8_outputAt 31 = .ok (.ireturn, 1) := by decide +kernel
theorem dX8_rewind_0 : decode cX8_rewind 0 = .ok (.aload_n 0, 1) := by decide +kernel
theorem dX8_rewind_1 : decode cX8_rewind 1 = .ok (.iconst 0, 1) := by decide +kernel
theorem dX8_rewind_2 : decode cX8_rewind 2 = .ok (.putfield 20, 3) := by decide +kernel
theorem dX8_rewind_5 : decode cX8_rewind 5 = .ok (.aload_n 0, 1) := by decide +kernel
theorem dX8_rewind_6 : decode cX8_rewind 6 = .ok (.iconst 0, 1) := by decide +kernel
theorem dX8_rewind_7 : decode cX8_rewind 7 = .ok (.putfield 23, 3) := by decide +kernel
theorem dX8_rewind_10 : decode cX8_rewind 10 = .ok (.return_, 1) := by decide +kernel
theorem dX9_init_0 : decode cX9_init 0 = .ok (.aload_n 0, 1) := by decide +kernel
theorem dX9_init_1 : decode cX9_init 1 = .ok (.invokespecial 1, 3) := by decide +kernel
theorem dX9_init_4 : decode cX9_init 4 = .ok (.aload_n 0, 1) := by decide +kernel
theorem dX9_init_5 : decode cX9_init 5 = .ok (.iload_n 1, 1) := by decide +kernel
theorem dX9_init_6 : decode cX9_init 6 = .ok (.newarray .int, 2) := by decide +kernel
theorem dX9_init_8 : decode cX9_init 8 = .ok (.putfield 7, 3) := by decide +kernel
theorem dX9_init_11 : decode cX9_init 11 = .ok (.aload_n 0, 1) := by decide +kernel
theorem dX9_init_12 : decode cX9_init 12 = .ok (.iload_n 1, 1) := by decide +kernel
theorem dX9_init_13 : decode cX9_init 13 = .ok (.newarray .int, 2) := by decide +kernel
theorem dX9_init_15 : decode cX9_init 15 = .ok (.putfield 13, 3) := by decide +kernel
theorem dX9_init_18 : decode cX9_init 18 = .ok (.aload_n 0, 1) := by decide +kernel
theorem dX9_init_19 : decode cX9_init 19 = .ok (.iload_n 1, 1) := by decide +kernel
theorem dX9_init_20 : decode cX9_init 20 = .ok (.newarray .int, 2) := by decide +kernel
theorem dX9_init_22 : decode cX9_init 22 = .ok (.putfield 16, 3) := by decide +kernel
theorem dX9_init_25 : decode cX9_init 25 = .ok (.aload_n 0, 1) := by decide +kernel
theorem dX9_init_26 : decode cX9_init 26 = .ok (.iload_n 1, 1) := by decide +kernel
theorem dX9_init_27 : decode cX9_init 27 = .ok (.newarray .int, 2) := by decide +kernel
theorem dX9_init_29 : decode cX9_init 29 = .ok (.putfield 19, 3) := by decide +kernel
theorem dX9_init_32 : decode cX9_init 32 = .ok (.aload_n 0, 1) := by decide +kernel
theorem dX9_init_33 : decode cX9_init 33 = .ok (.iload_n 1, 1) := by decide +kernel
theorem dX9_init_34 : decode cX9_init 34 = .ok (.newarray .int, 2) := by decide +kernel
theorem dX9_init_36 : decode cX9_init 36 = .ok (.putfield 22, 3) := by decide +kernel
theorem dX9_init_39 : decode cX9_init 39 = .ok (.aload_n 0, 1) := by decide +kernel
theorem dX9_init_40 : decode cX9_init 40 = .ok (.iload_n 1, 1) := by decide +kernel
theorem dX9_init_41 : decode cX9_init 41 = .ok (.newarray .int, 2) := by decide +kernel
theorem dX9_init_43 : decode cX9_init 43 = .ok (.putfield 25, 3) := by decide +kernel
theorem dX9_init_46 : decode cX9_init 46 = .ok (.return_, 1) := by decide +kernel
theorem dX9_add_0 : decode cX9_add 0 = .ok (.aload_n 0, 1) := by decide +kernel
theorem dX9_add_1 : decode cX9_add 1 = .ok (.getfield 28, 3) := by decide +kernel
theorem dX9_add_4 : decode cX9_add 4 = .ok (.aload_n 0, 1) := by decide +kernel
theorem dX9_add_5 : decode cX9_add 5 = .ok (.getfield 7, 3) := by decide +kernel
theorem dX9_add_8 : decode cX9_add 8 = .ok (.arraylength, 1) := by decide +kernel
theorem dX9_add_9 : decode cX9_add 9 = .ok (.if_icmp .lt 5, 3) := by decide +kernel
theorem dX9_add_12 : decode cX9_add 12 = .ok (.iconst (-1), 1) := by decide +kernel
theorem dX9_add_13 : decode cX9_add 13 = .ok (.ireturn, 1) := by decide +kernel
theorem dX9_add_14 : decode cX9_add 14 = .ok (.aload_n 0, 1) := by decide +kernel
theorem dX9_add_15 : decode cX9_add 15 = .ok (.getfield 7, 3) := by decide +kernel
theorem dX9_add_18 : decode cX9_add 18 = .ok (.aload_n 0, 1) := by decide +kernel
theorem dX9_add_19 : decode cX9_add 19 = .ok (.getfield 28, 3) := by decide +kernel
theorem dX9_add_22 : decode cX9_add 22 = .ok (.iload_n 1, 1) := by decide +kernel
theorem dX9_add_23 : decode cX9_add 23 = .ok (.iastore, 1) := by decide +kernel
theorem dX9_add_24 : decode cX9_add 24 = .ok (.aload_n 0, 1) := by decide +kernel
theorem dX9_add_25 : decode cX9_add 25 = .ok (.getfield 13, 3) := by decide +kernel
theorem dX9_add_28 : decode cX9_add 28 = .ok (.aload_n 0, 1) := by decide +kernel
theorem dX9_add_29 : decode cX9_add 29 = .ok (.getfield 28, 3) := by decide +kernel
theorem dX9_add_32 : decode cX9_add 32 = .ok (.iload_n 2, 1) := by decide +kernel
theorem dX9_add_33 : decode cX9_add 33 = .ok (.iastore, 1) := by decide +kernel
theorem dX9_add_34 : decode cX9_add 34 = .ok (.aload_n 0, 1) := by decide +kernel
theorem dX9_add_35 : decode cX9_add 35 = .ok (.getfield 16, 3) := by decide +kernel
theorem dX9_add_38 : decode cX9_add 38 = .ok (.aload_n 0, 1) := by decide +kernel
theorem dX9_add_39 : decode cX9_add 39 = .ok (.getfield 28, 3) := by decide +kernel
theorem dX9_add_42 : decode cX9_add 42 = .ok (.iload_n 3, 1) := by decide +kernel
theorem dX9_add_43 : decode cX9_add 43 = .ok (.iastore, 1) := by decide +kernel
theorem dX9_add_44 : decode cX9_add 44 = .ok (.aload_n 0, 1) := by decide +kernel
theorem dX9_add_45 : decode cX9_add 45 = .ok (.getfield 19, 3) := by decide +kernel
theorem dX9_add_48 : decode cX9_add 48 = .ok (.aload_n 0, 1) := by decide +kernel
theorem dX9_add_49 : decode cX9_add 49 = .ok (.getfield 28, 3) := by decide +kernel
theorem dX9_add_52 : decode cX9_add 52 = .ok (.iload 4, 2) := by decide +kernel
theorem dX9_add_54 : decode cX9_add 54 = .ok (.iastore, 1) := by decide +kernel
theorem dX9_add_55 : decode cX9_add 55 = .ok (.aload_n 0, 1) := by decide +kernel
theorem dX9_add_56 : decode cX9_add 56 = .ok (.getfield 22, 3) := by decide +kernel
theorem dX9_add_59 : decode cX9_add 59 = .ok (.aload_n 0, 1) := by decide +kernel
theorem dX9_add_60 : decode cX9_add 60 = .ok (.getfield 28, 3) := by decide +kernel
theorem dX9_add_63 : decode cX9_add 63 = .ok (.iconst (-1), 1) := by decide +kernel
theorem dX9_add_64 : decode cX9_add 64 = .ok (.iastore, 1) := by decide +kernel
theorem dX9_add_65 : decode cX9_add 65 = .ok (.aload_n 0, 1) := by decide +kernel
theorem dX9_add_66 : decode cX9_add 66 = .ok (.getfield 25, 3) := by decide +kernel
theorem dX9_add_69 : decode cX9_add 69 = .ok (.aload_n 0, 1) := by decide +kernel
theorem dX9_add_70 : decode cX9_add 70 = .ok (.getfield 28, 3) := by decide +kernel
theorem dX9_add_73 : decode cX9_add 73 = .ok (.iconst (-1), 1) := by decide +kernel
theorem dX9_add_74 : decode cX9_add 74 = .ok (.iastore, 1) := by decide +kernel
theorem dX9_add_75 : decode cX9_add 75 = .ok (.aload_n 0, 1) := by decide +kernel
theorem dX9_add_76 : decode cX9_add 76 = .ok (.dup, 1) := by decide +kernel
theorem dX9_add_77 : decode cX9_add 77 = .ok (.getfield 28, 3) := by decide +kernel
theorem dX9_add_80 : decode cX9_add 80 = .ok (.iconst 1, 1) := by decide +kernel
theorem dX9_add_81 : decode cX9_add 81 = .ok (.iadd, 1) := by decide +kernel
theorem dX9_add_82 : decode cX9_add 82 = .ok (.putfield 28, 3) := by decide +kernel
theorem dX9_add_85 : decode cX9_add 85 = .ok (.aload_n 0, 1) := by decide +kernel
theorem dX9_add_86 : decode cX9_add 86 = .ok (.getfield 28, 3) := by decide +kernel
theorem dX9_add_89 : decode cX9_add 89 = .ok (.iconst 1, 1) := by decide +kernel
theorem dX9_add_90 : decode cX9_add 90 = .ok (.isub, 1) := by decide +kernel
theorem dX9_add_91 : decode cX9_add 91 = .ok (.ireturn, 1) := by decide +kernel
theorem dX9_has_0 : decode cX9_has 0 = .ok (.iload_n 1, 1) := by decide +kernel
theorem dX9_has_1 : decode cX9_has 1 = .ok (.ifCond .lt 15, 3) := by decide +kernel
theorem dX9_has_4 : decode cX9_has 4 = .ok (.iload_n 1, 1) := by decide +kernel
theorem dX9_has_5 : decode cX9_has 5 = .ok (.aload_n 0, 1) := by decide +kernel
theorem dX9_has_6 : decode cX9_has 6 = .ok (.getfield 28, 3) := by decide +kernel
theorem dX9_has_9 : decode cX9_has 9 = .ok (.if_icmp .ge 7, 3) := by decide +kernel
theorem dX9_has_12 : decode cX9_has 12 = .ok (.iconst 1, 1) := by decide +kernel
theorem dX9_has_13 : decode cX9_has 13 = .ok (.goto 4, 3) := by decide +kernel
theorem dX9_has_16 : decode cX9_has 16 = .ok (.iconst 0, 1) := by decide +kernel
theorem dX9_has_17 : decode cX9_has 17 = .ok (.ireturn, 1) := by decide +kernel
theorem dX9_kindOf_0 : decode cX9_kindOf 0 = .ok (.iload_n 1, 1) := by decide +kernel
theorem dX9_kindOf_1 : decode cX9_kindOf 1 = .ok (.ifCond .lt 20, 3) := by decide +kernel
theorem dX9_kindOf_4 : decode cX9_kindOf 4 = .ok (.iload_n 1, 1) := by decide +kernel
theorem dX9_kindOf_5 : decode cX9_kindOf 5 = .ok (.aload_n 0, 1) := by decide +kernel
theorem dX9_kindOf_6 : decode cX9_kindOf 6 = .ok (.getfield 28, 3) := by decide +kernel
theorem dX9_kindOf_9 : decode cX9_kindOf 9 = .ok (.if_icmp .ge 12, 3) := by decide +kernel
theorem dX9_kindOf_12 : decode cX9_kindOf 12 = .ok (.aload_n 0, 1) := by decide +kernel
theorem dX9_kindOf_13 : decode cX9_kindOf 13 = .ok (.getfield 7, 3) := by decide +kernel
theorem dX9_kindOf_16 : decode cX9_kindOf 16 = .ok (.iload_n 1, 1) := by decide +kernel
theorem dX9_kindOf_17 : decode cX9_kindOf 17 = .ok (.iaload, 1) := by decide +kernel
theorem dX9_kindOf_18 : decode cX9_kindOf 18 = .ok (.goto 4, 3) := by decide +kernel
theorem dX9_kindOf_21 : decode cX9_kindOf 21 = .ok (.iconst 0, 1) := by decide +kernel
theorem dX9_kindOf_22 : decode cX9_kindOf 22 = .ok (.ireturn, 1) := by decide +kernel
theorem dX9_aOf_0 : decode cX9_aOf 0 = .ok (.iload_n 1, 1) := by decide +kernel
theorem dX9_aOf_1 : decode cX9_aOf 1 = .ok (.ifCond .lt 20, 3) := by decide +kernel
theorem dX9_aOf_4 : decode cX9_aOf 4 = .ok (.iload_n 1, 1) := by decide +kernel
theorem dX9_aOf_5 : decode cX9_aOf 5 = .ok (.aload_n 0, 1) := by decide +kernel
theorem dX9_aOf_6 : decode cX9_aOf 6 = .ok (.getfield 28, 3) := by decide +kernel
theorem dX9_aOf_9 : decode cX9_aOf 9 = .ok (.if_icmp .ge 12, 3) := by decide +kernel
theorem dX9_aOf_12 : decode cX9_aOf 12 = .ok (.aload_n 0, 1) := by decide +kernel
theorem dX9_aOf_13 : decode cX9_aOf 13 = .ok (.getfield 13, 3) := by decide +kernel
theorem dX9_aOf_16 : decode cX9_aOf 16 = .ok (.iload_n 1, 1) := by decide +kernel
theorem dX9_aOf_17 : decode cX9_aOf 17 = .ok (.iaload, 1) := by decide +kernel
theorem dX9_aOf_18 : decode cX9_aOf 18 = .ok (.goto 4, 3) := by decide +kernel
theorem dX9_aOf_21 : decode cX9_aOf 21 = .ok (.iconst 0, 1) := by decide +kernel
theorem dX9_aOf_22 : decode cX9_aOf 22 = .ok (.ireturn, 1) := by decide +kernel
theorem dX9_bOf_0 : decode cX9_bOf 0 = .ok (.iload_n 1, 1) := by decide +kernel
theorem dX9_bOf_1 : decode cX9_bOf 1 = .ok (.ifCond .lt 20, 3) := by decide +kernel
theorem dX9_bOf_4 : decode cX9_bOf 4 = .ok (.iload_n 1, 1) := by decide +kernel
theorem dX9_bOf_5 : decode cX9_bOf 5 = .ok (.aload_n 0, 1) := by decide +kernel
theorem dX9_bOf_6 : decode cX9_bOf 6 = .ok (.getfield 28, 3) := by decide +kernel
theorem dX9_bOf_9 : decode cX9_bOf 9 = .ok (.if_icmp .ge 12, 3) := by decide +kernel
theorem dX9_bOf_12 : decode cX9_bOf 12 = .ok (.aload_n 0, 1) := by decide +kernel
theorem dX9_bOf_13 : decode cX9_bOf 13 = .ok (.getfield 16, 3) := by decide +kernel
theorem dX9_bOf_16 : decode cX9_bOf 16 = .ok (.iload_n 1, 1) := by decide +kernel
theorem dX9_bOf_17 : decode cX9_bOf 17 = .ok (.iaload, 1) := by decide +kernel
theorem dX9_bOf_18 : decode cX9_bOf 18 = .ok (.goto 4, 3) := by decide +kernel
theorem dX9_bOf_21 : decode cX9_bOf 21 = .ok (.iconst (-1), 1) := by decide +kernel
theorem dX9_bOf_22 : decode cX9_bOf 22 = .ok (.ireturn, 1) := by decide +kernel
theorem dX9_cOf_0 : decode cX9_cOf 0 = .ok (.iload_n 1, 1) := by decide +kernel
theorem dX9_cOf_1 : decode cX9_cOf 1 = .ok (.ifCond .lt 20, 3) := by decide +kernel
theorem dX9_cOf_4 : decode cX9_cOf 4 = .ok (.iload_n 1, 1) := by decide +kernel
theorem dX9_cOf_5 : decode cX9_cOf 5 = .ok (.aload_n 0, 1) := by decide +kernel
theorem dX9_cOf_6 : decode cX9_cOf 6 = .ok (.getfield 28, 3) := by decide +kernel
theorem dX9_cOf_9 : decode cX9_cOf 9 = .ok (.if_icmp .ge 12, 3) := by decide +kernel
theorem dX9_cOf_12 : decode cX9_cOf 12 = .ok (.aload_n 0, 1) := by decide +kernel
theorem dX9_cOf_13 : decode cX9_cOf 13 = .ok (.getfield 19, 3) := by decide +kernel
theorem dX9_cOf_16 : decode cX9_cOf 16 = .ok (.iload_n 1, 1) := by decide +kernel
theorem dX9_cOf_17 : decode cX9_cOf 17 = .ok (.iaload, 1) := by decide +kernel
theorem dX9_cOf_18 : decode cX9_cOf 18 = .ok (.goto 4, 3) := by decide +kernel
theorem dX9_cOf_21 : decode cX9_cOf 21 = .ok (.iconst (-1), 1) := by decide +kernel
theorem dX9_cOf_22 : decode cX9_cOf 22 = .ok (.ireturn, 1) := by decide +kernel
theorem dX9_dOf_0 : decode cX9_dOf 0 = .ok (.iload_n 1, 1) := by decide +kernel
theorem dX9_dOf_1 : decode cX9_dOf 1 = .ok (.ifCond .lt 20, 3) := by decide +kernel
theorem dX9_dOf_4 : decode cX9_dOf 4 = .ok (.iload_n 1, 1) := by decide +kernel
theorem dX9_dOf_5 : decode cX9_dOf 5 = .ok (.aload_n 0, 1) := by decide +kernel
theorem dX9_dOf_6 : decode cX9_dOf 6 = .ok (.getfield 28, 3) := by decide +kernel
theorem dX9_dOf_9 : decode cX9_dOf 9 = .ok (.if_icmp .ge 12, 3) := by decide +kernel
theorem dX9_dOf_12 : decode cX9_dOf 12 = .ok (.aload_n 0, 1) := by decide +kernel
theorem dX9_dOf_13 : decode cX9_dOf 13 = .ok (.getfield 22, 3) := by decide +kernel
theorem dX9_dOf_16 : decode cX9_dOf 16 = .ok (.iload_n 1, 1) := by decide +kernel
theorem dX9_dOf_17 : decode cX9_dOf 17 = .ok (.iaload, 1) := by decide +kernel
theorem dX9_dOf_18 : decode cX9_dOf 18 = .ok (.goto 4, 3) := by decide +kernel
theorem dX9_dOf_21 : decode cX9_dOf 21 = .ok (.iconst (-1), 1) := by decide +kernel
theorem dX9_dOf_22 : decode cX9_dOf 22 = .ok (.ireturn, 1) := by decide +kernel
theorem dX9_nextOf_0 : decode cX9_nextOf 0 = .ok (.iload_n 1, 1) := by decide +kernel
theorem dX9_nextOf_1 : decode cX9_nextOf 1 = .ok (.ifCond .lt 20, 3) := by decide +kernel
theorem dX9_nextOf_4 : decode cX9_nextOf 4 = .ok (.iload_n 1, 1) := by decide +kernel
theorem dX9_nextOf_5 : decode cX9_nextOf 5 = .ok (.aload_n 0, 1) := by decide +kernel
theorem dX9_nextOf_6 : decode cX9_nextOf 6 = .ok (.getfield 28, 3) := by decide +kernel
theorem dX9_nextOf_9 : decode cX9_nextOf 9 = .ok (.if_icmp .ge 12, 3) := by decide +kernel
theorem dX9_nextOf_12 : decode cX9_nextOf 12 = .ok (.aload_n 0, 1) := by decide +kernel
theorem dX9_nextOf_13 : decode cX9_nextOf 13 = .ok (.getfield 25, 3) := by decide +kernel
