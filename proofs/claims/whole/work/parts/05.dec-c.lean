theorem dX11_init_0 : decode cX11_init 0 = .ok (.aload_n 0, 1) := by decide +kernel
theorem dX11_init_1 : decode cX11_init 1 = .ok (.invokespecial 1, 3) := by decide +kernel
theorem dX11_init_4 : decode cX11_init 4 = .ok (.aload_n 0, 1) := by decide +kernel
theorem dX11_init_5 : decode cX11_init 5 = .ok (.sipush 5104, 3) := by decide +kernel
theorem dX11_init_8 : decode cX11_init 8 = .ok (.newarray .int, 2) := by decide +kernel
theorem dX11_init_10 : decode cX11_init 10 = .ok (.putfield 7, 3) := by decide +kernel
theorem dX11_init_13 : decode cX11_init 13 = .ok (.aload_n 0, 1) := by decide +kernel
theorem dX11_init_14 : decode cX11_init 14 = .ok (.sipush 5104, 3) := by decide +kernel
theorem dX11_init_17 : decode cX11_init 17 = .ok (.newarray .int, 2) := by decide +kernel
theorem dX11_init_19 : decode cX11_init 19 = .ok (.putfield 13, 3) := by decide +kernel
theorem dX11_init_22 : decode cX11_init 22 = .ok (.aload_n 0, 1) := by decide +kernel
theorem dX11_init_23 : decode cX11_init 23 = .ok (.bipush 20, 2) := by decide +kernel
theorem dX11_init_25 : decode cX11_init 25 = .ok (.newarray .char, 2) := by decide +kernel
theorem dX11_init_27 : decode cX11_init 27 = .ok (.putfield 16, 3) := by decide +kernel
theorem dX11_init_30 : decode cX11_init 30 = .ok (.aload_n 0, 1) := by decide +kernel
theorem dX11_init_31 : decode cX11_init 31 = .ok (.bipush 12, 2) := by decide +kernel
theorem dX11_init_33 : decode cX11_init 33 = .ok (.newarray .int, 2) := by decide +kernel
theorem dX11_init_35 : decode cX11_init 35 = .ok (.putfield 20, 3) := by decide +kernel
theorem dX11_init_38 : decode cX11_init 38 = .ok (.aload_n 0, 1) := by decide +kernel
theorem dX11_init_39 : decode cX11_init 39 = .ok (.bipush 12, 2) := by decide +kernel
theorem dX11_init_41 : decode cX11_init 41 = .ok (.newarray .int, 2) := by decide +kernel
theorem dX11_init_43 : decode cX11_init 43 = .ok (.putfield 23, 3) := by decide +kernel
theorem dX11_init_46 : decode cX11_init 46 = .ok (.aload_n 0, 1) := by decide +kernel
theorem dX11_init_47 : decode cX11_init 47 = .ok (.bipush 12, 2) := by decide +kernel
theorem dX11_init_49 : decode cX11_init 49 = .ok (.newarray .int, 2) := by decide +kernel
theorem dX11_init_51 : decode cX11_init 51 = .ok (.putfield 26, 3) := by decide +kernel
theorem dX11_init_54 : decode cX11_init 54 = .ok (.aload_n 0, 1) := by decide +kernel
theorem dX11_init_55 : decode cX11_init 55 = .ok (.bipush 12, 2) := by decide +kernel
theorem dX11_init_57 : decode cX11_init 57 = .ok (.newarray .int, 2) := by decide +kernel
theorem dX11_init_59 : decode cX11_init 59 = .ok (.putfield 29, 3) := by decide +kernel
theorem dX11_init_62 : decode cX11_init 62 = .ok (.aload_n 0, 1) := by decide +kernel
theorem dX11_init_63 : decode cX11_init 63 = .ok (.bipush 25, 2) := by decide +kernel
theorem dX11_init_65 : decode cX11_init 65 = .ok (.newarray .int, 2) := by decide +kernel
theorem dX11_init_67 : decode cX11_init 67 = .ok (.putfield 32, 3) := by decide +kernel
theorem dX11_init_70 : decode cX11_init 70 = .ok (.aload_n 0, 1) := by decide +kernel
theorem dX11_init_71 : decode cX11_init 71 = .ok (.bipush 48, 2) := by decide +kernel
theorem dX11_init_73 : decode cX11_init 73 = .ok (.newarray .int, 2) := by decide +kernel
theorem dX11_init_75 : decode cX11_init 75 = .ok (.putfield 35, 3) := by decide +kernel
theorem dX11_init_78 : decode cX11_init 78 = .ok (.aload_n 0, 1) := by decide +kernel
theorem dX11_init_79 : decode cX11_init 79 = .ok (.bipush 48, 2) := by decide +kernel
theorem dX11_init_81 : decode cX11_init 81 = .ok (.newarray .int, 2) := by decide +kernel
theorem dX11_init_83 : decode cX11_init 83 = .ok (.putfield 38, 3) := by decide +kernel
theorem dX11_init_86 : decode cX11_init 86 = .ok (.aload_n 0, 1) := by decide +kernel
theorem dX11_init_87 : decode cX11_init 87 = .ok (.bipush 48, 2) := by decide +kernel
theorem dX11_init_89 : decode cX11_init 89 = .ok (.newarray .int, 2) := by decide +kernel
theorem dX11_init_91 : decode cX11_init 91 = .ok (.putfield 41, 3) := by decide +kernel
theorem dX11_init_94 : decode cX11_init 94 = .ok (.aload_n 0, 1) := by decide +kernel
theorem dX11_init_95 : decode cX11_init 95 = .ok (.bipush 48, 2) := by decide +kernel
theorem dX11_init_97 : decode cX11_init 97 = .ok (.newarray .int, 2) := by decide +kernel
theorem dX11_init_99 : decode cX11_init 99 = .ok (.putfield 44, 3) := by decide +kernel
theorem dX11_init_102 : decode cX11_init 102 = .ok (.aload_n 0, 1) := by decide +kernel
theorem dX11_init_103 : decode cX11_init 103 = .ok (.bipush 48, 2) := by decide +kernel
theorem dX11_init_105 : decode cX11_init 105 = .ok (.newarray .int, 2) := by decide +kernel
theorem dX11_init_107 : decode cX11_init 107 = .ok (.putfield 47, 3) := by decide +kernel
theorem dX11_init_110 : decode cX11_init 110 = .ok (.aload_n 0, 1) := by decide +kernel
theorem dX11_init_111 : decode cX11_init 111 = .ok (.bipush 48, 2) := by decide +kernel
theorem dX11_init_113 : decode cX11_init 113 = .ok (.newarray .int, 2) := by decide +kernel
theorem dX11_init_115 : decode cX11_init 115 = .ok (.putfield 50, 3) := by decide +kernel
theorem dX11_init_118 : decode cX11_init 118 = .ok (.aload_n 0, 1) := by decide +kernel
theorem dX11_init_119 : decode cX11_init 119 = .ok (.bipush 48, 2) := by decide +kernel
theorem dX11_init_121 : decode cX11_init 121 = .ok (.newarray .int, 2) := by decide +kernel
theorem dX11_init_123 : decode cX11_init 123 = .ok (.putfield 53, 3) := by decide +kernel
theorem dX11_init_126 : decode cX11_init 126 = .ok (.aload_n 0, 1) := by decide +kernel
theorem dX11_init_127 : decode cX11_init 127 = .ok (.bipush 7, 2) := by decide +kernel
theorem dX11_init_129 : decode cX11_init 129 = .ok (.newarray .int, 2) := by decide +kernel
theorem dX11_init_131 : decode cX11_init 131 = .ok (.putfield 56, 3) := by decide +kernel
theorem dX11_init_134 : decode cX11_init 134 = .ok (.aload_n 0, 1) := by decide +kernel
theorem dX11_init_135 : decode cX11_init 135 = .ok (.bipush 7, 2) := by decide +kernel
theorem dX11_init_137 : decode cX11_init 137 = .ok (.newarray .boolean, 2) := by decide +kernel
theorem dX11_init_139 : decode cX11_init 139 = .ok (.putfield 59, 3) := by decide +kernel
theorem dX11_init_142 : decode cX11_init 142 = .ok (.aload_n 0, 1) := by decide +kernel
theorem dX11_init_143 : decode cX11_init 143 = .ok (.sipush 217, 3) := by decide +kernel
theorem dX11_init_146 : decode cX11_init 146 = .ok (.newarray .int, 2) := by decide +kernel
theorem dX11_init_148 : decode cX11_init 148 = .ok (.putfield 63, 3) := by decide +kernel
theorem dX11_init_151 : decode cX11_init 151 = .ok (.aload_n 0, 1) := by decide +kernel
theorem dX11_init_152 : decode cX11_init 152 = .ok (.bipush 7, 2) := by decide +kernel
theorem dX11_init_154 : decode cX11_init 154 = .ok (.newarray .int, 2) := by decide +kernel
theorem dX11_init_156 : decode cX11_init 156 = .ok (.putfield 66, 3) := by decide +kernel
theorem dX11_init_159 : decode cX11_init 159 = .ok (.aload_n 0, 1) := by decide +kernel
theorem dX11_init_160 : decode cX11_init 160 = .ok (.bipush 60, 2) := by decide +kernel
theorem dX11_init_162 : decode cX11_init 162 = .ok (.newarray .int, 2) := by decide +kernel
theorem dX11_init_164 : decode cX11_init 164 = .ok (.putfield 69, 3) := by decide +kernel
theorem dX11_init_167 : decode cX11_init 167 = .ok (.aload_n 0, 1) := by decide +kernel
theorem dX11_init_168 : decode cX11_init 168 = .ok (.bipush 10, 2) := by decide +kernel
theorem dX11_init_170 : decode cX11_init 170 = .ok (.newarray .int, 2) := by decide +kernel
theorem dX11_init_172 : decode cX11_init 172 = .ok (.putfield 72, 3) := by decide +kernel
theorem dX11_init_175 : decode cX11_init 175 = .ok (.aload_n 0, 1) := by decide +kernel
theorem dX11_init_176 : decode cX11_init 176 = .ok (.iconst 3, 1) := by decide +kernel
theorem dX11_init_177 : decode cX11_init 177 = .ok (.invokevirtual 75, 3) := by decide +kernel
theorem dX11_init_180 : decode cX11_init 180 = .ok (.return_, 1) := by decide +kernel
theorem dX11_in_0 : decode cX11_in 0 = .ok (.iload_n 0, 1) := by decide +kernel
theorem dX11_in_1 : decode cX11_in 1 = .ok (.iload_n 1, 1) := by decide +kernel
theorem dX11_in_2 : decode cX11_in 2 = .ok (.if_icmp .lt 12, 3) := by decide +kernel
theorem dX11_in_5 : decode cX11_in 5 = .ok (.iload_n 0, 1) := by decide +kernel
theorem dX11_in_6 : decode cX11_in 6 = .ok (.iload_n 2, 1) := by decide +kernel
theorem dX11_in_7 : decode cX11_in 7 = .ok (.if_icmp .gt 7, 3) := by decide +kernel
theorem dX11_in_10 : decode cX11_in 10 = .ok (.iconst 1, 1) := by decide +kernel
theorem dX11_in_11 : decode cX11_in 11 = .ok (.goto 4, 3) := by decide +kernel
theorem dX11_in_14 : decode cX11_in 14 = .ok (.iconst 0, 1) := by decide +kernel
theorem dX11_in_15 : decode cX11_in 15 = .ok (.ireturn, 1) := by decide +kernel
theorem dX11_begin_0 : decode cX11_begin 0 = .ok (.aload_n 0, 1) := by decide +kernel
theorem dX11_begin_1 : decode cX11_begin 1 = .ok (.iload_n 1, 1) := by decide +kernel
theorem dX11_begin_2 : decode cX11_begin 2 = .ok (.putfield 79, 3) := by decide +kernel
theorem dX11_begin_5 : decode cX11_begin 5 = .ok (.iconst 0, 1) := by decide +kernel
theorem dX11_begin_6 : decode cX11_begin 6 = .ok (.istore_n 2, 1) := by decide +kernel
theorem dX11_begin_7 : decode cX11_begin 7 = .ok (.iload_n 2, 1) := by decide +kernel
theorem dX11_begin_8 : decode cX11_begin 8 = .ok (.sipush 5104, 3) := by decide +kernel
theorem dX11_begin_11 : decode cX11_begin 11 = .ok (.if_icmp .ge 16, 3) := by decide +kernel
theorem dX11_begin_14 : decode cX11_begin 14 = .ok (.aload_n 0, 1) := by decide +kernel
theorem dX11_begin_15 : decode cX11_begin 15 = .ok (.getfield 7, 3) := by decide +kernel
theorem dX11_begin_18 : decode cX11_begin 18 = .ok (.iload_n 2, 1) := by decide +kernel
theorem dX11_begin_19 : decode cX11_begin 19 = .ok (.iconst 0, 1) := by decide +kernel
theorem dX11_begin_20 : decode cX11_begin 20 = .ok (.iastore, 1) := by decide +kernel
theorem dX11_begin_21 : decode cX11_begin 21 = .ok (.iinc 2 1, 3) := by decide +kernel
theorem dX11_begin_24 : decode cX11_begin 24 = .ok (.goto (-17), 3) := by decide +kernel
theorem dX11_begin_27 : decode cX11_begin 27 = .ok (.aload_n 0, 1) := by decide +kernel
theorem dX11_begin_28 : decode cX11_begin 28 = .ok (.invokevirtual 83, 3) := by decide +kernel
theorem dX11_begin_31 : decode cX11_begin 31 = .ok (.aload_n 0, 1) := by decide +kernel
theorem dX11_begin_32 : decode cX11_begin 32 = .ok (.iconst 0, 1) := by decide +kernel
theorem dX11_begin_33 : decode cX11_begin 33 = .ok (.putfield 86, 3) := by decide +kernel
theorem dX11_begin_36 : decode cX11_begin 36 = .ok (.aload_n 0, 1) := by decide +kernel
theorem dX11_begin_37 : decode cX11_begin 37 = .ok (.iconst 0, 1) := by decide +kernel
theorem dX11_begin_38 : decode cX11_begin 38 = .ok (.putfield 90, 3) := by decide +kernel
theorem dX11_begin_41 : decode cX11_begin 41 = .ok (.aload_n 0, 1) := by decide +kernel
theorem dX11_begin_42 : decode cX11_begin 42 = .ok (.bipush 100, 2) := by decide +kernel
theorem dX11_begin_44 : decode cX11_begin 44 = .ok (.putfield 93, 3) := by decide +kernel
theorem dX11_begin_47 : decode cX11_begin 47 = .ok (.aload_n 0, 1) := by decide +kernel
theorem dX11_begin_48 : decode cX11_begin 48 = .ok (.bipush 100, 2) := by decide +kernel
theorem dX11_begin_50 : decode cX11_begin 50 = .ok (.putfield 96, 3) := by decide +kernel
theorem dX11_begin_53 : decode cX11_begin 53 = .ok (.iconst 0, 1) := by decide +kernel
theorem dX11_begin_54 : decode cX11_begin 54 = .ok (.istore_n 2, 1) := by decide +kernel
theorem dX11_begin_55 : decode cX11_begin 55 = .ok (.iload_n 2, 1) := by decide +kernel
theorem dX11_begin_56 : decode cX11_begin 56 = .ok (.bipush 25, 2) := by decide +kernel
theorem dX11_begin_58 : decode cX11_begin 58 = .ok (.if_icmp .ge 16, 3) := by decide +kernel
theorem dX11_begin_61 : decode cX11_begin 61 = .ok (.aload_n 0, 1) := by decide +kernel
theorem dX11_begin_62 : decode cX11_begin 62 = .ok (.getfield 32, 3) := by decide +kernel
theorem dX11_begin_65 : decode cX11_begin 65 = .ok (.iload_n 2, 1) := by decide +kernel
theorem dX11_begin_66 : decode cX11_begin 66 = .ok (.iconst 1, 1) := by decide +kernel
theorem dX11_begin_67 : decode cX11_begin 67 = .ok (.iastore, 1) := by decide +kernel
theorem dX11_begin_68 : decode cX11_begin 68 = .ok (.iinc 2 1, 3) := by decide +kernel
theorem dX11_begin_71 : decode cX11_begin 71 = .ok (.goto (-16), 3) := by decide +kernel
theorem dX11_begin_74 : decode cX11_begin 74 = .ok (.return_, 1) := by decide +kernel
theorem dX11_clearSnapshot_0 : decode cX11_clearSnapshot 0 = .ok (.aload_n 0, 1) := by decide +kernel
theorem dX11_clearSnapshot_1 : decode cX11_clearSnapshot 1 = .ok (.getfield 7, 3) := by decide +kernel
theorem dX11_clearSnapshot_4 : decode cX11_clearSnapshot 4 = .ok (.bipush 35, 2) := by decide +kernel
theorem dX11_clearSnapshot_6 : decode cX11_clearSnapshot 6 = .ok (.iconst 0, 1) := by decide +kernel
theorem dX11_clearSnapshot_7 : decode cX11_clearSnapshot 7 = .ok (.iastore, 1) := by decide +kernel
theorem dX11_clearSnapshot_8 : decode cX11_clearSnapshot 8 = .ok (.iconst 0, 1) := by decide +kernel
theorem dX11_clearSnapshot_9 : decode cX11_clearSnapshot 9 = .ok (.istore_n 1, 1) := by decide +kernel
theorem dX11_clearSnapshot_10 : decode cX11_clearSnapshot 10 = .ok (.iload_n 1, 1) := by decide +kernel
theorem dX11_clearSnapshot_11 : decode cX11_clearSnapshot 11 = .ok (.iconst 5, 1) := by decide +kernel
theorem dX11_clearSnapshot_12 : decode cX11_clearSnapshot 12 = .ok (.if_icmp .ge 19, 3) := by decide +kernel
theorem dX11_clearSnapshot_15 : decode cX11_clearSnapshot 15 = .ok (.aload_n 0, 1) := by decide +kernel
theorem dX11_clearSnapshot_16 : decode cX11_clearSnapshot 16 = .ok (.getfield 7, 3) := by decide +kernel
theorem dX11_clearSnapshot_19 : decode cX11_clearSnapshot 19 = .ok (.bipush 30, 2) := by decide +kernel
theorem dX11_clearSnapshot_21 : decode cX11_clearSnapshot 21 = .ok (.iload_n 1, 1) := by decide +kernel
theorem dX11_clearSnapshot_22 : decode cX11_clearSnapshot 22 = .ok (.iadd, 1) := by decide +kernel
theorem dX11_clearSnapshot_23 : decode cX11_clearSnapshot 23 = .ok (.iconst (-1), 1) := by decide +kernel
theorem dX11_clearSnapshot_24 : decode cX11_clearSnapshot 24 = .ok (.iastore, 1) := by decide +kernel
theorem dX11_clearSnapshot_25 : decode cX11_clearSnapshot 25 = .ok (.iinc 1 1, 3) := by decide +kernel
theorem dX11_clearSnapshot_28 : decode cX11_clearSnapshot 28 = .ok (.goto (-18), 3) := by decide +kernel
theorem dX11_clearSnapshot_31 : decode cX11_clearSnapshot 31 = .ok (.iconst 0, 1) := by decide +kernel
theorem dX11_clearSnapshot_32 : decode cX11_clearSnapshot 32 = .ok (.istore_n 1, 1) := by decide +kernel
theorem dX11_clearSnapshot_33 : decode cX11_clearSnapshot 33 = .ok (.iload_n 1, 1) := by decide +kernel
theorem dX11_clearSnapshot_34 : decode cX11_clearSnapshot 34 = .ok (.bipush 25, 2) := by decide +kernel
theorem dX11_clearSnapshot_36 : decode cX11_clearSnapshot 36 = .ok (.if_icmp .ge 19, 3) := by decide +kernel
theorem dX11_clearSnapshot_39 : decode cX11_clearSnapshot 39 = .ok (.aload_n 0, 1) := by decide +kernel
theorem dX11_clearSnapshot_40 : decode cX11_clearSnapshot 40 = .ok (.getfield 7, 3) := by decide +kernel
theorem dX11_clearSnapshot_43 : decode cX11_clearSnapshot 43 = .ok (.bipush 38, 2) := by decide +kernel
theorem dX11_clearSnapshot_45 : decode cX11_clearSnapshot 45 = .ok (.iload_n 1, 1) := by decide +kernel
theorem dX11_clearSnapshot_46 : decode cX11_clearSnapshot 46 = .ok (.iadd, 1) := by decide +kernel
theorem dX11_clearSnapshot_47 : decode cX11_clearSnapshot 47 = .ok (.iconst (-1), 1) := by decide +kernel
theorem dX11_clearSnapshot_48 : decode cX11_clearSnapshot 48 = .ok (.iastore, 1) := by decide +kernel
theorem dX11_clearSnapshot_49 : decode cX11_clearSnapshot 49 = .ok (.iinc 1 1, 3) := by decide +kernel
theorem dX11_clearSnapshot_52 : decode cX11_clearSnapshot 52 = .ok (.goto (-19), 3) := by decide +kernel
theorem dX11_clearSnapshot_55 : decode cX11_clearSnapshot 55 = .ok (.return_, 1) := by decide +kernel
theorem dX11_reset_0 : decode cX11_reset 0 = .ok (.iload_n 1, 1) := by decide +kernel
theorem dX11_reset_1 : decode cX11_reset 1 = .ok (.iconst 2, 1) := by decide +kernel
theorem dX11_reset_2 : decode cX11_reset 2 = .ok (.iconst 5, 1) := by decide +kernel
theorem dX11_reset_3 : decode cX11_reset 3 = .ok (.invokestatic 99, 3) := by decide +kernel
theorem dX11_reset_6 : decode cX11_reset 6 = .ok (.ifCond .ne 6, 3) := by decide +kernel
theorem dX11_reset_9 : decode cX11_reset 9 = .ok (.ldc 103, 2) := by decide +kernel
theorem dX11_reset_11 : decode cX11_reset 11 = .ok (.ireturn, 1) := by decide +kernel
theorem dX11_reset_12 : decode cX11_reset 12 = .ok (.aload_n 0, 1) := by decide +kernel
theorem dX11_reset_13 : decode cX11_reset 13 = .ok (.getfield 79, 3) := by decide +kernel
theorem dX11_reset_16 : decode cX11_reset 16 = .ok (.istore_n 2, 1) := by decide +kernel
theorem dX11_reset_17 : decode cX11_reset 17 = .ok (.aload_n 0, 1) := by decide +kernel
theorem dX11_reset_18 : decode cX11_reset 18 = .ok (.iload_n 1, 1) := by decide +kernel
theorem dX11_reset_19 : decode cX11_reset 19 = .ok (.invokevirtual 75, 3) := by decide +kernel
theorem dX11_reset_22 : decode cX11_reset 22 = .ok (.iload_n 2, 1) := by decide +kernel
theorem dX11_reset_23 : decode cX11_reset 23 = .ok (.ireturn, 1) := by decide +kernel
theorem dX11_noProcess_0 : decode cX11_noProcess 0 = .ok (.iload_n 1, 1) := by decide +kernel
theorem dX11_noProcess_1 : decode cX11_noProcess 1 = .ok (.iconst 0, 1) := by decide +kernel
theorem dX11_noProcess_2 : decode cX11_noProcess 2 = .ok (.aload_n 0, 1) := by decide +kernel
theorem dX11_noProcess_3 : decode cX11_noProcess 3 = .ok (.getfield 79, 3) := by decide +kernel
theorem dX11_noProcess_6 : decode cX11_noProcess 6 = .ok (.iconst 1, 1) := by decide +kernel
theorem dX11_noProcess_7 : decode cX11_noProcess 7 = .ok (.isub, 1) := by decide +kernel
theorem dX11_noProcess_8 : decode cX11_noProcess 8 = .ok (.invokestatic 99, 3) := by decide +kernel
theorem dX11_noProcess_11 : decode cX11_noProcess 11 = .ok (.ifCond .ne 7, 3) := by decide +kernel
theorem dX11_noProcess_14 : decode cX11_noProcess 14 = .ok (.iconst 1, 1) := by decide +kernel
theorem dX11_noProcess_15 : decode cX11_noProcess 15 = .ok (.goto 4, 3) := by decide +kernel
theorem dX11_noProcess_18 : decode cX11_noProcess 18 = .ok (.iconst 0, 1) := by decide +kernel
theorem dX11_noProcess_19 : decode cX11_noProcess 19 = .ok (.ireturn, 1) := by decide +kernel
theorem dX11_noStock_0 : decode cX11_noStock 0 = .ok (.aload_n 0, 1) := by decide +kernel
theorem dX11_noStock_1 : decode cX11_noStock 1 = .ok (.iload_n 1, 1) := by decide +kernel
theorem dX11_noStock_2 : decode cX11_noStock 2 = .ok (.invokevirtual 104, 3) := by decide +kernel
theorem dX11_noStock_5 : decode cX11_noStock 5 = .ok (.ifCond .ne 12, 3) := by decide +kernel
theorem dX11_noStock_8 : decode cX11_noStock 8 = .ok (.iload_n 2, 1) := by decide +kernel
theorem dX11_noStock_9 : decode cX11_noStock 9 = .ok (.iconst 0, 1) := by decide +kernel
theorem dX11_noStock_10 : decode cX11_noStock 10 = .ok (.iconst 1, 1) := by decide +kernel
theorem dX11_noStock_11 : decode cX11_noStock 11 = .ok (.invokestatic 99, 3) := by decide +kernel
theorem dX11_noStock_14 : decode cX11_noStock 14 = .ok (.ifCond .ne 7, 3) := by decide +kernel
theorem dX11_noStock_17 : decode cX11_noStock 17 = .ok (.iconst 1, 1) := by decide +kernel
theorem dX11_noStock_18 : decode cX11_noStock 18 = .ok (.goto 4, 3) := by decide +kernel
theorem dX11_noStock_21 : decode cX11_noStock 21 = .ok (.iconst 0, 1) := by decide +kernel
theorem dX11_noStock_22 : decode cX11_noStock 22 = .ok (.ireturn, 1) := by decide +kernel
theorem dX11_noChannel_0 : decode cX11_noChannel 0 = .ok (.aload_n 0, 1) := by decide +kernel
theorem dX11_noChannel_1 : decode cX11_noChannel 1 = .ok (.iload_n 1, 1) := by decide +kernel
theorem dX11_noChannel_2 : decode cX11_noChannel 2 = .ok (.invokevirtual 104, 3) := by decide +kernel
theorem dX11_noChannel_5 : decode cX11_noChannel 5 = .ok (.ifCond .ne 16, 3) := by decide +kernel
theorem dX11_noChannel_8 : decode cX11_noChannel 8 = .ok (.aload_n 0, 1) := by decide +kernel
theorem dX11_noChannel_9 : decode cX11_noChannel 9 = .ok (.iload_n 2, 1) := by decide +kernel
theorem dX11_noChannel_10 : decode cX11_noChannel 10 = .ok (.invokevirtual 104, 3) := by decide +kernel
theorem dX11_noChannel_13 : decode cX11_noChannel 13 = .ok (.ifCond .ne 8, 3) := by decide +kernel
theorem dX11_noChannel_16 : decode cX11_noChannel 16 = .ok (.iload_n 1, 1) := by decide +kernel
theorem dX11_noChannel_17 : decode cX11_noChannel 17 = .ok (.iload_n 2, 1) := by decide +kernel
theorem dX11_noChannel_18 : decode cX11_noChannel 18 = .ok (.if_icmp .ne 7, 3) := by decide +kernel
theorem dX11_noChannel_21 : decode cX11_noChannel 21 = .ok (.iconst 1, 1) := by decide +kernel
theorem dX11_noChannel_22 : decode cX11_noChannel 22 = .ok (.goto 4, 3) := by decide +kernel
theorem dX11_noChannel_25 : decode cX11_noChannel 25 = .ok (.iconst 0, 1) := by decide +kernel
theorem dX11_noChannel_26 : decode cX11_noChannel 26 = .ok (.ireturn, 1) := by decide +kernel
theorem dX11_setStock_0 : decode cX11_setStock 0 = .ok (.aload_n 0, 1) := by decide +kernel
theorem dX11_setStock_1 : decode cX11_setStock 1 = .ok (.iload_n 1, 1) := by decide +kernel
theorem dX11_setStock_2 : decode cX11_setStock 2 = .ok (.iload_n 2, 1) := by decide +kernel
theorem dX11_setStock_3 : decode cX11_setStock 3 = .ok (.invokevirtual 108, 3) := by decide +kernel
theorem dX11_setStock_6 : decode cX11_setStock 6 = .ok (.ifCond .eq 6, 3) := by decide +kernel
theorem dX11_setStock_9 : decode cX11_setStock 9 = .ok (.ldc 112, 2) := by decide +kernel
theorem dX11_setStock_11 : decode cX11_setStock 11 = .ok (.ireturn, 1) := by decide +kernel
theorem dX11_setStock_12 : decode cX11_setStock 12 = .ok (.iload_n 3, 1) := by decide +kernel
theorem dX11_setStock_13 : decode cX11_setStock 13 = .ok (.iconst 0, 1) := by decide +kernel
theorem dX11_setStock_14 : decode cX11_setStock 14 = .ok (.sipush 1000, 3) := by decide +kernel
theorem dX11_setStock_17 : decode cX11_setStock 17 = .ok (.invokestatic 99, 3) := by decide +kernel
theorem dX11_setStock_20 : decode cX11_setStock 20 = .ok (.ifCond .ne 6, 3) := by decide +kernel
theorem dX11_setStock_23 : decode cX11_setStock 23 = .ok (.ldc 103, 2) := by decide +kernel
theorem dX11_setStock_25 : decode cX11_setStock 25 = .ok (.ireturn, 1) := by decide +kernel
theorem dX11_setStock_26 : decode cX11_setStock 26 = .ok (.aload_n 0, 1) := by decide +kernel
theorem dX11_setStock_27 : decode cX11_setStock 27 = .ok (.getfield 7, 3) := by decide +kernel
theorem dX11_setStock_30 : decode cX11_setStock 30 = .ok (.bipush 36, 2) := by decide +kernel
theorem dX11_setStock_32 : decode cX11_setStock 32 = .ok (.iaload, 1) := by decide +kernel
theorem dX11_setStock_33 : decode cX11_setStock 33 = .ok (.ifCond .le 6, 3) := by decide +kernel
theorem dX11_setStock_36 : decode cX11_setStock 36 = .ok (.ldc 113, 2) := by decide +kernel
theorem dX11_setStock_38 : decode cX11_setStock 38 = .ok (.ireturn, 1) := by decide +kernel
theorem dX11_setStock_39 : decode cX11_setStock 39 = .ok (.aload_n 0, 1) := by decide +kernel
theorem dX11_setStock_40 : decode cX11_setStock 40 = .ok (.getfield 7, 3) := by decide +kernel
theorem dX11_setStock_43 : decode cX11_setStock 43 = .ok (.iconst 0, 1) := by decide +kernel
theorem dX11_setStock_44 : decode cX11_setStock 44 = .ok (.iconst 2, 1) := by decide +kernel
theorem dX11_setStock_45 : decode cX11_setStock 45 = .ok (.iload_n 1, 1) := by decide +kernel
theorem dX11_setStock_46 : decode cX11_setStock 46 = .ok (.imul, 1) := by decide +kernel
theorem dX11_setStock_47 : decode cX11_setStock 47 = .ok (.iadd, 1) := by decide +kernel
theorem dX11_setStock_48 : decode cX11_setStock 48 = .ok (.iload_n 2, 1) := by decide +kernel
theorem dX11_setStock_49 : decode cX11_setStock 49 = .ok (.iadd, 1) := by decide +kernel
theorem dX11_setStock_50 : decode cX11_setStock 50 = .ok (.iaload, 1) := by decide +kernel
theorem dX11_setStock_51 : decode cX11_setStock 51 = .ok (.istore 4, 2) := by decide +kernel
theorem dX11_setStock_53 : decode cX11_setStock 53 = .ok (.aload_n 0, 1) := by decide +kernel
theorem dX11_setStock_54 : decode cX11_setStock 54 = .ok (.getfield 7, 3) := by decide +kernel
theorem dX11_setStock_57 : decode cX11_setStock 57 = .ok (.iconst 0, 1) := by decide +kernel
theorem dX11_setStock_58 : decode cX11_setStock 58 = .ok (.iconst 2, 1) := by decide +kernel
theorem dX11_setStock_59 : decode cX11_setStock 59 = .ok (.iload_n 1, 1) := by decide +kernel
theorem dX11_setStock_60 : decode cX11_setStock 60 = .ok (.imul, 1) := by decide +kernel
theorem dX11_setStock_61 : decode cX11_setStock 61 = .ok (.iadd, 1) := by decide +kernel
theorem dX11_setStock_62 : decode cX11_setStock 62 = .ok (.iload_n 2, 1) := by decide +kernel
theorem dX11_setStock_63 : decode cX11_setStock 63 = .ok (.iadd, 1) := by decide +kernel
theorem dX11_setStock_64 : decode cX11_setStock 64 = .ok (.iload_n 3, 1) := by decide +kernel
theorem dX11_setStock_65 : decode cX11_setStock 65 = .ok (.iastore, 1) := by decide +kernel
theorem dX11_setStock_66 : decode cX11_setStock 66 = .ok (.aload_n 0, 1) := by decide +kernel
theorem dX11_setStock_67 : decode cX11_setStock 67 = .ok (.getfield 7, 3) := by decide +kernel
theorem dX11_setStock_70 : decode cX11_setStock 70 = .ok (.bipush 10, 2) := by decide +kernel
theorem dX11_setStock_72 : decode cX11_setStock 72 = .ok (.iconst 2, 1) := by decide +kernel
theorem dX11_setStock_73 : decode cX11_setStock 73 = .ok (.iload_n 1, 1) := by decide +kernel
theorem dX11_setStock_74 : decode cX11_setStock 74 = .ok (.imul, 1) := by decide +kernel
theorem dX11_setStock_75 : decode cX11_setStock 75 = .ok (.iadd, 1) := by decide +kernel
theorem dX11_setStock_76 : decode cX11_setStock 76 = .ok (.iload_n 2, 1) := by decide +kernel
theorem dX11_setStock_77 : decode cX11_setStock 77 = .ok (.iadd, 1) := by decide +kernel
theorem dX11_setStock_78 : decode cX11_setStock 78 = .ok (.iload_n 3, 1) := by decide +kernel
theorem dX11_setStock_79 : decode cX11_setStock 79 = .ok (.iastore, 1) := by decide +kernel
theorem dX11_setStock_80 : decode cX11_setStock 80 = .ok (.iload 4, 2) := by decide +kernel
theorem dX11_setStock_82 : decode cX11_setStock 82 = .ok (.ireturn, 1) := by decide +kernel
theorem dX11_ofEvent_0 : decode cX11_ofEvent 0 = .ok (.aload_n 0, 1) := by decide +kernel
theorem dX11_ofEvent_1 : decode cX11_ofEvent 1 = .ok (.getfield 7, 3) := by decide +kernel
theorem dX11_ofEvent_4 : decode cX11_ofEvent 4 = .ok (.bipush 64, 2) := by decide +kernel
theorem dX11_ofEvent_6 : decode cX11_ofEvent 6 = .ok (.bipush 12, 2) := by decide +kernel
theorem dX11_ofEvent_8 : decode cX11_ofEvent 8 = .ok (.iload_n 1, 1) := by decide +kernel
theorem dX11_ofEvent_9 : decode cX11_ofEvent 9 = .ok (.imul, 1) := by decide +kernel
theorem dX11_ofEvent_10 : decode cX11_ofEvent 10 = .ok (.iadd, 1) := by decide +kernel
theorem dX11_ofEvent_11 : decode cX11_ofEvent 11 = .ok (.iload_n 2, 1) := by decide +kernel
theorem dX11_ofEvent_12 : decode cX11_ofEvent 12 = .ok (.iadd, 1) := by decide +kernel
theorem dX11_ofEvent_13 : decode cX11_ofEvent 13 = .ok (.iaload, 1) := by decide +kernel
theorem dX11_ofEvent_14 : decode cX11_ofEvent 14 = .ok (.ireturn, 1) := by decide +kernel
theorem dX11_ofMessage_0 : decode cX11_ofMessage 0 = .ok (.aload_n 0, 1) := by decide +kernel
theorem dX11_ofMessage_1 : decode cX11_ofMessage 1 = .ok (.getfield 7, 3) := by decide +kernel
theorem dX11_ofMessage_4 : decode cX11_ofMessage 4 = .ok (.sipush 1264, 3) := by decide +kernel
theorem dX11_ofMessage_7 : decode cX11_ofMessage 7 = .ok (.bipush 6, 2) := by decide +kernel
theorem dX11_ofMessage_9 : decode cX11_ofMessage 9 = .ok (.iload_n 1, 1) := by decide +kernel
theorem dX11_ofMessage_10 : decode cX11_ofMessage 10 = .ok (.imul, 1) := by decide +kernel
theorem dX11_ofMessage_11 : decode cX11_ofMessage 11 = .ok (.iadd, 1) := by decide +kernel
theorem dX11_ofMessage_12 : decode cX11_ofMessage 12 = .ok (.iload_n 2, 1) := by decide +kernel
theorem dX11_ofMessage_13 : decode cX11_ofMessage 13 = .ok (.iadd, 1) := by decide +kernel
theorem dX11_ofMessage_14 : decode cX11_ofMessage 14 = .ok (.iaload, 1) := by decide +kernel
theorem dX11_ofMessage_15 : decode cX11_ofMessage 15 = .ok (.ireturn, 1) := by decide +kernel
theorem dX11_waitingFrom_0 : decode cX11_waitingFrom 0 = .ok (.iload_n 3, 1) := by decide +kernel
theorem dX11_waitingFrom_1 : decode cX11_waitingFrom 1 = .ok (.istore 4, 2) := by decide +kernel
theorem dX11_waitingFrom_3 : decode cX11_waitingFrom 3 = .ok (.iload 4, 2) := by decide +kernel
theorem dX11_waitingFrom_5 : decode cX11_waitingFrom 5 = .ok (.aload_n 0, 1) := by decide +kernel
theorem dX11_waitingFrom_6 : decode cX11_waitingFrom 6 = .ok (.getfield 7, 3) := by decide +kernel
theorem dX11_waitingFrom_9 : decode cX11_waitingFrom 9 = .ok (.bipush 37, 2) := by decide +kernel
theorem dX11_waitingFrom_11 : decode cX11_waitingFrom 11 = .ok (.iaload, 1) := by decide +kernel
theorem dX11_waitingFrom_12 : decode cX11_waitingFrom 12 = .ok (.if_icmp .ge 41, 3) := by decide +kernel
theorem dX11_waitingFrom_15 : decode cX11_waitingFrom 15 = .ok (.aload_n 0, 1) := by decide +kernel
theorem dX11_waitingFrom_16 : decode cX11_waitingFrom 16 = .ok (.iload 4, 2) := by decide +kernel
theorem dX11_waitingFrom_18 : decode cX11_waitingFrom 18 = .ok (.iconst 0, 1) := by decide +kernel
theorem dX11_waitingFrom_19 : decode cX11_waitingFrom 19 = .ok (.invokevirtual 114, 3) := by decide +kernel
theorem dX11_waitingFrom_22 : decode cX11_waitingFrom 22 = .ok (.iload_n 1, 1) := by decide +kernel
theorem dX11_waitingFrom_23 : decode cX11_waitingFrom 23 = .ok (.if_icmp .ne 24, 3) := by decide +kernel
theorem dX11_waitingFrom_26 : decode cX11_waitingFrom 26 = .ok (.aload_n 0, 1) := by decide +kernel
theorem dX11_waitingFrom_27 : decode cX11_waitingFrom 27 = .ok (.iload 4, 2) := by decide +kernel
theorem dX11_waitingFrom_29 : decode cX11_waitingFrom 29 = .ok (.iconst 1, 1) := by decide +kernel
theorem dX11_waitingFrom_30 : decode cX11_waitingFrom 30 = .ok (.invokevirtual 114, 3) := by decide +kernel
theorem dX11_waitingFrom_33 : decode cX11_waitingFrom 33 = .ok (.iload_n 2, 1) := by decide +kernel
theorem dX11_waitingFrom_34 : decode cX11_waitingFrom 34 = .ok (.if_icmp .ne 13, 3) := by decide +kernel
theorem dX11_waitingFrom_37 : decode cX11_waitingFrom 37 = .ok (.aload_n 0, 1) := by decide +kernel
theorem dX11_waitingFrom_38 : decode cX11_waitingFrom 38 = .ok (.iload 4, 2) := by decide +kernel
theorem dX11_waitingFrom_40 : decode cX11_waitingFrom 40 = .ok (.iconst 5, 1) := by decide +kernel
theorem dX11_waitingFrom_41 : decode cX11_waitingFrom 41 = .ok (.invokevirtual 114, 3) := by decide +kernel
theorem dX11_waitingFrom_44 : decode cX11_waitingFrom 44 = .ok (.ifCond .lt 9, 3) := by decide +kernel
theorem dX11_waitingFrom_47 : decode cX11_waitingFrom 47 = .ok (.iinc 4 1, 3) := by decide +kernel
theorem dX11_waitingFrom_50 : decode cX11_waitingFrom 50 = .ok (.goto (-47), 3) := by decide +kernel
theorem dX11_waitingFrom_53 : decode cX11_waitingFrom 53 = .ok (.iload 4, 2) := by decide +kernel
theorem dX11_waitingFrom_55 : decode cX11_waitingFrom 55 = .ok (.ireturn, 1) := by decide +kernel
theorem dX11_waiting_0 : decode cX11_waiting 0 = .ok (.iconst 0, 1) := by decide +kernel
theorem dX11_waiting_1 : decode cX11_waiting 1 = .ok (.istore_n 3, 1) := by decide +kernel
theorem dX11_waiting_2 : decode cX11_waiting 2 = .ok (.aload_n 0, 1) := by decide +kernel
theorem dX11_waiting_3 : decode cX11_waiting 3 = .ok (.iload_n 1, 1) := by decide +kernel
theorem dX11_waiting_4 : decode cX11_waiting 4 = .ok (.iload_n 2, 1) := by decide +kernel
theorem dX11_waiting_5 : decode cX11_waiting 5 = .ok (.iconst 0, 1) := by decide +kernel
theorem dX11_waiting_6 : decode cX11_waiting 6 = .ok (.invokevirtual 118, 3) := by decide +kernel
theorem dX11_waiting_9 : decode cX11_waiting 9 = .ok (.istore 4, 2) := by decide +kernel
theorem dX11_waiting_11 : decode cX11_waiting 11 = .ok (.iload 4, 2) := by decide +kernel
theorem dX11_waiting_13 : decode cX11_waiting 13 = .ok (.aload_n 0, 1) := by decide +kernel
theorem dX11_waiting_14 : decode cX11_waiting 14 = .ok (.getfield 7, 3) := by decide +kernel
theorem dX11_waiting_17 : decode cX11_waiting 17 = .ok (.bipush 37, 2) := by decide +kernel
theorem dX11_waiting_19 : decode cX11_waiting 19 = .ok (.iaload, 1) := by decide +kernel
theorem dX11_waiting_20 : decode cX11_waiting 20 = .ok (.if_icmp .ge 21, 3) := by decide +kernel
theorem dX11_waiting_23 : decode cX11_waiting 23 = .ok (.iinc 3 1, 3) := by decide +kernel
theorem dX11_waiting_26 : decode cX11_waiting 26 = .ok (.aload_n 0, 1) := by decide +kernel
theorem dX11_waiting_27 : decode cX11_waiting 27 = .ok (.iload_n 1, 1) := by decide +kernel
theorem dX11_waiting_28 : decode cX11_waiting 28 = .ok (.iload_n 2, 1) := by decide +kernel
theorem dX11_waiting_29 : decode cX11_waiting 29 = .ok (.iload 4, 2) := by decide +kernel
theorem dX11_waiting_31 : decode cX11_waiting 31 = .ok (.iconst 1, 1) := by decide +kernel
theorem dX11_waiting_32 : decode cX11_waiting 32 = .ok (.iadd, 1) := by decide +kernel
theorem dX11_waiting_33 : decode cX11_waiting 33 = .ok (.invokevirtual 118, 3) := by decide +kernel
theorem dX11_waiting_36 : decode cX11_waiting 36 = .ok (.istore 4, 2) := by decide +kernel
theorem dX11_waiting_38 : decode cX11_waiting 38 = .ok (.goto (-27), 3) := by decide +kernel
theorem dX11_waiting_41 : decode cX11_waiting 41 = .ok (.iload_n 3, 1) := by decide +kernel
theorem dX11_waiting_42 : decode cX11_waiting 42 = .ok (.ireturn, 1) := by decide +kernel
theorem dX11_write_0 : decode cX11_write 0 = .ok (.sipush 1264, 3) := by decide +kernel
theorem dX11_write_3 : decode cX11_write 3 = .ok (.bipush 6, 2) := by decide +kernel
theorem dX11_write_5 : decode cX11_write 5 = .ok (.aload_n 0, 1) := by decide +kernel
theorem dX11_write_6 : decode cX11_write 6 = .ok (.getfield 7, 3) := by decide +kernel
theorem dX11_write_9 : decode cX11_write 9 = .ok (.bipush 37, 2) := by decide +kernel
theorem dX11_write_11 : decode cX11_write 11 = .ok (.iaload, 1) := by decide +kernel
theorem dX11_write_12 : decode cX11_write 12 = .ok (.imul, 1) := by decide +kernel
theorem dX11_write_13 : decode cX11_write 13 = .ok (.iadd, 1) := by decide +kernel
theorem dX11_write_14 : decode cX11_write 14 = .ok (.istore 6, 2) := by decide +kernel
theorem dX11_write_16 : decode cX11_write 16 = .ok (.aload_n 0, 1) := by decide +kernel
theorem dX11_write_17 : decode cX11_write 17 = .ok (.getfield 7, 3) := by decide +kernel
theorem dX11_write_20 : decode cX11_write 20 = .ok (.iload 6, 2) := by decide +kernel
theorem dX11_write_22 : decode cX11_write 22 = .ok (.iload_n 1, 1) := by decide +kernel
theorem dX11_write_23 : decode cX11_write 23 = .ok (.iastore, 1) := by decide +kernel
theorem dX11_write_24 : decode cX11_write 24 = .ok (.aload_n 0, 1) := by decide +kernel
theorem dX11_write_25 : decode cX11_write 25 = .ok (.getfield 7, 3) := by decide +kernel
theorem dX11_write_28 : decode cX11_write 28 = .ok (.iload 6, 2) := by decide +kernel
theorem dX11_write_30 : decode cX11_write 30 = .ok (.iconst 1, 1) := by decide +kernel
theorem dX11_write_31 : decode cX11_write 31 = .ok (.iadd, 1) := by decide +kernel
theorem dX11_write_32 : decode cX11_write 32 = .ok (.iload_n 2, 1) := by decide +kernel
theorem dX11_write_33 : decode cX11_write 33 = .ok (.iastore, 1) := by decide +kernel
theorem dX11_write_34 : decode cX11_write 34 = .ok (.aload_n 0, 1) := by decide +kernel
theorem dX11_write_35 : decode cX11_write 35 = .ok (.getfield 7, 3) := by decide +kernel
theorem dX11_write_38 : decode cX11_write 38 = .ok (.iload 6, 2) := by decide +kernel
theorem dX11_write_40 : decode cX11_write 40 = .ok (.iconst 2, 1) := by decide +kernel
theorem dX11_write_41 : decode cX11_write 41 = .ok (.iadd, 1) := by decide +kernel
theorem dX11_write_42 : decode cX11_write 42 = .ok (.iload_n 3, 1) := by decide +kernel
theorem dX11_write_43 : decode cX11_write 43 = .ok (.iastore, 1) := by decide +kernel
theorem dX11_write_44 : decode cX11_write 44 = .ok (.aload_n 0, 1) := by decide +kernel
theorem dX11_write_45 : decode cX11_write 45 = .ok (.getfield 7, 3) := by decide +kernel
theorem dX11_write_48 : decode cX11_write 48 = .ok (.iload 6, 2) := by decide +kernel
theorem dX11_write_50 : decode cX11_write 50 = .ok (.iconst 3, 1) := by decide +kernel
theorem dX11_write_51 : decode cX11_write 51 = .ok (.iadd, 1) := by decide +kernel
theorem dX11_write_52 : decode cX11_write 52 = .ok (.iload 4, 2) := by decide +kernel
theorem dX11_write_54 : decode cX11_write 54 = .ok (.iastore, 1) := by decide +kernel
theorem dX11_write_55 : decode cX11_write 55 = .ok (.aload_n 0, 1) := by decide +kernel
theorem dX11_write_56 : decode cX11_write 56 = .ok (.getfield 7, 3) := by decide +kernel
theorem dX11_write_59 : decode cX11_write 59 = .ok (.iload 6, 2) := by decide +kernel
theorem dX11_write_61 : decode cX11_write 61 = .ok (.iconst 4, 1) := by decide +kernel
theorem dX11_write_62 : decode cX11_write 62 = .ok (.iadd, 1) := by decide +kernel
theorem dX11_write_63 : decode cX11_write 63 = .ok (.iload 5, 2) := by decide +kernel
theorem dX11_write_65 : decode cX11_write 65 = .ok (.iastore, 1) := by decide +kernel
theorem dX11_write_66 : decode cX11_write 66 = .ok (.aload_n 0, 1) := by decide +kernel
theorem dX11_write_67 : decode cX11_write 67 = .ok (.getfield 7, 3) := by decide +kernel
theorem dX11_write_70 : decode cX11_write 70 = .ok (.iload 6, 2) := by decide +kernel
theorem dX11_write_72 : decode cX11_write 72 = .ok (.iconst 5, 1) := by decide +kernel
theorem dX11_write_73 : decode cX11_write 73 = .ok (.iadd, 1) := by decide +kernel
theorem dX11_write_74 : decode cX11_write 74 = .ok (.iconst (-1), 1) := by decide +kernel
theorem dX11_write_75 : decode cX11_write 75 = .ok (.iastore, 1) := by decide +kernel
theorem dX11_write_76 : decode cX11_write 76 = .ok (.aload_n 0, 1) := by decide +kernel
theorem dX11_write_77 : decode cX11_write 77 = .ok (.getfield 7, 3) := by decide +kernel
theorem dX11_write_80 : decode cX11_write 80 = .ok (.bipush 37, 2) := by decide +kernel
theorem dX11_write_82 : decode cX11_write 82 = .ok (.dup2, 1) := by decide +kernel
theorem dX11_write_83 : decode cX11_write 83 = .ok (.iaload, 1) := by decide +kernel
theorem dX11_write_84 : decode cX11_write 84 = .ok (.iconst 1, 1) := by decide +kernel
theorem dX11_write_85 : decode cX11_write 85 = .ok (.iadd, 1) := by decide +kernel
theorem dX11_write_86 : decode cX11_write 86 = .ok (.iastore, 1) := by decide +kernel
theorem dX11_write_87 : decode cX11_write 87 = .ok (.return_, 1) := by decide +kernel
theorem dX11_happens_0 : decode cX11_happens 0 = .ok (.aload_n 0, 1) := by decide +kernel
theorem dX11_happens_1 : decode cX11_happens 1 = .ok (.getfield 7, 3) := by decide +kernel
theorem dX11_happens_4 : decode cX11_happens 4 = .ok (.bipush 36, 2) := by decide +kernel
theorem dX11_happens_6 : decode cX11_happens 6 = .ok (.iaload, 1) := by decide +kernel
theorem dX11_happens_7 : decode cX11_happens 7 = .ok (.istore 7, 2) := by decide +kernel
theorem dX11_happens_9 : decode cX11_happens 9 = .ok (.bipush 64, 2) := by decide +kernel
theorem dX11_happens_11 : decode cX11_happens 11 = .ok (.bipush 12, 2) := by decide +kernel
theorem dX11_happens_13 : decode cX11_happens 13 = .ok (.iload 7, 2) := by decide +kernel
theorem dX11_happens_15 : decode cX11_happens 15 = .ok (.imul, 1) := by decide +kernel
theorem dX11_happens_16 : decode cX11_happens 16 = .ok (.iadd, 1) := by decide +kernel
theorem dX11_happens_17 : decode cX11_happens 17 = .ok (.istore 8, 2) := by decide +kernel
theorem dX11_happens_19 : decode cX11_happens 19 = .ok (.aload_n 0, 1) := by decide +kernel
theorem dX11_happens_20 : decode cX11_happens 20 = .ok (.getfield 7, 3) := by decide +kernel
theorem dX11_happens_23 : decode cX11_happens 23 = .ok (.iload 8, 2) := by decide +kernel
theorem dX11_happens_25 : decode cX11_happens 25 = .ok (.iload_n 1, 1) := by decide +kernel
theorem dX11_happens_26 : decode cX11_happens 26 = .ok (.iastore, 1) := by decide +kernel
theorem dX11_happens_27 : decode cX11_happens 27 = .ok (.aload_n 0, 1) := by decide +kernel
theorem dX11_happens_28 : decode cX11_happens 28 = .ok (.getfield 7, 3) := by decide +kernel
theorem dX11_happens_31 : decode cX11_happens 31 = .ok (.iload 8, 2) := by decide +kernel
theorem dX11_happens_33 : decode cX11_happens 33 = .ok (.iconst 1, 1) := by decide +kernel
theorem dX11_happens_34 : decode cX11_happens 34 = .ok (.iadd, 1) := by decide +kernel
theorem dX11_happens_35 : decode cX11_happens 35 = .ok (.iload_n 2, 1) := by decide +kernel
theorem dX11_happens_36 : decode cX11_happens 36 = .ok (.iastore, 1) := by decide +kernel
theorem dX11_happens_37 : decode cX11_happens 37 = .ok (.aload_n 0, 1) := by decide +kernel
theorem dX11_happens_38 : decode cX11_happens 38 = .ok (.getfield 7, 3) := by decide +kernel
theorem dX11_happens_41 : decode cX11_happens 41 = .ok (.iload 8, 2) := by decide +kernel
theorem dX11_happens_43 : decode cX11_happens 43 = .ok (.iconst 2, 1) := by decide +kernel
theorem dX11_happens_44 : decode cX11_happens 44 = .ok (.iadd, 1) := by decide +kernel
theorem dX11_happens_45 : decode cX11_happens 45 = .ok (.iload_n 3, 1) := by decide +kernel
theorem dX11_happens_46 : decode cX11_happens 46 = .ok (.iastore, 1) := by decide +kernel
theorem dX11_happens_47 : decode cX11_happens 47 = .ok (.aload_n 0, 1) := by decide +kernel
theorem dX11_happens_48 : decode cX11_happens 48 = .ok (.getfield 7, 3) := by decide +kernel
theorem dX11_happens_51 : decode cX11_happens 51 = .ok (.iload 8, 2) := by decide +kernel
theorem dX11_happens_53 : decode cX11_happens 53 = .ok (.iconst 3, 1) := by decide +kernel
theorem dX11_happens_54 : decode cX11_happens 54 = .ok (.iadd, 1) := by decide +kernel
theorem dX11_happens_55 : decode cX11_happens 55 = .ok (.iload 4, 2) := by decide +kernel
theorem dX11_happens_57 : decode cX11_happens 57 = .ok (.iastore, 1) := by decide +kernel
theorem dX11_happens_58 : decode cX11_happens 58 = .ok (.aload_n 0, 1) := by decide +kernel
theorem dX11_happens_59 : decode cX11_happens 59 = .ok (.getfield 7, 3) := by decide +kernel
theorem dX11_happens_62 : decode cX11_happens 62 = .ok (.iload 8, 2) := by decide +kernel
theorem dX11_happens_64 : decode cX11_happens 64 = .ok (.iconst 4, 1) := by decide +kernel
theorem dX11_happens_65 : decode cX11_happens 65 = .ok (.iadd, 1) := by decide +kernel
theorem dX11_happens_66 : decode cX11_happens 66 = .ok (.iload 5, 2) := by decide +kernel
theorem dX11_happens_68 : decode cX11_happens 68 = .ok (.iastore, 1) := by decide +kernel
theorem dX11_happens_69 : decode cX11_happens 69 = .ok (.aload_n 0, 1) := by decide +kernel
theorem dX11_happens_70 : decode cX11_happens 70 = .ok (.getfield 7, 3) := by decide +kernel
theorem dX11_happens_73 : decode cX11_happens 73 = .ok (.iload 8, 2) := by decide +kernel
theorem dX11_happens_75 : decode cX11_happens 75 = .ok (.iconst 5, 1) := by decide +kernel
theorem dX11_happens_76 : decode cX11_happens 76 = .ok (.iadd, 1) := by decide +kernel
theorem dX11_happens_77 : decode cX11_happens 77 = .ok (.iload 6, 2) := by decide +kernel
theorem dX11_happens_79 : decode cX11_happens 79 = .ok (.iastore, 1) := by decide +kernel
theorem dX11_happens_80 : decode cX11_happens 80 = .ok (.aload_n 0, 1) := by decide +kernel
theorem dX11_happens_81 : decode cX11_happens 81 = .ok (.getfield 7, 3) := by decide +kernel
theorem dX11_happens_84 : decode cX11_happens 84 = .ok (.iload 8, 2) := by decide +kernel
theorem dX11_happens_86 : decode cX11_happens 86 = .ok (.bipush 6, 2) := by decide +kernel
theorem dX11_happens_88 : decode cX11_happens 88 = .ok (.iadd, 1) := by decide +kernel
theorem dX11_happens_89 : decode cX11_happens 89 = .ok (.aload_n 0, 1) := by decide +kernel
theorem dX11_happens_90 : decode cX11_happens 90 = .ok (.getfield 7, 3) := by decide +kernel
theorem dX11_happens_93 : decode cX11_happens 93 = .ok (.bipush 25, 2) := by decide +kernel
theorem dX11_happens_95 : decode cX11_happens 95 = .ok (.iload_n 1, 1) := by decide +kernel
theorem dX11_happens_96 : decode cX11_happens 96 = .ok (.iadd, 1) := by decide +kernel
theorem dX11_happens_97 : decode cX11_happens 97 = .ok (.iaload, 1) := by decide +kernel
theorem dX11_happens_98 : decode cX11_happens 98 = .ok (.iastore, 1) := by decide +kernel
theorem dX11_happens_99 : decode cX11_happens 99 = .ok (.iconst 0, 1) := by decide +kernel
theorem dX11_happens_100 : decode cX11_happens 100 = .ok (.istore 9, 2) := by decide +kernel
theorem dX11_happens_102 : decode cX11_happens 102 = .ok (.iload 9, 2) := by decide +kernel
theorem dX11_happens_104 : decode cX11_happens 104 = .ok (.iconst 5, 1) := by decide +kernel
theorem dX11_happens_105 : decode cX11_happens 105 = .ok (.if_icmp .ge 23, 3) := by decide +kernel
theorem dX11_happens_108 : decode cX11_happens 108 = .ok (.aload_n 0, 1) := by decide +kernel
theorem dX11_happens_109 : decode cX11_happens 109 = .ok (.getfield 7, 3) := by decide +kernel
theorem dX11_happens_112 : decode cX11_happens 112 = .ok (.iload 8, 2) := by decide +kernel
theorem dX11_happens_114 : decode cX11_happens 114 = .ok (.bipush 7, 2) := by decide +kernel
theorem dX11_happens_116 : decode cX11_happens 116 = .ok (.iadd, 1) := by decide +kernel
theorem dX11_happens_117 : decode cX11_happens 117 = .ok (.iload 9, 2) := by decide +kernel
theorem dX11_happens_119 : decode cX11_happens 119 = .ok (.iadd, 1) := by decide +kernel
theorem dX11_happens_120 : decode cX11_happens 120 = .ok (.iconst 0, 1) := by decide +kernel
theorem dX11_happens_121 : decode cX11_happens 121 = .ok (.iastore, 1) := by decide +kernel
theorem dX11_happens_122 : decode cX11_happens 122 = .ok (.iinc 9 1, 3) := by decide +kernel
theorem dX11_happens_125 : decode cX11_happens 125 = .ok (.goto (-23), 3) := by decide +kernel
theorem dX11_happens_128 : decode cX11_happens 128 = .ok (.iconst 0, 1) := by decide +kernel
theorem dX11_happens_129 : decode cX11_happens 129 = .ok (.istore 9, 2) := by decide +kernel
theorem dX11_happens_131 : decode cX11_happens 131 = .ok (.iload 9, 2) := by decide +kernel
theorem dX11_happens_133 : decode cX11_happens 133 = .ok (.iload 7, 2) := by decide +kernel
theorem dX11_happens_135 : decode cX11_happens 135 = .ok (.if_icmp .ge 131, 3) := by decide +kernel
theorem dX11_happens_138 : decode cX11_happens 138 = .ok (.aload_n 0, 1) := by decide +kernel
theorem dX11_happens_139 : decode cX11_happens 139 = .ok (.iload 9, 2) := by decide +kernel
theorem dX11_happens_141 : decode cX11_happens 141 = .ok (.iconst 0, 1) := by decide +kernel
theorem dX11_happens_142 : decode cX11_happens 142 = .ok (.invokevirtual 122, 3) := by decide +kernel
theorem dX11_happens_145 : decode cX11_happens 145 = .ok (.iload_n 1, 1) := by decide +kernel
theorem dX11_happens_146 : decode cX11_happens 146 = .ok (.if_icmp .eq 20, 3) := by decide +kernel
theorem dX11_happens_149 : decode cX11_happens 149 = .ok (.iload_n 2, 1) := by decide +kernel
theorem dX11_happens_150 : decode cX11_happens 150 = .ok (.iconst 2, 1) := by decide +kernel
theorem dX11_happens_151 : decode cX11_happens 151 = .ok (.if_icmp .ne 19, 3) := by decide +kernel
theorem dX11_happens_154 : decode cX11_happens 154 = .ok (.aload_n 0, 1) := by decide +kernel
theorem dX11_happens_155 : decode cX11_happens 155 = .ok (.iload 6, 2) := by decide +kernel
theorem dX11_happens_157 : decode cX11_happens 157 = .ok (.iconst 4, 1) := by decide +kernel
theorem dX11_happens_158 : decode cX11_happens 158 = .ok (.invokevirtual 114, 3) := by decide +kernel
theorem dX11_happens_161 : decode cX11_happens 161 = .ok (.iload 9, 2) := by decide +kernel
theorem dX11_happens_163 : decode cX11_happens 163 = .ok (.if_icmp .ne 7, 3) := by decide +kernel
theorem dX11_happens_166 : decode cX11_happens 166 = .ok (.iconst 1, 1) := by decide +kernel
theorem dX11_happens_167 : decode cX11_happens 167 = .ok (.goto 4, 3) := by decide +kernel
theorem dX11_happens_170 : decode cX11_happens 170 = .ok (.iconst 0, 1) := by decide +kernel
theorem dX11_happens_171 : decode cX11_happens 171 = .ok (.istore 10, 2) := by decide +kernel
theorem dX11_happens_173 : decode cX11_happens 173 = .ok (.iconst 0, 1) := by decide +kernel
theorem dX11_happens_174 : decode cX11_happens 174 = .ok (.istore 11, 2) := by decide +kernel
theorem dX11_happens_176 : decode cX11_happens 176 = .ok (.iload 11, 2) := by decide +kernel
theorem dX11_happens_178 : decode cX11_happens 178 = .ok (.iconst 5, 1) := by decide +kernel
theorem dX11_happens_179 : decode cX11_happens 179 = .ok (.if_icmp .ge 81, 3) := by decide +kernel
theorem dX11_happens_182 : decode cX11_happens 182 = .ok (.iload 10, 2) := by decide +kernel
theorem dX11_happens_184 : decode cX11_happens 184 = .ok (.ifCond .eq 76, 3) := by decide +kernel
theorem dX11_happens_187 : decode cX11_happens 187 = .ok (.aload_n 0, 1) := by decide +kernel
theorem dX11_happens_188 : decode cX11_happens 188 = .ok (.getfield 7, 3) := by decide +kernel
theorem dX11_happens_191 : decode cX11_happens 191 = .ok (.iload 8, 2) := by decide +kernel
theorem dX11_happens_193 : decode cX11_happens 193 = .ok (.bipush 7, 2) := by decide +kernel
theorem dX11_happens_195 : decode cX11_happens 195 = .ok (.iadd, 1) := by decide +kernel
theorem dX11_happens_196 : decode cX11_happens 196 = .ok (.iload 11, 2) := by decide +kernel
theorem dX11_happens_198 : decode cX11_happens 198 = .ok (.iadd, 1) := by decide +kernel
theorem dX11_happens_199 : decode cX11_happens 199 = .ok (.aload_n 0, 1) := by decide +kernel
theorem dX11_happens_200 : decode cX11_happens 200 = .ok (.iload 9, 2) := by decide +kernel
theorem dX11_happens_202 : decode cX11_happens 202 = .ok (.bipush 7, 2) := by decide +kernel
theorem dX11_happens_204 : decode cX11_happens 204 = .ok (.iload 11, 2) := by decide +kernel
theorem dX11_happens_206 : decode cX11_happens 206 = .ok (.iadd, 1) := by decide +kernel
theorem dX11_happens_207 : decode cX11_happens 207 = .ok (.invokevirtual 122, 3) := by decide +kernel
theorem dX11_happens_210 : decode cX11_happens 210 = .ok (.aload_n 0, 1) := by decide +kernel
theorem dX11_happens_211 : decode cX11_happens 211 = .ok (.getfield 7, 3) := by decide +kernel
theorem dX11_happens_214 : decode cX11_happens 214 = .ok (.iload 8, 2) := by decide +kernel
theorem dX11_happens_216 : decode cX11_happens 216 = .ok (.bipush 7, 2) := by decide +kernel
theorem dX11_happens_218 : decode cX11_happens 218 = .ok (.iadd, 1) := by decide +kernel
theorem dX11_happens_219 : decode cX11_happens 219 = .ok (.iload 11, 2) := by decide +kernel
theorem dX11_happens_221 : decode cX11_happens 221 = .ok (.iadd, 1) := by decide +kernel
theorem dX11_happens_222 : decode cX11_happens 222 = .ok (.iaload, 1) := by decide +kernel
theorem dX11_happens_223 : decode cX11_happens 223 = .ok (.if_icmp .le 17, 3) := by decide +kernel
theorem dX11_happens_226 : decode cX11_happens 226 = .ok (.aload_n 0, 1) := by decide +kernel
theorem dX11_happens_227 : decode cX11_happens 227 = .ok (.iload 9, 2) := by decide +kernel
theorem dX11_happens_229 : decode cX11_happens 229 = .ok (.bipush 7, 2) := by decide +kernel
theorem dX11_happens_231 : decode cX11_happens 231 = .ok (.iload 11, 2) := by decide +kernel
theorem dX11_happens_233 : decode cX11_happens 233 = .ok (.iadd, 1) := by decide +kernel
theorem dX11_happens_234 : decode cX11_happens 234 = .ok (.invokevirtual 122, 3) := by decide +kernel
theorem dX11_happens_237 : decode cX11_happens 237 = .ok (.goto 16, 3) := by decide +kernel
theorem dX11_happens_240 : decode cX11_happens 240 = .ok (.aload_n 0, 1) := by decide +kernel
theorem dX11_happens_241 : decode cX11_happens 241 = .ok (.getfield 7, 3) := by decide +kernel
theorem dX11_happens_244 : decode cX11_happens 244 = .ok (.iload 8, 2) := by decide +kernel
theorem dX11_happens_246 : decode cX11_happens 246 = .ok (.bipush 7, 2) := by decide +kernel
theorem dX11_happens_248 : decode cX11_happens 248 = .ok (.iadd, 1) := by decide +kernel
theorem dX11_happens_249 : decode cX11_happens 249 = .ok (.iload 11, 2) := by decide +kernel
theorem dX11_happens_251 : decode cX11_happens 251 = .ok (.iadd, 1) := by decide +kernel
theorem dX11_happens_252 : decode cX11_happens 252 = .ok (.iaload, 1) := by decide +kernel
theorem dX11_happens_253 : decode cX11_happens 253 = .ok (.iastore, 1) := by decide +kernel
theorem dX11_happens_254 : decode cX11_happens 254 = .ok (.iinc 11 1, 3) := by decide +kernel
theorem dX11_happens_257 : decode cX11_happens 257 = .ok (.goto (-81), 3) := by decide +kernel
theorem dX11_happens_260 : decode cX11_happens 260 = .ok (.iinc 9 1, 3) := by decide +kernel
theorem dX11_happens_263 : decode cX11_happens 263 = .ok (.goto (-132), 3) := by decide +kernel
theorem dX11_happens_266 : decode cX11_happens 266 = .ok (.aload_n 0, 1) := by decide +kernel
theorem dX11_happens_267 : decode cX11_happens 267 = .ok (.getfield 7, 3) := by decide +kernel
theorem dX11_happens_270 : decode cX11_happens 270 = .ok (.bipush 25, 2) := by decide +kernel
theorem dX11_happens_272 : decode cX11_happens 272 = .ok (.iload_n 1, 1) := by decide +kernel
theorem dX11_happens_273 : decode cX11_happens 273 = .ok (.iadd, 1) := by decide +kernel
theorem dX11_happens_274 : decode cX11_happens 274 = .ok (.dup2, 1) := by decide +kernel
theorem dX11_happens_275 : decode cX11_happens 275 = .ok (.iaload, 1) := by decide +kernel
theorem dX11_happens_276 : decode cX11_happens 276 = .ok (.iconst 1, 1) := by decide +kernel
theorem dX11_happens_277 : decode cX11_happens 277 = .ok (.iadd, 1) := by decide +kernel
theorem dX11_happens_278 : decode cX11_happens 278 = .ok (.iastore, 1) := by decide +kernel
theorem dX11_happens_279 : decode cX11_happens 279 = .ok (.aload_n 0, 1) := by decide +kernel
theorem dX11_happens_280 : decode cX11_happens 280 = .ok (.getfield 7, 3) := by decide +kernel
theorem dX11_happens_283 : decode cX11_happens 283 = .ok (.iload 8, 2) := by decide +kernel
theorem dX11_happens_285 : decode cX11_happens 285 = .ok (.bipush 7, 2) := by decide +kernel
theorem dX11_happens_287 : decode cX11_happens 287 = .ok (.iadd, 1) := by decide +kernel
theorem dX11_happens_288 : decode cX11_happens 288 = .ok (.iload_n 1, 1) := by decide +kernel
theorem dX11_happens_289 : decode cX11_happens 289 = .ok (.iadd, 1) := by decide +kernel
theorem dX11_happens_290 : decode cX11_happens 290 = .ok (.aload_n 0, 1) := by decide +kernel
theorem dX11_happens_291 : decode cX11_happens 291 = .ok (.getfield 7, 3) := by decide +kernel
theorem dX11_happens_294 : decode cX11_happens 294 = .ok (.bipush 25, 2) := by decide +kernel
theorem dX11_happens_296 : decode cX11_happens 296 = .ok (.iload_n 1, 1) := by decide +kernel
theorem dX11_happens_297 : decode cX11_happens 297 = .ok (.iadd, 1) := by decide +kernel
theorem dX11_happens_298 : decode cX11_happens 298 = .ok (.iaload, 1) := by decide +kernel
theorem dX11_happens_299 : decode cX11_happens 299 = .ok (.iastore, 1) := by decide +kernel
theorem dX11_happens_300 : decode cX11_happens 300 = .ok (.aload_n 0, 1) := by decide +kernel
theorem dX11_happens_301 : decode cX11_happens 301 = .ok (.getfield 7, 3) := by decide +kernel
theorem dX11_happens_304 : decode cX11_happens 304 = .ok (.bipush 36, 2) := by decide +kernel
theorem dX11_happens_306 : decode cX11_happens 306 = .ok (.dup2, 1) := by decide +kernel
theorem dX11_happens_307 : decode cX11_happens 307 = .ok (.iaload, 1) := by decide +kernel
theorem dX11_happens_308 : decode cX11_happens 308 = .ok (.iconst 1, 1) := by decide +kernel
theorem dX11_happens_309 : decode cX11_happens 309 = .ok (.iadd, 1) := by decide +kernel
theorem dX11_happens_310 : decode cX11_happens 310 = .ok (.iastore, 1) := by decide +kernel
theorem dX11_happens_311 : decode cX11_happens 311 = .ok (.iload 7, 2) := by decide +kernel
theorem dX11_happens_313 : decode cX11_happens 313 = .ok (.ireturn, 1) := by decide +kernel
theorem dX11_changeNow_0 : decode cX11_changeNow 0 = .ok (.aload_n 0, 1) := by decide +kernel
theorem dX11_changeNow_1 : decode cX11_changeNow 1 = .ok (.getfield 7, 3) := by decide +kernel
theorem dX11_changeNow_4 : decode cX11_changeNow 4 = .ok (.iconst 0, 1) := by decide +kernel
theorem dX11_changeNow_5 : decode cX11_changeNow 5 = .ok (.iconst 2, 1) := by decide +kernel
theorem dX11_changeNow_6 : decode cX11_changeNow 6 = .ok (.iload_n 1, 1) := by decide +kernel
theorem dX11_changeNow_7 : decode cX11_changeNow 7 = .ok (.imul, 1) := by decide +kernel
theorem dX11_changeNow_8 : decode cX11_changeNow 8 = .ok (.iadd, 1) := by decide +kernel
theorem dX11_changeNow_9 : decode cX11_changeNow 9 = .ok (.iload_n 2, 1) := by decide +kernel
theorem dX11_changeNow_10 : decode cX11_changeNow 10 = .ok (.iadd, 1) := by decide +kernel
theorem dX11_changeNow_11 : decode cX11_changeNow 11 = .ok (.iaload, 1) := by decide +kernel
theorem dX11_changeNow_12 : decode cX11_changeNow 12 = .ok (.iload_n 3, 1) := by decide +kernel
theorem dX11_changeNow_13 : decode cX11_changeNow 13 = .ok (.iadd, 1) := by decide +kernel
theorem dX11_changeNow_14 : decode cX11_changeNow 14 = .ok (.istore 4, 2) := by decide +kernel
theorem dX11_changeNow_16 : decode cX11_changeNow 16 = .ok (.iload 4, 2) := by decide +kernel
theorem dX11_changeNow_18 : decode cX11_changeNow 18 = .ok (.iconst 0, 1) := by decide +kernel
theorem dX11_changeNow_19 : decode cX11_changeNow 19 = .ok (.sipush 1000, 3) := by decide +kernel
theorem dX11_changeNow_22 : decode cX11_changeNow 22 = .ok (.invokestatic 99, 3) := by decide +kernel
theorem dX11_changeNow_25 : decode cX11_changeNow 25 = .ok (.ifCond .ne 6, 3) := by decide +kernel
theorem dX11_changeNow_28 : decode cX11_changeNow 28 = .ok (.ldc 125, 2) := by decide +kernel
theorem dX11_changeNow_30 : decode cX11_changeNow 30 = .ok (.ireturn, 1) := by decide +kernel
theorem dX11_changeNow_31 : decode cX11_changeNow 31 = .ok (.aload_n 0, 1) := by decide +kernel
theorem dX11_changeNow_32 : decode cX11_changeNow 32 = .ok (.getfield 7, 3) := by decide +kernel
theorem dX11_changeNow_35 : decode cX11_changeNow 35 = .ok (.bipush 36, 2) := by decide +kernel
theorem dX11_changeNow_37 : decode cX11_changeNow 37 = .ok (.iaload, 1) := by decide +kernel
theorem dX11_changeNow_38 : decode cX11_changeNow 38 = .ok (.bipush 100, 2) := by decide +kernel
theorem dX11_changeNow_40 : decode cX11_changeNow 40 = .ok (.if_icmp .ne 6, 3) := by decide +kernel
theorem dX11_changeNow_43 : decode cX11_changeNow 43 = .ok (.ldc 126, 2) := by decide +kernel
theorem dX11_changeNow_45 : decode cX11_changeNow 45 = .ok (.ireturn, 1) := by decide +kernel
theorem dX11_changeNow_46 : decode cX11_changeNow 46 = .ok (.aload_n 0, 1) := by decide +kernel
theorem dX11_changeNow_47 : decode cX11_changeNow 47 = .ok (.getfield 7, 3) := by decide +kernel
theorem dX11_changeNow_50 : decode cX11_changeNow 50 = .ok (.iconst 0, 1) := by decide +kernel
theorem dX11_changeNow_51 : decode cX11_changeNow 51 = .ok (.iconst 2, 1) := by decide +kernel
theorem dX11_changeNow_52 : decode cX11_changeNow 52 = .ok (.iload_n 1, 1) := by decide +kernel
theorem dX11_changeNow_53 : decode cX11_changeNow 53 = .ok (.imul, 1) := by decide +kernel
theorem dX11_changeNow_54 : decode cX11_changeNow 54 = .ok (.iadd, 1) := by decide +kernel
theorem dX11_changeNow_55 : decode cX11_changeNow 55 = .ok (.iload_n 2, 1) := by decide +kernel
theorem dX11_changeNow_56 : decode cX11_changeNow 56 = .ok (.iadd, 1) := by decide +kernel
theorem dX11_changeNow_57 : decode cX11_changeNow 57 = .ok (.iload 4, 2) := by decide +kernel
theorem dX11_changeNow_59 : decode cX11_changeNow 59 = .ok (.iastore, 1) := by decide +kernel
theorem dX11_changeNow_60 : decode cX11_changeNow 60 = .ok (.aload_n 0, 1) := by decide +kernel
theorem dX11_changeNow_61 : decode cX11_changeNow 61 = .ok (.iload_n 1, 1) := by decide +kernel
theorem dX11_changeNow_62 : decode cX11_changeNow 62 = .ok (.iconst 0, 1) := by decide +kernel
theorem dX11_changeNow_63 : decode cX11_changeNow 63 = .ok (.iload_n 2, 1) := by decide +kernel
theorem dX11_changeNow_64 : decode cX11_changeNow 64 = .ok (.iload_n 3, 1) := by decide +kernel
theorem dX11_changeNow_65 : decode cX11_changeNow 65 = .ok (.ldc 127, 2) := by decide +kernel
theorem dX11_changeNow_67 : decode cX11_changeNow 67 = .ok (.iconst (-1), 1) := by decide +kernel
theorem dX11_changeNow_68 : decode cX11_changeNow 68 = .ok (.invokevirtual 128, 3) := by decide +kernel
theorem dX11_changeNow_71 : decode cX11_changeNow 71 = .ok (.ireturn, 1) := by decide +kernel
theorem dX11_change_0 : decode cX11_change 0 = .ok (.aload_n 0, 1) := by decide +kernel
theorem dX11_change_1 : decode cX11_change 1 = .ok (.iload_n 1, 1) := by decide +kernel
theorem dX11_change_2 : decode cX11_change 2 = .ok (.iload_n 2, 1) := by decide +kernel
theorem dX11_change_3 : decode cX11_change 3 = .ok (.invokevirtual 108, 3) := by decide +kernel
theorem dX11_change_6 : decode cX11_change 6 = .ok (.ifCond .eq 6, 3) := by decide +kernel
theorem dX11_change_9 : decode cX11_change 9 = .ok (.ldc 112, 2) := by decide +kernel
theorem dX11_change_11 : decode cX11_change 11 = .ok (.ireturn, 1) := by decide +kernel
theorem dX11_change_12 : decode cX11_change 12 = .ok (.iload_n 3, 1) := by decide +kernel
theorem dX11_change_13 : decode cX11_change 13 = .ok (.bipush (-100), 2) := by decide +kernel
theorem dX11_change_15 : decode cX11_change 15 = .ok (.bipush 100, 2) := by decide +kernel
theorem dX11_change_17 : decode cX11_change 17 = .ok (.invokestatic 99, 3) := by decide +kernel
theorem dX11_change_20 : decode cX11_change 20 = .ok (.ifCond .eq 17, 3) := by decide +kernel
theorem dX11_change_23 : decode cX11_change 23 = .ok (.iload_n 3, 1) := by decide +kernel
theorem dX11_change_24 : decode cX11_change 24 = .ok (.ifCond .eq 13, 3) := by decide +kernel
theorem dX11_change_27 : decode cX11_change 27 = .ok (.aload_n 0, 1) := by decide +kernel
theorem dX11_change_28 : decode cX11_change 28 = .ok (.iload_n 1, 1) := by decide +kernel
theorem dX11_change_29 : decode cX11_change 29 = .ok (.iload_n 2, 1) := by decide +kernel
theorem dX11_change_30 : decode cX11_change 30 = .ok (.iload_n 3, 1) := by decide +kernel
theorem dX11_change_31 : decode cX11_change 31 = .ok (.invokevirtual 132, 3) := by decide +kernel
theorem dX11_change_34 : decode cX11_change 34 = .ok (.goto 5, 3) := by decide +kernel
theorem dX11_change_37 : decode cX11_change 37 = .ok (.ldc 103, 2) := by decide +kernel
theorem dX11_change_39 : decode cX11_change 39 = .ok (.ireturn, 1) := by decide +kernel
theorem dX11_sendNow_0 : decode cX11_sendNow 0 = .ok (.aload_n 0, 1) := by decide +kernel
theorem dX11_sendNow_1 : decode cX11_sendNow 1 = .ok (.getfield 7, 3) := by decide +kernel
theorem dX11_sendNow_4 : decode cX11_sendNow 4 = .ok (.iconst 0, 1) := by decide +kernel
theorem dX11_sendNow_5 : decode cX11_sendNow 5 = .ok (.iconst 2, 1) := by decide +kernel
theorem dX11_sendNow_6 : decode cX11_sendNow 6 = .ok (.iload_n 1, 1) := by decide +kernel
theorem dX11_sendNow_7 : decode cX11_sendNow 7 = .ok (.imul, 1) := by decide +kernel
theorem dX11_sendNow_8 : decode cX11_sendNow 8 = .ok (.iadd, 1) := by decide +kernel
theorem dX11_sendNow_9 : decode cX11_sendNow 9 = .ok (.iload_n 3, 1) := by decide +kernel
theorem dX11_sendNow_10 : decode cX11_sendNow 10 = .ok (.iadd, 1) := by decide +kernel
theorem dX11_sendNow_11 : decode cX11_sendNow 11 = .ok (.iaload, 1) := by decide +kernel
theorem dX11_sendNow_12 : decode cX11_sendNow 12 = .ok (.iload 4, 2) := by decide +kernel
theorem dX11_sendNow_14 : decode cX11_sendNow 14 = .ok (.if_icmp .ge 6, 3) := by decide +kernel
theorem dX11_sendNow_17 : decode cX11_sendNow 17 = .ok (.ldc 125, 2) := by decide +kernel
theorem dX11_sendNow_19 : decode cX11_sendNow 19 = .ok (.ireturn, 1) := by decide +kernel
theorem dX11_sendNow_20 : decode cX11_sendNow 20 = .ok (.aload_n 0, 1) := by decide +kernel
theorem dX11_sendNow_21 : decode cX11_sendNow 21 = .ok (.getfield 7, 3) := by decide +kernel
theorem dX11_sendNow_24 : decode cX11_sendNow 24 = .ok (.bipush 36, 2) := by decide +kernel
theorem dX11_sendNow_26 : decode cX11_sendNow 26 = .ok (.iaload, 1) := by decide +kernel
theorem dX11_sendNow_27 : decode cX11_sendNow 27 = .ok (.bipush 100, 2) := by decide +kernel
theorem dX11_sendNow_29 : decode cX11_sendNow 29 = .ok (.if_icmp .eq 14, 3) := by decide +kernel
theorem dX11_sendNow_32 : decode cX11_sendNow 32 = .ok (.aload_n 0, 1) := by decide +kernel
theorem dX11_sendNow_33 : decode cX11_sendNow 33 = .ok (.iload_n 1, 1) := by decide +kernel
theorem dX11_sendNow_34 : decode cX11_sendNow 34 = .ok (.iload_n 2, 1) := by decide +kernel
theorem dX11_sendNow_35 : decode cX11_sendNow 35 = .ok (.invokevirtual 135, 3) := by decide +kernel
theorem dX11_sendNow_38 : decode cX11_sendNow 38 = .ok (.bipush 6, 2) := by decide +kernel
theorem dX11_sendNow_40 : decode cX11_sendNow 40 = .ok (.if_icmp .lt 6, 3) := by decide +kernel
theorem dX11_sendNow_43 : decode cX11_sendNow 43 = .ok (.ldc 126, 2) := by decide +kernel
theorem dX11_sendNow_45 : decode cX11_sendNow 45 = .ok (.ireturn, 1) := by decide +kernel
theorem dX11_sendNow_46 : decode cX11_sendNow 46 = .ok (.aload_n 0, 1) := by decide +kernel
theorem dX11_sendNow_47 : decode cX11_sendNow 47 = .ok (.getfield 7, 3) := by decide +kernel
theorem dX11_sendNow_50 : decode cX11_sendNow 50 = .ok (.iconst 0, 1) := by decide +kernel
theorem dX11_sendNow_51 : decode cX11_sendNow 51 = .ok (.iconst 2, 1) := by decide +kernel
theorem dX11_sendNow_52 : decode cX11_sendNow 52 = .ok (.iload_n 1, 1) := by decide +kernel
theorem dX11_sendNow_53 : decode cX11_sendNow 53 = .ok (.imul, 1) := by decide +kernel
theorem dX11_sendNow_54 : decode cX11_sendNow 54 = .ok (.iadd, 1) := by decide +kernel
theorem dX11_sendNow_55 : decode cX11_sendNow 55 = .ok (.iload_n 3, 1) := by decide +kernel
theorem dX11_sendNow_56 : decode cX11_sendNow 56 = .ok (.iadd, 1) := by decide +kernel
theorem dX11_sendNow_57 : decode cX11_sendNow 57 = .ok (.dup2, 1) := by decide +kernel
theorem dX11_sendNow_58 : decode cX11_sendNow 58 = .ok (.iaload, 1) := by decide +kernel
theorem dX11_sendNow_59 : decode cX11_sendNow 59 = .ok (.iload 4, 2) := by decide +kernel
theorem dX11_sendNow_61 : decode cX11_sendNow 61 = .ok (.isub, 1) := by decide +kernel
theorem dX11_sendNow_62 : decode cX11_sendNow 62 = .ok (.iastore, 1) := by decide +kernel
theorem dX11_sendNow_63 : decode cX11_sendNow 63 = .ok (.aload_n 0, 1) := by decide +kernel
theorem dX11_sendNow_64 : decode cX11_sendNow 64 = .ok (.iload_n 1, 1) := by decide +kernel
theorem dX11_sendNow_65 : decode cX11_sendNow 65 = .ok (.iload_n 2, 1) := by decide +kernel
theorem dX11_sendNow_66 : decode cX11_sendNow 66 = .ok (.iload_n 3, 1) := by decide +kernel
theorem dX11_sendNow_67 : decode cX11_sendNow 67 = .ok (.iload 4, 2) := by decide +kernel
theorem dX11_sendNow_69 : decode cX11_sendNow 69 = .ok (.aload_n 0, 1) := by decide +kernel
theorem dX11_sendNow_70 : decode cX11_sendNow 70 = .ok (.getfield 7, 3) := by decide +kernel
theorem dX11_sendNow_73 : decode cX11_sendNow 73 = .ok (.bipush 36, 2) := by decide +kernel
theorem dX11_sendNow_75 : decode cX11_sendNow 75 = .ok (.iaload, 1) := by decide +kernel
theorem dX11_sendNow_76 : decode cX11_sendNow 76 = .ok (.invokevirtual 138, 3) := by decide +kernel
theorem dX11_sendNow_79 : decode cX11_sendNow 79 = .ok (.aload_n 0, 1) := by decide +kernel
theorem dX11_sendNow_80 : decode cX11_sendNow 80 = .ok (.iload_n 1, 1) := by decide +kernel
theorem dX11_sendNow_81 : decode cX11_sendNow 81 = .ok (.iconst 1, 1) := by decide +kernel
theorem dX11_sendNow_82 : decode cX11_sendNow 82 = .ok (.iload_n 3, 1) := by decide +kernel
theorem dX11_sendNow_83 : decode cX11_sendNow 83 = .ok (.iload 4, 2) := by decide +kernel
theorem dX11_sendNow_85 : decode cX11_sendNow 85 = .ok (.iload_n 2, 1) := by decide +kernel
theorem dX11_sendNow_86 : decode cX11_sendNow 86 = .ok (.aload_n 0, 1) := by decide +kernel
theorem dX11_sendNow_87 : decode cX11_sendNow 87 = .ok (.getfield 7, 3) := by decide +kernel
theorem dX11_sendNow_90 : decode cX11_sendNow 90 = .ok (.bipush 37, 2) := by decide +kernel
theorem dX11_sendNow_92 : decode cX11_sendNow 92 = .ok (.iaload, 1) := by decide +kernel
theorem dX11_sendNow_93 : decode cX11_sendNow 93 = .ok (.iconst 1, 1) := by decide +kernel
theorem dX11_sendNow_94 : decode cX11_sendNow 94 = .ok (.isub, 1) := by decide +kernel
theorem dX11_sendNow_95 : decode cX11_sendNow 95 = .ok (.invokevirtual 128, 3) := by decide +kernel
theorem dX11_sendNow_98 : decode cX11_sendNow 98 = .ok (.ireturn, 1) := by decide +kernel
theorem dX11_send_0 : decode cX11_send 0 = .ok (.aload_n 0, 1) := by decide +kernel
theorem dX11_send_1 : decode cX11_send 1 = .ok (.iload_n 1, 1) := by decide +kernel
theorem dX11_send_2 : decode cX11_send 2 = .ok (.iload_n 2, 1) := by decide +kernel
theorem dX11_send_3 : decode cX11_send 3 = .ok (.invokevirtual 142, 3) := by decide +kernel
theorem dX11_send_6 : decode cX11_send 6 = .ok (.ifCond .ne 12, 3) := by decide +kernel
theorem dX11_send_9 : decode cX11_send 9 = .ok (.iload_n 3, 1) := by decide +kernel
theorem dX11_send_10 : decode cX11_send 10 = .ok (.iconst 0, 1) := by decide +kernel
theorem dX11_send_11 : decode cX11_send 11 = .ok (.iconst 1, 1) := by decide +kernel
theorem dX11_send_12 : decode cX11_send 12 = .ok (.invokestatic 99, 3) := by decide +kernel
theorem dX11_send_15 : decode cX11_send 15 = .ok (.ifCond .ne 6, 3) := by decide +kernel
theorem dX11_send_18 : decode cX11_send 18 = .ok (.ldc 112, 2) := by decide +kernel
theorem dX11_send_20 : decode cX11_send 20 = .ok (.ireturn, 1) := by decide +kernel
theorem dX11_send_21 : decode cX11_send 21 = .ok (.iload 4, 2) := by decide +kernel
theorem dX11_send_23 : decode cX11_send 23 = .ok (.iconst 1, 1) := by decide +kernel
theorem dX11_send_24 : decode cX11_send 24 = .ok (.bipush 100, 2) := by decide +kernel
theorem dX11_send_26 : decode cX11_send 26 = .ok (.invokestatic 99, 3) := by decide +kernel
theorem dX11_send_29 : decode cX11_send 29 = .ok (.ifCond .eq 15, 3) := by decide +kernel
theorem dX11_send_32 : decode cX11_send 32 = .ok (.aload_n 0, 1) := by decide +kernel
theorem dX11_send_33 : decode cX11_send 33 = .ok (.iload_n 1, 1) := by decide +kernel
theorem dX11_send_34 : decode cX11_send 34 = .ok (.iload_n 2, 1) := by decide +kernel
theorem dX11_send_35 : decode cX11_send 35 = .ok (.iload_n 3, 1) := by decide +kernel
theorem dX11_send_36 : decode cX11_send 36 = .ok (.iload 4, 2) := by decide +kernel
theorem dX11_send_38 : decode cX11_send 38 = .ok (.invokevirtual 145, 3) := by decide +kernel
theorem dX11_send_41 : decode cX11_send 41 = .ok (.goto 5, 3) := by decide +kernel
theorem dX11_send_44 : decode cX11_send 44 = .ok (.ldc 103, 2) := by decide +kernel
theorem dX11_send_46 : decode cX11_send 46 = .ok (.ireturn, 1) := by decide +kernel
theorem dX11_takeMarker_0 : decode cX11_takeMarker 0 = .ok (.aload_n 0, 1) := by decide +kernel
theorem dX11_takeMarker_1 : decode cX11_takeMarker 1 = .ok (.getfield 7, 3) := by decide +kernel
theorem dX11_takeMarker_4 : decode cX11_takeMarker 4 = .ok (.bipush 38, 2) := by decide +kernel
theorem dX11_takeMarker_6 : decode cX11_takeMarker 6 = .ok (.iconst 5, 1) := by decide +kernel
theorem dX11_takeMarker_7 : decode cX11_takeMarker 7 = .ok (.iload_n 1, 1) := by decide +kernel
theorem dX11_takeMarker_8 : decode cX11_takeMarker 8 = .ok (.imul, 1) := by decide +kernel
theorem dX11_takeMarker_9 : decode cX11_takeMarker 9 = .ok (.iadd, 1) := by decide +kernel
theorem dX11_takeMarker_10 : decode cX11_takeMarker 10 = .ok (.iload_n 2, 1) := by decide +kernel
theorem dX11_takeMarker_11 : decode cX11_takeMarker 11 = .ok (.iadd, 1) := by decide +kernel
theorem dX11_takeMarker_12 : decode cX11_takeMarker 12 = .ok (.iconst (-1), 1) := by decide +kernel
theorem dX11_takeMarker_13 : decode cX11_takeMarker 13 = .ok (.iastore, 1) := by decide +kernel
theorem dX11_takeMarker_14 : decode cX11_takeMarker 14 = .ok (.aload_n 0, 1) := by decide +kernel
theorem dX11_takeMarker_15 : decode cX11_takeMarker 15 = .ok (.getfield 7, 3) := by decide +kernel
theorem dX11_takeMarker_18 : decode cX11_takeMarker 18 = .ok (.bipush 30, 2) := by decide +kernel
theorem dX11_takeMarker_20 : decode cX11_takeMarker 20 = .ok (.iload_n 2, 1) := by decide +kernel
theorem dX11_takeMarker_21 : decode cX11_takeMarker 21 = .ok (.iadd, 1) := by decide +kernel
theorem dX11_takeMarker_22 : decode cX11_takeMarker 22 = .ok (.iaload, 1) := by decide +kernel
theorem dX11_takeMarker_23 : decode cX11_takeMarker 23 = .ok (.ifCond .ge 8, 3) := by decide +kernel
theorem dX11_takeMarker_26 : decode cX11_takeMarker 26 = .ok (.aload_n 0, 1) := by decide +kernel
theorem dX11_takeMarker_27 : decode cX11_takeMarker 27 = .ok (.iload_n 2, 1) := by decide +kernel
theorem dX11_takeMarker_28 : decode cX11_takeMarker 28 = .ok (.invokevirtual 149, 3) := by decide +kernel
theorem dX11_takeMarker_31 : decode cX11_takeMarker 31 = .ok (.iconst 1, 1) := by decide +kernel
theorem dX11_takeMarker_32 : decode cX11_takeMarker 32 = .ok (.istore_n 3, 1) := by decide +kernel
theorem dX11_takeMarker_33 : decode cX11_takeMarker 33 = .ok (.iconst 0, 1) := by decide +kernel
theorem dX11_takeMarker_34 : decode cX11_takeMarker 34 = .ok (.istore 4, 2) := by decide +kernel
theorem dX11_takeMarker_36 : decode cX11_takeMarker 36 = .ok (.iload 4, 2) := by decide +kernel
theorem dX11_takeMarker_38 : decode cX11_takeMarker 38 = .ok (.aload_n 0, 1) := by decide +kernel
theorem dX11_takeMarker_39 : decode cX11_takeMarker 39 = .ok (.getfield 79, 3) := by decide +kernel
theorem dX11_takeMarker_42 : decode cX11_takeMarker 42 = .ok (.if_icmp .ge 32, 3) := by decide +kernel
theorem dX11_takeMarker_45 : decode cX11_takeMarker 45 = .ok (.iload_n 3, 1) := by decide +kernel
theorem dX11_takeMarker_46 : decode cX11_takeMarker 46 = .ok (.ifCond .eq 20, 3) := by decide +kernel
theorem dX11_takeMarker_49 : decode cX11_takeMarker 49 = .ok (.aload_n 0, 1) := by decide +kernel
theorem dX11_takeMarker_50 : decode cX11_takeMarker 50 = .ok (.getfield 7, 3) := by decide +kernel
theorem dX11_takeMarker_53 : decode cX11_takeMarker 53 = .ok (.bipush 30, 2) := by decide +kernel
theorem dX11_takeMarker_55 : decode cX11_takeMarker 55 = .ok (.iload 4, 2) := by decide +kernel
theorem dX11_takeMarker_57 : decode cX11_takeMarker 57 = .ok (.iadd, 1) := by decide +kernel
theorem dX11_takeMarker_58 : decode cX11_takeMarker 58 = .ok (.iaload, 1) := by decide +kernel
theorem dX11_takeMarker_59 : decode cX11_takeMarker 59 = .ok (.ifCond .lt 7, 3) := by decide +kernel
theorem dX11_takeMarker_62 : decode cX11_takeMarker 62 = .ok (.iconst 1, 1) := by decide +kernel
theorem dX11_takeMarker_63 : decode cX11_takeMarker 63 = .ok (.goto 4, 3) := by decide +kernel
theorem dX11_takeMarker_66 : decode cX11_takeMarker 66 = .ok (.iconst 0, 1) := by decide +kernel
theorem dX11_takeMarker_67 : decode cX11_takeMarker 67 = .ok (.istore_n 3, 1) := by decide +kernel
theorem dX11_takeMarker_68 : decode cX11_takeMarker 68 = .ok (.iinc 4 1, 3) := by decide +kernel
theorem dX11_takeMarker_71 : decode cX11_takeMarker 71 = .ok (.goto (-35), 3) := by decide +kernel
theorem dX11_takeMarker_74 : decode cX11_takeMarker 74 = .ok (.aload_n 0, 1) := by decide +kernel
theorem dX11_takeMarker_75 : decode cX11_takeMarker 75 = .ok (.getfield 7, 3) := by decide +kernel
theorem dX11_takeMarker_78 : decode cX11_takeMarker 78 = .ok (.bipush 35, 2) := by decide +kernel
theorem dX11_takeMarker_80 : decode cX11_takeMarker 80 = .ok (.iload_n 3, 1) := by decide +kernel
theorem dX11_takeMarker_81 : decode cX11_takeMarker 81 = .ok (.ifCond .eq 14, 3) := by decide +kernel
theorem dX11_takeMarker_84 : decode cX11_takeMarker 84 = .ok (.aload_n 0, 1) := by decide +kernel
theorem dX11_takeMarker_85 : decode cX11_takeMarker 85 = .ok (.invokevirtual 152, 3) := by decide +kernel
theorem dX11_takeMarker_88 : decode cX11_takeMarker 88 = .ok (.ifCond .ne 7, 3) := by decide +kernel
theorem dX11_takeMarker_91 : decode cX11_takeMarker 91 = .ok (.iconst 2, 1) := by decide +kernel
theorem dX11_takeMarker_92 : decode cX11_takeMarker 92 = .ok (.goto 4, 3) := by decide +kernel
theorem dX11_takeMarker_95 : decode cX11_takeMarker 95 = .ok (.iconst 1, 1) := by decide +kernel
theorem dX11_takeMarker_96 : decode cX11_takeMarker 96 = .ok (.iastore, 1) := by decide +kernel
theorem dX11_takeMarker_97 : decode cX11_takeMarker 97 = .ok (.return_, 1) := by decide +kernel
theorem dX11_receive_0 : decode cX11_receive 0 = .ok (.aload_n 0, 1) := by decide +kernel
theorem dX11_receive_1 : decode cX11_receive 1 = .ok (.iload_n 2, 1) := by decide +kernel
theorem dX11_receive_2 : decode cX11_receive 2 = .ok (.iload_n 1, 1) := by decide +kernel
theorem dX11_receive_3 : decode cX11_receive 3 = .ok (.invokevirtual 142, 3) := by decide +kernel
theorem dX11_receive_6 : decode cX11_receive 6 = .ok (.ifCond .eq 6, 3) := by decide +kernel
theorem dX11_receive_9 : decode cX11_receive 9 = .ok (.ldc 112, 2) := by decide +kernel
theorem dX11_receive_11 : decode cX11_receive 11 = .ok (.ireturn, 1) := by decide +kernel
theorem dX11_receive_12 : decode cX11_receive 12 = .ok (.aload_n 0, 1) := by decide +kernel
theorem dX11_receive_13 : decode cX11_receive 13 = .ok (.iload_n 2, 1) := by decide +kernel
theorem dX11_receive_14 : decode cX11_receive 14 = .ok (.iload_n 1, 1) := by decide +kernel
theorem dX11_receive_15 : decode cX11_receive 15 = .ok (.iconst 0, 1) := by decide +kernel
theorem dX11_receive_16 : decode cX11_receive 16 = .ok (.invokevirtual 118, 3) := by decide +kernel
theorem dX11_receive_19 : decode cX11_receive 19 = .ok (.istore_n 3, 1) := by decide +kernel
theorem dX11_receive_20 : decode cX11_receive 20 = .ok (.aload_n 0, 1) := by decide +kernel
theorem dX11_receive_21 : decode cX11_receive 21 = .ok (.getfield 7, 3) := by decide +kernel
theorem dX11_receive_24 : decode cX11_receive 24 = .ok (.bipush 38, 2) := by decide +kernel
theorem dX11_receive_26 : decode cX11_receive 26 = .ok (.iconst 5, 1) := by decide +kernel
theorem dX11_receive_27 : decode cX11_receive 27 = .ok (.iload_n 2, 1) := by decide +kernel
theorem dX11_receive_28 : decode cX11_receive 28 = .ok (.imul, 1) := by decide +kernel
theorem dX11_receive_29 : decode cX11_receive 29 = .ok (.iadd, 1) := by decide +kernel
theorem dX11_receive_30 : decode cX11_receive 30 = .ok (.iload_n 1, 1) := by decide +kernel
theorem dX11_receive_31 : decode cX11_receive 31 = .ok (.iadd, 1) := by decide +kernel
theorem dX11_receive_32 : decode cX11_receive 32 = .ok (.iaload, 1) := by decide +kernel
theorem dX11_receive_33 : decode cX11_receive 33 = .ok (.istore 4, 2) := by decide +kernel
theorem dX11_receive_35 : decode cX11_receive 35 = .ok (.iload 4, 2) := by decide +kernel
theorem dX11_receive_37 : decode cX11_receive 37 = .ok (.ifCond .lt 19, 3) := by decide +kernel
theorem dX11_receive_40 : decode cX11_receive 40 = .ok (.iload_n 3, 1) := by decide +kernel
theorem dX11_receive_41 : decode cX11_receive 41 = .ok (.iload 4, 2) := by decide +kernel
theorem dX11_receive_43 : decode cX11_receive 43 = .ok (.if_icmp .lt 13, 3) := by decide +kernel
theorem dX11_receive_46 : decode cX11_receive 46 = .ok (.aload_n 0, 1) := by decide +kernel
theorem dX11_receive_47 : decode cX11_receive 47 = .ok (.iload_n 2, 1) := by decide +kernel
theorem dX11_receive_48 : decode cX11_receive 48 = .ok (.iload_n 1, 1) := by decide +kernel
theorem dX11_receive_49 : decode cX11_receive 49 = .ok (.invokevirtual 156, 3) := by decide +kernel
theorem dX11_receive_52 : decode cX11_receive 52 = .ok (.sipush 1000, 3) := by decide +kernel
theorem dX11_receive_55 : decode cX11_receive 55 = .ok (.ireturn, 1) := by decide +kernel
theorem dX11_receive_56 : decode cX11_receive 56 = .ok (.iload_n 3, 1) := by decide +kernel
theorem dX11_receive_57 : decode cX11_receive 57 = .ok (.aload_n 0, 1) := by decide +kernel
theorem dX11_receive_58 : decode cX11_receive 58 = .ok (.getfield 7, 3) := by decide +kernel
theorem dX11_receive_61 : decode cX11_receive 61 = .ok (.bipush 37, 2) := by decide +kernel
theorem dX11_receive_63 : decode cX11_receive 63 = .ok (.iaload, 1) := by decide +kernel
theorem dX11_receive_64 : decode cX11_receive 64 = .ok (.if_icmp .ne 8, 3) := by decide +kernel
theorem dX11_receive_67 : decode cX11_receive 67 = .ok (.ldc 127, 2) := by decide +kernel
theorem dX11_receive_69 : decode cX11_receive 69 = .ok (.goto 10, 3) := by decide +kernel
theorem dX11_receive_72 : decode cX11_receive 72 = .ok (.aload_n 0, 1) := by decide +kernel
theorem dX11_receive_73 : decode cX11_receive 73 = .ok (.iload_n 1, 1) := by decide +kernel
theorem dX11_receive_74 : decode cX11_receive 74 = .ok (.iload_n 2, 1) := by decide +kernel
theorem dX11_receive_75 : decode cX11_receive 75 = .ok (.iload_n 3, 1) := by decide +kernel
theorem dX11_receive_76 : decode cX11_receive 76 = .ok (.invokevirtual 160, 3) := by decide +kernel
theorem dX11_receive_79 : decode cX11_receive 79 = .ok (.ireturn, 1) := by decide +kernel
theorem dX11_receiveNow_0 : decode cX11_receiveNow 0 = .ok (.aload_n 0, 1) := by decide +kernel
theorem dX11_receiveNow_1 : decode cX11_receiveNow 1 = .ok (.iload_n 3, 1) := by decide +kernel
theorem dX11_receiveNow_2 : decode cX11_receiveNow 2 = .ok (.iconst 2, 1) := by decide +kernel
theorem dX11_receiveNow_3 : decode cX11_receiveNow 3 = .ok (.invokevirtual 114, 3) := by decide +kernel
theorem dX11_receiveNow_6 : decode cX11_receiveNow 6 = .ok (.istore 4, 2) := by decide +kernel
theorem dX11_receiveNow_8 : decode cX11_receiveNow 8 = .ok (.aload_n 0, 1) := by decide +kernel
theorem dX11_receiveNow_9 : decode cX11_receiveNow 9 = .ok (.getfield 7, 3) := by decide +kernel
theorem dX11_receiveNow_12 : decode cX11_receiveNow 12 = .ok (.iconst 0, 1) := by decide +kernel
theorem dX11_receiveNow_13 : decode cX11_receiveNow 13 = .ok (.iconst 2, 1) := by decide +kernel
theorem dX11_receiveNow_14 : decode cX11_receiveNow 14 = .ok (.iload_n 1, 1) := by decide +kernel
theorem dX11_receiveNow_15 : decode cX11_receiveNow 15 = .ok (.imul, 1) := by decide +kernel
theorem dX11_receiveNow_16 : decode cX11_receiveNow 16 = .ok (.iadd, 1) := by decide +kernel
theorem dX11_receiveNow_17 : decode cX11_receiveNow 17 = .ok (.iload 4, 2) := by decide +kernel
theorem dX11_receiveNow_19 : decode cX11_receiveNow 19 = .ok (.iadd, 1) := by decide +kernel
theorem dX11_receiveNow_20 : decode cX11_receiveNow 20 = .ok (.iaload, 1) := by decide +kernel
theorem dX11_receiveNow_21 : decode cX11_receiveNow 21 = .ok (.aload_n 0, 1) := by decide +kernel
theorem dX11_receiveNow_22 : decode cX11_receiveNow 22 = .ok (.iload_n 3, 1) := by decide +kernel
theorem dX11_receiveNow_23 : decode cX11_receiveNow 23 = .ok (.iconst 3, 1) := by decide +kernel
theorem dX11_receiveNow_24 : decode cX11_receiveNow 24 = .ok (.invokevirtual 114, 3) := by decide +kernel
theorem dX11_receiveNow_27 : decode cX11_receiveNow 27 = .ok (.iadd, 1) := by decide +kernel
theorem dX11_receiveNow_28 : decode cX11_receiveNow 28 = .ok (.istore 5, 2) := by decide +kernel
theorem dX11_receiveNow_30 : decode cX11_receiveNow 30 = .ok (.iload 5, 2) := by decide +kernel
theorem dX11_receiveNow_32 : decode cX11_receiveNow 32 = .ok (.sipush 1000, 3) := by decide +kernel
theorem dX11_receiveNow_35 : decode cX11_receiveNow 35 = .ok (.if_icmp .le 6, 3) := by decide +kernel
theorem dX11_receiveNow_38 : decode cX11_receiveNow 38 = .ok (.ldc 125, 2) := by decide +kernel
theorem dX11_receiveNow_40 : decode cX11_receiveNow 40 = .ok (.ireturn, 1) := by decide +kernel
theorem dX11_receiveNow_41 : decode cX11_receiveNow 41 = .ok (.aload_n 0, 1) := by decide +kernel
theorem dX11_receiveNow_42 : decode cX11_receiveNow 42 = .ok (.getfield 7, 3) := by decide +kernel
theorem dX11_receiveNow_45 : decode cX11_receiveNow 45 = .ok (.bipush 36, 2) := by decide +kernel
theorem dX11_receiveNow_47 : decode cX11_receiveNow 47 = .ok (.iaload, 1) := by decide +kernel
theorem dX11_receiveNow_48 : decode cX11_receiveNow 48 = .ok (.bipush 100, 2) := by decide +kernel
theorem dX11_receiveNow_50 : decode cX11_receiveNow 50 = .ok (.if_icmp .ne 6, 3) := by decide +kernel
theorem dX11_receiveNow_53 : decode cX11_receiveNow 53 = .ok (.ldc 126, 2) := by decide +kernel
theorem dX11_receiveNow_55 : decode cX11_receiveNow 55 = .ok (.ireturn, 1) := by decide +kernel
theorem dX11_receiveNow_56 : decode cX11_receiveNow 56 = .ok (.aload_n 0, 1) := by decide +kernel
theorem dX11_receiveNow_57 : decode cX11_receiveNow 57 = .ok (.getfield 7, 3) := by decide +kernel
theorem dX11_receiveNow_60 : decode cX11_receiveNow 60 = .ok (.iconst 0, 1) := by decide +kernel
theorem dX11_receiveNow_61 : decode cX11_receiveNow 61 = .ok (.iconst 2, 1) := by decide +kernel
theorem dX11_receiveNow_62 : decode cX11_receiveNow 62 = .ok (.iload_n 1, 1) := by decide +kernel
theorem dX11_receiveNow_63 : decode cX11_receiveNow 63 = .ok (.imul, 1) := by decide +kernel
theorem dX11_receiveNow_64 : decode cX11_receiveNow 64 = .ok (.iadd, 1) := by decide +kernel
theorem dX11_receiveNow_65 : decode cX11_receiveNow 65 = .ok (.iload 4, 2) := by decide +kernel
theorem dX11_receiveNow_67 : decode cX11_receiveNow 67 = .ok (.iadd, 1) := by decide +kernel
theorem dX11_receiveNow_68 : decode cX11_receiveNow 68 = .ok (.iload 5, 2) := by decide +kernel
theorem dX11_receiveNow_70 : decode cX11_receiveNow 70 = .ok (.iastore, 1) := by decide +kernel
theorem dX11_receiveNow_71 : decode cX11_receiveNow 71 = .ok (.aload_n 0, 1) := by decide +kernel
theorem dX11_receiveNow_72 : decode cX11_receiveNow 72 = .ok (.getfield 7, 3) := by decide +kernel
theorem dX11_receiveNow_75 : decode cX11_receiveNow 75 = .ok (.sipush 1264, 3) := by decide +kernel
theorem dX11_receiveNow_78 : decode cX11_receiveNow 78 = .ok (.bipush 6, 2) := by decide +kernel
theorem dX11_receiveNow_80 : decode cX11_receiveNow 80 = .ok (.iload_n 3, 1) := by decide +kernel
theorem dX11_receiveNow_81 : decode cX11_receiveNow 81 = .ok (.imul, 1) := by decide +kernel
theorem dX11_receiveNow_82 : decode cX11_receiveNow 82 = .ok (.iadd, 1) := by decide +kernel
theorem dX11_receiveNow_83 : decode cX11_receiveNow 83 = .ok (.iconst 5, 1) := by decide +kernel
theorem dX11_receiveNow_84 : decode cX11_receiveNow 84 = .ok (.iadd, 1) := by decide +kernel
theorem dX11_receiveNow_85 : decode cX11_receiveNow 85 = .ok (.aload_n 0, 1) := by decide +kernel
theorem dX11_receiveNow_86 : decode cX11_receiveNow 86 = .ok (.getfield 7, 3) := by decide +kernel
theorem dX11_receiveNow_89 : decode cX11_receiveNow 89 = .ok (.bipush 36, 2) := by decide +kernel
theorem dX11_receiveNow_91 : decode cX11_receiveNow 91 = .ok (.iaload, 1) := by decide +kernel
theorem dX11_receiveNow_92 : decode cX11_receiveNow 92 = .ok (.iastore, 1) := by decide +kernel
theorem dX11_receiveNow_93 : decode cX11_receiveNow 93 = .ok (.aload_n 0, 1) := by decide +kernel
theorem dX11_receiveNow_94 : decode cX11_receiveNow 94 = .ok (.iload_n 1, 1) := by decide +kernel
theorem dX11_receiveNow_95 : decode cX11_receiveNow 95 = .ok (.iconst 2, 1) := by decide +kernel
theorem dX11_receiveNow_96 : decode cX11_receiveNow 96 = .ok (.iload 4, 2) := by decide +kernel
theorem dX11_receiveNow_98 : decode cX11_receiveNow 98 = .ok (.aload_n 0, 1) := by decide +kernel
theorem dX11_receiveNow_99 : decode cX11_receiveNow 99 = .ok (.iload_n 3, 1) := by decide +kernel
theorem dX11_receiveNow_100 : decode cX11_receiveNow 100 = .ok (.iconst 3, 1) := by decide +kernel
theorem dX11_receiveNow_101 : decode cX11_receiveNow 101 = .ok (.invokevirtual 114, 3) := by decide +kernel
theorem dX11_receiveNow_104 : decode cX11_receiveNow 104 = .ok (.iload_n 2, 1) := by decide +kernel
theorem dX11_receiveNow_105 : decode cX11_receiveNow 105 = .ok (.iload_n 3, 1) := by decide +kernel
theorem dX11_receiveNow_106 : decode cX11_receiveNow 106 = .ok (.invokevirtual 128, 3) := by decide +kernel
theorem dX11_receiveNow_109 : decode cX11_receiveNow 109 = .ok (.ireturn, 1) := by decide +kernel
theorem dX11_stock_0 : decode cX11_stock 0 = .ok (.aload_n 0, 1) := by decide +kernel
theorem dX11_stock_1 : decode cX11_stock 1 = .ok (.iload_n 1, 1) := by decide +kernel
theorem dX11_stock_2 : decode cX11_stock 2 = .ok (.iload_n 2, 1) := by decide +kernel
theorem dX11_stock_3 : decode cX11_stock 3 = .ok (.invokevirtual 108, 3) := by decide +kernel
theorem dX11_stock_6 : decode cX11_stock 6 = .ok (.ifCond .eq 8, 3) := by decide +kernel
theorem dX11_stock_9 : decode cX11_stock 9 = .ok (.ldc 112, 2) := by decide +kernel
theorem dX11_stock_11 : decode cX11_stock 11 = .ok (.goto 15, 3) := by decide +kernel
theorem dX11_stock_14 : decode cX11_stock 14 = .ok (.aload_n 0, 1) := by decide +kernel
theorem dX11_stock_15 : decode cX11_stock 15 = .ok (.getfield 7, 3) := by decide +kernel
theorem dX11_stock_18 : decode cX11_stock 18 = .ok (.iconst 0, 1) := by decide +kernel
theorem dX11_stock_19 : decode cX11_stock 19 = .ok (.iconst 2, 1) := by decide +kernel
theorem dX11_stock_20 : decode cX11_stock 20 = .ok (.iload_n 1, 1) := by decide +kernel
theorem dX11_stock_21 : decode cX11_stock 21 = .ok (.imul, 1) := by decide +kernel
theorem dX11_stock_22 : decode cX11_stock 22 = .ok (.iadd, 1) := by decide +kernel
theorem dX11_stock_23 : decode cX11_stock 23 = .ok (.iload_n 2, 1) := by decide +kernel
theorem dX11_stock_24 : decode cX11_stock 24 = .ok (.iadd, 1) := by decide +kernel
theorem dX11_stock_25 : decode cX11_stock 25 = .ok (.iaload, 1) := by decide +kernel
theorem dX11_stock_26 : decode cX11_stock 26 = .ok (.ireturn, 1) := by decide +kernel
theorem dX11_inChannel_0 : decode cX11_inChannel 0 = .ok (.aload_n 0, 1) := by decide +kernel
theorem dX11_inChannel_1 : decode cX11_inChannel 1 = .ok (.iload_n 1, 1) := by decide +kernel
theorem dX11_inChannel_2 : decode cX11_inChannel 2 = .ok (.iload_n 2, 1) := by decide +kernel
theorem dX11_inChannel_3 : decode cX11_inChannel 3 = .ok (.invokevirtual 142, 3) := by decide +kernel
theorem dX11_inChannel_6 : decode cX11_inChannel 6 = .ok (.ifCond .eq 6, 3) := by decide +kernel
theorem dX11_inChannel_9 : decode cX11_inChannel 9 = .ok (.ldc 112, 2) := by decide +kernel
theorem dX11_inChannel_11 : decode cX11_inChannel 11 = .ok (.ireturn, 1) := by decide +kernel
theorem dX11_inChannel_12 : decode cX11_inChannel 12 = .ok (.iload_n 3, 1) := by decide +kernel
theorem dX11_inChannel_13 : decode cX11_inChannel 13 = .ok (.ifCond .lt 13, 3) := by decide +kernel
theorem dX11_inChannel_16 : decode cX11_inChannel 16 = .ok (.iload 4, 2) := by decide +kernel
theorem dX11_inChannel_18 : decode cX11_inChannel 18 = .ok (.iconst 0, 1) := by decide +kernel
theorem dX11_inChannel_19 : decode cX11_inChannel 19 = .ok (.iconst 2, 1) := by decide +kernel
theorem dX11_inChannel_20 : decode cX11_inChannel 20 = .ok (.invokestatic 99, 3) := by decide +kernel
theorem dX11_inChannel_23 : decode cX11_inChannel 23 = .ok (.ifCond .ne 6, 3) := by decide +kernel
theorem dX11_inChannel_26 : decode cX11_inChannel 26 = .ok (.ldc 103, 2) := by decide +kernel
theorem dX11_inChannel_28 : decode cX11_inChannel 28 = .ok (.ireturn, 1) := by decide +kernel
theorem dX11_inChannel_29 : decode cX11_inChannel 29 = .ok (.aload_n 0, 1) := by decide +kernel
theorem dX11_inChannel_30 : decode cX11_inChannel 30 = .ok (.getfield 7, 3) := by decide +kernel
theorem dX11_inChannel_33 : decode cX11_inChannel 33 = .ok (.bipush 38, 2) := by decide +kernel
theorem dX11_inChannel_35 : decode cX11_inChannel 35 = .ok (.iconst 5, 1) := by decide +kernel
theorem dX11_inChannel_36 : decode cX11_inChannel 36 = .ok (.iload_n 1, 1) := by decide +kernel
theorem dX11_inChannel_37 : decode cX11_inChannel 37 = .ok (.imul, 1) := by decide +kernel
theorem dX11_inChannel_38 : decode cX11_inChannel 38 = .ok (.iadd, 1) := by decide +kernel
theorem dX11_inChannel_39 : decode cX11_inChannel 39 = .ok (.iload_n 2, 1) := by decide +kernel
theorem dX11_inChannel_40 : decode cX11_inChannel 40 = .ok (.iadd, 1) := by decide +kernel
theorem dX11_inChannel_41 : decode cX11_inChannel 41 = .ok (.iaload, 1) := by decide +kernel
theorem dX11_inChannel_42 : decode cX11_inChannel 42 = .ok (.istore 5, 2) := by decide +kernel
theorem dX11_inChannel_44 : decode cX11_inChannel 44 = .ok (.iconst 0, 1) := by decide +kernel
theorem dX11_inChannel_45 : decode cX11_inChannel 45 = .ok (.istore 6, 2) := by decide +kernel
theorem dX11_inChannel_47 : decode cX11_inChannel 47 = .ok (.aload_n 0, 1) := by decide +kernel
theorem dX11_inChannel_48 : decode cX11_inChannel 48 = .ok (.iload_n 1, 1) := by decide +kernel
theorem dX11_inChannel_49 : decode cX11_inChannel 49 = .ok (.iload_n 2, 1) := by decide +kernel
theorem dX11_inChannel_50 : decode cX11_inChannel 50 = .ok (.iconst 0, 1) := by decide +kernel
theorem dX11_inChannel_51 : decode cX11_inChannel 51 = .ok (.invokevirtual 118, 3) := by decide +kernel
theorem dX11_inChannel_54 : decode cX11_inChannel 54 = .ok (.istore 7, 2) := by decide +kernel
theorem dX11_inChannel_56 : decode cX11_inChannel 56 = .ok (.iconst 1, 1) := by decide +kernel
theorem dX11_inChannel_57 : decode cX11_inChannel 57 = .ok (.istore 8, 2) := by decide +kernel
theorem dX11_inChannel_59 : decode cX11_inChannel 59 = .ok (.iload 8, 2) := by decide +kernel
theorem dX11_inChannel_61 : decode cX11_inChannel 61 = .ok (.ifCond .eq 149, 3) := by decide +kernel
theorem dX11_inChannel_64 : decode cX11_inChannel 64 = .ok (.iload 5, 2) := by decide +kernel
theorem dX11_inChannel_66 : decode cX11_inChannel 66 = .ok (.ifCond .lt 44, 3) := by decide +kernel
theorem dX11_inChannel_69 : decode cX11_inChannel 69 = .ok (.iload 7, 2) := by decide +kernel
theorem dX11_inChannel_71 : decode cX11_inChannel 71 = .ok (.iload 5, 2) := by decide +kernel
theorem dX11_inChannel_73 : decode cX11_inChannel 73 = .ok (.if_icmp .lt 37, 3) := by decide +kernel
theorem dX11_inChannel_76 : decode cX11_inChannel 76 = .ok (.iload 6, 2) := by decide +kernel
theorem dX11_inChannel_78 : decode cX11_inChannel 78 = .ok (.iload_n 3, 1) := by decide +kernel
theorem dX11_inChannel_79 : decode cX11_inChannel 79 = .ok (.if_icmp .ne 25, 3) := by decide +kernel
theorem dX11_inChannel_82 : decode cX11_inChannel 82 = .ok (.iload 4, 2) := by decide +kernel
theorem dX11_inChannel_84 : decode cX11_inChannel 84 = .ok (.ifCond .ne 7, 3) := by decide +kernel
theorem dX11_inChannel_87 : decode cX11_inChannel 87 = .ok (.iconst 2, 1) := by decide +kernel
theorem dX11_inChannel_88 : decode cX11_inChannel 88 = .ok (.goto 15, 3) := by decide +kernel
theorem dX11_inChannel_91 : decode cX11_inChannel 91 = .ok (.iload 4, 2) := by decide +kernel
theorem dX11_inChannel_93 : decode cX11_inChannel 93 = .ok (.iconst 1, 1) := by decide +kernel
theorem dX11_inChannel_94 : decode cX11_inChannel 94 = .ok (.if_icmp .ne 7, 3) := by decide +kernel
theorem dX11_inChannel_97 : decode cX11_inChannel 97 = .ok (.iconst 0, 1) := by decide +kernel
theorem dX11_inChannel_98 : decode cX11_inChannel 98 = .ok (.goto 5, 3) := by decide +kernel
theorem dX11_inChannel_101 : decode cX11_inChannel 101 = .ok (.ldc 127, 2) := by decide +kernel
theorem dX11_inChannel_103 : decode cX11_inChannel 103 = .ok (.ireturn, 1) := by decide +kernel
theorem dX11_inChannel_104 : decode cX11_inChannel 104 = .ok (.iconst (-1), 1) := by decide +kernel
theorem dX11_inChannel_105 : decode cX11_inChannel 105 = .ok (.istore 5, 2) := by decide +kernel
theorem dX11_inChannel_107 : decode cX11_inChannel 107 = .ok (.iinc 6 1, 3) := by decide +kernel
theorem dX11_inChannel_110 : decode cX11_inChannel 110 = .ok (.iload 7, 2) := by decide +kernel
theorem dX11_inChannel_112 : decode cX11_inChannel 112 = .ok (.aload_n 0, 1) := by decide +kernel
theorem dX11_inChannel_113 : decode cX11_inChannel 113 = .ok (.getfield 7, 3) := by decide +kernel
theorem dX11_inChannel_116 : decode cX11_inChannel 116 = .ok (.bipush 37, 2) := by decide +kernel
theorem dX11_inChannel_118 : decode cX11_inChannel 118 = .ok (.iaload, 1) := by decide +kernel
theorem dX11_inChannel_119 : decode cX11_inChannel 119 = .ok (.if_icmp .ge 7, 3) := by decide +kernel
theorem dX11_inChannel_122 : decode cX11_inChannel 122 = .ok (.iconst 1, 1) := by decide +kernel
theorem dX11_inChannel_123 : decode cX11_inChannel 123 = .ok (.goto 4, 3) := by decide +kernel
theorem dX11_inChannel_126 : decode cX11_inChannel 126 = .ok (.iconst 0, 1) := by decide +kernel
theorem dX11_inChannel_127 : decode cX11_inChannel 127 = .ok (.istore 8, 2) := by decide +kernel
theorem dX11_inChannel_129 : decode cX11_inChannel 129 = .ok (.iload 8, 2) := by decide +kernel
theorem dX11_inChannel_131 : decode cX11_inChannel 131 = .ok (.ifCond .eq 51, 3) := by decide +kernel
theorem dX11_inChannel_134 : decode cX11_inChannel 134 = .ok (.iload 6, 2) := by decide +kernel
theorem dX11_inChannel_136 : decode cX11_inChannel 136 = .ok (.iload_n 3, 1) := by decide +kernel
theorem dX11_inChannel_137 : decode cX11_inChannel 137 = .ok (.if_icmp .ne 45, 3) := by decide +kernel
theorem dX11_inChannel_140 : decode cX11_inChannel 140 = .ok (.iload 4, 2) := by decide +kernel
theorem dX11_inChannel_142 : decode cX11_inChannel 142 = .ok (.iconst 2, 1) := by decide +kernel
theorem dX11_inChannel_143 : decode cX11_inChannel 143 = .ok (.if_icmp .ge 16, 3) := by decide +kernel
theorem dX11_inChannel_146 : decode cX11_inChannel 146 = .ok (.aload_n 0, 1) := by decide +kernel
theorem dX11_inChannel_147 : decode cX11_inChannel 147 = .ok (.iload 7, 2) := by decide +kernel
theorem dX11_inChannel_149 : decode cX11_inChannel 149 = .ok (.iconst 2, 1) := by decide +kernel
theorem dX11_inChannel_150 : decode cX11_inChannel 150 = .ok (.iload 4, 2) := by decide +kernel
theorem dX11_inChannel_152 : decode cX11_inChannel 152 = .ok (.iadd, 1) := by decide +kernel
theorem dX11_inChannel_153 : decode cX11_inChannel 153 = .ok (.invokevirtual 114, 3) := by decide +kernel
theorem dX11_inChannel_156 : decode cX11_inChannel 156 = .ok (.goto 25, 3) := by decide +kernel
theorem dX11_inChannel_159 : decode cX11_inChannel 159 = .ok (.aload_n 0, 1) := by decide +kernel
theorem dX11_inChannel_160 : decode cX11_inChannel 160 = .ok (.iload 7, 2) := by decide +kernel
theorem dX11_inChannel_162 : decode cX11_inChannel 162 = .ok (.iconst 4, 1) := by decide +kernel
theorem dX11_inChannel_163 : decode cX11_inChannel 163 = .ok (.invokevirtual 114, 3) := by decide +kernel
theorem dX11_inChannel_166 : decode cX11_inChannel 166 = .ok (.ifCond .ge 8, 3) := by decide +kernel
theorem dX11_inChannel_169 : decode cX11_inChannel 169 = .ok (.ldc 127, 2) := by decide +kernel
theorem dX11_inChannel_171 : decode cX11_inChannel 171 = .ok (.goto 10, 3) := by decide +kernel
theorem dX11_inChannel_174 : decode cX11_inChannel 174 = .ok (.aload_n 0, 1) := by decide +kernel
theorem dX11_inChannel_175 : decode cX11_inChannel 175 = .ok (.iload 7, 2) := by decide +kernel
theorem dX11_inChannel_177 : decode cX11_inChannel 177 = .ok (.iconst 4, 1) := by decide +kernel
theorem dX11_inChannel_178 : decode cX11_inChannel 178 = .ok (.invokevirtual 114, 3) := by decide +kernel
theorem dX11_inChannel_181 : decode cX11_inChannel 181 = .ok (.ireturn, 1) := by decide +kernel
theorem dX11_inChannel_182 : decode cX11_inChannel 182 = .ok (.iinc 6 1, 3) := by decide +kernel
theorem dX11_inChannel_185 : decode cX11_inChannel 185 = .ok (.iload 8, 2) := by decide +kernel
theorem dX11_inChannel_187 : decode cX11_inChannel 187 = .ok (.ifCond .eq 16, 3) := by decide +kernel
theorem dX11_inChannel_190 : decode cX11_inChannel 190 = .ok (.aload_n 0, 1) := by decide +kernel
theorem dX11_inChannel_191 : decode cX11_inChannel 191 = .ok (.iload_n 1, 1) := by decide +kernel
theorem dX11_inChannel_192 : decode cX11_inChannel 192 = .ok (.iload_n 2, 1) := by decide +kernel
theorem dX11_inChannel_193 : decode cX11_inChannel 193 = .ok (.iload 7, 2) := by decide +kernel
theorem dX11_inChannel_195 : decode cX11_inChannel 195 = .ok (.iconst 1, 1) := by decide +kernel
theorem dX11_inChannel_196 : decode cX11_inChannel 196 = .ok (.iadd, 1) := by decide +kernel
theorem dX11_inChannel_197 : decode cX11_inChannel 197 = .ok (.invokevirtual 118, 3) := by decide +kernel
theorem dX11_inChannel_200 : decode cX11_inChannel 200 = .ok (.goto 5, 3) := by decide +kernel
theorem dX11_inChannel_203 : decode cX11_inChannel 203 = .ok (.iload 7, 2) := by decide +kernel
theorem dX11_inChannel_205 : decode cX11_inChannel 205 = .ok (.istore 7, 2) := by decide +kernel
theorem dX11_inChannel_207 : decode cX11_inChannel 207 = .ok (.goto (-148), 3) := by decide +kernel
theorem dX11_inChannel_210 : decode cX11_inChannel 210 = .ok (.ldc 127, 2) := by decide +kernel
theorem dX11_inChannel_212 : decode cX11_inChannel 212 = .ok (.ireturn, 1) := by decide +kernel
theorem dX11_noEvent_0 : decode cX11_noEvent 0 = .ok (.iload_n 1, 1) := by decide +kernel
theorem dX11_noEvent_1 : decode cX11_noEvent 1 = .ok (.iconst 0, 1) := by decide +kernel
theorem dX11_noEvent_2 : decode cX11_noEvent 2 = .ok (.aload_n 0, 1) := by decide +kernel
theorem dX11_noEvent_3 : decode cX11_noEvent 3 = .ok (.getfield 7, 3) := by decide +kernel
theorem dX11_noEvent_6 : decode cX11_noEvent 6 = .ok (.bipush 36, 2) := by decide +kernel
theorem dX11_noEvent_8 : decode cX11_noEvent 8 = .ok (.iaload, 1) := by decide +kernel
theorem dX11_noEvent_9 : decode cX11_noEvent 9 = .ok (.iconst 1, 1) := by decide +kernel
theorem dX11_noEvent_10 : decode cX11_noEvent 10 = .ok (.isub, 1) := by decide +kernel
theorem dX11_noEvent_11 : decode cX11_noEvent 11 = .ok (.invokestatic 99, 3) := by decide +kernel
theorem dX11_noEvent_14 : decode cX11_noEvent 14 = .ok (.ifCond .ne 7, 3) := by decide +kernel
theorem dX11_noEvent_17 : decode cX11_noEvent 17 = .ok (.iconst 1, 1) := by decide +kernel
theorem dX11_noEvent_18 : decode cX11_noEvent 18 = .ok (.goto 4, 3) := by decide +kernel
theorem dX11_noEvent_21 : decode cX11_noEvent 21 = .ok (.iconst 0, 1) := by decide +kernel
theorem dX11_noEvent_22 : decode cX11_noEvent 22 = .ok (.ireturn, 1) := by decide +kernel
theorem dX11_event_0 : decode cX11_event 0 = .ok (.aload_n 0, 1) := by decide +kernel
theorem dX11_event_1 : decode cX11_event 1 = .ok (.iload_n 1, 1) := by decide +kernel
theorem dX11_event_2 : decode cX11_event 2 = .ok (.invokevirtual 163, 3) := by decide +kernel
theorem dX11_event_5 : decode cX11_event 5 = .ok (.ifCond .eq 6, 3) := by decide +kernel
theorem dX11_event_8 : decode cX11_event 8 = .ok (.ldc 112, 2) := by decide +kernel
theorem dX11_event_10 : decode cX11_event 10 = .ok (.ireturn, 1) := by decide +kernel
theorem dX11_event_11 : decode cX11_event 11 = .ok (.iload_n 2, 1) := by decide +kernel
theorem dX11_event_12 : decode cX11_event 12 = .ok (.iconst 0, 1) := by decide +kernel
theorem dX11_event_13 : decode cX11_event 13 = .ok (.iconst 5, 1) := by decide +kernel
theorem dX11_event_14 : decode cX11_event 14 = .ok (.invokestatic 99, 3) := by decide +kernel
theorem dX11_event_17 : decode cX11_event 17 = .ok (.ifCond .ne 6, 3) := by decide +kernel
theorem dX11_event_20 : decode cX11_event 20 = .ok (.ldc 103, 2) := by decide +kernel
theorem dX11_event_22 : decode cX11_event 22 = .ok (.ireturn, 1) := by decide +kernel
theorem dX11_event_23 : decode cX11_event 23 = .ok (.iload_n 2, 1) := by decide +kernel
theorem dX11_event_24 : decode cX11_event 24 = .ok (.iconst 5, 1) := by decide +kernel
theorem dX11_event_25 : decode cX11_event 25 = .ok (.if_icmp .ge 10, 3) := by decide +kernel
theorem dX11_event_28 : decode cX11_event 28 = .ok (.aload_n 0, 1) := by decide +kernel
theorem dX11_event_29 : decode cX11_event 29 = .ok (.iload_n 1, 1) := by decide +kernel
theorem dX11_event_30 : decode cX11_event 30 = .ok (.iload_n 2, 1) := by decide +kernel
theorem dX11_event_31 : decode cX11_event 31 = .ok (.invokevirtual 122, 3) := by decide +kernel
theorem dX11_event_34 : decode cX11_event 34 = .ok (.ireturn, 1) := by decide +kernel
theorem dX11_event_35 : decode cX11_event 35 = .ok (.aload_n 0, 1) := by decide +kernel
theorem dX11_event_36 : decode cX11_event 36 = .ok (.iload_n 1, 1) := by decide +kernel
theorem dX11_event_37 : decode cX11_event 37 = .ok (.iconst 5, 1) := by decide +kernel
theorem dX11_event_38 : decode cX11_event 38 = .ok (.invokevirtual 122, 3) := by decide +kernel
theorem dX11_event_41 : decode cX11_event 41 = .ok (.istore_n 3, 1) := by decide +kernel
theorem dX11_event_42 : decode cX11_event 42 = .ok (.iload_n 3, 1) := by decide +kernel
theorem dX11_event_43 : decode cX11_event 43 = .ok (.ifCond .ge 7, 3) := by decide +kernel
theorem dX11_event_46 : decode cX11_event 46 = .ok (.iconst (-1), 1) := by decide +kernel
theorem dX11_event_47 : decode cX11_event 47 = .ok (.goto 23, 3) := by decide +kernel
theorem dX11_event_50 : decode cX11_event 50 = .ok (.aload_n 0, 1) := by decide +kernel
theorem dX11_event_51 : decode cX11_event 51 = .ok (.iload_n 3, 1) := by decide +kernel
theorem dX11_event_52 : decode cX11_event 52 = .ok (.aload_n 0, 1) := by decide +kernel
theorem dX11_event_53 : decode cX11_event 53 = .ok (.iload_n 1, 1) := by decide +kernel
theorem dX11_event_54 : decode cX11_event 54 = .ok (.iconst 1, 1) := by decide +kernel
theorem dX11_event_55 : decode cX11_event 55 = .ok (.invokevirtual 122, 3) := by decide +kernel
theorem dX11_event_58 : decode cX11_event 58 = .ok (.iconst 1, 1) := by decide +kernel
theorem dX11_event_59 : decode cX11_event 59 = .ok (.if_icmp .ne 7, 3) := by decide +kernel
theorem dX11_event_62 : decode cX11_event 62 = .ok (.iconst 5, 1) := by decide +kernel
theorem dX11_event_63 : decode cX11_event 63 = .ok (.goto 4, 3) := by decide +kernel
theorem dX11_event_66 : decode cX11_event 66 = .ok (.iconst 4, 1) := by decide +kernel
theorem dX11_event_67 : decode cX11_event 67 = .ok (.invokevirtual 114, 3) := by decide +kernel
theorem dX11_event_70 : decode cX11_event 70 = .ok (.istore 4, 2) := by decide +kernel
theorem dX11_event_72 : decode cX11_event 72 = .ok (.iload 4, 2) := by decide +kernel
theorem dX11_event_74 : decode cX11_event 74 = .ok (.ifCond .ge 8, 3) := by decide +kernel
theorem dX11_event_77 : decode cX11_event 77 = .ok (.ldc 127, 2) := by decide +kernel
theorem dX11_event_79 : decode cX11_event 79 = .ok (.goto 5, 3) := by decide +kernel
theorem dX11_event_82 : decode cX11_event 82 = .ok (.iload 4, 2) := by decide +kernel
theorem dX11_event_84 : decode cX11_event 84 = .ok (.ireturn, 1) := by decide +kernel
theorem dX11_clock_0 : decode cX11_clock 0 = .ok (.aload_n 0, 1) := by decide +kernel
theorem dX11_clock_1 : decode cX11_clock 1 = .ok (.iload_n 1, 1) := by decide +kernel
theorem dX11_clock_2 : decode cX11_clock 2 = .ok (.invokevirtual 163, 3) := by decide +kernel
theorem dX11_clock_5 : decode cX11_clock 5 = .ok (.ifCond .ne 11, 3) := by decide +kernel
theorem dX11_clock_8 : decode cX11_clock 8 = .ok (.aload_n 0, 1) := by decide +kernel
theorem dX11_clock_9 : decode cX11_clock 9 = .ok (.iload_n 2, 1) := by decide +kernel
theorem dX11_clock_10 : decode cX11_clock 10 = .ok (.invokevirtual 104, 3) := by decide +kernel
theorem dX11_clock_13 : decode cX11_clock 13 = .ok (.ifCond .eq 8, 3) := by decide +kernel
theorem dX11_clock_16 : decode cX11_clock 16 = .ok (.ldc 112, 2) := by decide +kernel
theorem dX11_clock_18 : decode cX11_clock 18 = .ok (.goto 12, 3) := by decide +kernel
theorem dX11_clock_21 : decode cX11_clock 21 = .ok (.aload_n 0, 1) := by decide +kernel
theorem dX11_clock_22 : decode cX11_clock 22 = .ok (.iload_n 1, 1) := by decide +kernel
theorem dX11_clock_23 : decode cX11_clock 23 = .ok (.bipush 7, 2) := by decide +kernel
theorem dX11_clock_25 : decode cX11_clock 25 = .ok (.iload_n 2, 1) := by decide +kernel
theorem dX11_clock_26 : decode cX11_clock 26 = .ok (.iadd, 1) := by decide +kernel
theorem dX11_clock_27 : decode cX11_clock 27 = .ok (.invokevirtual 122, 3) := by decide +kernel
theorem dX11_clock_30 : decode cX11_clock 30 = .ok (.ireturn, 1) := by decide +kernel
theorem dX11_isKnown_0 : decode cX11_isKnown 0 = .ok (.aload_n 0, 1) := by decide +kernel
theorem dX11_isKnown_1 : decode cX11_isKnown 1 = .ok (.iload_n 2, 1) := by decide +kernel
theorem dX11_isKnown_2 : decode cX11_isKnown 2 = .ok (.bipush 7, 2) := by decide +kernel
theorem dX11_isKnown_4 : decode cX11_isKnown 4 = .ok (.aload_n 0, 1) := by decide +kernel
theorem dX11_isKnown_5 : decode cX11_isKnown 5 = .ok (.iload_n 1, 1) := by decide +kernel
theorem dX11_isKnown_6 : decode cX11_isKnown 6 = .ok (.iconst 0, 1) := by decide +kernel
theorem dX11_isKnown_7 : decode cX11_isKnown 7 = .ok (.invokevirtual 122, 3) := by decide +kernel
theorem dX11_isKnown_10 : decode cX11_isKnown 10 = .ok (.iadd, 1) := by decide +kernel
theorem dX11_isKnown_11 : decode cX11_isKnown 11 = .ok (.invokevirtual 122, 3) := by decide +kernel
theorem dX11_isKnown_14 : decode cX11_isKnown 14 = .ok (.aload_n 0, 1) := by decide +kernel
theorem dX11_isKnown_15 : decode cX11_isKnown 15 = .ok (.iload_n 1, 1) := by decide +kernel
theorem dX11_isKnown_16 : decode cX11_isKnown 16 = .ok (.bipush 6, 2) := by decide +kernel
theorem dX11_isKnown_18 : decode cX11_isKnown 18 = .ok (.invokevirtual 122, 3) := by decide +kernel
theorem dX11_isKnown_21 : decode cX11_isKnown 21 = .ok (.if_icmp .le 7, 3) := by decide +kernel
theorem dX11_isKnown_24 : decode cX11_isKnown 24 = .ok (.iconst 1, 1) := by decide +kernel
theorem dX11_isKnown_25 : decode cX11_isKnown 25 = .ok (.goto 4, 3) := by decide +kernel
theorem dX11_isKnown_28 : decode cX11_isKnown 28 = .ok (.iconst 0, 1) := by decide +kernel
theorem dX11_isKnown_29 : decode cX11_isKnown 29 = .ok (.ireturn, 1) := by decide +kernel
theorem dX11_order_0 : decode cX11_order 0 = .ok (.aload_n 0, 1) := by decide +kernel
theorem dX11_order_1 : decode cX11_order 1 = .ok (.iload_n 1, 1) := by decide +kernel
theorem dX11_order_2 : decode cX11_order 2 = .ok (.invokevirtual 163, 3) := by decide +kernel
theorem dX11_order_5 : decode cX11_order 5 = .ok (.ifCond .ne 11, 3) := by decide +kernel
theorem dX11_order_8 : decode cX11_order 8 = .ok (.aload_n 0, 1) := by decide +kernel
theorem dX11_order_9 : decode cX11_order 9 = .ok (.iload_n 2, 1) := by decide +kernel
theorem dX11_order_10 : decode cX11_order 10 = .ok (.invokevirtual 163, 3) := by decide +kernel
theorem dX11_order_13 : decode cX11_order 13 = .ok (.ifCond .eq 6, 3) := by decide +kernel
theorem dX11_order_16 : decode cX11_order 16 = .ok (.ldc 112, 2) := by decide +kernel
theorem dX11_order_18 : decode cX11_order 18 = .ok (.ireturn, 1) := by decide +kernel
theorem dX11_order_19 : decode cX11_order 19 = .ok (.iload_n 1, 1) := by decide +kernel
theorem dX11_order_20 : decode cX11_order 20 = .ok (.iload_n 2, 1) := by decide +kernel
theorem dX11_order_21 : decode cX11_order 21 = .ok (.if_icmp .ne 7, 3) := by decide +kernel
theorem dX11_order_24 : decode cX11_order 24 = .ok (.iconst 0, 1) := by decide +kernel
theorem dX11_order_25 : decode cX11_order 25 = .ok (.goto 30, 3) := by decide +kernel
theorem dX11_order_28 : decode cX11_order 28 = .ok (.aload_n 0, 1) := by decide +kernel
theorem dX11_order_29 : decode cX11_order 29 = .ok (.iload_n 1, 1) := by decide +kernel
theorem dX11_order_30 : decode cX11_order 30 = .ok (.iload_n 2, 1) := by decide +kernel
theorem dX11_order_31 : decode cX11_order 31 = .ok (.invokevirtual 166, 3) := by decide +kernel
theorem dX11_order_34 : decode cX11_order 34 = .ok (.ifCond .eq 7, 3) := by decide +kernel
theorem dX11_order_37 : decode cX11_order 37 = .ok (.iconst 1, 1) := by decide +kernel
theorem dX11_order_38 : decode cX11_order 38 = .ok (.goto 17, 3) := by decide +kernel
theorem dX11_order_41 : decode cX11_order 41 = .ok (.aload_n 0, 1) := by decide +kernel
theorem dX11_order_42 : decode cX11_order 42 = .ok (.iload_n 2, 1) := by decide +kernel
theorem dX11_order_43 : decode cX11_order 43 = .ok (.iload_n 1, 1) := by decide +kernel
theorem dX11_order_44 : decode cX11_order 44 = .ok (.invokevirtual 166, 3) := by decide +kernel
theorem dX11_order_47 : decode cX11_order 47 = .ok (.ifCond .eq 7, 3) := by decide +kernel
theorem dX11_order_50 : decode cX11_order 50 = .ok (.iconst (-1), 1) := by decide +kernel
theorem dX11_order_51 : decode cX11_order 51 = .ok (.goto 4, 3) := by decide +kernel
theorem dX11_order_54 : decode cX11_order 54 = .ok (.iconst 0, 1) := by decide +kernel
theorem dX11_order_55 : decode cX11_order 55 = .ok (.ireturn, 1) := by decide +kernel
theorem dX11_markers_0 : decode cX11_markers 0 = .ok (.iconst 0, 1) := by decide +kernel
theorem dX11_markers_1 : decode cX11_markers 1 = .ok (.istore_n 1, 1) := by decide +kernel
theorem dX11_markers_2 : decode cX11_markers 2 = .ok (.iconst 0, 1) := by decide +kernel
theorem dX11_markers_3 : decode cX11_markers 3 = .ok (.istore_n 2, 1) := by decide +kernel
theorem dX11_markers_4 : decode cX11_markers 4 = .ok (.iload_n 2, 1) := by decide +kernel
theorem dX11_markers_5 : decode cX11_markers 5 = .ok (.bipush 25, 2) := by decide +kernel
theorem dX11_markers_7 : decode cX11_markers 7 = .ok (.if_icmp .ge 29, 3) := by decide +kernel
theorem dX11_markers_10 : decode cX11_markers 10 = .ok (.iload_n 1, 1) := by decide +kernel
theorem dX11_markers_11 : decode cX11_markers 11 = .ok (.aload_n 0, 1) := by decide +kernel
theorem dX11_markers_12 : decode cX11_markers 12 = .ok (.getfield 7, 3) := by decide +kernel
theorem dX11_markers_15 : decode cX11_markers 15 = .ok (.bipush 38, 2) := by decide +kernel
theorem dX11_markers_17 : decode cX11_markers 17 = .ok (.iload_n 2, 1) := by decide +kernel
theorem dX11_markers_18 : decode cX11_markers 18 = .ok (.iadd, 1) := by decide +kernel
theorem dX11_markers_19 : decode cX11_markers 19 = .ok (.iaload, 1) := by decide +kernel
theorem dX11_markers_20 : decode cX11_markers 20 = .ok (.ifCond .lt 7, 3) := by decide +kernel
theorem dX11_markers_23 : decode cX11_markers 23 = .ok (.iconst 1, 1) := by decide +kernel
theorem dX11_markers_24 : decode cX11_markers 24 = .ok (.goto 4, 3) := by decide +kernel
theorem dX11_markers_27 : decode cX11_markers 27 = .ok (.iconst 0, 1) := by decide +kernel
theorem dX11_markers_28 : decode cX11_markers 28 = .ok (.iadd, 1) := by decide +kernel
theorem dX11_markers_29 : decode cX11_markers 29 = .ok (.istore_n 1, 1) := by decide +kernel
theorem dX11_markers_30 : decode cX11_markers 30 = .ok (.iinc 2 1, 3) := by decide +kernel
theorem dX11_markers_33 : decode cX11_markers 33 = .ok (.goto (-29), 3) := by decide +kernel
theorem dX11_markers_36 : decode cX11_markers 36 = .ok (.iload_n 1, 1) := by decide +kernel
theorem dX11_markers_37 : decode cX11_markers 37 = .ok (.ireturn, 1) := by decide +kernel
theorem dX11_cutSize_0 : decode cX11_cutSize 0 = .ok (.iconst 0, 1) := by decide +kernel
theorem dX11_cutSize_1 : decode cX11_cutSize 1 = .ok (.istore_n 1, 1) := by decide +kernel
theorem dX11_cutSize_2 : decode cX11_cutSize 2 = .ok (.iconst 0, 1) := by decide +kernel
theorem dX11_cutSize_3 : decode cX11_cutSize 3 = .ok (.istore_n 2, 1) := by decide +kernel
theorem dX11_cutSize_4 : decode cX11_cutSize 4 = .ok (.iload_n 2, 1) := by decide +kernel
theorem dX11_cutSize_5 : decode cX11_cutSize 5 = .ok (.aload_n 0, 1) := by decide +kernel
theorem dX11_cutSize_6 : decode cX11_cutSize 6 = .ok (.getfield 79, 3) := by decide +kernel
theorem dX11_cutSize_9 : decode cX11_cutSize 9 = .ok (.if_icmp .ge 21, 3) := by decide +kernel
theorem dX11_cutSize_12 : decode cX11_cutSize 12 = .ok (.iload_n 1, 1) := by decide +kernel
theorem dX11_cutSize_13 : decode cX11_cutSize 13 = .ok (.aload_n 0, 1) := by decide +kernel
theorem dX11_cutSize_14 : decode cX11_cutSize 14 = .ok (.getfield 7, 3) := by decide +kernel
theorem dX11_cutSize_17 : decode cX11_cutSize 17 = .ok (.bipush 20, 2) := by decide +kernel
theorem dX11_cutSize_19 : decode cX11_cutSize 19 = .ok (.iload_n 2, 1) := by decide +kernel
theorem dX11_cutSize_20 : decode cX11_cutSize 20 = .ok (.iadd, 1) := by decide +kernel
theorem dX11_cutSize_21 : decode cX11_cutSize 21 = .ok (.iaload, 1) := by decide +kernel
theorem dX11_cutSize_22 : decode cX11_cutSize 22 = .ok (.iadd, 1) := by decide +kernel
theorem dX11_cutSize_23 : decode cX11_cutSize 23 = .ok (.istore_n 1, 1) := by decide +kernel
theorem dX11_cutSize_24 : decode cX11_cutSize 24 = .ok (.iinc 2 1, 3) := by decide +kernel
theorem dX11_cutSize_27 : decode cX11_cutSize 27 = .ok (.goto (-23), 3) := by decide +kernel
theorem dX11_cutSize_30 : decode cX11_cutSize 30 = .ok (.iload_n 1, 1) := by decide +kernel
theorem dX11_cutSize_31 : decode cX11_cutSize 31 = .ok (.ireturn, 1) := by decide +kernel
theorem dX11_count_0 : decode cX11_count 0 = .ok (.iconst 0, 1) := by decide +kernel
theorem dX11_count_1 : decode cX11_count 1 = .ok (.istore_n 2, 1) := by decide +kernel
theorem dX11_count_2 : decode cX11_count 2 = .ok (.iconst 0, 1) := by decide +kernel
theorem dX11_count_3 : decode cX11_count 3 = .ok (.istore_n 3, 1) := by decide +kernel
theorem dX11_count_4 : decode cX11_count 4 = .ok (.iload_n 3, 1) := by decide +kernel
theorem dX11_count_5 : decode cX11_count 5 = .ok (.aload_n 0, 1) := by decide +kernel
theorem dX11_count_6 : decode cX11_count 6 = .ok (.getfield 7, 3) := by decide +kernel
theorem dX11_count_9 : decode cX11_count 9 = .ok (.bipush 37, 2) := by decide +kernel
theorem dX11_count_11 : decode cX11_count 11 = .ok (.iaload, 1) := by decide +kernel
theorem dX11_count_12 : decode cX11_count 12 = .ok (.if_icmp .ge 26, 3) := by decide +kernel
theorem dX11_count_15 : decode cX11_count 15 = .ok (.iload_n 2, 1) := by decide +kernel
theorem dX11_count_16 : decode cX11_count 16 = .ok (.aload_n 0, 1) := by decide +kernel
theorem dX11_count_17 : decode cX11_count 17 = .ok (.iload_n 3, 1) := by decide +kernel
theorem dX11_count_18 : decode cX11_count 18 = .ok (.iconst 5, 1) := by decide +kernel
theorem dX11_count_19 : decode cX11_count 19 = .ok (.invokevirtual 114, 3) := by decide +kernel
theorem dX11_count_22 : decode cX11_count 22 = .ok (.ifCond .ge 7, 3) := by decide +kernel
theorem dX11_count_25 : decode cX11_count 25 = .ok (.iconst 1, 1) := by decide +kernel
theorem dX11_count_26 : decode cX11_count 26 = .ok (.goto 4, 3) := by decide +kernel
theorem dX11_count_29 : decode cX11_count 29 = .ok (.iconst 0, 1) := by decide +kernel
theorem dX11_count_30 : decode cX11_count 30 = .ok (.iadd, 1) := by decide +kernel
theorem dX11_count_31 : decode cX11_count 31 = .ok (.istore_n 2, 1) := by decide +kernel
theorem dX11_count_32 : decode cX11_count 32 = .ok (.iinc 3 1, 3) := by decide +kernel
theorem dX11_count_35 : decode cX11_count 35 = .ok (.goto (-31), 3) := by decide +kernel
theorem dX11_count_38 : decode cX11_count 38 = .ok (.iload_n 1, 1) := by decide +kernel
theorem dX11_count_39 : decode cX11_count 39 = .ok (.tableswitch 96 0 7 #[45, 50, 58, 60, 65, 70, 78, 83], 45) := by decide +kernel
theorem dX11_count_84 : decode cX11_count 84 = .ok (.aload_n 0, 1) := by decide +kernel
theorem dX11_count_85 : decode cX11_count 85 = .ok (.getfield 79, 3) := by decide +kernel
theorem dX11_count_88 : decode cX11_count 88 = .ok (.ireturn, 1) := by decide +kernel
theorem dX11_count_89 : decode cX11_count 89 = .ok (.aload_n 0, 1) := by decide +kernel
theorem dX11_count_90 : decode cX11_count 90 = .ok (.getfield 7, 3) := by decide +kernel
theorem dX11_count_93 : decode cX11_count 93 = .ok (.bipush 36, 2) := by decide +kernel
theorem dX11_count_95 : decode cX11_count 95 = .ok (.iaload, 1) := by decide +kernel
theorem dX11_count_96 : decode cX11_count 96 = .ok (.ireturn, 1) := by decide +kernel
theorem dX11_count_97 : decode cX11_count 97 = .ok (.iload_n 2, 1) := by decide +kernel
theorem dX11_count_98 : decode cX11_count 98 = .ok (.ireturn, 1) := by decide +kernel
theorem dX11_count_99 : decode cX11_count 99 = .ok (.aload_n 0, 1) := by decide +kernel
theorem dX11_count_100 : decode cX11_count 100 = .ok (.invokevirtual 152, 3) := by decide +kernel
theorem dX11_count_103 : decode cX11_count 103 = .ok (.ireturn, 1) := by decide +kernel
theorem dX11_count_104 : decode cX11_count 104 = .ok (.aload_n 0, 1) := by decide +kernel
theorem dX11_count_105 : decode cX11_count 105 = .ok (.getfield 90, 3) := by decide +kernel
theorem dX11_count_108 : decode cX11_count 108 = .ok (.ireturn, 1) := by decide +kernel
theorem dX11_count_109 : decode cX11_count 109 = .ok (.aload_n 0, 1) := by decide +kernel
theorem dX11_count_110 : decode cX11_count 110 = .ok (.getfield 7, 3) := by decide +kernel
theorem dX11_count_113 : decode cX11_count 113 = .ok (.bipush 35, 2) := by decide +kernel
theorem dX11_count_115 : decode cX11_count 115 = .ok (.iaload, 1) := by decide +kernel
theorem dX11_count_116 : decode cX11_count 116 = .ok (.ireturn, 1) := by decide +kernel
theorem dX11_count_117 : decode cX11_count 117 = .ok (.aload_n 0, 1) := by decide +kernel
theorem dX11_count_118 : decode cX11_count 118 = .ok (.invokevirtual 169, 3) := by decide +kernel
theorem dX11_count_121 : decode cX11_count 121 = .ok (.ireturn, 1) := by decide +kernel
theorem dX11_count_122 : decode cX11_count 122 = .ok (.aload_n 0, 1) := by decide +kernel
theorem dX11_count_123 : decode cX11_count 123 = .ok (.getfield 86, 3) := by decide +kernel
theorem dX11_count_126 : decode cX11_count 126 = .ok (.ifCond .eq 7, 3) := by decide +kernel
theorem dX11_count_129 : decode cX11_count 129 = .ok (.iconst 1, 1) := by decide +kernel
theorem dX11_count_130 : decode cX11_count 130 = .ok (.goto 4, 3) := by decide +kernel
theorem dX11_count_133 : decode cX11_count 133 = .ok (.iconst 0, 1) := by decide +kernel
theorem dX11_count_134 : decode cX11_count 134 = .ok (.ireturn, 1) := by decide +kernel
theorem dX11_count_135 : decode cX11_count 135 = .ok (.ldc 103, 2) := by decide +kernel
theorem dX11_count_137 : decode cX11_count 137 = .ok (.ireturn, 1) := by decide +kernel
theorem dX11_eventsOf_0 : decode cX11_eventsOf 0 = .ok (.aload_n 0, 1) := by decide +kernel
theorem dX11_eventsOf_1 : decode cX11_eventsOf 1 = .ok (.iload_n 1, 1) := by decide +kernel
theorem dX11_eventsOf_2 : decode cX11_eventsOf 2 = .ok (.invokevirtual 104, 3) := by decide +kernel
theorem dX11_eventsOf_5 : decode cX11_eventsOf 5 = .ok (.ifCond .eq 8, 3) := by decide +kernel
theorem dX11_eventsOf_8 : decode cX11_eventsOf 8 = .ok (.ldc 112, 2) := by decide +kernel
theorem dX11_eventsOf_10 : decode cX11_eventsOf 10 = .ok (.goto 12, 3) := by decide +kernel
theorem dX11_eventsOf_13 : decode cX11_eventsOf 13 = .ok (.aload_n 0, 1) := by decide +kernel
theorem dX11_eventsOf_14 : decode cX11_eventsOf 14 = .ok (.getfield 7, 3) := by decide +kernel
theorem dX11_eventsOf_17 : decode cX11_eventsOf 17 = .ok (.bipush 25, 2) := by decide +kernel
theorem dX11_eventsOf_19 : decode cX11_eventsOf 19 = .ok (.iload_n 1, 1) := by decide +kernel
theorem dX11_eventsOf_20 : decode cX11_eventsOf 20 = .ok (.iadd, 1) := by decide +kernel
theorem dX11_eventsOf_21 : decode cX11_eventsOf 21 = .ok (.iaload, 1) := by decide +kernel
theorem dX11_eventsOf_22 : decode cX11_eventsOf 22 = .ok (.ireturn, 1) := by decide +kernel
theorem dX11_record_0 : decode cX11_record 0 = .ok (.aload_n 0, 1) := by decide +kernel
theorem dX11_record_1 : decode cX11_record 1 = .ok (.getfield 7, 3) := by decide +kernel
theorem dX11_record_4 : decode cX11_record 4 = .ok (.bipush 30, 2) := by decide +kernel
theorem dX11_record_6 : decode cX11_record 6 = .ok (.iload_n 1, 1) := by decide +kernel
theorem dX11_record_7 : decode cX11_record 7 = .ok (.iadd, 1) := by decide +kernel
theorem dX11_record_8 : decode cX11_record 8 = .ok (.aload_n 0, 1) := by decide +kernel
theorem dX11_record_9 : decode cX11_record 9 = .ok (.getfield 7, 3) := by decide +kernel
theorem dX11_record_12 : decode cX11_record 12 = .ok (.bipush 25, 2) := by decide +kernel
theorem dX11_record_14 : decode cX11_record 14 = .ok (.iload_n 1, 1) := by decide +kernel
theorem dX11_record_15 : decode cX11_record 15 = .ok (.iadd, 1) := by decide +kernel
theorem dX11_record_16 : decode cX11_record 16 = .ok (.iaload, 1) := by decide +kernel
theorem dX11_record_17 : decode cX11_record 17 = .ok (.iastore, 1) := by decide +kernel
theorem dX11_record_18 : decode cX11_record 18 = .ok (.iconst 0, 1) := by decide +kernel
theorem dX11_record_19 : decode cX11_record 19 = .ok (.istore_n 2, 1) := by decide +kernel
theorem dX11_record_20 : decode cX11_record 20 = .ok (.iload_n 2, 1) := by decide +kernel
theorem dX11_record_21 : decode cX11_record 21 = .ok (.aload_n 0, 1) := by decide +kernel
theorem dX11_record_22 : decode cX11_record 22 = .ok (.getfield 79, 3) := by decide +kernel
theorem dX11_record_25 : decode cX11_record 25 = .ok (.if_icmp .ge 38, 3) := by decide +kernel
theorem dX11_record_28 : decode cX11_record 28 = .ok (.aload_n 0, 1) := by decide +kernel
theorem dX11_record_29 : decode cX11_record 29 = .ok (.getfield 7, 3) := by decide +kernel
theorem dX11_record_32 : decode cX11_record 32 = .ok (.bipush 38, 2) := by decide +kernel
theorem dX11_record_34 : decode cX11_record 34 = .ok (.iconst 5, 1) := by decide +kernel
theorem dX11_record_35 : decode cX11_record 35 = .ok (.iload_n 1, 1) := by decide +kernel
theorem dX11_record_36 : decode cX11_record 36 = .ok (.imul, 1) := by decide +kernel
theorem dX11_record_37 : decode cX11_record 37 = .ok (.iadd, 1) := by decide +kernel
theorem dX11_record_38 : decode cX11_record 38 = .ok (.iload_n 2, 1) := by decide +kernel
theorem dX11_record_39 : decode cX11_record 39 = .ok (.iadd, 1) := by decide +kernel
theorem dX11_record_40 : decode cX11_record 40 = .ok (.iload_n 2, 1) := by decide +kernel
theorem dX11_record_41 : decode cX11_record 41 = .ok (.iload_n 1, 1) := by decide +kernel
theorem dX11_record_42 : decode cX11_record 42 = .ok (.if_icmp .ne 7, 3) := by decide +kernel
theorem dX11_record_45 : decode cX11_record 45 = .ok (.iconst (-1), 1) := by decide +kernel
theorem dX11_record_46 : decode cX11_record 46 = .ok (.goto 10, 3) := by decide +kernel
theorem dX11_record_49 : decode cX11_record 49 = .ok (.aload_n 0, 1) := by decide +kernel
theorem dX11_record_50 : decode cX11_record 50 = .ok (.getfield 7, 3) := by decide +kernel
theorem dX11_record_53 : decode cX11_record 53 = .ok (.bipush 37, 2) := by decide +kernel
theorem dX11_record_55 : decode cX11_record 55 = .ok (.iaload, 1) := by decide +kernel
theorem dX11_record_56 : decode cX11_record 56 = .ok (.iastore, 1) := by decide +kernel
theorem dX11_record_57 : decode cX11_record 57 = .ok (.iinc 2 1, 3) := by decide +kernel
theorem dX11_record_60 : decode cX11_record 60 = .ok (.goto (-40), 3) := by decide +kernel
theorem dX11_record_63 : decode cX11_record 63 = .ok (.return_, 1) := by decide +kernel
theorem dX11_beginSnapshot_0 : decode cX11_beginSnapshot 0 = .ok (.aload_n 0, 1) := by decide +kernel
theorem dX11_beginSnapshot_1 : decode cX11_beginSnapshot 1 = .ok (.iload_n 1, 1) := by decide +kernel
theorem dX11_beginSnapshot_2 : decode cX11_beginSnapshot 2 = .ok (.invokevirtual 104, 3) := by decide +kernel
theorem dX11_beginSnapshot_5 : decode cX11_beginSnapshot 5 = .ok (.ifCond .eq 6, 3) := by decide +kernel
theorem dX11_beginSnapshot_8 : decode cX11_beginSnapshot 8 = .ok (.ldc 112, 2) := by decide +kernel
theorem dX11_beginSnapshot_10 : decode cX11_beginSnapshot 10 = .ok (.ireturn, 1) := by decide +kernel
theorem dX11_beginSnapshot_11 : decode cX11_beginSnapshot 11 = .ok (.aload_n 0, 1) := by decide +kernel
theorem dX11_beginSnapshot_12 : decode cX11_beginSnapshot 12 = .ok (.getfield 7, 3) := by decide +kernel
theorem dX11_beginSnapshot_15 : decode cX11_beginSnapshot 15 = .ok (.bipush 35, 2) := by decide +kernel
theorem dX11_beginSnapshot_17 : decode cX11_beginSnapshot 17 = .ok (.iaload, 1) := by decide +kernel
theorem dX11_beginSnapshot_18 : decode cX11_beginSnapshot 18 = .ok (.iconst 1, 1) := by decide +kernel
theorem dX11_beginSnapshot_19 : decode cX11_beginSnapshot 19 = .ok (.if_icmp .ne 6, 3) := by decide +kernel
theorem dX11_beginSnapshot_22 : decode cX11_beginSnapshot 22 = .ok (.ldc 113, 2) := by decide +kernel
theorem dX11_beginSnapshot_24 : decode cX11_beginSnapshot 24 = .ok (.ireturn, 1) := by decide +kernel
theorem dX11_beginSnapshot_25 : decode cX11_beginSnapshot 25 = .ok (.aload_n 0, 1) := by decide +kernel
theorem dX11_beginSnapshot_26 : decode cX11_beginSnapshot 26 = .ok (.invokevirtual 83, 3) := by decide +kernel
theorem dX11_beginSnapshot_29 : decode cX11_beginSnapshot 29 = .ok (.aload_n 0, 1) := by decide +kernel
theorem dX11_beginSnapshot_30 : decode cX11_beginSnapshot 30 = .ok (.getfield 7, 3) := by decide +kernel
theorem dX11_beginSnapshot_33 : decode cX11_beginSnapshot 33 = .ok (.bipush 35, 2) := by decide +kernel
theorem dX11_beginSnapshot_35 : decode cX11_beginSnapshot 35 = .ok (.iconst 1, 1) := by decide +kernel
theorem dX11_beginSnapshot_36 : decode cX11_beginSnapshot 36 = .ok (.iastore, 1) := by decide +kernel
theorem dX11_beginSnapshot_37 : decode cX11_beginSnapshot 37 = .ok (.aload_n 0, 1) := by decide +kernel
theorem dX11_beginSnapshot_38 : decode cX11_beginSnapshot 38 = .ok (.iload_n 1, 1) := by decide +kernel
theorem dX11_beginSnapshot_39 : decode cX11_beginSnapshot 39 = .ok (.invokevirtual 149, 3) := by decide +kernel
theorem dX11_beginSnapshot_42 : decode cX11_beginSnapshot 42 = .ok (.aload_n 0, 1) := by decide +kernel
theorem dX11_beginSnapshot_43 : decode cX11_beginSnapshot 43 = .ok (.invokevirtual 152, 3) := by decide +kernel
theorem dX11_beginSnapshot_46 : decode cX11_beginSnapshot 46 = .ok (.ireturn, 1) := by decide +kernel
theorem dX11_abandonSnapshot_0 : decode cX11_abandonSnapshot 0 = .ok (.aload_n 0, 1) := by decide +kernel
theorem dX11_abandonSnapshot_1 : decode cX11_abandonSnapshot 1 = .ok (.getfield 7, 3) := by decide +kernel
theorem dX11_abandonSnapshot_4 : decode cX11_abandonSnapshot 4 = .ok (.bipush 35, 2) := by decide +kernel
theorem dX11_abandonSnapshot_6 : decode cX11_abandonSnapshot 6 = .ok (.iaload, 1) := by decide +kernel
theorem dX11_abandonSnapshot_7 : decode cX11_abandonSnapshot 7 = .ok (.iconst 1, 1) := by decide +kernel
theorem dX11_abandonSnapshot_8 : decode cX11_abandonSnapshot 8 = .ok (.if_icmp .eq 6, 3) := by decide +kernel
theorem dX11_abandonSnapshot_11 : decode cX11_abandonSnapshot 11 = .ok (.ldc 113, 2) := by decide +kernel
theorem dX11_abandonSnapshot_13 : decode cX11_abandonSnapshot 13 = .ok (.ireturn, 1) := by decide +kernel
theorem dX11_abandonSnapshot_14 : decode cX11_abandonSnapshot 14 = .ok (.aload_n 0, 1) := by decide +kernel
theorem dX11_abandonSnapshot_15 : decode cX11_abandonSnapshot 15 = .ok (.invokevirtual 152, 3) := by decide +kernel
theorem dX11_abandonSnapshot_18 : decode cX11_abandonSnapshot 18 = .ok (.istore_n 1, 1) := by decide +kernel
theorem dX11_abandonSnapshot_19 : decode cX11_abandonSnapshot 19 = .ok (.aload_n 0, 1) := by decide +kernel
theorem dX11_abandonSnapshot_20 : decode cX11_abandonSnapshot 20 = .ok (.invokevirtual 83, 3) := by decide +kernel
theorem dX11_abandonSnapshot_23 : decode cX11_abandonSnapshot 23 = .ok (.iload_n 1, 1) := by decide +kernel
theorem dX11_abandonSnapshot_24 : decode cX11_abandonSnapshot 24 = .ok (.ireturn, 1) := by decide +kernel
theorem dX11_recorded_0 : decode cX11_recorded 0 = .ok (.aload_n 0, 1) := by decide +kernel
theorem dX11_recorded_1 : decode cX11_recorded 1 = .ok (.iload_n 1, 1) := by decide +kernel
theorem dX11_recorded_2 : decode cX11_recorded 2 = .ok (.invokevirtual 104, 3) := by decide +kernel
theorem dX11_recorded_5 : decode cX11_recorded 5 = .ok (.ifCond .eq 6, 3) := by decide +kernel
theorem dX11_recorded_8 : decode cX11_recorded 8 = .ok (.ldc 112, 2) := by decide +kernel
theorem dX11_recorded_10 : decode cX11_recorded 10 = .ok (.ireturn, 1) := by decide +kernel
theorem dX11_recorded_11 : decode cX11_recorded 11 = .ok (.aload_n 0, 1) := by decide +kernel
theorem dX11_recorded_12 : decode cX11_recorded 12 = .ok (.getfield 7, 3) := by decide +kernel
theorem dX11_recorded_15 : decode cX11_recorded 15 = .ok (.bipush 30, 2) := by decide +kernel
theorem dX11_recorded_17 : decode cX11_recorded 17 = .ok (.iload_n 1, 1) := by decide +kernel
theorem dX11_recorded_18 : decode cX11_recorded 18 = .ok (.iadd, 1) := by decide +kernel
theorem dX11_recorded_19 : decode cX11_recorded 19 = .ok (.iaload, 1) := by decide +kernel
theorem dX11_recorded_20 : decode cX11_recorded 20 = .ok (.ifCond .ge 8, 3) := by decide +kernel
theorem dX11_recorded_23 : decode cX11_recorded 23 = .ok (.ldc 127, 2) := by decide +kernel
theorem dX11_recorded_25 : decode cX11_recorded 25 = .ok (.goto 12, 3) := by decide +kernel
theorem dX11_recorded_28 : decode cX11_recorded 28 = .ok (.aload_n 0, 1) := by decide +kernel
theorem dX11_recorded_29 : decode cX11_recorded 29 = .ok (.getfield 7, 3) := by decide +kernel
theorem dX11_recorded_32 : decode cX11_recorded 32 = .ok (.bipush 30, 2) := by decide +kernel
theorem dX11_recorded_34 : decode cX11_recorded 34 = .ok (.iload_n 1, 1) := by decide +kernel
theorem dX11_recorded_35 : decode cX11_recorded 35 = .ok (.iadd, 1) := by decide +kernel
theorem dX11_recorded_36 : decode cX11_recorded 36 = .ok (.iaload, 1) := by decide +kernel
theorem dX11_recorded_37 : decode cX11_recorded 37 = .ok (.ireturn, 1) := by decide +kernel
theorem dX11_takeSnapshot_0 : decode cX11_takeSnapshot 0 = .ok (.aload_n 0, 1) := by decide +kernel
theorem dX11_takeSnapshot_1 : decode cX11_takeSnapshot 1 = .ok (.getfield 7, 3) := by decide +kernel
theorem dX11_takeSnapshot_4 : decode cX11_takeSnapshot 4 = .ok (.bipush 35, 2) := by decide +kernel
theorem dX11_takeSnapshot_6 : decode cX11_takeSnapshot 6 = .ok (.iaload, 1) := by decide +kernel
theorem dX11_takeSnapshot_7 : decode cX11_takeSnapshot 7 = .ok (.iconst 2, 1) := by decide +kernel
theorem dX11_takeSnapshot_8 : decode cX11_takeSnapshot 8 = .ok (.if_icmp .eq 6, 3) := by decide +kernel
theorem dX11_takeSnapshot_11 : decode cX11_takeSnapshot 11 = .ok (.ldc 113, 2) := by decide +kernel
theorem dX11_takeSnapshot_13 : decode cX11_takeSnapshot 13 = .ok (.ireturn, 1) := by decide +kernel
theorem dX11_takeSnapshot_14 : decode cX11_takeSnapshot 14 = .ok (.iconst 0, 1) := by decide +kernel
theorem dX11_takeSnapshot_15 : decode cX11_takeSnapshot 15 = .ok (.istore_n 1, 1) := by decide +kernel
theorem dX11_takeSnapshot_16 : decode cX11_takeSnapshot 16 = .ok (.iload_n 1, 1) := by decide +kernel
theorem dX11_takeSnapshot_17 : decode cX11_takeSnapshot 17 = .ok (.aload_n 0, 1) := by decide +kernel
theorem dX11_takeSnapshot_18 : decode cX11_takeSnapshot 18 = .ok (.getfield 79, 3) := by decide +kernel
theorem dX11_takeSnapshot_21 : decode cX11_takeSnapshot 21 = .ok (.if_icmp .ge 27, 3) := by decide +kernel
theorem dX11_takeSnapshot_24 : decode cX11_takeSnapshot 24 = .ok (.aload_n 0, 1) := by decide +kernel
theorem dX11_takeSnapshot_25 : decode cX11_takeSnapshot 25 = .ok (.getfield 7, 3) := by decide +kernel
theorem dX11_takeSnapshot_28 : decode cX11_takeSnapshot 28 = .ok (.bipush 20, 2) := by decide +kernel
theorem dX11_takeSnapshot_30 : decode cX11_takeSnapshot 30 = .ok (.iload_n 1, 1) := by decide +kernel
theorem dX11_takeSnapshot_31 : decode cX11_takeSnapshot 31 = .ok (.iadd, 1) := by decide +kernel
theorem dX11_takeSnapshot_32 : decode cX11_takeSnapshot 32 = .ok (.aload_n 0, 1) := by decide +kernel
theorem dX11_takeSnapshot_33 : decode cX11_takeSnapshot 33 = .ok (.getfield 7, 3) := by decide +kernel
theorem dX11_takeSnapshot_36 : decode cX11_takeSnapshot 36 = .ok (.bipush 30, 2) := by decide +kernel
theorem dX11_takeSnapshot_38 : decode cX11_takeSnapshot 38 = .ok (.iload_n 1, 1) := by decide +kernel
theorem dX11_takeSnapshot_39 : decode cX11_takeSnapshot 39 = .ok (.iadd, 1) := by decide +kernel
theorem dX11_takeSnapshot_40 : decode cX11_takeSnapshot 40 = .ok (.iaload, 1) := by decide +kernel
theorem dX11_takeSnapshot_41 : decode cX11_takeSnapshot 41 = .ok (.iastore, 1) := by decide +kernel
theorem dX11_takeSnapshot_42 : decode cX11_takeSnapshot 42 = .ok (.iinc 1 1, 3) := by decide +kernel
theorem dX11_takeSnapshot_45 : decode cX11_takeSnapshot 45 = .ok (.goto (-29), 3) := by decide +kernel
theorem dX11_takeSnapshot_48 : decode cX11_takeSnapshot 48 = .ok (.aload_n 0, 1) := by decide +kernel
theorem dX11_takeSnapshot_49 : decode cX11_takeSnapshot 49 = .ok (.invokevirtual 169, 3) := by decide +kernel
theorem dX11_takeSnapshot_52 : decode cX11_takeSnapshot 52 = .ok (.ireturn, 1) := by decide +kernel
theorem dX11_setCut_0 : decode cX11_setCut 0 = .ok (.aload_n 0, 1) := by decide +kernel
theorem dX11_setCut_1 : decode cX11_setCut 1 = .ok (.iload_n 1, 1) := by decide +kernel
theorem dX11_setCut_2 : decode cX11_setCut 2 = .ok (.invokevirtual 104, 3) := by decide +kernel
theorem dX11_setCut_5 : decode cX11_setCut 5 = .ok (.ifCond .eq 6, 3) := by decide +kernel
theorem dX11_setCut_8 : decode cX11_setCut 8 = .ok (.ldc 112, 2) := by decide +kernel
theorem dX11_setCut_10 : decode cX11_setCut 10 = .ok (.ireturn, 1) := by decide +kernel
theorem dX11_setCut_11 : decode cX11_setCut 11 = .ok (.iload_n 2, 1) := by decide +kernel
theorem dX11_setCut_12 : decode cX11_setCut 12 = .ok (.iconst 0, 1) := by decide +kernel
theorem dX11_setCut_13 : decode cX11_setCut 13 = .ok (.aload_n 0, 1) := by decide +kernel
theorem dX11_setCut_14 : decode cX11_setCut 14 = .ok (.getfield 7, 3) := by decide +kernel
theorem dX11_setCut_17 : decode cX11_setCut 17 = .ok (.bipush 25, 2) := by decide +kernel
theorem dX11_setCut_19 : decode cX11_setCut 19 = .ok (.iload_n 1, 1) := by decide +kernel
theorem dX11_setCut_20 : decode cX11_setCut 20 = .ok (.iadd, 1) := by decide +kernel
theorem dX11_setCut_21 : decode cX11_setCut 21 = .ok (.iaload, 1) := by decide +kernel
theorem dX11_setCut_22 : decode cX11_setCut 22 = .ok (.invokestatic 99, 3) := by decide +kernel
theorem dX11_setCut_25 : decode cX11_setCut 25 = .ok (.ifCond .ne 6, 3) := by decide +kernel
theorem dX11_setCut_28 : decode cX11_setCut 28 = .ok (.ldc 103, 2) := by decide +kernel
theorem dX11_setCut_30 : decode cX11_setCut 30 = .ok (.ireturn, 1) := by decide +kernel
theorem dX11_setCut_31 : decode cX11_setCut 31 = .ok (.aload_n 0, 1) := by decide +kernel
theorem dX11_setCut_32 : decode cX11_setCut 32 = .ok (.getfield 7, 3) := by decide +kernel
theorem dX11_setCut_35 : decode cX11_setCut 35 = .ok (.bipush 20, 2) := by decide +kernel
theorem dX11_setCut_37 : decode cX11_setCut 37 = .ok (.iload_n 1, 1) := by decide +kernel
theorem dX11_setCut_38 : decode cX11_setCut 38 = .ok (.iadd, 1) := by decide +kernel
theorem dX11_setCut_39 : decode cX11_setCut 39 = .ok (.iaload, 1) := by decide +kernel
theorem dX11_setCut_40 : decode cX11_setCut 40 = .ok (.istore_n 3, 1) := by decide +kernel
theorem dX11_setCut_41 : decode cX11_setCut 41 = .ok (.aload_n 0, 1) := by decide +kernel
theorem dX11_setCut_42 : decode cX11_setCut 42 = .ok (.getfield 7, 3) := by decide +kernel
theorem dX11_setCut_45 : decode cX11_setCut 45 = .ok (.bipush 20, 2) := by decide +kernel
theorem dX11_setCut_47 : decode cX11_setCut 47 = .ok (.iload_n 1, 1) := by decide +kernel
theorem dX11_setCut_48 : decode cX11_setCut 48 = .ok (.iadd, 1) := by decide +kernel
theorem dX11_setCut_49 : decode cX11_setCut 49 = .ok (.iload_n 2, 1) := by decide +kernel
theorem dX11_setCut_50 : decode cX11_setCut 50 = .ok (.iastore, 1) := by decide +kernel
theorem dX11_setCut_51 : decode cX11_setCut 51 = .ok (.iload_n 3, 1) := by decide +kernel
theorem dX11_setCut_52 : decode cX11_setCut 52 = .ok (.ireturn, 1) := by decide +kernel
theorem dX11_cut_0 : decode cX11_cut 0 = .ok (.aload_n 0, 1) := by decide +kernel
theorem dX11_cut_1 : decode cX11_cut 1 = .ok (.iload_n 1, 1) := by decide +kernel
theorem dX11_cut_2 : decode cX11_cut 2 = .ok (.invokevirtual 104, 3) := by decide +kernel
theorem dX11_cut_5 : decode cX11_cut 5 = .ok (.ifCond .eq 8, 3) := by decide +kernel
theorem dX11_cut_8 : decode cX11_cut 8 = .ok (.ldc 112, 2) := by decide +kernel
theorem dX11_cut_10 : decode cX11_cut 10 = .ok (.goto 12, 3) := by decide +kernel
theorem dX11_cut_13 : decode cX11_cut 13 = .ok (.aload_n 0, 1) := by decide +kernel
theorem dX11_cut_14 : decode cX11_cut 14 = .ok (.getfield 7, 3) := by decide +kernel
theorem dX11_cut_17 : decode cX11_cut 17 = .ok (.bipush 20, 2) := by decide +kernel
theorem dX11_cut_19 : decode cX11_cut 19 = .ok (.iload_n 1, 1) := by decide +kernel
theorem dX11_cut_20 : decode cX11_cut 20 = .ok (.iadd, 1) := by decide +kernel
theorem dX11_cut_21 : decode cX11_cut 21 = .ok (.iaload, 1) := by decide +kernel
theorem dX11_cut_22 : decode cX11_cut 22 = .ok (.ireturn, 1) := by decide +kernel
theorem dX11_isCut_0 : decode cX11_isCut 0 = .ok (.aload_n 0, 1) := by decide +kernel
theorem dX11_isCut_1 : decode cX11_isCut 1 = .ok (.iload_n 1, 1) := by decide +kernel
theorem dX11_isCut_2 : decode cX11_isCut 2 = .ok (.bipush 6, 2) := by decide +kernel
theorem dX11_isCut_4 : decode cX11_isCut 4 = .ok (.invokevirtual 122, 3) := by decide +kernel
theorem dX11_isCut_7 : decode cX11_isCut 7 = .ok (.aload_n 0, 1) := by decide +kernel
theorem dX11_isCut_8 : decode cX11_isCut 8 = .ok (.getfield 7, 3) := by decide +kernel
theorem dX11_isCut_11 : decode cX11_isCut 11 = .ok (.bipush 20, 2) := by decide +kernel
theorem dX11_isCut_13 : decode cX11_isCut 13 = .ok (.aload_n 0, 1) := by decide +kernel
theorem dX11_isCut_14 : decode cX11_isCut 14 = .ok (.iload_n 1, 1) := by decide +kernel
theorem dX11_isCut_15 : decode cX11_isCut 15 = .ok (.iconst 0, 1) := by decide +kernel
theorem dX11_isCut_16 : decode cX11_isCut 16 = .ok (.invokevirtual 122, 3) := by decide +kernel
theorem dX11_isCut_19 : decode cX11_isCut 19 = .ok (.iadd, 1) := by decide +kernel
theorem dX11_isCut_20 : decode cX11_isCut 20 = .ok (.iaload, 1) := by decide +kernel
theorem dX11_isCut_21 : decode cX11_isCut 21 = .ok (.if_icmp .ge 7, 3) := by decide +kernel
theorem dX11_isCut_24 : decode cX11_isCut 24 = .ok (.iconst 1, 1) := by decide +kernel
theorem dX11_isCut_25 : decode cX11_isCut 25 = .ok (.goto 4, 3) := by decide +kernel
theorem dX11_isCut_28 : decode cX11_isCut 28 = .ok (.iconst 0, 1) := by decide +kernel
theorem dX11_isCut_29 : decode cX11_isCut 29 = .ok (.ireturn, 1) := by decide +kernel
theorem dX11_isOrphan_0 : decode cX11_isOrphan 0 = .ok (.aload_n 0, 1) := by decide +kernel
theorem dX11_isOrphan_1 : decode cX11_isOrphan 1 = .ok (.iload_n 1, 1) := by decide +kernel
theorem dX11_isOrphan_2 : decode cX11_isOrphan 2 = .ok (.iconst 4, 1) := by decide +kernel
theorem dX11_isOrphan_3 : decode cX11_isOrphan 3 = .ok (.invokevirtual 114, 3) := by decide +kernel
theorem dX11_isOrphan_6 : decode cX11_isOrphan 6 = .ok (.istore_n 2, 1) := by decide +kernel
theorem dX11_isOrphan_7 : decode cX11_isOrphan 7 = .ok (.aload_n 0, 1) := by decide +kernel
theorem dX11_isOrphan_8 : decode cX11_isOrphan 8 = .ok (.iload_n 1, 1) := by decide +kernel
theorem dX11_isOrphan_9 : decode cX11_isOrphan 9 = .ok (.iconst 5, 1) := by decide +kernel
theorem dX11_isOrphan_10 : decode cX11_isOrphan 10 = .ok (.invokevirtual 114, 3) := by decide +kernel
theorem dX11_isOrphan_13 : decode cX11_isOrphan 13 = .ok (.istore_n 3, 1) := by decide +kernel
theorem dX11_isOrphan_14 : decode cX11_isOrphan 14 = .ok (.iload_n 2, 1) := by decide +kernel
theorem dX11_isOrphan_15 : decode cX11_isOrphan 15 = .ok (.ifCond .lt 27, 3) := by decide +kernel
theorem dX11_isOrphan_18 : decode cX11_isOrphan 18 = .ok (.iload_n 3, 1) := by decide +kernel
theorem dX11_isOrphan_19 : decode cX11_isOrphan 19 = .ok (.ifCond .lt 23, 3) := by decide +kernel
theorem dX11_isOrphan_22 : decode cX11_isOrphan 22 = .ok (.aload_n 0, 1) := by decide +kernel
theorem dX11_isOrphan_23 : decode cX11_isOrphan 23 = .ok (.iload_n 3, 1) := by decide +kernel
theorem dX11_isOrphan_24 : decode cX11_isOrphan 24 = .ok (.invokevirtual 172, 3) := by decide +kernel
theorem dX11_isOrphan_27 : decode cX11_isOrphan 27 = .ok (.ifCond .eq 15, 3) := by decide +kernel
theorem dX11_isOrphan_30 : decode cX11_isOrphan 30 = .ok (.aload_n 0, 1) := by decide +kernel
theorem dX11_isOrphan_31 : decode cX11_isOrphan 31 = .ok (.iload_n 2, 1) := by decide +kernel
theorem dX11_isOrphan_32 : decode cX11_isOrphan 32 = .ok (.invokevirtual 172, 3) := by decide +kernel
theorem dX11_isOrphan_35 : decode cX11_isOrphan 35 = .ok (.ifCond .ne 7, 3) := by decide +kernel
theorem dX11_isOrphan_38 : decode cX11_isOrphan 38 = .ok (.iconst 1, 1) := by decide +kernel
theorem dX11_isOrphan_39 : decode cX11_isOrphan 39 = .ok (.goto 4, 3) := by decide +kernel
theorem dX11_isOrphan_42 : decode cX11_isOrphan 42 = .ok (.iconst 0, 1) := by decide +kernel
theorem dX11_isOrphan_43 : decode cX11_isOrphan 43 = .ok (.ireturn, 1) := by decide +kernel
theorem dX11_orphansNow_0 : decode cX11_orphansNow 0 = .ok (.iconst 0, 1) := by decide +kernel
theorem dX11_orphansNow_1 : decode cX11_orphansNow 1 = .ok (.istore_n 1, 1) := by decide +kernel
theorem dX11_orphansNow_2 : decode cX11_orphansNow 2 = .ok (.iconst 0, 1) := by decide +kernel
theorem dX11_orphansNow_3 : decode cX11_orphansNow 3 = .ok (.istore_n 2, 1) := by decide +kernel
theorem dX11_orphansNow_4 : decode cX11_orphansNow 4 = .ok (.iload_n 2, 1) := by decide +kernel
theorem dX11_orphansNow_5 : decode cX11_orphansNow 5 = .ok (.aload_n 0, 1) := by decide +kernel
theorem dX11_orphansNow_6 : decode cX11_orphansNow 6 = .ok (.getfield 7, 3) := by decide +kernel
theorem dX11_orphansNow_9 : decode cX11_orphansNow 9 = .ok (.bipush 37, 2) := by decide +kernel
theorem dX11_orphansNow_11 : decode cX11_orphansNow 11 = .ok (.iaload, 1) := by decide +kernel
theorem dX11_orphansNow_12 : decode cX11_orphansNow 12 = .ok (.if_icmp .ge 25, 3) := by decide +kernel
theorem dX11_orphansNow_15 : decode cX11_orphansNow 15 = .ok (.iload_n 1, 1) := by decide +kernel
theorem dX11_orphansNow_16 : decode cX11_orphansNow 16 = .ok (.aload_n 0, 1) := by decide +kernel
theorem dX11_orphansNow_17 : decode cX11_orphansNow 17 = .ok (.iload_n 2, 1) := by decide +kernel
theorem dX11_orphansNow_18 : decode cX11_orphansNow 18 = .ok (.invokevirtual 175, 3) := by decide +kernel
theorem dX11_orphansNow_21 : decode cX11_orphansNow 21 = .ok (.ifCond .eq 7, 3) := by decide +kernel
theorem dX11_orphansNow_24 : decode cX11_orphansNow 24 = .ok (.iconst 1, 1) := by decide +kernel
theorem dX11_orphansNow_25 : decode cX11_orphansNow 25 = .ok (.goto 4, 3) := by decide +kernel
theorem dX11_orphansNow_28 : decode cX11_orphansNow 28 = .ok (.iconst 0, 1) := by decide +kernel
theorem dX11_orphansNow_29 : decode cX11_orphansNow 29 = .ok (.iadd, 1) := by decide +kernel
theorem dX11_orphansNow_30 : decode cX11_orphansNow 30 = .ok (.istore_n 1, 1) := by decide +kernel
theorem dX11_orphansNow_31 : decode cX11_orphansNow 31 = .ok (.iinc 2 1, 3) := by decide +kernel
theorem dX11_orphansNow_34 : decode cX11_orphansNow 34 = .ok (.goto (-30), 3) := by decide +kernel
theorem dX11_orphansNow_37 : decode cX11_orphansNow 37 = .ok (.iload_n 1, 1) := by decide +kernel
theorem dX11_orphansNow_38 : decode cX11_orphansNow 38 = .ok (.ireturn, 1) := by decide +kernel
theorem dX11_orphans_0 : decode cX11_orphans 0 = .ok (.aload_n 0, 1) := by decide +kernel
theorem dX11_orphans_1 : decode cX11_orphans 1 = .ok (.invokevirtual 178, 3) := by decide +kernel
theorem dX11_orphans_4 : decode cX11_orphans 4 = .ok (.ireturn, 1) := by decide +kernel
theorem dX11_lowerCut_0 : decode cX11_lowerCut 0 = .ok (.aload_n 0, 1) := by decide +kernel
theorem dX11_lowerCut_1 : decode cX11_lowerCut 1 = .ok (.invokevirtual 169, 3) := by decide +kernel
theorem dX11_lowerCut_4 : decode cX11_lowerCut 4 = .ok (.istore_n 1, 1) := by decide +kernel
theorem dX11_lowerCut_5 : decode cX11_lowerCut 5 = .ok (.aload_n 0, 1) := by decide +kernel
theorem dX11_lowerCut_6 : decode cX11_lowerCut 6 = .ok (.invokevirtual 178, 3) := by decide +kernel
theorem dX11_lowerCut_9 : decode cX11_lowerCut 9 = .ok (.ifCond .le 61, 3) := by decide +kernel
theorem dX11_lowerCut_12 : decode cX11_lowerCut 12 = .ok (.iconst 0, 1) := by decide +kernel
theorem dX11_lowerCut_13 : decode cX11_lowerCut 13 = .ok (.istore_n 2, 1) := by decide +kernel
theorem dX11_lowerCut_14 : decode cX11_lowerCut 14 = .ok (.iload_n 2, 1) := by decide +kernel
theorem dX11_lowerCut_15 : decode cX11_lowerCut 15 = .ok (.aload_n 0, 1) := by decide +kernel
theorem dX11_lowerCut_16 : decode cX11_lowerCut 16 = .ok (.getfield 7, 3) := by decide +kernel
theorem dX11_lowerCut_19 : decode cX11_lowerCut 19 = .ok (.bipush 37, 2) := by decide +kernel
theorem dX11_lowerCut_21 : decode cX11_lowerCut 21 = .ok (.iaload, 1) := by decide +kernel
theorem dX11_lowerCut_22 : decode cX11_lowerCut 22 = .ok (.if_icmp .ge 45, 3) := by decide +kernel
theorem dX11_lowerCut_25 : decode cX11_lowerCut 25 = .ok (.aload_n 0, 1) := by decide +kernel
theorem dX11_lowerCut_26 : decode cX11_lowerCut 26 = .ok (.iload_n 2, 1) := by decide +kernel
theorem dX11_lowerCut_27 : decode cX11_lowerCut 27 = .ok (.invokevirtual 175, 3) := by decide +kernel
theorem dX11_lowerCut_30 : decode cX11_lowerCut 30 = .ok (.ifCond .eq 31, 3) := by decide +kernel
theorem dX11_lowerCut_33 : decode cX11_lowerCut 33 = .ok (.aload_n 0, 1) := by decide +kernel
theorem dX11_lowerCut_34 : decode cX11_lowerCut 34 = .ok (.iload_n 2, 1) := by decide +kernel
theorem dX11_lowerCut_35 : decode cX11_lowerCut 35 = .ok (.iconst 5, 1) := by decide +kernel
theorem dX11_lowerCut_36 : decode cX11_lowerCut 36 = .ok (.invokevirtual 114, 3) := by decide +kernel
theorem dX11_lowerCut_39 : decode cX11_lowerCut 39 = .ok (.istore_n 3, 1) := by decide +kernel
theorem dX11_lowerCut_40 : decode cX11_lowerCut 40 = .ok (.aload_n 0, 1) := by decide +kernel
theorem dX11_lowerCut_41 : decode cX11_lowerCut 41 = .ok (.getfield 7, 3) := by decide +kernel
theorem dX11_lowerCut_44 : decode cX11_lowerCut 44 = .ok (.bipush 20, 2) := by decide +kernel
theorem dX11_lowerCut_46 : decode cX11_lowerCut 46 = .ok (.aload_n 0, 1) := by decide +kernel
theorem dX11_lowerCut_47 : decode cX11_lowerCut 47 = .ok (.iload_n 3, 1) := by decide +kernel
theorem dX11_lowerCut_48 : decode cX11_lowerCut 48 = .ok (.iconst 0, 1) := by decide +kernel
theorem dX11_lowerCut_49 : decode cX11_lowerCut 49 = .ok (.invokevirtual 122, 3) := by decide +kernel
theorem dX11_lowerCut_52 : decode cX11_lowerCut 52 = .ok (.iadd, 1) := by decide +kernel
theorem dX11_lowerCut_53 : decode cX11_lowerCut 53 = .ok (.aload_n 0, 1) := by decide +kernel
theorem dX11_lowerCut_54 : decode cX11_lowerCut 54 = .ok (.iload_n 3, 1) := by decide +kernel
theorem dX11_lowerCut_55 : decode cX11_lowerCut 55 = .ok (.bipush 6, 2) := by decide +kernel
theorem dX11_lowerCut_57 : decode cX11_lowerCut 57 = .ok (.invokevirtual 122, 3) := by decide +kernel
theorem dX11_lowerCut_60 : decode cX11_lowerCut 60 = .ok (.iastore, 1) := by decide +kernel
theorem dX11_lowerCut_61 : decode cX11_lowerCut 61 = .ok (.iinc 2 1, 3) := by decide +kernel
theorem dX11_lowerCut_64 : decode cX11_lowerCut 64 = .ok (.goto (-50), 3) := by decide +kernel
theorem dX11_lowerCut_67 : decode cX11_lowerCut 67 = .ok (.goto (-62), 3) := by decide +kernel
theorem dX11_lowerCut_70 : decode cX11_lowerCut 70 = .ok (.iload_n 1, 1) := by decide +kernel
theorem dX11_lowerCut_71 : decode cX11_lowerCut 71 = .ok (.aload_n 0, 1) := by decide +kernel
theorem dX11_lowerCut_72 : decode cX11_lowerCut 72 = .ok (.invokevirtual 169, 3) := by decide +kernel
theorem dX11_lowerCut_75 : decode cX11_lowerCut 75 = .ok (.isub, 1) := by decide +kernel
theorem dX11_lowerCut_76 : decode cX11_lowerCut 76 = .ok (.ireturn, 1) := by decide +kernel
theorem dX11_raiseCut_0 : decode cX11_raiseCut 0 = .ok (.aload_n 0, 1) := by decide +kernel
theorem dX11_raiseCut_1 : decode cX11_raiseCut 1 = .ok (.invokevirtual 169, 3) := by decide +kernel
theorem dX11_raiseCut_4 : decode cX11_raiseCut 4 = .ok (.istore_n 1, 1) := by decide +kernel
theorem dX11_raiseCut_5 : decode cX11_raiseCut 5 = .ok (.aload_n 0, 1) := by decide +kernel
theorem dX11_raiseCut_6 : decode cX11_raiseCut 6 = .ok (.invokevirtual 178, 3) := by decide +kernel
theorem dX11_raiseCut_9 : decode cX11_raiseCut 9 = .ok (.ifCond .le 63, 3) := by decide +kernel
theorem dX11_raiseCut_12 : decode cX11_raiseCut 12 = .ok (.iconst 0, 1) := by decide +kernel
theorem dX11_raiseCut_13 : decode cX11_raiseCut 13 = .ok (.istore_n 2, 1) := by decide +kernel
theorem dX11_raiseCut_14 : decode cX11_raiseCut 14 = .ok (.iload_n 2, 1) := by decide +kernel
theorem dX11_raiseCut_15 : decode cX11_raiseCut 15 = .ok (.aload_n 0, 1) := by decide +kernel
theorem dX11_raiseCut_16 : decode cX11_raiseCut 16 = .ok (.getfield 7, 3) := by decide +kernel
theorem dX11_raiseCut_19 : decode cX11_raiseCut 19 = .ok (.bipush 37, 2) := by decide +kernel
theorem dX11_raiseCut_21 : decode cX11_raiseCut 21 = .ok (.iaload, 1) := by decide +kernel
theorem dX11_raiseCut_22 : decode cX11_raiseCut 22 = .ok (.if_icmp .ge 47, 3) := by decide +kernel
theorem dX11_raiseCut_25 : decode cX11_raiseCut 25 = .ok (.aload_n 0, 1) := by decide +kernel
theorem dX11_raiseCut_26 : decode cX11_raiseCut 26 = .ok (.iload_n 2, 1) := by decide +kernel
theorem dX11_raiseCut_27 : decode cX11_raiseCut 27 = .ok (.invokevirtual 175, 3) := by decide +kernel
theorem dX11_raiseCut_30 : decode cX11_raiseCut 30 = .ok (.ifCond .eq 33, 3) := by decide +kernel
theorem dX11_raiseCut_33 : decode cX11_raiseCut 33 = .ok (.aload_n 0, 1) := by decide +kernel
theorem dX11_raiseCut_34 : decode cX11_raiseCut 34 = .ok (.iload_n 2, 1) := by decide +kernel
theorem dX11_raiseCut_35 : decode cX11_raiseCut 35 = .ok (.iconst 4, 1) := by decide +kernel
theorem dX11_raiseCut_36 : decode cX11_raiseCut 36 = .ok (.invokevirtual 114, 3) := by decide +kernel
theorem dX11_raiseCut_39 : decode cX11_raiseCut 39 = .ok (.istore_n 3, 1) := by decide +kernel
theorem dX11_raiseCut_40 : decode cX11_raiseCut 40 = .ok (.aload_n 0, 1) := by decide +kernel
theorem dX11_raiseCut_41 : decode cX11_raiseCut 41 = .ok (.getfield 7, 3) := by decide +kernel
theorem dX11_raiseCut_44 : decode cX11_raiseCut 44 = .ok (.bipush 20, 2) := by decide +kernel
theorem dX11_raiseCut_46 : decode cX11_raiseCut 46 = .ok (.aload_n 0, 1) := by decide +kernel
theorem dX11_raiseCut_47 : decode cX11_raiseCut 47 = .ok (.iload_n 3, 1) := by decide +kernel
theorem dX11_raiseCut_48 : decode cX11_raiseCut 48 = .ok (.iconst 0, 1) := by decide +kernel
theorem dX11_raiseCut_49 : decode cX11_raiseCut 49 = .ok (.invokevirtual 122, 3) := by decide +kernel
theorem dX11_raiseCut_52 : decode cX11_raiseCut 52 = .ok (.iadd, 1) := by decide +kernel
theorem dX11_raiseCut_53 : decode cX11_raiseCut 53 = .ok (.aload_n 0, 1) := by decide +kernel
theorem dX11_raiseCut_54 : decode cX11_raiseCut 54 = .ok (.iload_n 3, 1) := by decide +kernel
theorem dX11_raiseCut_55 : decode cX11_raiseCut 55 = .ok (.bipush 6, 2) := by decide +kernel
theorem dX11_raiseCut_57 : decode cX11_raiseCut 57 = .ok (.invokevirtual 122, 3) := by decide +kernel
theorem dX11_raiseCut_60 : decode cX11_raiseCut 60 = .ok (.iconst 1, 1) := by decide +kernel
theorem dX11_raiseCut_61 : decode cX11_raiseCut 61 = .ok (.iadd, 1) := by decide +kernel
theorem dX11_raiseCut_62 : decode cX11_raiseCut 62 = .ok (.iastore, 1) := by decide +kernel
theorem dX11_raiseCut_63 : decode cX11_raiseCut 63 = .ok (.iinc 2 1, 3) := by decide +kernel
theorem dX11_raiseCut_66 : decode cX11_raiseCut 66 = .ok (.goto (-52), 3) := by decide +kernel
theorem dX11_raiseCut_69 : decode cX11_raiseCut 69 = .ok (.goto (-64), 3) := by decide +kernel
theorem dX11_raiseCut_72 : decode cX11_raiseCut 72 = .ok (.aload_n 0, 1) := by decide +kernel
theorem dX11_raiseCut_73 : decode cX11_raiseCut 73 = .ok (.invokevirtual 169, 3) := by decide +kernel
theorem dX11_raiseCut_76 : decode cX11_raiseCut 76 = .ok (.iload_n 1, 1) := by decide +kernel
theorem dX11_raiseCut_77 : decode cX11_raiseCut 77 = .ok (.isub, 1) := by decide +kernel
theorem dX11_raiseCut_78 : decode cX11_raiseCut 78 = .ok (.ireturn, 1) := by decide +kernel
theorem dX11_stockThen_0 : decode cX11_stockThen 0 = .ok (.aload_n 0, 1) := by decide +kernel
theorem dX11_stockThen_1 : decode cX11_stockThen 1 = .ok (.getfield 7, 3) := by decide +kernel
theorem dX11_stockThen_4 : decode cX11_stockThen 4 = .ok (.bipush 10, 2) := by decide +kernel
theorem dX11_stockThen_6 : decode cX11_stockThen 6 = .ok (.iconst 2, 1) := by decide +kernel
theorem dX11_stockThen_7 : decode cX11_stockThen 7 = .ok (.iload_n 1, 1) := by decide +kernel
theorem dX11_stockThen_8 : decode cX11_stockThen 8 = .ok (.imul, 1) := by decide +kernel
theorem dX11_stockThen_9 : decode cX11_stockThen 9 = .ok (.iadd, 1) := by decide +kernel
theorem dX11_stockThen_10 : decode cX11_stockThen 10 = .ok (.iload_n 2, 1) := by decide +kernel
theorem dX11_stockThen_11 : decode cX11_stockThen 11 = .ok (.iadd, 1) := by decide +kernel
theorem dX11_stockThen_12 : decode cX11_stockThen 12 = .ok (.iaload, 1) := by decide +kernel
theorem dX11_stockThen_13 : decode cX11_stockThen 13 = .ok (.istore_n 3, 1) := by decide +kernel
theorem dX11_stockThen_14 : decode cX11_stockThen 14 = .ok (.iconst 0, 1) := by decide +kernel
theorem dX11_stockThen_15 : decode cX11_stockThen 15 = .ok (.istore 4, 2) := by decide +kernel
theorem dX11_stockThen_17 : decode cX11_stockThen 17 = .ok (.iload 4, 2) := by decide +kernel
theorem dX11_stockThen_19 : decode cX11_stockThen 19 = .ok (.aload_n 0, 1) := by decide +kernel
theorem dX11_stockThen_20 : decode cX11_stockThen 20 = .ok (.getfield 7, 3) := by decide +kernel
theorem dX11_stockThen_23 : decode cX11_stockThen 23 = .ok (.bipush 36, 2) := by decide +kernel
theorem dX11_stockThen_25 : decode cX11_stockThen 25 = .ok (.iaload, 1) := by decide +kernel
theorem dX11_stockThen_26 : decode cX11_stockThen 26 = .ok (.if_icmp .ge 88, 3) := by decide +kernel
theorem dX11_stockThen_29 : decode cX11_stockThen 29 = .ok (.aload_n 0, 1) := by decide +kernel
theorem dX11_stockThen_30 : decode cX11_stockThen 30 = .ok (.iload 4, 2) := by decide +kernel
theorem dX11_stockThen_32 : decode cX11_stockThen 32 = .ok (.iconst 0, 1) := by decide +kernel
theorem dX11_stockThen_33 : decode cX11_stockThen 33 = .ok (.invokevirtual 122, 3) := by decide +kernel
theorem dX11_stockThen_36 : decode cX11_stockThen 36 = .ok (.iload_n 1, 1) := by decide +kernel
theorem dX11_stockThen_37 : decode cX11_stockThen 37 = .ok (.if_icmp .ne 27, 3) := by decide +kernel
theorem dX11_stockThen_40 : decode cX11_stockThen 40 = .ok (.aload_n 0, 1) := by decide +kernel
theorem dX11_stockThen_41 : decode cX11_stockThen 41 = .ok (.iload 4, 2) := by decide +kernel
theorem dX11_stockThen_43 : decode cX11_stockThen 43 = .ok (.iconst 2, 1) := by decide +kernel
theorem dX11_stockThen_44 : decode cX11_stockThen 44 = .ok (.invokevirtual 122, 3) := by decide +kernel
theorem dX11_stockThen_47 : decode cX11_stockThen 47 = .ok (.iload_n 2, 1) := by decide +kernel
theorem dX11_stockThen_48 : decode cX11_stockThen 48 = .ok (.if_icmp .ne 16, 3) := by decide +kernel
theorem dX11_stockThen_51 : decode cX11_stockThen 51 = .ok (.aload_n 0, 1) := by decide +kernel
theorem dX11_stockThen_52 : decode cX11_stockThen 52 = .ok (.iload 4, 2) := by decide +kernel
theorem dX11_stockThen_54 : decode cX11_stockThen 54 = .ok (.invokevirtual 172, 3) := by decide +kernel
theorem dX11_stockThen_57 : decode cX11_stockThen 57 = .ok (.ifCond .eq 7, 3) := by decide +kernel
theorem dX11_stockThen_60 : decode cX11_stockThen 60 = .ok (.iconst 1, 1) := by decide +kernel
theorem dX11_stockThen_61 : decode cX11_stockThen 61 = .ok (.goto 4, 3) := by decide +kernel
theorem dX11_stockThen_64 : decode cX11_stockThen 64 = .ok (.iconst 0, 1) := by decide +kernel
theorem dX11_stockThen_65 : decode cX11_stockThen 65 = .ok (.istore 5, 2) := by decide +kernel
theorem dX11_stockThen_67 : decode cX11_stockThen 67 = .ok (.iload_n 3, 1) := by decide +kernel
theorem dX11_stockThen_68 : decode cX11_stockThen 68 = .ok (.iload 5, 2) := by decide +kernel
theorem dX11_stockThen_70 : decode cX11_stockThen 70 = .ok (.ifCond .ne 7, 3) := by decide +kernel
theorem dX11_stockThen_73 : decode cX11_stockThen 73 = .ok (.iconst 0, 1) := by decide +kernel
theorem dX11_stockThen_74 : decode cX11_stockThen 74 = .ok (.goto 32, 3) := by decide +kernel
theorem dX11_stockThen_77 : decode cX11_stockThen 77 = .ok (.aload_n 0, 1) := by decide +kernel
theorem dX11_stockThen_78 : decode cX11_stockThen 78 = .ok (.iload 4, 2) := by decide +kernel
theorem dX11_stockThen_80 : decode cX11_stockThen 80 = .ok (.iconst 1, 1) := by decide +kernel
theorem dX11_stockThen_81 : decode cX11_stockThen 81 = .ok (.invokevirtual 122, 3) := by decide +kernel
theorem dX11_stockThen_84 : decode cX11_stockThen 84 = .ok (.iconst 1, 1) := by decide +kernel
theorem dX11_stockThen_85 : decode cX11_stockThen 85 = .ok (.if_icmp .ne 14, 3) := by decide +kernel
theorem dX11_stockThen_88 : decode cX11_stockThen 88 = .ok (.aload_n 0, 1) := by decide +kernel
theorem dX11_stockThen_89 : decode cX11_stockThen 89 = .ok (.iload 4, 2) := by decide +kernel
theorem dX11_stockThen_91 : decode cX11_stockThen 91 = .ok (.iconst 3, 1) := by decide +kernel
theorem dX11_stockThen_92 : decode cX11_stockThen 92 = .ok (.invokevirtual 122, 3) := by decide +kernel
theorem dX11_stockThen_95 : decode cX11_stockThen 95 = .ok (.ineg, 1) := by decide +kernel
theorem dX11_stockThen_96 : decode cX11_stockThen 96 = .ok (.goto 10, 3) := by decide +kernel
theorem dX11_stockThen_99 : decode cX11_stockThen 99 = .ok (.aload_n 0, 1) := by decide +kernel
theorem dX11_stockThen_100 : decode cX11_stockThen 100 = .ok (.iload 4, 2) := by decide +kernel
theorem dX11_stockThen_102 : decode cX11_stockThen 102 = .ok (.iconst 3, 1) := by decide +kernel
theorem dX11_stockThen_103 : decode cX11_stockThen 103 = .ok (.invokevirtual 122, 3) := by decide +kernel
theorem dX11_stockThen_106 : decode cX11_stockThen 106 = .ok (.iadd, 1) := by decide +kernel
theorem dX11_stockThen_107 : decode cX11_stockThen 107 = .ok (.istore_n 3, 1) := by decide +kernel
theorem dX11_stockThen_108 : decode cX11_stockThen 108 = .ok (.iinc 4 1, 3) := by decide +kernel
theorem dX11_stockThen_111 : decode cX11_stockThen 111 = .ok (.goto (-94), 3) := by decide +kernel
theorem dX11_stockThen_114 : decode cX11_stockThen 114 = .ok (.iload_n 3, 1) := by decide +kernel
theorem dX11_stockThen_115 : decode cX11_stockThen 115 = .ok (.ireturn, 1) := by decide +kernel
theorem dX11_stockAtCut_0 : decode cX11_stockAtCut 0 = .ok (.aload_n 0, 1) := by decide +kernel
theorem dX11_stockAtCut_1 : decode cX11_stockAtCut 1 = .ok (.iload_n 1, 1) := by decide +kernel
theorem dX11_stockAtCut_2 : decode cX11_stockAtCut 2 = .ok (.iload_n 2, 1) := by decide +kernel
theorem dX11_stockAtCut_3 : decode cX11_stockAtCut 3 = .ok (.invokevirtual 108, 3) := by decide +kernel
theorem dX11_stockAtCut_6 : decode cX11_stockAtCut 6 = .ok (.ifCond .eq 8, 3) := by decide +kernel
theorem dX11_stockAtCut_9 : decode cX11_stockAtCut 9 = .ok (.ldc 112, 2) := by decide +kernel
theorem dX11_stockAtCut_11 : decode cX11_stockAtCut 11 = .ok (.goto 9, 3) := by decide +kernel
theorem dX11_stockAtCut_14 : decode cX11_stockAtCut 14 = .ok (.aload_n 0, 1) := by decide +kernel
theorem dX11_stockAtCut_15 : decode cX11_stockAtCut 15 = .ok (.iload_n 1, 1) := by decide +kernel
theorem dX11_stockAtCut_16 : decode cX11_stockAtCut 16 = .ok (.iload_n 2, 1) := by decide +kernel
theorem dX11_stockAtCut_17 : decode cX11_stockAtCut 17 = .ok (.invokevirtual 181, 3) := by decide +kernel
theorem dX11_stockAtCut_20 : decode cX11_stockAtCut 20 = .ok (.ireturn, 1) := by decide +kernel
theorem dX11_isInTransit_0 : decode cX11_isInTransit 0 = .ok (.aload_n 0, 1) := by decide +kernel
theorem dX11_isInTransit_1 : decode cX11_isInTransit 1 = .ok (.iload_n 1, 1) := by decide +kernel
theorem dX11_isInTransit_2 : decode cX11_isInTransit 2 = .ok (.iconst 4, 1) := by decide +kernel
theorem dX11_isInTransit_3 : decode cX11_isInTransit 3 = .ok (.invokevirtual 114, 3) := by decide +kernel
theorem dX11_isInTransit_6 : decode cX11_isInTransit 6 = .ok (.istore_n 2, 1) := by decide +kernel
theorem dX11_isInTransit_7 : decode cX11_isInTransit 7 = .ok (.aload_n 0, 1) := by decide +kernel
theorem dX11_isInTransit_8 : decode cX11_isInTransit 8 = .ok (.iload_n 1, 1) := by decide +kernel
theorem dX11_isInTransit_9 : decode cX11_isInTransit 9 = .ok (.iconst 5, 1) := by decide +kernel
theorem dX11_isInTransit_10 : decode cX11_isInTransit 10 = .ok (.invokevirtual 114, 3) := by decide +kernel
theorem dX11_isInTransit_13 : decode cX11_isInTransit 13 = .ok (.istore_n 3, 1) := by decide +kernel
theorem dX11_isInTransit_14 : decode cX11_isInTransit 14 = .ok (.iload_n 2, 1) := by decide +kernel
theorem dX11_isInTransit_15 : decode cX11_isInTransit 15 = .ok (.ifCond .lt 11, 3) := by decide +kernel
theorem dX11_isInTransit_18 : decode cX11_isInTransit 18 = .ok (.aload_n 0, 1) := by decide +kernel
theorem dX11_isInTransit_19 : decode cX11_isInTransit 19 = .ok (.iload_n 2, 1) := by decide +kernel
theorem dX11_isInTransit_20 : decode cX11_isInTransit 20 = .ok (.invokevirtual 172, 3) := by decide +kernel
theorem dX11_isInTransit_23 : decode cX11_isInTransit 23 = .ok (.ifCond .eq 19, 3) := by decide +kernel
theorem dX11_isInTransit_26 : decode cX11_isInTransit 26 = .ok (.iload_n 3, 1) := by decide +kernel
theorem dX11_isInTransit_27 : decode cX11_isInTransit 27 = .ok (.ifCond .lt 11, 3) := by decide +kernel
theorem dX11_isInTransit_30 : decode cX11_isInTransit 30 = .ok (.aload_n 0, 1) := by decide +kernel
theorem dX11_isInTransit_31 : decode cX11_isInTransit 31 = .ok (.iload_n 3, 1) := by decide +kernel
theorem dX11_isInTransit_32 : decode cX11_isInTransit 32 = .ok (.invokevirtual 172, 3) := by decide +kernel
theorem dX11_isInTransit_35 : decode cX11_isInTransit 35 = .ok (.ifCond .ne 7, 3) := by decide +kernel
theorem dX11_isInTransit_38 : decode cX11_isInTransit 38 = .ok (.iconst 1, 1) := by decide +kernel
theorem dX11_isInTransit_39 : decode cX11_isInTransit 39 = .ok (.goto 4, 3) := by decide +kernel
theorem dX11_isInTransit_42 : decode cX11_isInTransit 42 = .ok (.iconst 0, 1) := by decide +kernel
theorem dX11_isInTransit_43 : decode cX11_isInTransit 43 = .ok (.ireturn, 1) := by decide +kernel
theorem dX11_inTransit_0 : decode cX11_inTransit 0 = .ok (.aload_n 0, 1) := by decide +kernel
theorem dX11_inTransit_1 : decode cX11_inTransit 1 = .ok (.iload_n 1, 1) := by decide +kernel
theorem dX11_inTransit_2 : decode cX11_inTransit 2 = .ok (.iload_n 2, 1) := by decide +kernel
theorem dX11_inTransit_3 : decode cX11_inTransit 3 = .ok (.invokevirtual 142, 3) := by decide +kernel
theorem dX11_inTransit_6 : decode cX11_inTransit 6 = .ok (.ifCond .eq 6, 3) := by decide +kernel
theorem dX11_inTransit_9 : decode cX11_inTransit 9 = .ok (.ldc 112, 2) := by decide +kernel
theorem dX11_inTransit_11 : decode cX11_inTransit 11 = .ok (.ireturn, 1) := by decide +kernel
theorem dX11_inTransit_12 : decode cX11_inTransit 12 = .ok (.iload_n 3, 1) := by decide +kernel
theorem dX11_inTransit_13 : decode cX11_inTransit 13 = .ok (.iconst (-1), 1) := by decide +kernel
theorem dX11_inTransit_14 : decode cX11_inTransit 14 = .ok (.if_icmp .lt 13, 3) := by decide +kernel
theorem dX11_inTransit_17 : decode cX11_inTransit 17 = .ok (.iload 4, 2) := by decide +kernel
theorem dX11_inTransit_19 : decode cX11_inTransit 19 = .ok (.iconst 0, 1) := by decide +kernel
theorem dX11_inTransit_20 : decode cX11_inTransit 20 = .ok (.iconst 1, 1) := by decide +kernel
theorem dX11_inTransit_21 : decode cX11_inTransit 21 = .ok (.invokestatic 99, 3) := by decide +kernel
theorem dX11_inTransit_24 : decode cX11_inTransit 24 = .ok (.ifCond .ne 6, 3) := by decide +kernel
theorem dX11_inTransit_27 : decode cX11_inTransit 27 = .ok (.ldc 103, 2) := by decide +kernel
theorem dX11_inTransit_29 : decode cX11_inTransit 29 = .ok (.ireturn, 1) := by decide +kernel
theorem dX11_inTransit_30 : decode cX11_inTransit 30 = .ok (.aload_n 0, 1) := by decide +kernel
theorem dX11_inTransit_31 : decode cX11_inTransit 31 = .ok (.invokevirtual 178, 3) := by decide +kernel
theorem dX11_inTransit_34 : decode cX11_inTransit 34 = .ok (.ifCond .le 6, 3) := by decide +kernel
theorem dX11_inTransit_37 : decode cX11_inTransit 37 = .ok (.ldc 125, 2) := by decide +kernel
theorem dX11_inTransit_39 : decode cX11_inTransit 39 = .ok (.ireturn, 1) := by decide +kernel
theorem dX11_inTransit_40 : decode cX11_inTransit 40 = .ok (.iconst 0, 1) := by decide +kernel
theorem dX11_inTransit_41 : decode cX11_inTransit 41 = .ok (.istore 5, 2) := by decide +kernel
theorem dX11_inTransit_43 : decode cX11_inTransit 43 = .ok (.iconst 0, 1) := by decide +kernel
theorem dX11_inTransit_44 : decode cX11_inTransit 44 = .ok (.istore 6, 2) := by decide +kernel
theorem dX11_inTransit_46 : decode cX11_inTransit 46 = .ok (.iload 6, 2) := by decide +kernel
theorem dX11_inTransit_48 : decode cX11_inTransit 48 = .ok (.aload_n 0, 1) := by decide +kernel
theorem dX11_inTransit_49 : decode cX11_inTransit 49 = .ok (.getfield 7, 3) := by decide +kernel
theorem dX11_inTransit_52 : decode cX11_inTransit 52 = .ok (.bipush 37, 2) := by decide +kernel
theorem dX11_inTransit_54 : decode cX11_inTransit 54 = .ok (.iaload, 1) := by decide +kernel
theorem dX11_inTransit_55 : decode cX11_inTransit 55 = .ok (.if_icmp .ge 60, 3) := by decide +kernel
theorem dX11_inTransit_58 : decode cX11_inTransit 58 = .ok (.aload_n 0, 1) := by decide +kernel
theorem dX11_inTransit_59 : decode cX11_inTransit 59 = .ok (.iload 6, 2) := by decide +kernel
theorem dX11_inTransit_61 : decode cX11_inTransit 61 = .ok (.iconst 0, 1) := by decide +kernel
theorem dX11_inTransit_62 : decode cX11_inTransit 62 = .ok (.invokevirtual 114, 3) := by decide +kernel
theorem dX11_inTransit_65 : decode cX11_inTransit 65 = .ok (.iload_n 1, 1) := by decide +kernel
theorem dX11_inTransit_66 : decode cX11_inTransit 66 = .ok (.if_icmp .ne 43, 3) := by decide +kernel
theorem dX11_inTransit_69 : decode cX11_inTransit 69 = .ok (.aload_n 0, 1) := by decide +kernel
theorem dX11_inTransit_70 : decode cX11_inTransit 70 = .ok (.iload 6, 2) := by decide +kernel
theorem dX11_inTransit_72 : decode cX11_inTransit 72 = .ok (.iconst 1, 1) := by decide +kernel
theorem dX11_inTransit_73 : decode cX11_inTransit 73 = .ok (.invokevirtual 114, 3) := by decide +kernel
theorem dX11_inTransit_76 : decode cX11_inTransit 76 = .ok (.iload_n 2, 1) := by decide +kernel
theorem dX11_inTransit_77 : decode cX11_inTransit 77 = .ok (.if_icmp .ne 32, 3) := by decide +kernel
theorem dX11_inTransit_80 : decode cX11_inTransit 80 = .ok (.aload_n 0, 1) := by decide +kernel
theorem dX11_inTransit_81 : decode cX11_inTransit 81 = .ok (.iload 6, 2) := by decide +kernel
theorem dX11_inTransit_83 : decode cX11_inTransit 83 = .ok (.invokevirtual 184, 3) := by decide +kernel
theorem dX11_inTransit_86 : decode cX11_inTransit 86 = .ok (.ifCond .eq 23, 3) := by decide +kernel
theorem dX11_inTransit_89 : decode cX11_inTransit 89 = .ok (.iload 5, 2) := by decide +kernel
theorem dX11_inTransit_91 : decode cX11_inTransit 91 = .ok (.iload_n 3, 1) := by decide +kernel
theorem dX11_inTransit_92 : decode cX11_inTransit 92 = .ok (.if_icmp .ne 14, 3) := by decide +kernel
theorem dX11_inTransit_95 : decode cX11_inTransit 95 = .ok (.aload_n 0, 1) := by decide +kernel
theorem dX11_inTransit_96 : decode cX11_inTransit 96 = .ok (.iload 6, 2) := by decide +kernel
theorem dX11_inTransit_98 : decode cX11_inTransit 98 = .ok (.iconst 2, 1) := by decide +kernel
theorem dX11_inTransit_99 : decode cX11_inTransit 99 = .ok (.iload 4, 2) := by decide +kernel
theorem dX11_inTransit_101 : decode cX11_inTransit 101 = .ok (.iadd, 1) := by decide +kernel
theorem dX11_inTransit_102 : decode cX11_inTransit 102 = .ok (.invokevirtual 114, 3) := by decide +kernel
theorem dX11_inTransit_105 : decode cX11_inTransit 105 = .ok (.ireturn, 1) := by decide +kernel
theorem dX11_inTransit_106 : decode cX11_inTransit 106 = .ok (.iinc 5 1, 3) := by decide +kernel
theorem dX11_inTransit_109 : decode cX11_inTransit 109 = .ok (.iinc 6 1, 3) := by decide +kernel
theorem dX11_inTransit_112 : decode cX11_inTransit 112 = .ok (.goto (-66), 3) := by decide +kernel
theorem dX11_inTransit_115 : decode cX11_inTransit 115 = .ok (.iload_n 3, 1) := by decide +kernel
theorem dX11_inTransit_116 : decode cX11_inTransit 116 = .ok (.ifCond .ge 8, 3) := by decide +kernel
theorem dX11_inTransit_119 : decode cX11_inTransit 119 = .ok (.iload 5, 2) := by decide +kernel
theorem dX11_inTransit_121 : decode cX11_inTransit 121 = .ok (.goto 5, 3) := by decide +kernel
theorem dX11_inTransit_124 : decode cX11_inTransit 124 = .ok (.ldc 127, 2) := by decide +kernel
theorem dX11_inTransit_126 : decode cX11_inTransit 126 = .ok (.ireturn, 1) := by decide +kernel
theorem dX11_type_0 : decode cX11_type 0 = .ok (.aload_n 0, 1) := by decide +kernel
theorem dX11_type_1 : decode cX11_type 1 = .ok (.getfield 187, 3) := by decide +kernel
theorem dX11_type_4 : decode cX11_type 4 = .ok (.bipush 20, 2) := by decide +kernel
theorem dX11_type_6 : decode cX11_type 6 = .ok (.if_icmp .ne 6, 3) := by decide +kernel
theorem dX11_type_9 : decode cX11_type 9 = .ok (.ldc 126, 2) := by decide +kernel
theorem dX11_type_11 : decode cX11_type 11 = .ok (.ireturn, 1) := by decide +kernel
theorem dX11_type_12 : decode cX11_type 12 = .ok (.aload_n 0, 1) := by decide +kernel
theorem dX11_type_13 : decode cX11_type 13 = .ok (.getfield 16, 3) := by decide +kernel
theorem dX11_type_16 : decode cX11_type 16 = .ok (.aload_n 0, 1) := by decide +kernel
theorem dX11_type_17 : decode cX11_type 17 = .ok (.getfield 187, 3) := by decide +kernel
theorem dX11_type_20 : decode cX11_type 20 = .ok (.iload_n 1, 1) := by decide +kernel
theorem dX11_type_21 : decode cX11_type 21 = .ok (.castore, 1) := by decide +kernel
theorem dX11_type_22 : decode cX11_type 22 = .ok (.aload_n 0, 1) := by decide +kernel
theorem dX11_type_23 : decode cX11_type 23 = .ok (.dup, 1) := by decide +kernel
theorem dX11_type_24 : decode cX11_type 24 = .ok (.getfield 187, 3) := by decide +kernel
theorem dX11_type_27 : decode cX11_type 27 = .ok (.iconst 1, 1) := by decide +kernel
theorem dX11_type_28 : decode cX11_type 28 = .ok (.iadd, 1) := by decide +kernel
theorem dX11_type_29 : decode cX11_type 29 = .ok (.putfield 187, 3) := by decide +kernel
theorem dX11_type_32 : decode cX11_type 32 = .ok (.aload_n 0, 1) := by decide +kernel
theorem dX11_type_33 : decode cX11_type 33 = .ok (.getfield 187, 3) := by decide +kernel
theorem dX11_type_36 : decode cX11_type 36 = .ok (.ireturn, 1) := by decide +kernel
theorem dX11_clearText_0 : decode cX11_clearText 0 = .ok (.aload_n 0, 1) := by decide +kernel
theorem dX11_clearText_1 : decode cX11_clearText 1 = .ok (.getfield 187, 3) := by decide +kernel
theorem dX11_clearText_4 : decode cX11_clearText 4 = .ok (.istore_n 1, 1) := by decide +kernel
theorem dX11_clearText_5 : decode cX11_clearText 5 = .ok (.aload_n 0, 1) := by decide +kernel
theorem dX11_clearText_6 : decode cX11_clearText 6 = .ok (.iconst 0, 1) := by decide +kernel
theorem dX11_clearText_7 : decode cX11_clearText 7 = .ok (.putfield 187, 3) := by decide +kernel
theorem dX11_clearText_10 : decode cX11_clearText 10 = .ok (.iload_n 1, 1) := by decide +kernel
theorem dX11_clearText_11 : decode cX11_clearText 11 = .ok (.ireturn, 1) := by decide +kernel
theorem dX11_isAt_0 : decode cX11_isAt 0 = .ok (.iload_n 1, 1) := by decide +kernel
theorem dX11_isAt_1 : decode cX11_isAt 1 = .ok (.aload_n 0, 1) := by decide +kernel
theorem dX11_isAt_2 : decode cX11_isAt 2 = .ok (.getfield 187, 3) := by decide +kernel
theorem dX11_isAt_5 : decode cX11_isAt 5 = .ok (.if_icmp .ge 17, 3) := by decide +kernel
theorem dX11_isAt_8 : decode cX11_isAt 8 = .ok (.aload_n 0, 1) := by decide +kernel
theorem dX11_isAt_9 : decode cX11_isAt 9 = .ok (.getfield 16, 3) := by decide +kernel
theorem dX11_isAt_12 : decode cX11_isAt 12 = .ok (.iload_n 1, 1) := by decide +kernel
theorem dX11_isAt_13 : decode cX11_isAt 13 = .ok (.caload, 1) := by decide +kernel
theorem dX11_isAt_14 : decode cX11_isAt 14 = .ok (.iload_n 2, 1) := by decide +kernel
theorem dX11_isAt_15 : decode cX11_isAt 15 = .ok (.if_icmp .ne 7, 3) := by decide +kernel
theorem dX11_isAt_18 : decode cX11_isAt 18 = .ok (.iconst 1, 1) := by decide +kernel
theorem dX11_isAt_19 : decode cX11_isAt 19 = .ok (.goto 4, 3) := by decide +kernel
theorem dX11_isAt_22 : decode cX11_isAt 22 = .ok (.iconst 0, 1) := by decide +kernel
theorem dX11_isAt_23 : decode cX11_isAt 23 = .ok (.ireturn, 1) := by decide +kernel
theorem dX11_isDigitAt_0 : decode cX11_isDigitAt 0 = .ok (.iload_n 1, 1) := by decide +kernel
theorem dX11_isDigitAt_1 : decode cX11_isDigitAt 1 = .ok (.aload_n 0, 1) := by decide +kernel
theorem dX11_isDigitAt_2 : decode cX11_isDigitAt 2 = .ok (.getfield 187, 3) := by decide +kernel
theorem dX11_isDigitAt_5 : decode cX11_isDigitAt 5 = .ok (.if_icmp .ge 29, 3) := by decide +kernel
theorem dX11_isDigitAt_8 : decode cX11_isDigitAt 8 = .ok (.aload_n 0, 1) := by decide +kernel
theorem dX11_isDigitAt_9 : decode cX11_isDigitAt 9 = .ok (.getfield 16, 3) := by decide +kernel
theorem dX11_isDigitAt_12 : decode cX11_isDigitAt 12 = .ok (.iload_n 1, 1) := by decide +kernel
theorem dX11_isDigitAt_13 : decode cX11_isDigitAt 13 = .ok (.caload, 1) := by decide +kernel
theorem dX11_isDigitAt_14 : decode cX11_isDigitAt 14 = .ok (.bipush 48, 2) := by decide +kernel
theorem dX11_isDigitAt_16 : decode cX11_isDigitAt 16 = .ok (.if_icmp .lt 18, 3) := by decide +kernel
theorem dX11_isDigitAt_19 : decode cX11_isDigitAt 19 = .ok (.aload_n 0, 1) := by decide +kernel
theorem dX11_isDigitAt_20 : decode cX11_isDigitAt 20 = .ok (.getfield 16, 3) := by decide +kernel
theorem dX11_isDigitAt_23 : decode cX11_isDigitAt 23 = .ok (.iload_n 1, 1) := by decide +kernel
theorem dX11_isDigitAt_24 : decode cX11_isDigitAt 24 = .ok (.caload, 1) := by decide +kernel
theorem dX11_isDigitAt_25 : decode cX11_isDigitAt 25 = .ok (.bipush 57, 2) := by decide +kernel
theorem dX11_isDigitAt_27 : decode cX11_isDigitAt 27 = .ok (.if_icmp .gt 7, 3) := by decide +kernel
theorem dX11_isDigitAt_30 : decode cX11_isDigitAt 30 = .ok (.iconst 1, 1) := by decide +kernel
theorem dX11_isDigitAt_31 : decode cX11_isDigitAt 31 = .ok (.goto 4, 3) := by decide +kernel
theorem dX11_isDigitAt_34 : decode cX11_isDigitAt 34 = .ok (.iconst 0, 1) := by decide +kernel
theorem dX11_isDigitAt_35 : decode cX11_isDigitAt 35 = .ok (.ireturn, 1) := by decide +kernel
theorem dX11_addRule_0 : decode cX11_addRule 0 = .ok (.aload_n 0, 1) := by decide +kernel
theorem dX11_addRule_1 : decode cX11_addRule 1 = .ok (.iconst 0, 1) := by decide +kernel
theorem dX11_addRule_2 : decode cX11_addRule 2 = .ok (.invokevirtual 190, 3) := by decide +kernel
theorem dX11_addRule_5 : decode cX11_addRule 5 = .ok (.ifCond .eq 23, 3) := by decide +kernel
theorem dX11_addRule_8 : decode cX11_addRule 8 = .ok (.aload_n 0, 1) := by decide +kernel
theorem dX11_addRule_9 : decode cX11_addRule 9 = .ok (.getfield 16, 3) := by decide +kernel
theorem dX11_addRule_12 : decode cX11_addRule 12 = .ok (.iconst 0, 1) := by decide +kernel
theorem dX11_addRule_13 : decode cX11_addRule 13 = .ok (.caload, 1) := by decide +kernel
theorem dX11_addRule_14 : decode cX11_addRule 14 = .ok (.bipush 48, 2) := by decide +kernel
theorem dX11_addRule_16 : decode cX11_addRule 16 = .ok (.isub, 1) := by decide +kernel
theorem dX11_addRule_17 : decode cX11_addRule 17 = .ok (.aload_n 0, 1) := by decide +kernel
theorem dX11_addRule_18 : decode cX11_addRule 18 = .ok (.getfield 79, 3) := by decide +kernel
theorem dX11_addRule_21 : decode cX11_addRule 21 = .ok (.if_icmp .ge 7, 3) := by decide +kernel
theorem dX11_addRule_24 : decode cX11_addRule 24 = .ok (.iconst 1, 1) := by decide +kernel
theorem dX11_addRule_25 : decode cX11_addRule 25 = .ok (.goto 4, 3) := by decide +kernel
theorem dX11_addRule_28 : decode cX11_addRule 28 = .ok (.iconst 0, 1) := by decide +kernel
theorem dX11_addRule_29 : decode cX11_addRule 29 = .ok (.istore_n 1, 1) := by decide +kernel
theorem dX11_addRule_30 : decode cX11_addRule 30 = .ok (.iload_n 1, 1) := by decide +kernel
theorem dX11_addRule_31 : decode cX11_addRule 31 = .ok (.ifCond .ne 26, 3) := by decide +kernel
theorem dX11_addRule_34 : decode cX11_addRule 34 = .ok (.aload_n 0, 1) := by decide +kernel
theorem dX11_addRule_35 : decode cX11_addRule 35 = .ok (.iconst 0, 1) := by decide +kernel
theorem dX11_addRule_36 : decode cX11_addRule 36 = .ok (.bipush 42, 2) := by decide +kernel
theorem dX11_addRule_38 : decode cX11_addRule 38 = .ok (.invokevirtual 193, 3) := by decide +kernel
theorem dX11_addRule_41 : decode cX11_addRule 41 = .ok (.ifCond .ne 16, 3) := by decide +kernel
theorem dX11_addRule_44 : decode cX11_addRule 44 = .ok (.aload_n 0, 1) := by decide +kernel
theorem dX11_addRule_45 : decode cX11_addRule 45 = .ok (.iconst 0, 1) := by decide +kernel
theorem dX11_addRule_46 : decode cX11_addRule 46 = .ok (.bipush 126, 2) := by decide +kernel
theorem dX11_addRule_48 : decode cX11_addRule 48 = .ok (.invokevirtual 193, 3) := by decide +kernel
theorem dX11_addRule_51 : decode cX11_addRule 51 = .ok (.ifCond .ne 6, 3) := by decide +kernel
theorem dX11_addRule_54 : decode cX11_addRule 54 = .ok (.bipush (-100), 2) := by decide +kernel
theorem dX11_addRule_56 : decode cX11_addRule 56 = .ok (.ireturn, 1) := by decide +kernel
theorem dX11_addRule_57 : decode cX11_addRule 57 = .ok (.aload_n 0, 1) := by decide +kernel
theorem dX11_addRule_58 : decode cX11_addRule 58 = .ok (.iconst 1, 1) := by decide +kernel
theorem dX11_addRule_59 : decode cX11_addRule 59 = .ok (.bipush 97, 2) := by decide +kernel
theorem dX11_addRule_61 : decode cX11_addRule 61 = .ok (.invokevirtual 193, 3) := by decide +kernel
theorem dX11_addRule_64 : decode cX11_addRule 64 = .ok (.ifCond .ne 16, 3) := by decide +kernel
theorem dX11_addRule_67 : decode cX11_addRule 67 = .ok (.aload_n 0, 1) := by decide +kernel
theorem dX11_addRule_68 : decode cX11_addRule 68 = .ok (.iconst 1, 1) := by decide +kernel
theorem dX11_addRule_69 : decode cX11_addRule 69 = .ok (.bipush 98, 2) := by decide +kernel
theorem dX11_addRule_71 : decode cX11_addRule 71 = .ok (.invokevirtual 193, 3) := by decide +kernel
theorem dX11_addRule_74 : decode cX11_addRule 74 = .ok (.ifCond .ne 6, 3) := by decide +kernel
theorem dX11_addRule_77 : decode cX11_addRule 77 = .ok (.bipush (-101), 2) := by decide +kernel
theorem dX11_addRule_79 : decode cX11_addRule 79 = .ok (.ireturn, 1) := by decide +kernel
theorem dX11_addRule_80 : decode cX11_addRule 80 = .ok (.iconst 2, 1) := by decide +kernel
theorem dX11_addRule_81 : decode cX11_addRule 81 = .ok (.istore_n 2, 1) := by decide +kernel
theorem dX11_addRule_82 : decode cX11_addRule 82 = .ok (.aload_n 0, 1) := by decide +kernel
theorem dX11_addRule_83 : decode cX11_addRule 83 = .ok (.iconst 2, 1) := by decide +kernel
theorem dX11_addRule_84 : decode cX11_addRule 84 = .ok (.bipush 60, 2) := by decide +kernel
theorem dX11_addRule_86 : decode cX11_addRule 86 = .ok (.invokevirtual 193, 3) := by decide +kernel
theorem dX11_addRule_89 : decode cX11_addRule 89 = .ok (.ifCond .ne 13, 3) := by decide +kernel
theorem dX11_addRule_92 : decode cX11_addRule 92 = .ok (.aload_n 0, 1) := by decide +kernel
theorem dX11_addRule_93 : decode cX11_addRule 93 = .ok (.iconst 2, 1) := by decide +kernel
theorem dX11_addRule_94 : decode cX11_addRule 94 = .ok (.bipush 62, 2) := by decide +kernel
theorem dX11_addRule_96 : decode cX11_addRule 96 = .ok (.invokevirtual 193, 3) := by decide +kernel
theorem dX11_addRule_99 : decode cX11_addRule 99 = .ok (.ifCond .eq 7, 3) := by decide +kernel
theorem dX11_addRule_102 : decode cX11_addRule 102 = .ok (.iconst 1, 1) := by decide +kernel
theorem dX11_addRule_103 : decode cX11_addRule 103 = .ok (.goto 4, 3) := by decide +kernel
theorem dX11_addRule_106 : decode cX11_addRule 106 = .ok (.iconst 0, 1) := by decide +kernel
theorem dX11_addRule_107 : decode cX11_addRule 107 = .ok (.istore_n 3, 1) := by decide +kernel
theorem dX11_addRule_108 : decode cX11_addRule 108 = .ok (.iload_n 2, 1) := by decide +kernel
theorem dX11_addRule_109 : decode cX11_addRule 109 = .ok (.iload_n 3, 1) := by decide +kernel
theorem dX11_addRule_110 : decode cX11_addRule 110 = .ok (.ifCond .eq 7, 3) := by decide +kernel
theorem dX11_addRule_113 : decode cX11_addRule 113 = .ok (.iconst 1, 1) := by decide +kernel
theorem dX11_addRule_114 : decode cX11_addRule 114 = .ok (.goto 4, 3) := by decide +kernel
theorem dX11_addRule_117 : decode cX11_addRule 117 = .ok (.iconst 0, 1) := by decide +kernel
theorem dX11_addRule_118 : decode cX11_addRule 118 = .ok (.iadd, 1) := by decide +kernel
theorem dX11_addRule_119 : decode cX11_addRule 119 = .ok (.istore_n 2, 1) := by decide +kernel
theorem dX11_addRule_120 : decode cX11_addRule 120 = .ok (.aload_n 0, 1) := by decide +kernel
theorem dX11_addRule_121 : decode cX11_addRule 121 = .ok (.iload_n 2, 1) := by decide +kernel
theorem dX11_addRule_122 : decode cX11_addRule 122 = .ok (.bipush 61, 2) := by decide +kernel
theorem dX11_addRule_124 : decode cX11_addRule 124 = .ok (.invokevirtual 193, 3) := by decide +kernel
theorem dX11_addRule_127 : decode cX11_addRule 127 = .ok (.ifCond .ne 8, 3) := by decide +kernel
theorem dX11_addRule_130 : decode cX11_addRule 130 = .ok (.bipush (-100), 2) := by decide +kernel
theorem dX11_addRule_132 : decode cX11_addRule 132 = .ok (.iload_n 2, 1) := by decide +kernel
theorem dX11_addRule_133 : decode cX11_addRule 133 = .ok (.isub, 1) := by decide +kernel
theorem dX11_addRule_134 : decode cX11_addRule 134 = .ok (.ireturn, 1) := by decide +kernel
theorem dX11_addRule_135 : decode cX11_addRule 135 = .ok (.iinc 2 1, 3) := by decide +kernel
theorem dX11_addRule_138 : decode cX11_addRule 138 = .ok (.iconst 0, 1) := by decide +kernel
theorem dX11_addRule_139 : decode cX11_addRule 139 = .ok (.istore 4, 2) := by decide +kernel
theorem dX11_addRule_141 : decode cX11_addRule 141 = .ok (.iconst 0, 1) := by decide +kernel
theorem dX11_addRule_142 : decode cX11_addRule 142 = .ok (.istore 5, 2) := by decide +kernel
theorem dX11_addRule_144 : decode cX11_addRule 144 = .ok (.iload 4, 2) := by decide +kernel
theorem dX11_addRule_146 : decode cX11_addRule 146 = .ok (.iconst 4, 1) := by decide +kernel
theorem dX11_addRule_147 : decode cX11_addRule 147 = .ok (.if_icmp .ge 37, 3) := by decide +kernel
theorem dX11_addRule_150 : decode cX11_addRule 150 = .ok (.aload_n 0, 1) := by decide +kernel
theorem dX11_addRule_151 : decode cX11_addRule 151 = .ok (.iload_n 2, 1) := by decide +kernel
theorem dX11_addRule_152 : decode cX11_addRule 152 = .ok (.invokevirtual 190, 3) := by decide +kernel
theorem dX11_addRule_155 : decode cX11_addRule 155 = .ok (.ifCond .eq 29, 3) := by decide +kernel
theorem dX11_addRule_158 : decode cX11_addRule 158 = .ok (.bipush 10, 2) := by decide +kernel
theorem dX11_addRule_160 : decode cX11_addRule 160 = .ok (.iload 5, 2) := by decide +kernel
