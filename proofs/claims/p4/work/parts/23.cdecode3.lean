-- decode rows of the class
theorem dX5_at_5 : decode cX5_at 5 = .ok (.ifCond .eq 21, 3) := by decide +kernel
theorem dX5_at_8 : decode cX5_at 8 = .ok (.iload_n 1, 1) := by decide +kernel
theorem dX5_at_9 : decode cX5_at 9 = .ok (.aload_n 0, 1) := by decide +kernel
theorem dX5_at_10 : decode cX5_at 10 = .ok (.getfield 9, 3) := by decide +kernel
theorem dX5_at_13 : decode cX5_at 13 = .ok (.arraylength, 1) := by decide +kernel
theorem dX5_at_14 : decode cX5_at 14 = .ok (.if_icmp .ge 12, 3) := by decide +kernel
theorem dX5_at_17 : decode cX5_at 17 = .ok (.aload_n 0, 1) := by decide +kernel
theorem dX5_at_18 : decode cX5_at 18 = .ok (.getfield 9, 3) := by decide +kernel
theorem dX5_at_21 : decode cX5_at 21 = .ok (.iload_n 1, 1) := by decide +kernel
theorem dX5_at_22 : decode cX5_at 22 = .ok (.iaload, 1) := by decide +kernel
theorem dX5_at_23 : decode cX5_at 23 = .ok (.goto 4, 3) := by decide +kernel
theorem dX5_at_26 : decode cX5_at 26 = .ok (.iconst 0, 1) := by decide +kernel
theorem dX5_at_27 : decode cX5_at 27 = .ok (.ireturn, 1) := by decide +kernel
theorem dX5_write_0 : decode cX5_write 0 = .ok (.aload_n 0, 1) := by decide +kernel
theorem dX5_write_1 : decode cX5_write 1 = .ok (.iload_n 1, 1) := by decide +kernel
theorem dX5_write_2 : decode cX5_write 2 = .ok (.invokevirtual 37, 3) := by decide +kernel
theorem dX5_write_5 : decode cX5_write 5 = .ok (.ifCond .eq 47, 3) := by decide +kernel
theorem dX5_write_8 : decode cX5_write 8 = .ok (.iload_n 1, 1) := by decide +kernel
theorem dX5_write_9 : decode cX5_write 9 = .ok (.aload_n 0, 1) := by decide +kernel
theorem dX5_write_10 : decode cX5_write 10 = .ok (.getfield 9, 3) := by decide +kernel
theorem dX5_write_13 : decode cX5_write 13 = .ok (.arraylength, 1) := by decide +kernel
theorem dX5_write_14 : decode cX5_write 14 = .ok (.if_icmp .ge 38, 3) := by decide +kernel
theorem dX5_write_17 : decode cX5_write 17 = .ok (.aload_n 0, 1) := by decide +kernel
theorem dX5_write_18 : decode cX5_write 18 = .ok (.getfield 9, 3) := by decide +kernel
theorem dX5_write_21 : decode cX5_write 21 = .ok (.iload_n 1, 1) := by decide +kernel
theorem dX5_write_22 : decode cX5_write 22 = .ok (.aload_n 0, 1) := by decide +kernel
theorem dX5_write_23 : decode cX5_write 23 = .ok (.getfield 15, 3) := by decide +kernel
theorem dX5_write_26 : decode cX5_write 26 = .ok (.bipush 8, 2) := by decide +kernel
theorem dX5_write_28 : decode cX5_write 28 = .ok (.if_icmp .ne 8, 3) := by decide +kernel
theorem dX5_write_31 : decode cX5_write 31 = .ok (.iload_n 2, 1) := by decide +kernel
theorem dX5_write_32 : decode cX5_write 32 = .ok (.i2b, 1) := by decide +kernel
theorem dX5_write_33 : decode cX5_write 33 = .ok (.goto 18, 3) := by decide +kernel
theorem dX5_write_36 : decode cX5_write 36 = .ok (.aload_n 0, 1) := by decide +kernel
theorem dX5_write_37 : decode cX5_write 37 = .ok (.getfield 15, 3) := by decide +kernel
theorem dX5_write_40 : decode cX5_write 40 = .ok (.bipush 16, 2) := by decide +kernel
theorem dX5_write_42 : decode cX5_write 42 = .ok (.if_icmp .ne 8, 3) := by decide +kernel
theorem dX5_write_45 : decode cX5_write 45 = .ok (.iload_n 2, 1) := by decide +kernel
theorem dX5_write_46 : decode cX5_write 46 = .ok (.i2s, 1) := by decide +kernel
theorem dX5_write_47 : decode cX5_write 47 = .ok (.goto 4, 3) := by decide +kernel
theorem dX5_write_50 : decode cX5_write 50 = .ok (.iload_n 2, 1) := by decide +kernel
theorem dX5_write_51 : decode cX5_write 51 = .ok (.iastore, 1) := by decide +kernel
theorem dX5_write_52 : decode cX5_write 52 = .ok (.return_, 1) := by decide +kernel
theorem dX5_copyRange_0 : decode cX5_copyRange 0 = .ok (.aload_n 0, 1) := by decide +kernel
theorem dX5_copyRange_1 : decode cX5_copyRange 1 = .ok (.iload_n 1, 1) := by decide +kernel
theorem dX5_copyRange_2 : decode cX5_copyRange 2 = .ok (.iload 4, 2) := by decide +kernel
theorem dX5_copyRange_4 : decode cX5_copyRange 4 = .ok (.invokevirtual 41, 3) := by decide +kernel
theorem dX5_copyRange_7 : decode cX5_copyRange 7 = .ok (.ifCond .eq 28, 3) := by decide +kernel
theorem dX5_copyRange_10 : decode cX5_copyRange 10 = .ok (.aload_n 2, 1) := by decide +kernel
theorem dX5_copyRange_11 : decode cX5_copyRange 11 = .ok (.iload_n 3, 1) := by decide +kernel
theorem dX5_copyRange_12 : decode cX5_copyRange 12 = .ok (.iload 4, 2) := by decide +kernel
theorem dX5_copyRange_14 : decode cX5_copyRange 14 = .ok (.invokevirtual 41, 3) := by decide +kernel
theorem dX5_copyRange_17 : decode cX5_copyRange 17 = .ok (.ifCond .eq 18, 3) := by decide +kernel
theorem dX5_copyRange_20 : decode cX5_copyRange 20 = .ok (.aload_n 0, 1) := by decide +kernel
theorem dX5_copyRange_21 : decode cX5_copyRange 21 = .ok (.getfield 9, 3) := by decide +kernel
theorem dX5_copyRange_24 : decode cX5_copyRange 24 = .ok (.iload_n 1, 1) := by decide +kernel
theorem dX5_copyRange_25 : decode cX5_copyRange 25 = .ok (.aload_n 2, 1) := by decide +kernel
theorem dX5_copyRange_26 : decode cX5_copyRange 26 = .ok (.getfield 9, 3) := by decide +kernel
theorem dX5_copyRange_29 : decode cX5_copyRange 29 = .ok (.iload_n 3, 1) := by decide +kernel
theorem dX5_copyRange_30 : decode cX5_copyRange 30 = .ok (.iload 4, 2) := by decide +kernel
theorem dX5_copyRange_32 : decode cX5_copyRange 32 = .ok (.invokestatic 45, 3) := by decide +kernel
theorem dX5_copyRange_35 : decode cX5_copyRange 35 = .ok (.return_, 1) := by decide +kernel
theorem dX6_init_0 : decode cX6_init 0 = .ok (.aload_n 0, 1) := by decide +kernel
theorem dX6_init_1 : decode cX6_init 1 = .ok (.invokespecial 3, 3) := by decide +kernel
theorem dX6_init_4 : decode cX6_init 4 = .ok (.aload_n 0, 1) := by decide +kernel
theorem dX6_init_5 : decode cX6_init 5 = .ok (.new 9, 3) := by decide +kernel
theorem dX6_init_8 : decode cX6_init 8 = .ok (.dup, 1) := by decide +kernel
theorem dX6_init_9 : decode cX6_init 9 = .ok (.bipush 30, 2) := by decide +kernel
theorem dX6_init_11 : decode cX6_init 11 = .ok (.iconst 1, 1) := by decide +kernel
theorem dX6_init_12 : decode cX6_init 12 = .ok (.invokespecial 11, 3) := by decide +kernel
theorem dX6_init_15 : decode cX6_init 15 = .ok (.putfield 14, 3) := by decide +kernel
theorem dX6_init_18 : decode cX6_init 18 = .ok (.return_, 1) := by decide +kernel
theorem dX6_begin_0 : decode cX6_begin 0 = .ok (.aload_n 0, 1) := by decide +kernel
theorem dX6_begin_1 : decode cX6_begin 1 = .ok (.getfield 14, 3) := by decide +kernel
theorem dX6_begin_4 : decode cX6_begin 4 = .ok (.invokevirtual 20, 3) := by decide +kernel
theorem dX6_begin_7 : decode cX6_begin 7 = .ok (.aload_n 0, 1) := by decide +kernel
theorem dX6_begin_8 : decode cX6_begin 8 = .ok (.iload_n 1, 1) := by decide +kernel
theorem dX6_begin_9 : decode cX6_begin 9 = .ok (.putfield 23, 3) := by decide +kernel
theorem dX6_begin_12 : decode cX6_begin 12 = .ok (.aload_n 0, 1) := by decide +kernel
theorem dX6_begin_13 : decode cX6_begin 13 = .ok (.iload_n 2, 1) := by decide +kernel
theorem dX6_begin_14 : decode cX6_begin 14 = .ok (.putfield 27, 3) := by decide +kernel
theorem dX6_begin_17 : decode cX6_begin 17 = .ok (.aload_n 0, 1) := by decide +kernel
theorem dX6_begin_18 : decode cX6_begin 18 = .ok (.iload_n 3, 1) := by decide +kernel
theorem dX6_begin_19 : decode cX6_begin 19 = .ok (.putfield 30, 3) := by decide +kernel
theorem dX6_begin_22 : decode cX6_begin 22 = .ok (.aload_n 0, 1) := by decide +kernel
theorem dX6_begin_23 : decode cX6_begin 23 = .ok (.iconst 0, 1) := by decide +kernel
theorem dX6_begin_24 : decode cX6_begin 24 = .ok (.putfield 33, 3) := by decide +kernel
theorem dX6_begin_27 : decode cX6_begin 27 = .ok (.return_, 1) := by decide +kernel
theorem dX6_trace_0 : decode cX6_trace 0 = .ok (.aload_n 0, 1) := by decide +kernel
theorem dX6_trace_1 : decode cX6_trace 1 = .ok (.getfield 14, 3) := by decide +kernel
theorem dX6_trace_4 : decode cX6_trace 4 = .ok (.areturn, 1) := by decide +kernel
theorem dX6_isParted_0 : decode cX6_isParted 0 = .ok (.aload_n 0, 1) := by decide +kernel
theorem dX6_isParted_1 : decode cX6_isParted 1 = .ok (.getfield 33, 3) := by decide +kernel
theorem dX6_isParted_4 : decode cX6_isParted 4 = .ok (.ireturn, 1) := by decide +kernel
theorem dX6_own_0 : decode cX6_own 0 = .ok (.aload_n 0, 1) := by decide +kernel
theorem dX6_own_1 : decode cX6_own 1 = .ok (.aload_n 0, 1) := by decide +kernel
theorem dX6_own_2 : decode cX6_own 2 = .ok (.getfield 23, 3) := by decide +kernel
theorem dX6_own_5 : decode cX6_own 5 = .ok (.iload_n 1, 1) := by decide +kernel
theorem dX6_own_6 : decode cX6_own 6 = .ok (.iload_n 2, 1) := by decide +kernel
theorem dX6_own_7 : decode cX6_own 7 = .ok (.iload_n 3, 1) := by decide +kernel
theorem dX6_own_8 : decode cX6_own 8 = .ok (.invokevirtual 37, 3) := by decide +kernel
theorem dX6_own_11 : decode cX6_own 11 = .ok (.ireturn, 1) := by decide +kernel
theorem dX6_sound_0 : decode cX6_sound 0 = .ok (.iload_n 1, 1) := by decide +kernel
theorem dX6_sound_1 : decode cX6_sound 1 = .ok (.istore 5, 2) := by decide +kernel
theorem dX6_sound_3 : decode cX6_sound 3 = .ok (.iconst 0, 1) := by decide +kernel
theorem dX6_sound_4 : decode cX6_sound 4 = .ok (.istore 6, 2) := by decide +kernel
theorem dX6_sound_6 : decode cX6_sound 6 = .ok (.iload 6, 2) := by decide +kernel
theorem dX6_sound_8 : decode cX6_sound 8 = .ok (.bipush 7, 2) := by decide +kernel
theorem dX6_sound_10 : decode cX6_sound 10 = .ok (.if_icmp .ge 25, 3) := by decide +kernel
theorem dX6_sound_13 : decode cX6_sound 13 = .ok (.iload 5, 2) := by decide +kernel
theorem dX6_sound_15 : decode cX6_sound 15 = .ok (.iload_n 2, 1) := by decide +kernel
theorem dX6_sound_16 : decode cX6_sound 16 = .ok (.invokestatic 41, 3) := by decide +kernel
theorem dX6_sound_19 : decode cX6_sound 19 = .ok (.ifCond .ne 16, 3) := by decide +kernel
theorem dX6_sound_22 : decode cX6_sound 22 = .ok (.iload 5, 2) := by decide +kernel
theorem dX6_sound_24 : decode cX6_sound 24 = .ok (.invokestatic 45, 3) := by decide +kernel
theorem dX6_sound_27 : decode cX6_sound 27 = .ok (.istore 5, 2) := by decide +kernel
theorem dX6_sound_29 : decode cX6_sound 29 = .ok (.iinc 6 1, 3) := by decide +kernel
theorem dX6_sound_32 : decode cX6_sound 32 = .ok (.goto (-26), 3) := by decide +kernel
theorem dX6_sound_35 : decode cX6_sound 35 = .ok (.iload 5, 2) := by decide +kernel
theorem dX6_sound_37 : decode cX6_sound 37 = .ok (.iload_n 2, 1) := by decide +kernel
theorem dX6_sound_38 : decode cX6_sound 38 = .ok (.invokestatic 41, 3) := by decide +kernel
theorem dX6_sound_41 : decode cX6_sound 41 = .ok (.istore 6, 2) := by decide +kernel
theorem dX6_sound_43 : decode cX6_sound 43 = .ok (.aload_n 0, 1) := by decide +kernel
theorem dX6_sound_44 : decode cX6_sound 44 = .ok (.getfield 14, 3) := by decide +kernel
theorem dX6_sound_47 : decode cX6_sound 47 = .ok (.iload 6, 2) := by decide +kernel
theorem dX6_sound_49 : decode cX6_sound 49 = .ok (.iconst 0, 1) := by decide +kernel
theorem dX6_sound_50 : decode cX6_sound 50 = .ok (.iconst 0, 1) := by decide +kernel
theorem dX6_sound_51 : decode cX6_sound 51 = .ok (.invokevirtual 49, 3) := by decide +kernel
theorem dX6_sound_54 : decode cX6_sound 54 = .ok (.pop, 1) := by decide +kernel
theorem dX6_sound_55 : decode cX6_sound 55 = .ok (.iload 4, 2) := by decide +kernel
theorem dX6_sound_57 : decode cX6_sound 57 = .ok (.bipush 40, 2) := by decide +kernel
theorem dX6_sound_59 : decode cX6_sound 59 = .ok (.if_icmp .le 7, 3) := by decide +kernel
theorem dX6_sound_62 : decode cX6_sound 62 = .ok (.iconst 0, 1) := by decide +kernel
theorem dX6_sound_63 : decode cX6_sound 63 = .ok (.goto 19, 3) := by decide +kernel
theorem dX6_sound_66 : decode cX6_sound 66 = .ok (.aload_n 0, 1) := by decide +kernel
theorem dX6_sound_67 : decode cX6_sound 67 = .ok (.iload 6, 2) := by decide +kernel
theorem dX6_sound_69 : decode cX6_sound 69 = .ok (.iload 5, 2) := by decide +kernel
theorem dX6_sound_71 : decode cX6_sound 71 = .ok (.invokestatic 45, 3) := by decide +kernel
theorem dX6_sound_74 : decode cX6_sound 74 = .ok (.iload_n 3, 1) := by decide +kernel
theorem dX6_sound_75 : decode cX6_sound 75 = .ok (.iload 4, 2) := by decide +kernel
theorem dX6_sound_77 : decode cX6_sound 77 = .ok (.iconst 1, 1) := by decide +kernel
theorem dX6_sound_78 : decode cX6_sound 78 = .ok (.iadd, 1) := by decide +kernel
theorem dX6_sound_79 : decode cX6_sound 79 = .ok (.invokevirtual 53, 3) := by decide +kernel
theorem dX6_sound_82 : decode cX6_sound 82 = .ok (.ireturn, 1) := by decide +kernel
theorem dX6_bodyOf_0 : decode cX6_bodyOf 0 = .ok (.iload_n 0, 1) := by decide +kernel
theorem dX6_bodyOf_1 : decode cX6_bodyOf 1 = .ok (.iconst 4, 1) := by decide +kernel
theorem dX6_bodyOf_2 : decode cX6_bodyOf 2 = .ok (.imul, 1) := by decide +kernel
theorem dX6_bodyOf_3 : decode cX6_bodyOf 3 = .ok (.iload_n 1, 1) := by decide +kernel
theorem dX6_bodyOf_4 : decode cX6_bodyOf 4 = .ok (.iadd, 1) := by decide +kernel
theorem dX6_bodyOf_5 : decode cX6_bodyOf 5 = .ok (.istore_n 2, 1) := by decide +kernel
theorem dX6_bodyOf_6 : decode cX6_bodyOf 6 = .ok (.iload_n 2, 1) := by decide +kernel
theorem dX6_bodyOf_7 : decode cX6_bodyOf 7 = .ok (.ifCond .lt 19, 3) := by decide +kernel
theorem dX6_bodyOf_10 : decode cX6_bodyOf 10 = .ok (.iload_n 2, 1) := by decide +kernel
theorem dX6_bodyOf_11 : decode cX6_bodyOf 11 = .ok (.getstatic 56, 3) := by decide +kernel
theorem dX6_bodyOf_14 : decode cX6_bodyOf 14 = .ok (.arraylength, 1) := by decide +kernel
theorem dX6_bodyOf_15 : decode cX6_bodyOf 15 = .ok (.if_icmp .ge 11, 3) := by decide +kernel
theorem dX6_bodyOf_18 : decode cX6_bodyOf 18 = .ok (.getstatic 56, 3) := by decide +kernel
theorem dX6_bodyOf_21 : decode cX6_bodyOf 21 = .ok (.iload_n 2, 1) := by decide +kernel
theorem dX6_bodyOf_22 : decode cX6_bodyOf 22 = .ok (.iaload, 1) := by decide +kernel
theorem dX6_bodyOf_23 : decode cX6_bodyOf 23 = .ok (.goto 4, 3) := by decide +kernel
theorem dX6_bodyOf_26 : decode cX6_bodyOf 26 = .ok (.iconst 0, 1) := by decide +kernel
theorem dX6_bodyOf_27 : decode cX6_bodyOf 27 = .ok (.ireturn, 1) := by decide +kernel
theorem dX6_work_0 : decode cX6_work 0 = .ok (.iload_n 1, 1) := by decide +kernel
theorem dX6_work_1 : decode cX6_work 1 = .ok (.lookupswitch 265 #[(10, 115), (11, 122), (12, 133), (13, 147), (20, 153), (21, 165), (30, 184), (40, 196), (50, 208), (51, 220), (60, 235), (70, 247), (71, 250)], 115) := by decide +kernel
theorem dX6_work_116 : decode cX6_work 116 = .ok (.iload_n 3, 1) := by decide +kernel
theorem dX6_work_117 : decode cX6_work 117 = .ok (.aload_n 0, 1) := by decide +kernel
theorem dX6_work_118 : decode cX6_work 118 = .ok (.getfield 27, 3) := by decide +kernel
theorem dX6_work_121 : decode cX6_work 121 = .ok (.iadd, 1) := by decide +kernel
theorem dX6_work_122 : decode cX6_work 122 = .ok (.ireturn, 1) := by decide +kernel
theorem dX6_work_123 : decode cX6_work 123 = .ok (.aload_n 0, 1) := by decide +kernel
theorem dX6_work_124 : decode cX6_work 124 = .ok (.iconst 0, 1) := by decide +kernel
theorem dX6_work_125 : decode cX6_work 125 = .ok (.iload_n 3, 1) := by decide +kernel
theorem dX6_work_126 : decode cX6_work 126 = .ok (.iload 4, 2) := by decide +kernel
theorem dX6_work_128 : decode cX6_work 128 = .ok (.invokevirtual 60, 3) := by decide +kernel
theorem dX6_work_131 : decode cX6_work 131 = .ok (.iconst 2, 1) := by decide +kernel
theorem dX6_work_132 : decode cX6_work 132 = .ok (.imul, 1) := by decide +kernel
theorem dX6_work_133 : decode cX6_work 133 = .ok (.ireturn, 1) := by decide +kernel
theorem dX6_work_134 : decode cX6_work 134 = .ok (.aload_n 0, 1) := by decide +kernel
theorem dX6_work_135 : decode cX6_work 135 = .ok (.iconst 1, 1) := by decide +kernel
theorem dX6_work_136 : decode cX6_work 136 = .ok (.iload_n 3, 1) := by decide +kernel
theorem dX6_work_137 : decode cX6_work 137 = .ok (.iload 4, 2) := by decide +kernel
theorem dX6_work_139 : decode cX6_work 139 = .ok (.invokevirtual 60, 3) := by decide +kernel
theorem dX6_work_142 : decode cX6_work 142 = .ok (.aload_n 0, 1) := by decide +kernel
theorem dX6_work_143 : decode cX6_work 143 = .ok (.getfield 30, 3) := by decide +kernel
theorem dX6_work_146 : decode cX6_work 146 = .ok (.isub, 1) := by decide +kernel
theorem dX6_work_147 : decode cX6_work 147 = .ok (.ireturn, 1) := by decide +kernel
theorem dX6_work_148 : decode cX6_work 148 = .ok (.aload_n 0, 1) := by decide +kernel
theorem dX6_work_149 : decode cX6_work 149 = .ok (.iload_n 3, 1) := by decide +kernel
theorem dX6_work_150 : decode cX6_work 150 = .ok (.invokevirtual 63, 3) := by decide +kernel
theorem dX6_work_153 : decode cX6_work 153 = .ok (.ireturn, 1) := by decide +kernel
theorem dX6_work_154 : decode cX6_work 154 = .ok (.aload_n 0, 1) := by decide +kernel
theorem dX6_work_155 : decode cX6_work 155 = .ok (.iload_n 2, 1) := by decide +kernel
theorem dX6_work_156 : decode cX6_work 156 = .ok (.iconst 0, 1) := by decide +kernel
theorem dX6_work_157 : decode cX6_work 157 = .ok (.iload_n 3, 1) := by decide +kernel
theorem dX6_work_158 : decode cX6_work 158 = .ok (.iload 4, 2) := by decide +kernel
theorem dX6_work_160 : decode cX6_work 160 = .ok (.invokevirtual 37, 3) := by decide +kernel
theorem dX6_work_163 : decode cX6_work 163 = .ok (.iconst 4, 1) := by decide +kernel
theorem dX6_work_164 : decode cX6_work 164 = .ok (.isub, 1) := by decide +kernel
theorem dX6_work_165 : decode cX6_work 165 = .ok (.ireturn, 1) := by decide +kernel
theorem dX6_work_166 : decode cX6_work 166 = .ok (.aload_n 0, 1) := by decide +kernel
theorem dX6_work_167 : decode cX6_work 167 = .ok (.iload_n 2, 1) := by decide +kernel
theorem dX6_work_168 : decode cX6_work 168 = .ok (.iconst 3, 1) := by decide +kernel
theorem dX6_work_169 : decode cX6_work 169 = .ok (.iload_n 3, 1) := by decide +kernel
theorem dX6_work_170 : decode cX6_work 170 = .ok (.iload 4, 2) := by decide +kernel
theorem dX6_work_172 : decode cX6_work 172 = .ok (.invokevirtual 37, 3) := by decide +kernel
theorem dX6_work_175 : decode cX6_work 175 = .ok (.aload_n 0, 1) := by decide +kernel
theorem dX6_work_176 : decode cX6_work 176 = .ok (.iconst 1, 1) := by decide +kernel
theorem dX6_work_177 : decode cX6_work 177 = .ok (.iconst 1, 1) := by decide +kernel
theorem dX6_work_178 : decode cX6_work 178 = .ok (.iload 4, 2) := by decide +kernel
theorem dX6_work_180 : decode cX6_work 180 = .ok (.invokevirtual 60, 3) := by decide +kernel
theorem dX6_work_183 : decode cX6_work 183 = .ok (.iadd, 1) := by decide +kernel
theorem dX6_work_184 : decode cX6_work 184 = .ok (.ireturn, 1) := by decide +kernel
theorem dX6_work_185 : decode cX6_work 185 = .ok (.iconst 0, 1) := by decide +kernel
theorem dX6_work_186 : decode cX6_work 186 = .ok (.aload_n 0, 1) := by decide +kernel
theorem dX6_work_187 : decode cX6_work 187 = .ok (.iload_n 2, 1) := by decide +kernel
theorem dX6_work_188 : decode cX6_work 188 = .ok (.iconst 1, 1) := by decide +kernel
theorem dX6_work_189 : decode cX6_work 189 = .ok (.iload_n 3, 1) := by decide +kernel
theorem dX6_work_190 : decode cX6_work 190 = .ok (.iload 4, 2) := by decide +kernel
theorem dX6_work_192 : decode cX6_work 192 = .ok (.invokevirtual 37, 3) := by decide +kernel
theorem dX6_work_195 : decode cX6_work 195 = .ok (.isub, 1) := by decide +kernel
theorem dX6_work_196 : decode cX6_work 196 = .ok (.ireturn, 1) := by decide +kernel
theorem dX6_work_197 : decode cX6_work 197 = .ok (.aload_n 0, 1) := by decide +kernel
theorem dX6_work_198 : decode cX6_work 198 = .ok (.iload_n 2, 1) := by decide +kernel
theorem dX6_work_199 : decode cX6_work 199 = .ok (.iconst 2, 1) := by decide +kernel
theorem dX6_work_200 : decode cX6_work 200 = .ok (.iload_n 3, 1) := by decide +kernel
theorem dX6_work_201 : decode cX6_work 201 = .ok (.iconst 2, 1) := by decide +kernel
theorem dX6_work_202 : decode cX6_work 202 = .ok (.idiv, 1) := by decide +kernel
theorem dX6_work_203 : decode cX6_work 203 = .ok (.iload 4, 2) := by decide +kernel
theorem dX6_work_205 : decode cX6_work 205 = .ok (.invokevirtual 37, 3) := by decide +kernel
theorem dX6_work_208 : decode cX6_work 208 = .ok (.ireturn, 1) := by decide +kernel
theorem dX6_work_209 : decode cX6_work 209 = .ok (.aload_n 0, 1) := by decide +kernel
theorem dX6_work_210 : decode cX6_work 210 = .ok (.iload_n 2, 1) := by decide +kernel
theorem dX6_work_211 : decode cX6_work 211 = .ok (.iconst 0, 1) := by decide +kernel
theorem dX6_work_212 : decode cX6_work 212 = .ok (.iload_n 3, 1) := by decide +kernel
theorem dX6_work_213 : decode cX6_work 213 = .ok (.iload 4, 2) := by decide +kernel
theorem dX6_work_215 : decode cX6_work 215 = .ok (.invokevirtual 37, 3) := by decide +kernel
theorem dX6_work_218 : decode cX6_work 218 = .ok (.iconst 3, 1) := by decide +kernel
theorem dX6_work_219 : decode cX6_work 219 = .ok (.imul, 1) := by decide +kernel
theorem dX6_work_220 : decode cX6_work 220 = .ok (.ireturn, 1) := by decide +kernel
theorem dX6_work_221 : decode cX6_work 221 = .ok (.aload_n 0, 1) := by decide +kernel
theorem dX6_work_222 : decode cX6_work 222 = .ok (.iload_n 2, 1) := by decide +kernel
theorem dX6_work_223 : decode cX6_work 223 = .ok (.iconst 2, 1) := by decide +kernel
theorem dX6_work_224 : decode cX6_work 224 = .ok (.iload_n 3, 1) := by decide +kernel
theorem dX6_work_225 : decode cX6_work 225 = .ok (.iload 4, 2) := by decide +kernel
theorem dX6_work_227 : decode cX6_work 227 = .ok (.invokevirtual 37, 3) := by decide +kernel
theorem dX6_work_230 : decode cX6_work 230 = .ok (.aload_n 0, 1) := by decide +kernel
theorem dX6_work_231 : decode cX6_work 231 = .ok (.getfield 27, 3) := by decide +kernel
theorem dX6_work_234 : decode cX6_work 234 = .ok (.ixor, 1) := by decide +kernel
theorem dX6_work_235 : decode cX6_work 235 = .ok (.ireturn, 1) := by decide +kernel
theorem dX6_work_236 : decode cX6_work 236 = .ok (.aload_n 0, 1) := by decide +kernel
theorem dX6_work_237 : decode cX6_work 237 = .ok (.iload_n 2, 1) := by decide +kernel
theorem dX6_work_238 : decode cX6_work 238 = .ok (.iconst 1, 1) := by decide +kernel
theorem dX6_work_239 : decode cX6_work 239 = .ok (.iload_n 3, 1) := by decide +kernel
theorem dX6_work_240 : decode cX6_work 240 = .ok (.iconst 1, 1) := by decide +kernel
theorem dX6_work_241 : decode cX6_work 241 = .ok (.iadd, 1) := by decide +kernel
theorem dX6_work_242 : decode cX6_work 242 = .ok (.iload 4, 2) := by decide +kernel
theorem dX6_work_244 : decode cX6_work 244 = .ok (.invokevirtual 37, 3) := by decide +kernel
theorem dX6_work_247 : decode cX6_work 247 = .ok (.ireturn, 1) := by decide +kernel
theorem dX6_work_248 : decode cX6_work 248 = .ok (.bipush 6, 2) := by decide +kernel
theorem dX6_work_250 : decode cX6_work 250 = .ok (.ireturn, 1) := by decide +kernel
theorem dX6_work_251 : decode cX6_work 251 = .ok (.aload_n 0, 1) := by decide +kernel
theorem dX6_work_252 : decode cX6_work 252 = .ok (.iload_n 2, 1) := by decide +kernel
theorem dX6_work_253 : decode cX6_work 253 = .ok (.iconst 1, 1) := by decide +kernel
theorem dX6_work_254 : decode cX6_work 254 = .ok (.iload_n 3, 1) := by decide +kernel
theorem dX6_work_255 : decode cX6_work 255 = .ok (.iload 4, 2) := by decide +kernel
theorem dX6_work_257 : decode cX6_work 257 = .ok (.invokevirtual 37, 3) := by decide +kernel
theorem dX6_work_260 : decode cX6_work 260 = .ok (.aload_n 0, 1) := by decide +kernel
theorem dX6_work_261 : decode cX6_work 261 = .ok (.getfield 30, 3) := by decide +kernel
theorem dX6_work_264 : decode cX6_work 264 = .ok (.iadd, 1) := by decide +kernel
theorem dX6_work_265 : decode cX6_work 265 = .ok (.ireturn, 1) := by decide +kernel
theorem dX6_work_266 : decode cX6_work 266 = .ok (.iconst 0, 1) := by decide +kernel
theorem dX6_work_267 : decode cX6_work 267 = .ok (.ireturn, 1) := by decide +kernel
theorem dX6_part_0 : decode cX6_part 0 = .ok (.aload_n 0, 1) := by decide +kernel
theorem dX6_part_1 : decode cX6_part 1 = .ok (.getfield 30, 3) := by decide +kernel
theorem dX6_part_4 : decode cX6_part 4 = .ok (.aload_n 0, 1) := by decide +kernel
theorem dX6_part_5 : decode cX6_part 5 = .ok (.getfield 27, 3) := by decide +kernel
theorem dX6_part_8 : decode cX6_part 8 = .ok (.isub, 1) := by decide +kernel
theorem dX6_part_9 : decode cX6_part 9 = .ok (.istore_n 2, 1) := by decide +kernel
theorem dX6_part_10 : decode cX6_part 10 = .ok (.iload_n 2, 1) := by decide +kernel
theorem dX6_part_11 : decode cX6_part 11 = .ok (.ifCond .ne 10, 3) := by decide +kernel
theorem dX6_part_14 : decode cX6_part 14 = .ok (.aload_n 0, 1) := by decide +kernel
theorem dX6_part_15 : decode cX6_part 15 = .ok (.iconst 1, 1) := by decide +kernel
theorem dX6_part_16 : decode cX6_part 16 = .ok (.putfield 33, 3) := by decide +kernel
theorem dX6_part_19 : decode cX6_part 19 = .ok (.iconst 0, 1) := by decide +kernel
theorem dX6_part_20 : decode cX6_part 20 = .ok (.ireturn, 1) := by decide +kernel
theorem dX6_part_21 : decode cX6_part 21 = .ok (.iload_n 1, 1) := by decide +kernel
theorem dX6_part_22 : decode cX6_part 22 = .ok (.iload_n 2, 1) := by decide +kernel
theorem dX6_part_23 : decode cX6_part 23 = .ok (.idiv, 1) := by decide +kernel
theorem dX6_part_24 : decode cX6_part 24 = .ok (.ireturn, 1) := by decide +kernel
theorem dX7_init_0 : decode cX7_init 0 = .ok (.aload_n 0, 1) := by decide +kernel
theorem dX7_init_1 : decode cX7_init 1 = .ok (.invokespecial 3, 3) := by decide +kernel
theorem dX7_init_4 : decode cX7_init 4 = .ok (.aload_n 0, 1) := by decide +kernel
theorem dX7_init_5 : decode cX7_init 5 = .ok (.bipush 60, 2) := by decide +kernel
theorem dX7_init_7 : decode cX7_init 7 = .ok (.newarray .int, 2) := by decide +kernel
theorem dX7_init_9 : decode cX7_init 9 = .ok (.putfield 9, 3) := by decide +kernel
theorem dX7_init_12 : decode cX7_init 12 = .ok (.return_, 1) := by decide +kernel
theorem dX7_value_0 : decode cX7_value 0 = .ok (.aload_n 0, 1) := by decide +kernel
theorem dX7_value_1 : decode cX7_value 1 = .ok (.iconst 0, 1) := by decide +kernel
theorem dX7_value_2 : decode cX7_value 2 = .ok (.putfield 15, 3) := by decide +kernel
theorem dX7_value_5 : decode cX7_value 5 = .ok (.iconst 0, 1) := by decide +kernel
theorem dX7_value_6 : decode cX7_value 6 = .ok (.istore 5, 2) := by decide +kernel
theorem dX7_value_8 : decode cX7_value 8 = .ok (.iload 5, 2) := by decide +kernel
theorem dX7_value_10 : decode cX7_value 10 = .ok (.aload_n 1, 1) := by decide +kernel
theorem dX7_value_11 : decode cX7_value 11 = .ok (.invokevirtual 19, 3) := by decide +kernel
theorem dX7_value_14 : decode cX7_value 14 = .ok (.if_icmp .ge 121, 3) := by decide +kernel
theorem dX7_value_17 : decode cX7_value 17 = .ok (.aload_n 1, 1) := by decide +kernel
theorem dX7_value_18 : decode cX7_value 18 = .ok (.iload 5, 2) := by decide +kernel
theorem dX7_value_20 : decode cX7_value 20 = .ok (.iconst 0, 1) := by decide +kernel
theorem dX7_value_21 : decode cX7_value 21 = .ok (.invokevirtual 25, 3) := by decide +kernel
theorem dX7_value_24 : decode cX7_value 24 = .ok (.istore 6, 2) := by decide +kernel
theorem dX7_value_26 : decode cX7_value 26 = .ok (.iload 6, 2) := by decide +kernel
theorem dX7_value_28 : decode cX7_value 28 = .ok (.ifCond .lt 12, 3) := by decide +kernel
theorem dX7_value_31 : decode cX7_value 31 = .ok (.aload_n 0, 1) := by decide +kernel
theorem dX7_value_32 : decode cX7_value 32 = .ok (.iload 6, 2) := by decide +kernel
theorem dX7_value_34 : decode cX7_value 34 = .ok (.invokevirtual 29, 3) := by decide +kernel
theorem dX7_value_37 : decode cX7_value 37 = .ok (.goto 92, 3) := by decide +kernel
theorem dX7_value_40 : decode cX7_value 40 = .ok (.iload 6, 2) := by decide +kernel
theorem dX7_value_42 : decode cX7_value 42 = .ok (.bipush (-3), 2) := by decide +kernel
theorem dX7_value_44 : decode cX7_value 44 = .ok (.if_icmp .lt 33, 3) := by decide +kernel
theorem dX7_value_47 : decode cX7_value 47 = .ok (.aload_n 0, 1) := by decide +kernel
theorem dX7_value_48 : decode cX7_value 48 = .ok (.iload 6, 2) := by decide +kernel
theorem dX7_value_50 : decode cX7_value 50 = .ok (.iconst (-1), 1) := by decide +kernel
theorem dX7_value_51 : decode cX7_value 51 = .ok (.if_icmp .ne 7, 3) := by decide +kernel
theorem dX7_value_54 : decode cX7_value 54 = .ok (.iload_n 2, 1) := by decide +kernel
theorem dX7_value_55 : decode cX7_value 55 = .ok (.goto 16, 3) := by decide +kernel
theorem dX7_value_58 : decode cX7_value 58 = .ok (.iload 6, 2) := by decide +kernel
theorem dX7_value_60 : decode cX7_value 60 = .ok (.bipush (-2), 2) := by decide +kernel
theorem dX7_value_62 : decode cX7_value 62 = .ok (.if_icmp .ne 7, 3) := by decide +kernel
theorem dX7_value_65 : decode cX7_value 65 = .ok (.iload_n 3, 1) := by decide +kernel
theorem dX7_value_66 : decode cX7_value 66 = .ok (.goto 5, 3) := by decide +kernel
theorem dX7_value_69 : decode cX7_value 69 = .ok (.iload 4, 2) := by decide +kernel
theorem dX7_value_71 : decode cX7_value 71 = .ok (.invokevirtual 29, 3) := by decide +kernel
theorem dX7_value_74 : decode cX7_value 74 = .ok (.goto 55, 3) := by decide +kernel
theorem dX7_value_77 : decode cX7_value 77 = .ok (.iload 6, 2) := by decide +kernel
theorem dX7_value_79 : decode cX7_value 79 = .ok (.bipush (-33), 2) := by decide +kernel
theorem dX7_value_81 : decode cX7_value 81 = .ok (.if_icmp .ne 22, 3) := by decide +kernel
theorem dX7_value_84 : decode cX7_value 84 = .ok (.aload_n 0, 1) := by decide +kernel
theorem dX7_value_85 : decode cX7_value 85 = .ok (.aload_n 0, 1) := by decide +kernel
theorem dX7_value_86 : decode cX7_value 86 = .ok (.invokevirtual 33, 3) := by decide +kernel
theorem dX7_value_89 : decode cX7_value 89 = .ok (.ifCond .ne 7, 3) := by decide +kernel
theorem dX7_value_92 : decode cX7_value 92 = .ok (.iconst 1, 1) := by decide +kernel
theorem dX7_value_93 : decode cX7_value 93 = .ok (.goto 4, 3) := by decide +kernel
theorem dX7_value_96 : decode cX7_value 96 = .ok (.iconst 0, 1) := by decide +kernel
theorem dX7_value_97 : decode cX7_value 97 = .ok (.invokevirtual 29, 3) := by decide +kernel
theorem dX7_value_100 : decode cX7_value 100 = .ok (.goto 29, 3) := by decide +kernel
theorem dX7_value_103 : decode cX7_value 103 = .ok (.aload_n 0, 1) := by decide +kernel
theorem dX7_value_104 : decode cX7_value 104 = .ok (.invokevirtual 33, 3) := by decide +kernel
theorem dX7_value_107 : decode cX7_value 107 = .ok (.istore 7, 2) := by decide +kernel
theorem dX7_value_109 : decode cX7_value 109 = .ok (.aload_n 0, 1) := by decide +kernel
theorem dX7_value_110 : decode cX7_value 110 = .ok (.invokevirtual 33, 3) := by decide +kernel
theorem dX7_value_113 : decode cX7_value 113 = .ok (.istore 8, 2) := by decide +kernel
theorem dX7_value_115 : decode cX7_value 115 = .ok (.aload_n 0, 1) := by decide +kernel
theorem dX7_value_116 : decode cX7_value 116 = .ok (.iload 6, 2) := by decide +kernel
theorem dX7_value_118 : decode cX7_value 118 = .ok (.ineg, 1) := by decide +kernel
theorem dX7_value_119 : decode cX7_value 119 = .ok (.iload 8, 2) := by decide +kernel
theorem dX7_value_121 : decode cX7_value 121 = .ok (.iload 7, 2) := by decide +kernel
theorem dX7_value_123 : decode cX7_value 123 = .ok (.invokestatic 36, 3) := by decide +kernel
theorem dX7_value_126 : decode cX7_value 126 = .ok (.invokevirtual 29, 3) := by decide +kernel
theorem dX7_value_129 : decode cX7_value 129 = .ok (.iinc 5 1, 3) := by decide +kernel
theorem dX7_value_132 : decode cX7_value 132 = .ok (.goto (-124), 3) := by decide +kernel
theorem dX7_value_135 : decode cX7_value 135 = .ok (.aload_n 0, 1) := by decide +kernel
theorem dX7_value_136 : decode cX7_value 136 = .ok (.invokevirtual 33, 3) := by decide +kernel
theorem dX7_value_139 : decode cX7_value 139 = .ok (.ireturn, 1) := by decide +kernel
theorem dX7_push_0 : decode cX7_push 0 = .ok (.aload_n 0, 1) := by decide +kernel
theorem dX7_push_1 : decode cX7_push 1 = .ok (.getfield 15, 3) := by decide +kernel
theorem dX7_push_4 : decode cX7_push 4 = .ok (.ifCond .lt 35, 3) := by decide +kernel
theorem dX7_push_7 : decode cX7_push 7 = .ok (.aload_n 0, 1) := by decide +kernel
theorem dX7_push_8 : decode cX7_push 8 = .ok (.getfield 15, 3) := by decide +kernel
theorem dX7_push_11 : decode cX7_push 11 = .ok (.aload_n 0, 1) := by decide +kernel
theorem dX7_push_12 : decode cX7_push 12 = .ok (.getfield 9, 3) := by decide +kernel
theorem dX7_push_15 : decode cX7_push 15 = .ok (.arraylength, 1) := by decide +kernel
theorem dX7_push_16 : decode cX7_push 16 = .ok (.if_icmp .ge 23, 3) := by decide +kernel
theorem dX7_push_19 : decode cX7_push 19 = .ok (.aload_n 0, 1) := by decide +kernel
theorem dX7_push_20 : decode cX7_push 20 = .ok (.getfield 9, 3) := by decide +kernel
theorem dX7_push_23 : decode cX7_push 23 = .ok (.aload_n 0, 1) := by decide +kernel
theorem dX7_push_24 : decode cX7_push 24 = .ok (.getfield 15, 3) := by decide +kernel
theorem dX7_push_27 : decode cX7_push 27 = .ok (.iload_n 1, 1) := by decide +kernel
theorem dX7_push_28 : decode cX7_push 28 = .ok (.iastore, 1) := by decide +kernel
theorem dX7_push_29 : decode cX7_push 29 = .ok (.aload_n 0, 1) := by decide +kernel
theorem dX7_push_30 : decode cX7_push 30 = .ok (.dup, 1) := by decide +kernel
theorem dX7_push_31 : decode cX7_push 31 = .ok (.getfield 15, 3) := by decide +kernel
theorem dX7_push_34 : decode cX7_push 34 = .ok (.iconst 1, 1) := by decide +kernel
theorem dX7_push_35 : decode cX7_push 35 = .ok (.iadd, 1) := by decide +kernel
theorem dX7_push_36 : decode cX7_push 36 = .ok (.putfield 15, 3) := by decide +kernel
theorem dX7_push_39 : decode cX7_push 39 = .ok (.return_, 1) := by decide +kernel
theorem dX7_pop_0 : decode cX7_pop 0 = .ok (.aload_n 0, 1) := by decide +kernel
theorem dX7_pop_1 : decode cX7_pop 1 = .ok (.getfield 15, 3) := by decide +kernel
theorem dX7_pop_4 : decode cX7_pop 4 = .ok (.iconst 1, 1) := by decide +kernel
theorem dX7_pop_5 : decode cX7_pop 5 = .ok (.if_icmp .lt 15, 3) := by decide +kernel
theorem dX7_pop_8 : decode cX7_pop 8 = .ok (.aload_n 0, 1) := by decide +kernel
theorem dX7_pop_9 : decode cX7_pop 9 = .ok (.getfield 15, 3) := by decide +kernel
theorem dX7_pop_12 : decode cX7_pop 12 = .ok (.aload_n 0, 1) := by decide +kernel
theorem dX7_pop_13 : decode cX7_pop 13 = .ok (.getfield 9, 3) := by decide +kernel
theorem dX7_pop_16 : decode cX7_pop 16 = .ok (.arraylength, 1) := by decide +kernel
theorem dX7_pop_17 : decode cX7_pop 17 = .ok (.if_icmp .le 5, 3) := by decide +kernel
theorem dX7_pop_20 : decode cX7_pop 20 = .ok (.iconst 0, 1) := by decide +kernel
theorem dX7_pop_21 : decode cX7_pop 21 = .ok (.ireturn, 1) := by decide +kernel
theorem dX7_pop_22 : decode cX7_pop 22 = .ok (.aload_n 0, 1) := by decide +kernel
theorem dX7_pop_23 : decode cX7_pop 23 = .ok (.dup, 1) := by decide +kernel
theorem dX7_pop_24 : decode cX7_pop 24 = .ok (.getfield 15, 3) := by decide +kernel
theorem dX7_pop_27 : decode cX7_pop 27 = .ok (.iconst 1, 1) := by decide +kernel
theorem dX7_pop_28 : decode cX7_pop 28 = .ok (.isub, 1) := by decide +kernel
theorem dX7_pop_29 : decode cX7_pop 29 = .ok (.putfield 15, 3) := by decide +kernel
theorem dX7_pop_32 : decode cX7_pop 32 = .ok (.aload_n 0, 1) := by decide +kernel
theorem dX7_pop_33 : decode cX7_pop 33 = .ok (.getfield 9, 3) := by decide +kernel
theorem dX7_pop_36 : decode cX7_pop 36 = .ok (.aload_n 0, 1) := by decide +kernel
theorem dX7_pop_37 : decode cX7_pop 37 = .ok (.getfield 15, 3) := by decide +kernel
theorem dX7_pop_40 : decode cX7_pop 40 = .ok (.iaload, 1) := by decide +kernel
theorem dX7_pop_41 : decode cX7_pop 41 = .ok (.ireturn, 1) := by decide +kernel
theorem dX7_joined_0 : decode cX7_joined 0 = .ok (.iload_n 0, 1) := by decide +kernel
theorem dX7_joined_1 : decode cX7_joined 1 = .ok (.lookupswitch 168 #[(38, 97), (42, 152), (43, 144), (45, 148), (47, 156), (60, 111), (61, 122), (62, 133), (124, 83)], 83) := by decide +kernel
theorem dX7_joined_84 : decode cX7_joined 84 = .ok (.iload_n 1, 1) := by decide +kernel
theorem dX7_joined_85 : decode cX7_joined 85 = .ok (.ifCond .ne 7, 3) := by decide +kernel
theorem dX7_joined_88 : decode cX7_joined 88 = .ok (.iload_n 2, 1) := by decide +kernel
theorem dX7_joined_89 : decode cX7_joined 89 = .ok (.ifCond .eq 7, 3) := by decide +kernel
theorem dX7_joined_92 : decode cX7_joined 92 = .ok (.iconst 1, 1) := by decide +kernel
theorem dX7_joined_93 : decode cX7_joined 93 = .ok (.goto 4, 3) := by decide +kernel
theorem dX7_joined_96 : decode cX7_joined 96 = .ok (.iconst 0, 1) := by decide +kernel
theorem dX7_joined_97 : decode cX7_joined 97 = .ok (.ireturn, 1) := by decide +kernel
theorem dX7_joined_98 : decode cX7_joined 98 = .ok (.iload_n 1, 1) := by decide +kernel
theorem dX7_joined_99 : decode cX7_joined 99 = .ok (.ifCond .eq 11, 3) := by decide +kernel
theorem dX7_joined_102 : decode cX7_joined 102 = .ok (.iload_n 2, 1) := by decide +kernel
theorem dX7_joined_103 : decode cX7_joined 103 = .ok (.ifCond .eq 7, 3) := by decide +kernel
theorem dX7_joined_106 : decode cX7_joined 106 = .ok (.iconst 1, 1) := by decide +kernel
theorem dX7_joined_107 : decode cX7_joined 107 = .ok (.goto 4, 3) := by decide +kernel
theorem dX7_joined_110 : decode cX7_joined 110 = .ok (.iconst 0, 1) := by decide +kernel
theorem dX7_joined_111 : decode cX7_joined 111 = .ok (.ireturn, 1) := by decide +kernel
theorem dX7_joined_112 : decode cX7_joined 112 = .ok (.iload_n 1, 1) := by decide +kernel
theorem dX7_joined_113 : decode cX7_joined 113 = .ok (.iload_n 2, 1) := by decide +kernel
theorem dX7_joined_114 : decode cX7_joined 114 = .ok (.if_icmp .ge 7, 3) := by decide +kernel
theorem dX7_joined_117 : decode cX7_joined 117 = .ok (.iconst 1, 1) := by decide +kernel
theorem dX7_joined_118 : decode cX7_joined 118 = .ok (.goto 4, 3) := by decide +kernel
theorem dX7_joined_121 : decode cX7_joined 121 = .ok (.iconst 0, 1) := by decide +kernel
theorem dX7_joined_122 : decode cX7_joined 122 = .ok (.ireturn, 1) := by decide +kernel
theorem dX7_joined_123 : decode cX7_joined 123 = .ok (.iload_n 1, 1) := by decide +kernel
theorem dX7_joined_124 : decode cX7_joined 124 = .ok (.iload_n 2, 1) := by decide +kernel
theorem dX7_joined_125 : decode cX7_joined 125 = .ok (.if_icmp .ne 7, 3) := by decide +kernel
theorem dX7_joined_128 : decode cX7_joined 128 = .ok (.iconst 1, 1) := by decide +kernel
theorem dX7_joined_129 : decode cX7_joined 129 = .ok (.goto 4, 3) := by decide +kernel
theorem dX7_joined_132 : decode cX7_joined 132 = .ok (.iconst 0, 1) := by decide +kernel
theorem dX7_joined_133 : decode cX7_joined 133 = .ok (.ireturn, 1) := by decide +kernel
theorem dX7_joined_134 : decode cX7_joined 134 = .ok (.iload_n 1, 1) := by decide +kernel
theorem dX7_joined_135 : decode cX7_joined 135 = .ok (.iload_n 2, 1) := by decide +kernel
theorem dX7_joined_136 : decode cX7_joined 136 = .ok (.if_icmp .le 7, 3) := by decide +kernel
theorem dX7_joined_139 : decode cX7_joined 139 = .ok (.iconst 1, 1) := by decide +kernel
theorem dX7_joined_140 : decode cX7_joined 140 = .ok (.goto 4, 3) := by decide +kernel
theorem dX7_joined_143 : decode cX7_joined 143 = .ok (.iconst 0, 1) := by decide +kernel
theorem dX7_joined_144 : decode cX7_joined 144 = .ok (.ireturn, 1) := by decide +kernel
theorem dX7_joined_145 : decode cX7_joined 145 = .ok (.iload_n 1, 1) := by decide +kernel
theorem dX7_joined_146 : decode cX7_joined 146 = .ok (.iload_n 2, 1) := by decide +kernel
theorem dX7_joined_147 : decode cX7_joined 147 = .ok (.iadd, 1) := by decide +kernel
theorem dX7_joined_148 : decode cX7_joined 148 = .ok (.ireturn, 1) := by decide +kernel
theorem dX7_joined_149 : decode cX7_joined 149 = .ok (.iload_n 1, 1) := by decide +kernel
theorem dX7_joined_150 : decode cX7_joined 150 = .ok (.iload_n 2, 1) := by decide +kernel
theorem dX7_joined_151 : decode cX7_joined 151 = .ok (.isub, 1) := by decide +kernel
theorem dX7_joined_152 : decode cX7_joined 152 = .ok (.ireturn, 1) := by decide +kernel
theorem dX7_joined_153 : decode cX7_joined 153 = .ok (.iload_n 1, 1) := by decide +kernel
theorem dX7_joined_154 : decode cX7_joined 154 = .ok (.iload_n 2, 1) := by decide +kernel
theorem dX7_joined_155 : decode cX7_joined 155 = .ok (.imul, 1) := by decide +kernel
theorem dX7_joined_156 : decode cX7_joined 156 = .ok (.ireturn, 1) := by decide +kernel
theorem dX7_joined_157 : decode cX7_joined 157 = .ok (.iload_n 2, 1) := by decide +kernel
theorem dX7_joined_158 : decode cX7_joined 158 = .ok (.ifCond .ne 7, 3) := by decide +kernel
theorem dX7_joined_161 : decode cX7_joined 161 = .ok (.iconst 0, 1) := by decide +kernel
theorem dX7_joined_162 : decode cX7_joined 162 = .ok (.goto 6, 3) := by decide +kernel
theorem dX7_joined_165 : decode cX7_joined 165 = .ok (.iload_n 1, 1) := by decide +kernel
theorem dX7_joined_166 : decode cX7_joined 166 = .ok (.iload_n 2, 1) := by decide +kernel
theorem dX7_joined_167 : decode cX7_joined 167 = .ok (.idiv, 1) := by decide +kernel
theorem dX7_joined_168 : decode cX7_joined 168 = .ok (.ireturn, 1) := by decide +kernel
theorem dX7_joined_169 : decode cX7_joined 169 = .ok (.iload_n 2, 1) := by decide +kernel
theorem dX7_joined_170 : decode cX7_joined 170 = .ok (.ifCond .ne 7, 3) := by decide +kernel
theorem dX7_joined_173 : decode cX7_joined 173 = .ok (.iconst 0, 1) := by decide +kernel
theorem dX7_joined_174 : decode cX7_joined 174 = .ok (.goto 6, 3) := by decide +kernel
theorem dX7_joined_177 : decode cX7_joined 177 = .ok (.iload_n 1, 1) := by decide +kernel
theorem dX7_joined_178 : decode cX7_joined 178 = .ok (.iload_n 2, 1) := by decide +kernel
theorem dX7_joined_179 : decode cX7_joined 179 = .ok (.irem, 1) := by decide +kernel
theorem dX7_joined_180 : decode cX7_joined 180 = .ok (.ireturn, 1) := by decide +kernel
theorem dX8_init_0 : decode cX8_init 0 = .ok (.aload_n 0, 1) := by decide +kernel
theorem dX8_init_1 : decode cX8_init 1 = .ok (.invokespecial 3, 3) := by decide +kernel
theorem dX8_init_4 : decode cX8_init 4 = .ok (.aload_n 0, 1) := by decide +kernel
theorem dX8_init_5 : decode cX8_init 5 = .ok (.new 9, 3) := by decide +kernel
theorem dX8_init_8 : decode cX8_init 8 = .ok (.dup, 1) := by decide +kernel
theorem dX8_init_9 : decode cX8_init 9 = .ok (.invokespecial 11, 3) := by decide +kernel
theorem dX8_init_12 : decode cX8_init 12 = .ok (.putfield 12, 3) := by decide +kernel
theorem dX8_init_15 : decode cX8_init 15 = .ok (.aload_n 0, 1) := by decide +kernel
theorem dX8_init_16 : decode cX8_init 16 = .ok (.new 9, 3) := by decide +kernel
theorem dX8_init_19 : decode cX8_init 19 = .ok (.dup, 1) := by decide +kernel
theorem dX8_init_20 : decode cX8_init 20 = .ok (.invokespecial 11, 3) := by decide +kernel
theorem dX8_init_23 : decode cX8_init 23 = .ok (.putfield 16, 3) := by decide +kernel
theorem dX8_init_26 : decode cX8_init 26 = .ok (.aload_n 0, 1) := by decide +kernel
theorem dX8_init_27 : decode cX8_init 27 = .ok (.new 19, 3) := by decide +kernel
theorem dX8_init_30 : decode cX8_init 30 = .ok (.dup, 1) := by decide +kernel
theorem dX8_init_31 : decode cX8_init 31 = .ok (.invokespecial 21, 3) := by decide +kernel
theorem dX8_init_34 : decode cX8_init 34 = .ok (.putfield 22, 3) := by decide +kernel
theorem dX8_init_37 : decode cX8_init 37 = .ok (.aload_n 0, 1) := by decide +kernel
theorem dX8_init_38 : decode cX8_init 38 = .ok (.new 26, 3) := by decide +kernel
theorem dX8_init_41 : decode cX8_init 41 = .ok (.dup, 1) := by decide +kernel
theorem dX8_init_42 : decode cX8_init 42 = .ok (.invokespecial 28, 3) := by decide +kernel
theorem dX8_init_45 : decode cX8_init 45 = .ok (.putfield 29, 3) := by decide +kernel
theorem dX8_init_48 : decode cX8_init 48 = .ok (.aload_n 0, 1) := by decide +kernel
theorem dX8_init_49 : decode cX8_init 49 = .ok (.new 33, 3) := by decide +kernel
theorem dX8_init_52 : decode cX8_init 52 = .ok (.dup, 1) := by decide +kernel
theorem dX8_init_53 : decode cX8_init 53 = .ok (.invokespecial 35, 3) := by decide +kernel
theorem dX8_init_56 : decode cX8_init 56 = .ok (.putfield 36, 3) := by decide +kernel
theorem dX8_init_59 : decode cX8_init 59 = .ok (.aload_n 0, 1) := by decide +kernel
theorem dX8_init_60 : decode cX8_init 60 = .ok (.new 40, 3) := by decide +kernel
theorem dX8_init_63 : decode cX8_init 63 = .ok (.dup, 1) := by decide +kernel
theorem dX8_init_64 : decode cX8_init 64 = .ok (.invokespecial 42, 3) := by decide +kernel
theorem dX8_init_67 : decode cX8_init 67 = .ok (.putfield 43, 3) := by decide +kernel
theorem dX8_init_70 : decode cX8_init 70 = .ok (.aload_n 0, 1) := by decide +kernel
theorem dX8_init_71 : decode cX8_init 71 = .ok (.iconst 4, 1) := by decide +kernel
theorem dX8_init_72 : decode cX8_init 72 = .ok (.anewarray 47, 3) := by decide +kernel
theorem dX8_init_75 : decode cX8_init 75 = .ok (.putfield 49, 3) := by decide +kernel
theorem dX8_init_78 : decode cX8_init 78 = .ok (.aload_n 0, 1) := by decide +kernel
theorem dX8_init_79 : decode cX8_init 79 = .ok (.bipush 7, 2) := by decide +kernel
theorem dX8_init_81 : decode cX8_init 81 = .ok (.newarray .int, 2) := by decide +kernel
theorem dX8_init_83 : decode cX8_init 83 = .ok (.putfield 53, 3) := by decide +kernel
theorem dX8_init_86 : decode cX8_init 86 = .ok (.iconst 0, 1) := by decide +kernel
theorem dX8_init_87 : decode cX8_init 87 = .ok (.istore_n 1, 1) := by decide +kernel
theorem dX8_init_88 : decode cX8_init 88 = .ok (.iload_n 1, 1) := by decide +kernel
theorem dX8_init_89 : decode cX8_init 89 = .ok (.aload_n 0, 1) := by decide +kernel
theorem dX8_init_90 : decode cX8_init 90 = .ok (.getfield 49, 3) := by decide +kernel
theorem dX8_init_93 : decode cX8_init 93 = .ok (.arraylength, 1) := by decide +kernel
theorem dX8_init_94 : decode cX8_init 94 = .ok (.if_icmp .ge 22, 3) := by decide +kernel
theorem dX8_init_97 : decode cX8_init 97 = .ok (.aload_n 0, 1) := by decide +kernel
theorem dX8_init_98 : decode cX8_init 98 = .ok (.getfield 49, 3) := by decide +kernel
theorem dX8_init_101 : decode cX8_init 101 = .ok (.iload_n 1, 1) := by decide +kernel
theorem dX8_init_102 : decode cX8_init 102 = .ok (.new 47, 3) := by decide +kernel
theorem dX8_init_105 : decode cX8_init 105 = .ok (.dup, 1) := by decide +kernel
theorem dX8_init_106 : decode cX8_init 106 = .ok (.invokespecial 57, 3) := by decide +kernel
theorem dX8_init_109 : decode cX8_init 109 = .ok (.aastore, 1) := by decide +kernel
theorem dX8_init_110 : decode cX8_init 110 = .ok (.iinc 1 1, 3) := by decide +kernel
theorem dX8_init_113 : decode cX8_init 113 = .ok (.goto (-25), 3) := by decide +kernel
theorem dX8_init_116 : decode cX8_init 116 = .ok (.return_, 1) := by decide +kernel
theorem dX8_thing_0 : decode cX8_thing 0 = .ok (.iload_n 1, 1) := by decide +kernel
theorem dX8_thing_1 : decode cX8_thing 1 = .ok (.invokestatic 58, 3) := by decide +kernel
theorem dX8_thing_4 : decode cX8_thing 4 = .ok (.ifCond .eq 13, 3) := by decide +kernel
theorem dX8_thing_7 : decode cX8_thing 7 = .ok (.iload_n 2, 1) := by decide +kernel
theorem dX8_thing_8 : decode cX8_thing 8 = .ok (.iconst 0, 1) := by decide +kernel
theorem dX8_thing_9 : decode cX8_thing 9 = .ok (.ldc 62, 2) := by decide +kernel
theorem dX8_thing_11 : decode cX8_thing 11 = .ok (.invokestatic 63, 3) := by decide +kernel
theorem dX8_thing_14 : decode cX8_thing 14 = .ok (.ifCond .ne 9, 3) := by decide +kernel
theorem dX8_thing_17 : decode cX8_thing 17 = .ok (.aload_n 0, 1) := by decide +kernel
theorem dX8_thing_18 : decode cX8_thing 18 = .ok (.iconst 1, 1) := by decide +kernel
theorem dX8_thing_19 : decode cX8_thing 19 = .ok (.invokevirtual 67, 3) := by decide +kernel
theorem dX8_thing_22 : decode cX8_thing 22 = .ok (.ireturn, 1) := by decide +kernel
theorem dX8_thing_23 : decode cX8_thing 23 = .ok (.aload_n 0, 1) := by decide +kernel
theorem dX8_thing_24 : decode cX8_thing 24 = .ok (.getfield 12, 3) := by decide +kernel
theorem dX8_thing_27 : decode cX8_thing 27 = .ok (.getfield 71, 3) := by decide +kernel
theorem dX8_thing_30 : decode cX8_thing 30 = .ok (.invokevirtual 74, 3) := by decide +kernel
theorem dX8_thing_33 : decode cX8_thing 33 = .ok (.iconst 1, 1) := by decide +kernel
theorem dX8_thing_34 : decode cX8_thing 34 = .ok (.if_icmp .ge 9, 3) := by decide +kernel
theorem dX8_thing_37 : decode cX8_thing 37 = .ok (.aload_n 0, 1) := by decide +kernel
theorem dX8_thing_38 : decode cX8_thing 38 = .ok (.iconst 4, 1) := by decide +kernel
theorem dX8_thing_39 : decode cX8_thing 39 = .ok (.invokevirtual 67, 3) := by decide +kernel
theorem dX8_thing_42 : decode cX8_thing 42 = .ok (.ireturn, 1) := by decide +kernel
theorem dX8_thing_43 : decode cX8_thing 43 = .ok (.aload_n 0, 1) := by decide +kernel
theorem dX8_thing_44 : decode cX8_thing 44 = .ok (.getfield 12, 3) := by decide +kernel
theorem dX8_thing_47 : decode cX8_thing 47 = .ok (.getfield 71, 3) := by decide +kernel
theorem dX8_thing_50 : decode cX8_thing 50 = .ok (.iload_n 1, 1) := by decide +kernel
theorem dX8_thing_51 : decode cX8_thing 51 = .ok (.iload_n 2, 1) := by decide +kernel
theorem dX8_thing_52 : decode cX8_thing 52 = .ok (.invokevirtual 78, 3) := by decide +kernel
theorem dX8_thing_55 : decode cX8_thing 55 = .ok (.ireturn, 1) := by decide +kernel
theorem dX8_thingIs_0 : decode cX8_thingIs 0 = .ok (.aload_n 0, 1) := by decide +kernel
theorem dX8_thingIs_1 : decode cX8_thingIs 1 = .ok (.getfield 12, 3) := by decide +kernel
theorem dX8_thingIs_4 : decode cX8_thingIs 4 = .ok (.getfield 71, 3) := by decide +kernel
theorem dX8_thingIs_7 : decode cX8_thingIs 7 = .ok (.iload_n 1, 1) := by decide +kernel
theorem dX8_thingIs_8 : decode cX8_thingIs 8 = .ok (.invokevirtual 82, 3) := by decide +kernel
theorem dX8_thingIs_11 : decode cX8_thingIs 11 = .ok (.ifCond .eq 13, 3) := by decide +kernel
theorem dX8_thingIs_14 : decode cX8_thingIs 14 = .ok (.iload_n 2, 1) := by decide +kernel
theorem dX8_thingIs_15 : decode cX8_thingIs 15 = .ok (.iconst 0, 1) := by decide +kernel
theorem dX8_thingIs_16 : decode cX8_thingIs 16 = .ok (.bipush 10, 2) := by decide +kernel
theorem dX8_thingIs_18 : decode cX8_thingIs 18 = .ok (.invokestatic 63, 3) := by decide +kernel
theorem dX8_thingIs_21 : decode cX8_thingIs 21 = .ok (.ifCond .ne 9, 3) := by decide +kernel
theorem dX8_thingIs_24 : decode cX8_thingIs 24 = .ok (.aload_n 0, 1) := by decide +kernel
theorem dX8_thingIs_25 : decode cX8_thingIs 25 = .ok (.iconst 1, 1) := by decide +kernel
theorem dX8_thingIs_26 : decode cX8_thingIs 26 = .ok (.invokevirtual 67, 3) := by decide +kernel
theorem dX8_thingIs_29 : decode cX8_thingIs 29 = .ok (.ireturn, 1) := by decide +kernel
theorem dX8_thingIs_30 : decode cX8_thingIs 30 = .ok (.aload_n 0, 1) := by decide +kernel
theorem dX8_thingIs_31 : decode cX8_thingIs 31 = .ok (.getfield 12, 3) := by decide +kernel
theorem dX8_thingIs_34 : decode cX8_thingIs 34 = .ok (.aload_n 0, 1) := by decide +kernel
theorem dX8_thingIs_35 : decode cX8_thingIs 35 = .ok (.getfield 12, 3) := by decide +kernel
theorem dX8_thingIs_38 : decode cX8_thingIs 38 = .ok (.getfield 71, 3) := by decide +kernel
theorem dX8_thingIs_41 : decode cX8_thingIs 41 = .ok (.iload_n 1, 1) := by decide +kernel
theorem dX8_thingIs_42 : decode cX8_thingIs 42 = .ok (.iload_n 2, 1) := by decide +kernel
theorem dX8_thingIs_43 : decode cX8_thingIs 43 = .ok (.invokevirtual 85, 3) := by decide +kernel
theorem dX8_thingIs_46 : decode cX8_thingIs 46 = .ok (.ireturn, 1) := by decide +kernel
theorem dX8_as_0 : decode cX8_as 0 = .ok (.aload_n 0, 1) := by decide +kernel
theorem dX8_as_1 : decode cX8_as 1 = .ok (.getfield 12, 3) := by decide +kernel
theorem dX8_as_4 : decode cX8_as 4 = .ok (.getfield 71, 3) := by decide +kernel
theorem dX8_as_7 : decode cX8_as 7 = .ok (.iload_n 1, 1) := by decide +kernel
theorem dX8_as_8 : decode cX8_as 8 = .ok (.invokevirtual 82, 3) := by decide +kernel
theorem dX8_as_11 : decode cX8_as 11 = .ok (.ifCond .eq 13, 3) := by decide +kernel
theorem dX8_as_14 : decode cX8_as 14 = .ok (.iload_n 2, 1) := by decide +kernel
theorem dX8_as_15 : decode cX8_as 15 = .ok (.iconst 0, 1) := by decide +kernel
theorem dX8_as_16 : decode cX8_as 16 = .ok (.bipush 6, 2) := by decide +kernel
theorem dX8_as_18 : decode cX8_as 18 = .ok (.invokestatic 63, 3) := by decide +kernel
theorem dX8_as_21 : decode cX8_as 21 = .ok (.ifCond .ne 9, 3) := by decide +kernel
theorem dX8_as_24 : decode cX8_as 24 = .ok (.aload_n 0, 1) := by decide +kernel
theorem dX8_as_25 : decode cX8_as 25 = .ok (.iconst 1, 1) := by decide +kernel
theorem dX8_as_26 : decode cX8_as 26 = .ok (.invokevirtual 67, 3) := by decide +kernel
theorem dX8_as_29 : decode cX8_as 29 = .ok (.ireturn, 1) := by decide +kernel
theorem dX8_as_30 : decode cX8_as 30 = .ok (.aload_n 0, 1) := by decide +kernel
theorem dX8_as_31 : decode cX8_as 31 = .ok (.getfield 12, 3) := by decide +kernel
theorem dX8_as_34 : decode cX8_as 34 = .ok (.getfield 71, 3) := by decide +kernel
theorem dX8_as_37 : decode cX8_as 37 = .ok (.iload_n 1, 1) := by decide +kernel
theorem dX8_as_38 : decode cX8_as 38 = .ok (.iconst 0, 1) := by decide +kernel
theorem dX8_as_39 : decode cX8_as 39 = .ok (.invokevirtual 89, 3) := by decide +kernel
theorem dX8_as_42 : decode cX8_as 42 = .ok (.iload_n 2, 1) := by decide +kernel
theorem dX8_as_43 : decode cX8_as 43 = .ok (.invokestatic 92, 3) := by decide +kernel
theorem dX8_as_46 : decode cX8_as 46 = .ok (.ifCond .ne 9, 3) := by decide +kernel
theorem dX8_as_49 : decode cX8_as 49 = .ok (.aload_n 0, 1) := by decide +kernel
theorem dX8_as_50 : decode cX8_as 50 = .ok (.iconst 5, 1) := by decide +kernel
theorem dX8_as_51 : decode cX8_as 51 = .ok (.invokevirtual 67, 3) := by decide +kernel
theorem dX8_as_54 : decode cX8_as 54 = .ok (.ireturn, 1) := by decide +kernel
theorem dX8_as_55 : decode cX8_as 55 = .ok (.aload_n 0, 1) := by decide +kernel
theorem dX8_as_56 : decode cX8_as 56 = .ok (.getfield 12, 3) := by decide +kernel
theorem dX8_as_59 : decode cX8_as 59 = .ok (.getfield 71, 3) := by decide +kernel
theorem dX8_as_62 : decode cX8_as 62 = .ok (.iload_n 1, 1) := by decide +kernel
theorem dX8_as_63 : decode cX8_as 63 = .ok (.iconst 2, 1) := by decide +kernel
theorem dX8_as_64 : decode cX8_as 64 = .ok (.invokevirtual 89, 3) := by decide +kernel
theorem dX8_as_67 : decode cX8_as 67 = .ok (.ireturn, 1) := by decide +kernel
theorem dX8_set_0 : decode cX8_set 0 = .ok (.aload_n 0, 1) := by decide +kernel
theorem dX8_set_1 : decode cX8_set 1 = .ok (.getfield 12, 3) := by decide +kernel
theorem dX8_set_4 : decode cX8_set 4 = .ok (.getfield 71, 3) := by decide +kernel
theorem dX8_set_7 : decode cX8_set 7 = .ok (.iload_n 1, 1) := by decide +kernel
theorem dX8_set_8 : decode cX8_set 8 = .ok (.invokevirtual 82, 3) := by decide +kernel
theorem dX8_set_11 : decode cX8_set 11 = .ok (.ifCond .eq 23, 3) := by decide +kernel
theorem dX8_set_14 : decode cX8_set 14 = .ok (.iload_n 3, 1) := by decide +kernel
theorem dX8_set_15 : decode cX8_set 15 = .ok (.iconst 0, 1) := by decide +kernel
theorem dX8_set_16 : decode cX8_set 16 = .ok (.aload_n 0, 1) := by decide +kernel
theorem dX8_set_17 : decode cX8_set 17 = .ok (.getfield 12, 3) := by decide +kernel
theorem dX8_set_20 : decode cX8_set 20 = .ok (.getfield 71, 3) := by decide +kernel
theorem dX8_set_23 : decode cX8_set 23 = .ok (.iload_n 1, 1) := by decide +kernel
theorem dX8_set_24 : decode cX8_set 24 = .ok (.iload_n 2, 1) := by decide +kernel
theorem dX8_set_25 : decode cX8_set 25 = .ok (.invokevirtual 96, 3) := by decide +kernel
theorem dX8_set_28 : decode cX8_set 28 = .ok (.invokestatic 63, 3) := by decide +kernel
theorem dX8_set_31 : decode cX8_set 31 = .ok (.ifCond .ne 9, 3) := by decide +kernel
theorem dX8_set_34 : decode cX8_set 34 = .ok (.aload_n 0, 1) := by decide +kernel
theorem dX8_set_35 : decode cX8_set 35 = .ok (.iconst 1, 1) := by decide +kernel
theorem dX8_set_36 : decode cX8_set 36 = .ok (.invokevirtual 67, 3) := by decide +kernel
theorem dX8_set_39 : decode cX8_set 39 = .ok (.ireturn, 1) := by decide +kernel
theorem dX8_set_40 : decode cX8_set 40 = .ok (.aload_n 0, 1) := by decide +kernel
theorem dX8_set_41 : decode cX8_set 41 = .ok (.getfield 12, 3) := by decide +kernel
theorem dX8_set_44 : decode cX8_set 44 = .ok (.getfield 71, 3) := by decide +kernel
theorem dX8_set_47 : decode cX8_set 47 = .ok (.iload_n 1, 1) := by decide +kernel
theorem dX8_set_48 : decode cX8_set 48 = .ok (.iload_n 2, 1) := by decide +kernel
theorem dX8_set_49 : decode cX8_set 49 = .ok (.invokevirtual 89, 3) := by decide +kernel
theorem dX8_set_52 : decode cX8_set 52 = .ok (.istore 4, 2) := by decide +kernel
theorem dX8_set_54 : decode cX8_set 54 = .ok (.aload_n 0, 1) := by decide +kernel
theorem dX8_set_55 : decode cX8_set 55 = .ok (.getfield 12, 3) := by decide +kernel
theorem dX8_set_58 : decode cX8_set 58 = .ok (.getfield 71, 3) := by decide +kernel
theorem dX8_set_61 : decode cX8_set 61 = .ok (.iload_n 1, 1) := by decide +kernel
theorem dX8_set_62 : decode cX8_set 62 = .ok (.iload_n 2, 1) := by decide +kernel
theorem dX8_set_63 : decode cX8_set 63 = .ok (.iload_n 3, 1) := by decide +kernel
theorem dX8_set_64 : decode cX8_set 64 = .ok (.invokevirtual 99, 3) := by decide +kernel
theorem dX8_set_67 : decode cX8_set 67 = .ok (.iload 4, 2) := by decide +kernel
theorem dX8_set_69 : decode cX8_set 69 = .ok (.ireturn, 1) := by decide +kernel
theorem dX8_melt_0 : decode cX8_melt 0 = .ok (.aload_n 0, 1) := by decide +kernel
theorem dX8_melt_1 : decode cX8_melt 1 = .ok (.getfield 12, 3) := by decide +kernel
theorem dX8_melt_4 : decode cX8_melt 4 = .ok (.getfield 71, 3) := by decide +kernel
theorem dX8_melt_7 : decode cX8_melt 7 = .ok (.iload_n 1, 1) := by decide +kernel
theorem dX8_melt_8 : decode cX8_melt 8 = .ok (.invokevirtual 82, 3) := by decide +kernel
theorem dX8_melt_11 : decode cX8_melt 11 = .ok (.ifCond .eq 13, 3) := by decide +kernel
theorem dX8_melt_14 : decode cX8_melt 14 = .ok (.iload_n 2, 1) := by decide +kernel
theorem dX8_melt_15 : decode cX8_melt 15 = .ok (.iconst 1, 1) := by decide +kernel
theorem dX8_melt_16 : decode cX8_melt 16 = .ok (.bipush 8, 2) := by decide +kernel
theorem dX8_melt_18 : decode cX8_melt 18 = .ok (.invokestatic 63, 3) := by decide +kernel
theorem dX8_melt_21 : decode cX8_melt 21 = .ok (.ifCond .ne 9, 3) := by decide +kernel
theorem dX8_melt_24 : decode cX8_melt 24 = .ok (.aload_n 0, 1) := by decide +kernel
theorem dX8_melt_25 : decode cX8_melt 25 = .ok (.iconst 1, 1) := by decide +kernel
theorem dX8_melt_26 : decode cX8_melt 26 = .ok (.invokevirtual 67, 3) := by decide +kernel
theorem dX8_melt_29 : decode cX8_melt 29 = .ok (.ireturn, 1) := by decide +kernel
theorem dX8_melt_30 : decode cX8_melt 30 = .ok (.aload_n 0, 1) := by decide +kernel
theorem dX8_melt_31 : decode cX8_melt 31 = .ok (.getfield 12, 3) := by decide +kernel
theorem dX8_melt_34 : decode cX8_melt 34 = .ok (.getfield 71, 3) := by decide +kernel
theorem dX8_melt_37 : decode cX8_melt 37 = .ok (.iload_n 1, 1) := by decide +kernel
theorem dX8_melt_38 : decode cX8_melt 38 = .ok (.iconst 2, 1) := by decide +kernel
theorem dX8_melt_39 : decode cX8_melt 39 = .ok (.invokevirtual 89, 3) := by decide +kernel
theorem dX8_melt_42 : decode cX8_melt 42 = .ok (.ifCond .ne 9, 3) := by decide +kernel
theorem dX8_melt_45 : decode cX8_melt 45 = .ok (.aload_n 0, 1) := by decide +kernel
theorem dX8_melt_46 : decode cX8_melt 46 = .ok (.iconst 3, 1) := by decide +kernel
theorem dX8_melt_47 : decode cX8_melt 47 = .ok (.invokevirtual 67, 3) := by decide +kernel
theorem dX8_melt_50 : decode cX8_melt 50 = .ok (.ireturn, 1) := by decide +kernel
theorem dX8_melt_51 : decode cX8_melt 51 = .ok (.aload_n 0, 1) := by decide +kernel
theorem dX8_melt_52 : decode cX8_melt 52 = .ok (.getfield 12, 3) := by decide +kernel
theorem dX8_melt_55 : decode cX8_melt 55 = .ok (.getfield 71, 3) := by decide +kernel
theorem dX8_melt_58 : decode cX8_melt 58 = .ok (.iload_n 1, 1) := by decide +kernel
theorem dX8_melt_59 : decode cX8_melt 59 = .ok (.bipush 12, 2) := by decide +kernel
theorem dX8_melt_61 : decode cX8_melt 61 = .ok (.iload_n 2, 1) := by decide +kernel
theorem dX8_melt_62 : decode cX8_melt 62 = .ok (.invokevirtual 103, 3) := by decide +kernel
theorem dX8_melt_65 : decode cX8_melt 65 = .ok (.aload_n 0, 1) := by decide +kernel
theorem dX8_melt_66 : decode cX8_melt 66 = .ok (.getfield 12, 3) := by decide +kernel
theorem dX8_melt_69 : decode cX8_melt 69 = .ok (.getfield 71, 3) := by decide +kernel
theorem dX8_melt_72 : decode cX8_melt 72 = .ok (.bipush 12, 2) := by decide +kernel
theorem dX8_melt_74 : decode cX8_melt 74 = .ok (.iconst 2, 1) := by decide +kernel
theorem dX8_melt_75 : decode cX8_melt 75 = .ok (.invokevirtual 89, 3) := by decide +kernel
theorem dX8_melt_78 : decode cX8_melt 78 = .ok (.ireturn, 1) := by decide +kernel
theorem dX8_crucible_0 : decode cX8_crucible 0 = .ok (.iload_n 1, 1) := by decide +kernel
theorem dX8_crucible_1 : decode cX8_crucible 1 = .ok (.iconst 2, 1) := by decide +kernel
theorem dX8_crucible_2 : decode cX8_crucible 2 = .ok (.bipush 9, 2) := by decide +kernel
theorem dX8_crucible_4 : decode cX8_crucible 4 = .ok (.invokestatic 63, 3) := by decide +kernel
theorem dX8_crucible_7 : decode cX8_crucible 7 = .ok (.ifCond .ne 9, 3) := by decide +kernel
theorem dX8_crucible_10 : decode cX8_crucible 10 = .ok (.aload_n 0, 1) := by decide +kernel
theorem dX8_crucible_11 : decode cX8_crucible 11 = .ok (.iconst 1, 1) := by decide +kernel
theorem dX8_crucible_12 : decode cX8_crucible 12 = .ok (.invokevirtual 67, 3) := by decide +kernel
theorem dX8_crucible_15 : decode cX8_crucible 15 = .ok (.ireturn, 1) := by decide +kernel
theorem dX8_crucible_16 : decode cX8_crucible 16 = .ok (.aload_n 0, 1) := by decide +kernel
theorem dX8_crucible_17 : decode cX8_crucible 17 = .ok (.getfield 12, 3) := by decide +kernel
theorem dX8_crucible_20 : decode cX8_crucible 20 = .ok (.getfield 71, 3) := by decide +kernel
theorem dX8_crucible_23 : decode cX8_crucible 23 = .ok (.bipush 12, 2) := by decide +kernel
theorem dX8_crucible_25 : decode cX8_crucible 25 = .ok (.iload_n 1, 1) := by decide +kernel
theorem dX8_crucible_26 : decode cX8_crucible 26 = .ok (.invokevirtual 89, 3) := by decide +kernel
theorem dX8_crucible_29 : decode cX8_crucible 29 = .ok (.ireturn, 1) := by decide +kernel
theorem dX8_cast_0 : decode cX8_cast 0 = .ok (.iload_n 1, 1) := by decide +kernel
theorem dX8_cast_1 : decode cX8_cast 1 = .ok (.invokestatic 58, 3) := by decide +kernel
theorem dX8_cast_4 : decode cX8_cast 4 = .ok (.ifCond .eq 32, 3) := by decide +kernel
theorem dX8_cast_7 : decode cX8_cast 7 = .ok (.iload_n 2, 1) := by decide +kernel
theorem dX8_cast_8 : decode cX8_cast 8 = .ok (.iconst 0, 1) := by decide +kernel
theorem dX8_cast_9 : decode cX8_cast 9 = .ok (.sipush 9999, 3) := by decide +kernel
theorem dX8_cast_12 : decode cX8_cast 12 = .ok (.invokestatic 63, 3) := by decide +kernel
theorem dX8_cast_15 : decode cX8_cast 15 = .ok (.ifCond .eq 21, 3) := by decide +kernel
theorem dX8_cast_18 : decode cX8_cast 18 = .ok (.iload_n 3, 1) := by decide +kernel
theorem dX8_cast_19 : decode cX8_cast 19 = .ok (.iconst 0, 1) := by decide +kernel
theorem dX8_cast_20 : decode cX8_cast 20 = .ok (.sipush 990, 3) := by decide +kernel
theorem dX8_cast_23 : decode cX8_cast 23 = .ok (.invokestatic 63, 3) := by decide +kernel
theorem dX8_cast_26 : decode cX8_cast 26 = .ok (.ifCond .eq 10, 3) := by decide +kernel
theorem dX8_cast_29 : decode cX8_cast 29 = .ok (.iload_n 3, 1) := by decide +kernel
theorem dX8_cast_30 : decode cX8_cast 30 = .ok (.bipush 10, 2) := by decide +kernel
theorem dX8_cast_32 : decode cX8_cast 32 = .ok (.irem, 1) := by decide +kernel
theorem dX8_cast_33 : decode cX8_cast 33 = .ok (.ifCond .eq 9, 3) := by decide +kernel
theorem dX8_cast_36 : decode cX8_cast 36 = .ok (.aload_n 0, 1) := by decide +kernel
theorem dX8_cast_37 : decode cX8_cast 37 = .ok (.iconst 1, 1) := by decide +kernel
theorem dX8_cast_38 : decode cX8_cast 38 = .ok (.invokevirtual 67, 3) := by decide +kernel
theorem dX8_cast_41 : decode cX8_cast 41 = .ok (.ireturn, 1) := by decide +kernel
theorem dX8_cast_42 : decode cX8_cast 42 = .ok (.aload_n 0, 1) := by decide +kernel
theorem dX8_cast_43 : decode cX8_cast 43 = .ok (.getfield 12, 3) := by decide +kernel
theorem dX8_cast_46 : decode cX8_cast 46 = .ok (.getfield 71, 3) := by decide +kernel
theorem dX8_cast_49 : decode cX8_cast 49 = .ok (.bipush 12, 2) := by decide +kernel
theorem dX8_cast_51 : decode cX8_cast 51 = .ok (.iconst 2, 1) := by decide +kernel
theorem dX8_cast_52 : decode cX8_cast 52 = .ok (.invokevirtual 89, 3) := by decide +kernel
theorem dX8_cast_55 : decode cX8_cast 55 = .ok (.ifCond .ne 9, 3) := by decide +kernel
theorem dX8_cast_58 : decode cX8_cast 58 = .ok (.aload_n 0, 1) := by decide +kernel
theorem dX8_cast_59 : decode cX8_cast 59 = .ok (.iconst 3, 1) := by decide +kernel
theorem dX8_cast_60 : decode cX8_cast 60 = .ok (.invokevirtual 67, 3) := by decide +kernel
theorem dX8_cast_63 : decode cX8_cast 63 = .ok (.ireturn, 1) := by decide +kernel
theorem dX8_cast_64 : decode cX8_cast 64 = .ok (.iload_n 3, 1) := by decide +kernel
theorem dX8_cast_65 : decode cX8_cast 65 = .ok (.bipush 100, 2) := by decide +kernel
theorem dX8_cast_67 : decode cX8_cast 67 = .ok (.idiv, 1) := by decide +kernel
theorem dX8_cast_68 : decode cX8_cast 68 = .ok (.istore 4, 2) := by decide +kernel
theorem dX8_cast_70 : decode cX8_cast 70 = .ok (.iload_n 3, 1) := by decide +kernel
theorem dX8_cast_71 : decode cX8_cast 71 = .ok (.bipush 10, 2) := by decide +kernel
theorem dX8_cast_73 : decode cX8_cast 73 = .ok (.idiv, 1) := by decide +kernel
theorem dX8_cast_74 : decode cX8_cast 74 = .ok (.bipush 10, 2) := by decide +kernel
theorem dX8_cast_76 : decode cX8_cast 76 = .ok (.irem, 1) := by decide +kernel
theorem dX8_cast_77 : decode cX8_cast 77 = .ok (.istore 5, 2) := by decide +kernel
theorem dX8_cast_79 : decode cX8_cast 79 = .ok (.aload_n 0, 1) := by decide +kernel
theorem dX8_cast_80 : decode cX8_cast 80 = .ok (.getfield 12, 3) := by decide +kernel
theorem dX8_cast_83 : decode cX8_cast 83 = .ok (.getfield 71, 3) := by decide +kernel
theorem dX8_cast_86 : decode cX8_cast 86 = .ok (.invokevirtual 74, 3) := by decide +kernel
theorem dX8_cast_89 : decode cX8_cast 89 = .ok (.iload 5, 2) := by decide +kernel
theorem dX8_cast_91 : decode cX8_cast 91 = .ok (.ifCond .le 7, 3) := by decide +kernel
theorem dX8_cast_94 : decode cX8_cast 94 = .ok (.iconst 2, 1) := by decide +kernel
theorem dX8_cast_95 : decode cX8_cast 95 = .ok (.goto 4, 3) := by decide +kernel
theorem dX8_cast_98 : decode cX8_cast 98 = .ok (.iconst 1, 1) := by decide +kernel
theorem dX8_cast_99 : decode cX8_cast 99 = .ok (.if_icmp .ge 9, 3) := by decide +kernel
theorem dX8_cast_102 : decode cX8_cast 102 = .ok (.aload_n 0, 1) := by decide +kernel
theorem dX8_cast_103 : decode cX8_cast 103 = .ok (.iconst 4, 1) := by decide +kernel
theorem dX8_cast_104 : decode cX8_cast 104 = .ok (.invokevirtual 67, 3) := by decide +kernel
theorem dX8_cast_107 : decode cX8_cast 107 = .ok (.ireturn, 1) := by decide +kernel
theorem dX8_cast_108 : decode cX8_cast 108 = .ok (.aload_n 0, 1) := by decide +kernel
theorem dX8_cast_109 : decode cX8_cast 109 = .ok (.getfield 12, 3) := by decide +kernel
theorem dX8_cast_112 : decode cX8_cast 112 = .ok (.getfield 71, 3) := by decide +kernel
theorem dX8_cast_115 : decode cX8_cast 115 = .ok (.iload_n 2, 1) := by decide +kernel
theorem dX8_cast_116 : decode cX8_cast 116 = .ok (.invokevirtual 106, 3) := by decide +kernel
theorem dX8_cast_119 : decode cX8_cast 119 = .ok (.aload_n 0, 1) := by decide +kernel
theorem dX8_cast_120 : decode cX8_cast 120 = .ok (.getfield 12, 3) := by decide +kernel
theorem dX8_cast_123 : decode cX8_cast 123 = .ok (.getfield 71, 3) := by decide +kernel
theorem dX8_cast_126 : decode cX8_cast 126 = .ok (.bipush 12, 2) := by decide +kernel
theorem dX8_cast_128 : decode cX8_cast 128 = .ok (.iload 4, 2) := by decide +kernel
theorem dX8_cast_130 : decode cX8_cast 130 = .ok (.bipush 100, 2) := by decide +kernel
theorem dX8_cast_132 : decode cX8_cast 132 = .ok (.invokevirtual 110, 3) := by decide +kernel
theorem dX8_cast_135 : decode cX8_cast 135 = .ok (.aload_n 0, 1) := by decide +kernel
theorem dX8_cast_136 : decode cX8_cast 136 = .ok (.getfield 12, 3) := by decide +kernel
theorem dX8_cast_139 : decode cX8_cast 139 = .ok (.getfield 71, 3) := by decide +kernel
theorem dX8_cast_142 : decode cX8_cast 142 = .ok (.iload_n 1, 1) := by decide +kernel
theorem dX8_cast_143 : decode cX8_cast 143 = .ok (.iload 5, 2) := by decide +kernel
theorem dX8_cast_145 : decode cX8_cast 145 = .ok (.invokevirtual 113, 3) := by decide +kernel
theorem dX8_cast_148 : decode cX8_cast 148 = .ok (.ireturn, 1) := by decide +kernel
theorem dX8_years_0 : decode cX8_years 0 = .ok (.iload_n 1, 1) := by decide +kernel
theorem dX8_years_1 : decode cX8_years 1 = .ok (.iconst 1, 1) := by decide +kernel
theorem dX8_years_2 : decode cX8_years 2 = .ok (.bipush 60, 2) := by decide +kernel
theorem dX8_years_4 : decode cX8_years 4 = .ok (.invokestatic 63, 3) := by decide +kernel
theorem dX8_years_7 : decode cX8_years 7 = .ok (.ifCond .ne 9, 3) := by decide +kernel
theorem dX8_years_10 : decode cX8_years 10 = .ok (.aload_n 0, 1) := by decide +kernel
theorem dX8_years_11 : decode cX8_years 11 = .ok (.iconst 1, 1) := by decide +kernel
theorem dX8_years_12 : decode cX8_years 12 = .ok (.invokevirtual 67, 3) := by decide +kernel
theorem dX8_years_15 : decode cX8_years 15 = .ok (.ireturn, 1) := by decide +kernel
theorem dX8_years_16 : decode cX8_years 16 = .ok (.aload_n 0, 1) := by decide +kernel
theorem dX8_years_17 : decode cX8_years 17 = .ok (.getfield 12, 3) := by decide +kernel
theorem dX8_years_20 : decode cX8_years 20 = .ok (.getfield 71, 3) := by decide +kernel
theorem dX8_years_23 : decode cX8_years 23 = .ok (.invokevirtual 116, 3) := by decide +kernel
theorem dX8_years_26 : decode cX8_years 26 = .ok (.iload_n 1, 1) := by decide +kernel
theorem dX8_years_27 : decode cX8_years 27 = .ok (.iadd, 1) := by decide +kernel
theorem dX8_years_28 : decode cX8_years 28 = .ok (.sipush 9999, 3) := by decide +kernel
theorem dX8_years_31 : decode cX8_years 31 = .ok (.if_icmp .le 9, 3) := by decide +kernel
theorem dX8_years_34 : decode cX8_years 34 = .ok (.aload_n 0, 1) := by decide +kernel
theorem dX8_years_35 : decode cX8_years 35 = .ok (.iconst 3, 1) := by decide +kernel
theorem dX8_years_36 : decode cX8_years 36 = .ok (.invokevirtual 67, 3) := by decide +kernel
theorem dX8_years_39 : decode cX8_years 39 = .ok (.ireturn, 1) := by decide +kernel
theorem dX8_years_40 : decode cX8_years 40 = .ok (.aload_n 0, 1) := by decide +kernel
theorem dX8_years_41 : decode cX8_years 41 = .ok (.getfield 12, 3) := by decide +kernel
theorem dX8_years_44 : decode cX8_years 44 = .ok (.getfield 71, 3) := by decide +kernel
theorem dX8_years_47 : decode cX8_years 47 = .ok (.iload_n 1, 1) := by decide +kernel
theorem dX8_years_48 : decode cX8_years 48 = .ok (.invokevirtual 119, 3) := by decide +kernel
theorem dX8_years_51 : decode cX8_years 51 = .ok (.aload_n 0, 1) := by decide +kernel
theorem dX8_years_52 : decode cX8_years 52 = .ok (.getfield 12, 3) := by decide +kernel
theorem dX8_years_55 : decode cX8_years 55 = .ok (.getfield 71, 3) := by decide +kernel
theorem dX8_years_58 : decode cX8_years 58 = .ok (.invokevirtual 122, 3) := by decide +kernel
theorem dX8_years_61 : decode cX8_years 61 = .ok (.ireturn, 1) := by decide +kernel
theorem dX8_then_0 : decode cX8_then 0 = .ok (.iload_n 1, 1) := by decide +kernel
theorem dX8_then_1 : decode cX8_then 1 = .ok (.iconst 0, 1) := by decide +kernel
theorem dX8_then_2 : decode cX8_then 2 = .ok (.bipush 60, 2) := by decide +kernel
theorem dX8_then_4 : decode cX8_then 4 = .ok (.invokestatic 63, 3) := by decide +kernel
theorem dX8_then_7 : decode cX8_then 7 = .ok (.ifCond .eq 27, 3) := by decide +kernel
theorem dX8_then_10 : decode cX8_then 10 = .ok (.aload_n 0, 1) := by decide +kernel
theorem dX8_then_11 : decode cX8_then 11 = .ok (.getfield 12, 3) := by decide +kernel
theorem dX8_then_14 : decode cX8_then 14 = .ok (.getfield 71, 3) := by decide +kernel
theorem dX8_then_17 : decode cX8_then 17 = .ok (.iload_n 2, 1) := by decide +kernel
theorem dX8_then_18 : decode cX8_then 18 = .ok (.invokevirtual 82, 3) := by decide +kernel
theorem dX8_then_21 : decode cX8_then 21 = .ok (.ifCond .eq 13, 3) := by decide +kernel
theorem dX8_then_24 : decode cX8_then 24 = .ok (.iload_n 3, 1) := by decide +kernel
theorem dX8_then_25 : decode cX8_then 25 = .ok (.iconst 0, 1) := by decide +kernel
theorem dX8_then_26 : decode cX8_then 26 = .ok (.bipush 10, 2) := by decide +kernel
theorem dX8_then_28 : decode cX8_then 28 = .ok (.invokestatic 63, 3) := by decide +kernel
theorem dX8_then_31 : decode cX8_then 31 = .ok (.ifCond .ne 9, 3) := by decide +kernel
theorem dX8_then_34 : decode cX8_then 34 = .ok (.aload_n 0, 1) := by decide +kernel
theorem dX8_then_35 : decode cX8_then 35 = .ok (.iconst 1, 1) := by decide +kernel
theorem dX8_then_36 : decode cX8_then 36 = .ok (.invokevirtual 67, 3) := by decide +kernel
theorem dX8_then_39 : decode cX8_then 39 = .ok (.ireturn, 1) := by decide +kernel
theorem dX8_then_40 : decode cX8_then 40 = .ok (.aload_n 0, 1) := by decide +kernel
theorem dX8_then_41 : decode cX8_then 41 = .ok (.getfield 22, 3) := by decide +kernel
theorem dX8_then_44 : decode cX8_then 44 = .ok (.aload_n 0, 1) := by decide +kernel
theorem dX8_then_45 : decode cX8_then 45 = .ok (.getfield 12, 3) := by decide +kernel
theorem dX8_then_48 : decode cX8_then 48 = .ok (.getfield 71, 3) := by decide +kernel
theorem dX8_then_51 : decode cX8_then 51 = .ok (.invokevirtual 125, 3) := by decide +kernel
theorem dX8_then_54 : decode cX8_then 54 = .ok (.aload_n 0, 1) := by decide +kernel
theorem dX8_then_55 : decode cX8_then 55 = .ok (.getfield 22, 3) := by decide +kernel
theorem dX8_then_58 : decode cX8_then 58 = .ok (.iload_n 1, 1) := by decide +kernel
theorem dX8_then_59 : decode cX8_then 59 = .ok (.invokevirtual 119, 3) := by decide +kernel
theorem dX8_then_62 : decode cX8_then 62 = .ok (.aload_n 0, 1) := by decide +kernel
theorem dX8_then_63 : decode cX8_then 63 = .ok (.getfield 12, 3) := by decide +kernel
theorem dX8_then_66 : decode cX8_then 66 = .ok (.aload_n 0, 1) := by decide +kernel
theorem dX8_then_67 : decode cX8_then 67 = .ok (.getfield 22, 3) := by decide +kernel
theorem dX8_then_70 : decode cX8_then 70 = .ok (.iload_n 2, 1) := by decide +kernel
theorem dX8_then_71 : decode cX8_then 71 = .ok (.iload_n 3, 1) := by decide +kernel
theorem dX8_then_72 : decode cX8_then 72 = .ok (.invokevirtual 85, 3) := by decide +kernel
theorem dX8_then_75 : decode cX8_then 75 = .ok (.ireturn, 1) := by decide +kernel
theorem dX8_seed_0 : decode cX8_seed 0 = .ok (.aload_n 0, 1) := by decide +kernel
theorem dX8_seed_1 : decode cX8_seed 1 = .ok (.getfield 12, 3) := by decide +kernel
theorem dX8_seed_4 : decode cX8_seed 4 = .ok (.getfield 71, 3) := by decide +kernel
theorem dX8_seed_7 : decode cX8_seed 7 = .ok (.iload_n 1, 1) := by decide +kernel
theorem dX8_seed_8 : decode cX8_seed 8 = .ok (.invokevirtual 129, 3) := by decide +kernel
theorem dX8_seed_11 : decode cX8_seed 11 = .ok (.ireturn, 1) := by decide +kernel
theorem dX8_feed_0 : decode cX8_feed 0 = .ok (.iload_n 3, 1) := by decide +kernel
theorem dX8_feed_1 : decode cX8_feed 1 = .ok (.iconst 1, 1) := by decide +kernel
theorem dX8_feed_2 : decode cX8_feed 2 = .ok (.bipush 8, 2) := by decide +kernel
theorem dX8_feed_4 : decode cX8_feed 4 = .ok (.invokestatic 63, 3) := by decide +kernel
theorem dX8_feed_7 : decode cX8_feed 7 = .ok (.ifCond .ne 9, 3) := by decide +kernel
theorem dX8_feed_10 : decode cX8_feed 10 = .ok (.aload_n 0, 1) := by decide +kernel
theorem dX8_feed_11 : decode cX8_feed 11 = .ok (.iconst 1, 1) := by decide +kernel
theorem dX8_feed_12 : decode cX8_feed 12 = .ok (.invokevirtual 67, 3) := by decide +kernel
theorem dX8_feed_15 : decode cX8_feed 15 = .ok (.ireturn, 1) := by decide +kernel
theorem dX8_feed_16 : decode cX8_feed 16 = .ok (.aload_n 0, 1) := by decide +kernel
theorem dX8_feed_17 : decode cX8_feed 17 = .ok (.getfield 12, 3) := by decide +kernel
theorem dX8_feed_20 : decode cX8_feed 20 = .ok (.getfield 132, 3) := by decide +kernel
theorem dX8_feed_23 : decode cX8_feed 23 = .ok (.invokevirtual 136, 3) := by decide +kernel
theorem dX8_feed_26 : decode cX8_feed 26 = .ok (.iload_n 3, 1) := by decide +kernel
theorem dX8_feed_27 : decode cX8_feed 27 = .ok (.if_icmp .ge 9, 3) := by decide +kernel
theorem dX8_feed_30 : decode cX8_feed 30 = .ok (.aload_n 0, 1) := by decide +kernel
theorem dX8_feed_31 : decode cX8_feed 31 = .ok (.iconst 4, 1) := by decide +kernel
theorem dX8_feed_32 : decode cX8_feed 32 = .ok (.invokevirtual 67, 3) := by decide +kernel
theorem dX8_feed_35 : decode cX8_feed 35 = .ok (.ireturn, 1) := by decide +kernel
theorem dX8_feed_36 : decode cX8_feed 36 = .ok (.iconst 0, 1) := by decide +kernel
theorem dX8_feed_37 : decode cX8_feed 37 = .ok (.istore 4, 2) := by decide +kernel
theorem dX8_feed_39 : decode cX8_feed 39 = .ok (.iload 4, 2) := by decide +kernel
theorem dX8_feed_41 : decode cX8_feed 41 = .ok (.iload_n 3, 1) := by decide +kernel
theorem dX8_feed_42 : decode cX8_feed 42 = .ok (.if_icmp .ge 34, 3) := by decide +kernel
theorem dX8_feed_45 : decode cX8_feed 45 = .ok (.aload_n 0, 1) := by decide +kernel
theorem dX8_feed_46 : decode cX8_feed 46 = .ok (.getfield 12, 3) := by decide +kernel
theorem dX8_feed_49 : decode cX8_feed 49 = .ok (.getfield 132, 3) := by decide +kernel
theorem dX8_feed_52 : decode cX8_feed 52 = .ok (.lload_n 1, 1) := by decide +kernel
theorem dX8_feed_53 : decode cX8_feed 53 = .ok (.bipush 8, 2) := by decide +kernel
theorem dX8_feed_55 : decode cX8_feed 55 = .ok (.iload 4, 2) := by decide +kernel
theorem dX8_feed_57 : decode cX8_feed 57 = .ok (.imul, 1) := by decide +kernel
theorem dX8_feed_58 : decode cX8_feed 58 = .ok (.lshr, 1) := by decide +kernel
theorem dX8_feed_59 : decode cX8_feed 59 = .ok (.l2i, 1) := by decide +kernel
theorem dX8_feed_60 : decode cX8_feed 60 = .ok (.sipush 255, 3) := by decide +kernel
theorem dX8_feed_63 : decode cX8_feed 63 = .ok (.iand, 1) := by decide +kernel
theorem dX8_feed_64 : decode cX8_feed 64 = .ok (.iconst 0, 1) := by decide +kernel
theorem dX8_feed_65 : decode cX8_feed 65 = .ok (.iconst 0, 1) := by decide +kernel
theorem dX8_feed_66 : decode cX8_feed 66 = .ok (.invokevirtual 139, 3) := by decide +kernel
theorem dX8_feed_69 : decode cX8_feed 69 = .ok (.pop, 1) := by decide +kernel
theorem dX8_feed_70 : decode cX8_feed 70 = .ok (.iinc 4 1, 3) := by decide +kernel
theorem dX8_feed_73 : decode cX8_feed 73 = .ok (.goto (-34), 3) := by decide +kernel
theorem dX8_feed_76 : decode cX8_feed 76 = .ok (.aload_n 0, 1) := by decide +kernel
theorem dX8_feed_77 : decode cX8_feed 77 = .ok (.getfield 12, 3) := by decide +kernel
theorem dX8_feed_80 : decode cX8_feed 80 = .ok (.getfield 132, 3) := by decide +kernel
theorem dX8_feed_83 : decode cX8_feed 83 = .ok (.invokevirtual 143, 3) := by decide +kernel
theorem dX8_feed_86 : decode cX8_feed 86 = .ok (.ireturn, 1) := by decide +kernel
theorem dX8_text_0 : decode cX8_text 0 = .ok (.iload_n 1, 1) := by decide +kernel
theorem dX8_text_1 : decode cX8_text 1 = .ok (.iconst 0, 1) := by decide +kernel
theorem dX8_text_2 : decode cX8_text 2 = .ok (.iconst 1, 1) := by decide +kernel
theorem dX8_text_3 : decode cX8_text 3 = .ok (.invokestatic 63, 3) := by decide +kernel
theorem dX8_text_6 : decode cX8_text 6 = .ok (.ifCond .ne 9, 3) := by decide +kernel
theorem dX8_text_9 : decode cX8_text 9 = .ok (.aload_n 0, 1) := by decide +kernel
theorem dX8_text_10 : decode cX8_text 10 = .ok (.iconst 1, 1) := by decide +kernel
theorem dX8_text_11 : decode cX8_text 11 = .ok (.invokevirtual 67, 3) := by decide +kernel
theorem dX8_text_14 : decode cX8_text 14 = .ok (.ireturn, 1) := by decide +kernel
theorem dX8_text_15 : decode cX8_text 15 = .ok (.aload_n 0, 1) := by decide +kernel
theorem dX8_text_16 : decode cX8_text 16 = .ok (.getfield 36, 3) := by decide +kernel
theorem dX8_text_19 : decode cX8_text 19 = .ok (.aload_n 0, 1) := by decide +kernel
theorem dX8_text_20 : decode cX8_text 20 = .ok (.getfield 12, 3) := by decide +kernel
theorem dX8_text_23 : decode cX8_text 23 = .ok (.getfield 132, 3) := by decide +kernel
theorem dX8_text_26 : decode cX8_text 26 = .ok (.iload_n 1, 1) := by decide +kernel
theorem dX8_text_27 : decode cX8_text 27 = .ok (.invokevirtual 146, 3) := by decide +kernel
theorem dX8_text_30 : decode cX8_text 30 = .ok (.istore_n 2, 1) := by decide +kernel
theorem dX8_text_31 : decode cX8_text 31 = .ok (.aload_n 0, 1) := by decide +kernel
theorem dX8_text_32 : decode cX8_text 32 = .ok (.getfield 12, 3) := by decide +kernel
theorem dX8_text_35 : decode cX8_text 35 = .ok (.getfield 132, 3) := by decide +kernel
theorem dX8_text_38 : decode cX8_text 38 = .ok (.invokevirtual 150, 3) := by decide +kernel
theorem dX8_text_41 : decode cX8_text 41 = .ok (.iload_n 2, 1) := by decide +kernel
theorem dX8_text_42 : decode cX8_text 42 = .ok (.ifCond .lt 8, 3) := by decide +kernel
theorem dX8_text_45 : decode cX8_text 45 = .ok (.bipush (-10), 2) := by decide +kernel
theorem dX8_text_47 : decode cX8_text 47 = .ok (.iload_n 2, 1) := by decide +kernel
theorem dX8_text_48 : decode cX8_text 48 = .ok (.isub, 1) := by decide +kernel
theorem dX8_text_49 : decode cX8_text 49 = .ok (.ireturn, 1) := by decide +kernel
theorem dX8_text_50 : decode cX8_text 50 = .ok (.aload_n 0, 1) := by decide +kernel
theorem dX8_text_51 : decode cX8_text 51 = .ok (.getfield 36, 3) := by decide +kernel
theorem dX8_text_54 : decode cX8_text 54 = .ok (.aload_n 0, 1) := by decide +kernel
theorem dX8_text_55 : decode cX8_text 55 = .ok (.getfield 12, 3) := by decide +kernel
theorem dX8_text_58 : decode cX8_text 58 = .ok (.iload_n 1, 1) := by decide +kernel
theorem dX8_text_59 : decode cX8_text 59 = .ok (.invokevirtual 153, 3) := by decide +kernel
theorem dX8_text_62 : decode cX8_text 62 = .ok (.invokevirtual 157, 3) := by decide +kernel
theorem dX8_text_65 : decode cX8_text 65 = .ok (.iconst 1, 1) := by decide +kernel
theorem dX8_text_66 : decode cX8_text 66 = .ok (.ireturn, 1) := by decide +kernel
theorem dX8_untell_0 : decode cX8_untell 0 = .ok (.iload_n 1, 1) := by decide +kernel
theorem dX8_untell_1 : decode cX8_untell 1 = .ok (.iconst 0, 1) := by decide +kernel
theorem dX8_untell_2 : decode cX8_untell 2 = .ok (.iconst 1, 1) := by decide +kernel
theorem dX8_untell_3 : decode cX8_untell 3 = .ok (.invokestatic 63, 3) := by decide +kernel
theorem dX8_untell_6 : decode cX8_untell 6 = .ok (.ifCond .ne 9, 3) := by decide +kernel
theorem dX8_untell_9 : decode cX8_untell 9 = .ok (.aload_n 0, 1) := by decide +kernel
theorem dX8_untell_10 : decode cX8_untell 10 = .ok (.iconst 1, 1) := by decide +kernel
theorem dX8_untell_11 : decode cX8_untell 11 = .ok (.invokevirtual 67, 3) := by decide +kernel
theorem dX8_untell_14 : decode cX8_untell 14 = .ok (.ireturn, 1) := by decide +kernel
theorem dX8_untell_15 : decode cX8_untell 15 = .ok (.aload_n 0, 1) := by decide +kernel
theorem dX8_untell_16 : decode cX8_untell 16 = .ok (.getfield 12, 3) := by decide +kernel
theorem dX8_untell_19 : decode cX8_untell 19 = .ok (.iload_n 1, 1) := by decide +kernel
theorem dX8_untell_20 : decode cX8_untell 20 = .ok (.invokevirtual 153, 3) := by decide +kernel
theorem dX8_untell_23 : decode cX8_untell 23 = .ok (.invokevirtual 143, 3) := by decide +kernel
theorem dX8_untell_26 : decode cX8_untell 26 = .ok (.ifCond .le 7, 3) := by decide +kernel
theorem dX8_untell_29 : decode cX8_untell 29 = .ok (.iconst 1, 1) := by decide +kernel
theorem dX8_untell_30 : decode cX8_untell 30 = .ok (.goto 4, 3) := by decide +kernel
theorem dX8_untell_33 : decode cX8_untell 33 = .ok (.iconst 0, 1) := by decide +kernel
theorem dX8_untell_34 : decode cX8_untell 34 = .ok (.istore_n 2, 1) := by decide +kernel
theorem dX8_untell_35 : decode cX8_untell 35 = .ok (.aload_n 0, 1) := by decide +kernel
theorem dX8_untell_36 : decode cX8_untell 36 = .ok (.getfield 12, 3) := by decide +kernel
theorem dX8_untell_39 : decode cX8_untell 39 = .ok (.iload_n 1, 1) := by decide +kernel
theorem dX8_untell_40 : decode cX8_untell 40 = .ok (.invokevirtual 153, 3) := by decide +kernel
theorem dX8_untell_43 : decode cX8_untell 43 = .ok (.invokevirtual 150, 3) := by decide +kernel
theorem dX8_untell_46 : decode cX8_untell 46 = .ok (.iload_n 2, 1) := by decide +kernel
theorem dX8_untell_47 : decode cX8_untell 47 = .ok (.ireturn, 1) := by decide +kernel
theorem dX8_claim_0 : decode cX8_claim 0 = .ok (.aload_n 0, 1) := by decide +kernel
theorem dX8_claim_1 : decode cX8_claim 1 = .ok (.getfield 12, 3) := by decide +kernel
theorem dX8_claim_4 : decode cX8_claim 4 = .ok (.getfield 71, 3) := by decide +kernel
theorem dX8_claim_7 : decode cX8_claim 7 = .ok (.iload_n 1, 1) := by decide +kernel
theorem dX8_claim_8 : decode cX8_claim 8 = .ok (.invokevirtual 82, 3) := by decide +kernel
theorem dX8_claim_11 : decode cX8_claim 11 = .ok (.ifCond .eq 13, 3) := by decide +kernel
theorem dX8_claim_14 : decode cX8_claim 14 = .ok (.iload_n 2, 1) := by decide +kernel
theorem dX8_claim_15 : decode cX8_claim 15 = .ok (.iconst 1, 1) := by decide +kernel
theorem dX8_claim_16 : decode cX8_claim 16 = .ok (.ldc 161, 2) := by decide +kernel
theorem dX8_claim_18 : decode cX8_claim 18 = .ok (.invokestatic 63, 3) := by decide +kernel
theorem dX8_claim_21 : decode cX8_claim 21 = .ok (.ifCond .ne 9, 3) := by decide +kernel
theorem dX8_claim_24 : decode cX8_claim 24 = .ok (.aload_n 0, 1) := by decide +kernel
theorem dX8_claim_25 : decode cX8_claim 25 = .ok (.iconst 1, 1) := by decide +kernel
theorem dX8_claim_26 : decode cX8_claim 26 = .ok (.invokevirtual 67, 3) := by decide +kernel
theorem dX8_claim_29 : decode cX8_claim 29 = .ok (.ireturn, 1) := by decide +kernel
theorem dX8_claim_30 : decode cX8_claim 30 = .ok (.aload_n 0, 1) := by decide +kernel
theorem dX8_claim_31 : decode cX8_claim 31 = .ok (.getfield 12, 3) := by decide +kernel
theorem dX8_claim_34 : decode cX8_claim 34 = .ok (.getfield 162, 3) := by decide +kernel
theorem dX8_claim_37 : decode cX8_claim 37 = .ok (.invokevirtual 136, 3) := by decide +kernel
theorem dX8_claim_40 : decode cX8_claim 40 = .ok (.iconst 1, 1) := by decide +kernel
theorem dX8_claim_41 : decode cX8_claim 41 = .ok (.if_icmp .ge 9, 3) := by decide +kernel
theorem dX8_claim_44 : decode cX8_claim 44 = .ok (.aload_n 0, 1) := by decide +kernel
theorem dX8_claim_45 : decode cX8_claim 45 = .ok (.iconst 4, 1) := by decide +kernel
theorem dX8_claim_46 : decode cX8_claim 46 = .ok (.invokevirtual 67, 3) := by decide +kernel
theorem dX8_claim_49 : decode cX8_claim 49 = .ok (.ireturn, 1) := by decide +kernel
theorem dX8_claim_50 : decode cX8_claim 50 = .ok (.aload_n 0, 1) := by decide +kernel
theorem dX8_claim_51 : decode cX8_claim 51 = .ok (.getfield 12, 3) := by decide +kernel
theorem dX8_claim_54 : decode cX8_claim 54 = .ok (.getfield 162, 3) := by decide +kernel
theorem dX8_claim_57 : decode cX8_claim 57 = .ok (.iload_n 1, 1) := by decide +kernel
theorem dX8_claim_58 : decode cX8_claim 58 = .ok (.iload_n 2, 1) := by decide +kernel
