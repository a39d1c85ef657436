section
-- decode rows of the reference
def sg_05_cX9_init_3 : List UInt8 := [0x07, 0xbc, 0x0a, 0xb5, 0x00, 0x2b, 0x2a, 0x10, 0x60, 0xbc, 0x0a, 0xb5, 0x00, 0x2e, 0x2a, 0x10, 0x18, 0xbc, 0x0a, 0xb5, 0x00, 0x31, 0x2a, 0xb4, 0x00, 0x07, 0x10, 0x08, 0x04, 0x4f, 0xb1]
def sg_05_cX9_init_2 : List UInt8 := 0x2a :: 0x10 :: 0x40 :: 0xbc :: 0x0a :: 0xb5 :: 0x00 :: 0x1f :: 0x2a :: 0x10 :: 0x40 :: 0xbc :: 0x0a :: 0xb5 :: 0x00 :: 0x22 :: 0x2a :: 0x10 :: 0x1e :: 0xbc :: 0x0a :: 0xb5 :: 0x00 :: 0x25 :: 0x2a :: 0x07 :: 0xbc :: 0x0a :: 0xb5 :: 0x00 :: 0x28 :: 0x2a :: sg_05_cX9_init_3
def sg_05_cX9_init_1 : List UInt8 := 0x10 :: 0x07 :: 0xbc :: 0x0a :: 0xb5 :: 0x00 :: 0x13 :: 0x2a :: 0x10 :: 0x7c :: 0xbc :: 0x0a :: 0xb5 :: 0x00 :: 0x16 :: 0x2a :: 0x11 :: 0x00 :: 0x80 :: 0xbc :: 0x0a :: 0xb5 :: 0x00 :: 0x19 :: 0x2a :: 0x10 :: 0x40 :: 0xbc :: 0x0a :: 0xb5 :: 0x00 :: 0x1c :: sg_05_cX9_init_2
def sg_05_cX9_init_0 : List UInt8 := 0x2a :: 0xb7 :: 0x00 :: 0x01 :: 0x2a :: 0x11 :: 0x02 :: 0x18 :: 0xbc :: 0x0a :: 0xb5 :: 0x00 :: 0x07 :: 0x2a :: 0x11 :: 0x02 :: 0x18 :: 0xbc :: 0x0a :: 0xb5 :: 0x00 :: 0x0d :: 0x2a :: 0x11 :: 0x02 :: 0x18 :: 0xbc :: 0x0a :: 0xb5 :: 0x00 :: 0x10 :: 0x2a :: sg_05_cX9_init_1
set_option maxRecDepth 100000 in
theorem sd_05_cX9_init_0 : cX9_init.data.toList.drop 0 = sg_05_cX9_init_0 := by decide +kernel
theorem sd_05_cX9_init_1 : cX9_init.data.toList.drop 32 = sg_05_cX9_init_1 := sg_next sd_05_cX9_init_0 rfl
theorem sd_05_cX9_init_2 : cX9_init.data.toList.drop 64 = sg_05_cX9_init_2 := sg_next sd_05_cX9_init_1 rfl
theorem sd_05_cX9_init_3 : cX9_init.data.toList.drop 96 = sg_05_cX9_init_3 := sg_next sd_05_cX9_init_2 rfl
theorem dR_init_0 : decode cX9_init 0 = .ok (.aload_n 0, 1) := op_42 (rdSeg sd_05_cX9_init_0 0 rfl rfl)
theorem dR_init_1 : decode cX9_init 1 = .ok (.invokespecial 1, 3) := op_183 (rdSeg sd_05_cX9_init_0 1 rfl rfl) (rdSeg sd_05_cX9_init_0 2 rfl rfl) (rdSeg sd_05_cX9_init_0 3 rfl rfl) rfl
theorem dR_init_4 : decode cX9_init 4 = .ok (.aload_n 0, 1) := op_42 (rdSeg sd_05_cX9_init_0 4 rfl rfl)
theorem dR_init_5 : decode cX9_init 5 = .ok (.sipush 536, 3) := op_17 (rdSeg sd_05_cX9_init_0 5 rfl rfl) (rdSeg sd_05_cX9_init_0 6 rfl rfl) (rdSeg sd_05_cX9_init_0 7 rfl rfl) (by decide +kernel)
theorem dR_init_8 : decode cX9_init 8 = .ok (.newarray .int, 2) := by decide +kernel
theorem dR_init_10 : decode cX9_init 10 = .ok (.putfield 7, 3) := op_181 (rdSeg sd_05_cX9_init_0 10 rfl rfl) (rdSeg sd_05_cX9_init_0 11 rfl rfl) (rdSeg sd_05_cX9_init_0 12 rfl rfl) rfl
theorem dR_init_13 : decode cX9_init 13 = .ok (.aload_n 0, 1) := op_42 (rdSeg sd_05_cX9_init_0 13 rfl rfl)
theorem dR_init_14 : decode cX9_init 14 = .ok (.sipush 536, 3) := op_17 (rdSeg sd_05_cX9_init_0 14 rfl rfl) (rdSeg sd_05_cX9_init_0 15 rfl rfl) (rdSeg sd_05_cX9_init_0 16 rfl rfl) (by decide +kernel)
theorem dR_init_17 : decode cX9_init 17 = .ok (.newarray .int, 2) := by decide +kernel
theorem dR_init_19 : decode cX9_init 19 = .ok (.putfield 13, 3) := op_181 (rdSeg sd_05_cX9_init_0 19 rfl rfl) (rdSeg sd_05_cX9_init_0 20 rfl rfl) (rdSeg sd_05_cX9_init_0 21 rfl rfl) rfl
theorem dR_init_22 : decode cX9_init 22 = .ok (.aload_n 0, 1) := op_42 (rdSeg sd_05_cX9_init_0 22 rfl rfl)
theorem dR_init_23 : decode cX9_init 23 = .ok (.sipush 536, 3) := op_17 (rdSeg sd_05_cX9_init_0 23 rfl rfl) (rdSeg sd_05_cX9_init_0 24 rfl rfl) (rdSeg sd_05_cX9_init_0 25 rfl rfl) (by decide +kernel)
theorem dR_init_26 : decode cX9_init 26 = .ok (.newarray .int, 2) := by decide +kernel
theorem dR_init_28 : decode cX9_init 28 = .ok (.putfield 16, 3) := op_181 (rdSeg sd_05_cX9_init_0 28 rfl rfl) (rdSeg sd_05_cX9_init_0 29 rfl rfl) (rdSeg sd_05_cX9_init_0 30 rfl rfl) rfl
theorem dR_init_31 : decode cX9_init 31 = .ok (.aload_n 0, 1) := op_42 (rdSeg sd_05_cX9_init_0 31 rfl rfl)
theorem dR_init_32 : decode cX9_init 32 = .ok (.bipush 7, 2) := op_16 (rdSeg sd_05_cX9_init_1 0 rfl rfl) (rdSeg sd_05_cX9_init_1 1 rfl rfl) (by decide +kernel)
theorem dR_init_34 : decode cX9_init 34 = .ok (.newarray .int, 2) := by decide +kernel
theorem dR_init_36 : decode cX9_init 36 = .ok (.putfield 19, 3) := op_181 (rdSeg sd_05_cX9_init_1 4 rfl rfl) (rdSeg sd_05_cX9_init_1 5 rfl rfl) (rdSeg sd_05_cX9_init_1 6 rfl rfl) rfl
theorem dR_init_39 : decode cX9_init 39 = .ok (.aload_n 0, 1) := op_42 (rdSeg sd_05_cX9_init_1 7 rfl rfl)
theorem dR_init_40 : decode cX9_init 40 = .ok (.bipush 124, 2) := op_16 (rdSeg sd_05_cX9_init_1 8 rfl rfl) (rdSeg sd_05_cX9_init_1 9 rfl rfl) (by decide +kernel)
theorem dR_init_42 : decode cX9_init 42 = .ok (.newarray .int, 2) := by decide +kernel
theorem dR_init_44 : decode cX9_init 44 = .ok (.putfield 22, 3) := op_181 (rdSeg sd_05_cX9_init_1 12 rfl rfl) (rdSeg sd_05_cX9_init_1 13 rfl rfl) (rdSeg sd_05_cX9_init_1 14 rfl rfl) rfl
theorem dR_init_47 : decode cX9_init 47 = .ok (.aload_n 0, 1) := op_42 (rdSeg sd_05_cX9_init_1 15 rfl rfl)
theorem dR_init_48 : decode cX9_init 48 = .ok (.sipush 128, 3) := op_17 (rdSeg sd_05_cX9_init_1 16 rfl rfl) (rdSeg sd_05_cX9_init_1 17 rfl rfl) (rdSeg sd_05_cX9_init_1 18 rfl rfl) (by decide +kernel)
theorem dR_init_51 : decode cX9_init 51 = .ok (.newarray .int, 2) := by decide +kernel
theorem dR_init_53 : decode cX9_init 53 = .ok (.putfield 25, 3) := op_181 (rdSeg sd_05_cX9_init_1 21 rfl rfl) (rdSeg sd_05_cX9_init_1 22 rfl rfl) (rdSeg sd_05_cX9_init_1 23 rfl rfl) rfl
theorem dR_init_56 : decode cX9_init 56 = .ok (.aload_n 0, 1) := op_42 (rdSeg sd_05_cX9_init_1 24 rfl rfl)
theorem dR_init_57 : decode cX9_init 57 = .ok (.bipush 64, 2) := op_16 (rdSeg sd_05_cX9_init_1 25 rfl rfl) (rdSeg sd_05_cX9_init_1 26 rfl rfl) (by decide +kernel)
theorem dR_init_59 : decode cX9_init 59 = .ok (.newarray .int, 2) := by decide +kernel
theorem dR_init_61 : decode cX9_init 61 = .ok (.putfield 28, 3) := op_181 (rdSeg sd_05_cX9_init_1 29 rfl rfl) (rdSeg sd_05_cX9_init_1 30 rfl rfl) (rdSeg sd_05_cX9_init_1 31 rfl rfl) rfl
theorem dR_init_64 : decode cX9_init 64 = .ok (.aload_n 0, 1) := op_42 (rdSeg sd_05_cX9_init_2 0 rfl rfl)
theorem dR_init_65 : decode cX9_init 65 = .ok (.bipush 64, 2) := op_16 (rdSeg sd_05_cX9_init_2 1 rfl rfl) (rdSeg sd_05_cX9_init_2 2 rfl rfl) (by decide +kernel)
theorem dR_init_67 : decode cX9_init 67 = .ok (.newarray .int, 2) := by decide +kernel
theorem dR_init_69 : decode cX9_init 69 = .ok (.putfield 31, 3) := op_181 (rdSeg sd_05_cX9_init_2 5 rfl rfl) (rdSeg sd_05_cX9_init_2 6 rfl rfl) (rdSeg sd_05_cX9_init_2 7 rfl rfl) rfl
theorem dR_init_72 : decode cX9_init 72 = .ok (.aload_n 0, 1) := op_42 (rdSeg sd_05_cX9_init_2 8 rfl rfl)
theorem dR_init_73 : decode cX9_init 73 = .ok (.bipush 64, 2) := op_16 (rdSeg sd_05_cX9_init_2 9 rfl rfl) (rdSeg sd_05_cX9_init_2 10 rfl rfl) (by decide +kernel)
theorem dR_init_75 : decode cX9_init 75 = .ok (.newarray .int, 2) := by decide +kernel
theorem dR_init_77 : decode cX9_init 77 = .ok (.putfield 34, 3) := op_181 (rdSeg sd_05_cX9_init_2 13 rfl rfl) (rdSeg sd_05_cX9_init_2 14 rfl rfl) (rdSeg sd_05_cX9_init_2 15 rfl rfl) rfl
theorem dR_init_80 : decode cX9_init 80 = .ok (.aload_n 0, 1) := op_42 (rdSeg sd_05_cX9_init_2 16 rfl rfl)
theorem dR_init_81 : decode cX9_init 81 = .ok (.bipush 30, 2) := op_16 (rdSeg sd_05_cX9_init_2 17 rfl rfl) (rdSeg sd_05_cX9_init_2 18 rfl rfl) (by decide +kernel)
theorem dR_init_83 : decode cX9_init 83 = .ok (.newarray .int, 2) := by decide +kernel
theorem dR_init_85 : decode cX9_init 85 = .ok (.putfield 37, 3) := op_181 (rdSeg sd_05_cX9_init_2 21 rfl rfl) (rdSeg sd_05_cX9_init_2 22 rfl rfl) (rdSeg sd_05_cX9_init_2 23 rfl rfl) rfl
theorem dR_init_88 : decode cX9_init 88 = .ok (.aload_n 0, 1) := op_42 (rdSeg sd_05_cX9_init_2 24 rfl rfl)
theorem dR_init_89 : decode cX9_init 89 = .ok (.iconst 4, 1) := op_7 (rdSeg sd_05_cX9_init_2 25 rfl rfl)
theorem dR_init_90 : decode cX9_init 90 = .ok (.newarray .int, 2) := by decide +kernel
theorem dR_init_92 : decode cX9_init 92 = .ok (.putfield 40, 3) := op_181 (rdSeg sd_05_cX9_init_2 28 rfl rfl) (rdSeg sd_05_cX9_init_2 29 rfl rfl) (rdSeg sd_05_cX9_init_2 30 rfl rfl) rfl
theorem dR_init_95 : decode cX9_init 95 = .ok (.aload_n 0, 1) := op_42 (rdSeg sd_05_cX9_init_2 31 rfl rfl)
theorem dR_init_96 : decode cX9_init 96 = .ok (.iconst 4, 1) := op_7 (rdSeg sd_05_cX9_init_3 0 rfl rfl)
theorem dR_init_97 : decode cX9_init 97 = .ok (.newarray .int, 2) := by decide +kernel
theorem dR_init_99 : decode cX9_init 99 = .ok (.putfield 43, 3) := op_181 (rdSeg sd_05_cX9_init_3 3 rfl rfl) (rdSeg sd_05_cX9_init_3 4 rfl rfl) (rdSeg sd_05_cX9_init_3 5 rfl rfl) rfl
theorem dR_init_102 : decode cX9_init 102 = .ok (.aload_n 0, 1) := op_42 (rdSeg sd_05_cX9_init_3 6 rfl rfl)
theorem dR_init_103 : decode cX9_init 103 = .ok (.bipush 96, 2) := op_16 (rdSeg sd_05_cX9_init_3 7 rfl rfl) (rdSeg sd_05_cX9_init_3 8 rfl rfl) (by decide +kernel)
theorem dR_init_105 : decode cX9_init 105 = .ok (.newarray .int, 2) := by decide +kernel
theorem dR_init_107 : decode cX9_init 107 = .ok (.putfield 46, 3) := op_181 (rdSeg sd_05_cX9_init_3 11 rfl rfl) (rdSeg sd_05_cX9_init_3 12 rfl rfl) (rdSeg sd_05_cX9_init_3 13 rfl rfl) rfl
theorem dR_init_110 : decode cX9_init 110 = .ok (.aload_n 0, 1) := op_42 (rdSeg sd_05_cX9_init_3 14 rfl rfl)
theorem dR_init_111 : decode cX9_init 111 = .ok (.bipush 24, 2) := op_16 (rdSeg sd_05_cX9_init_3 15 rfl rfl) (rdSeg sd_05_cX9_init_3 16 rfl rfl) (by decide +kernel)
theorem dR_init_113 : decode cX9_init 113 = .ok (.newarray .int, 2) := by decide +kernel
theorem dR_init_115 : decode cX9_init 115 = .ok (.putfield 49, 3) := op_181 (rdSeg sd_05_cX9_init_3 19 rfl rfl) (rdSeg sd_05_cX9_init_3 20 rfl rfl) (rdSeg sd_05_cX9_init_3 21 rfl rfl) rfl
theorem dR_init_118 : decode cX9_init 118 = .ok (.aload_n 0, 1) := op_42 (rdSeg sd_05_cX9_init_3 22 rfl rfl)
theorem dR_init_119 : decode cX9_init 119 = .ok (.getfield 7, 3) := op_180 (rdSeg sd_05_cX9_init_3 23 rfl rfl) (rdSeg sd_05_cX9_init_3 24 rfl rfl) (rdSeg sd_05_cX9_init_3 25 rfl rfl) rfl
theorem dR_init_122 : decode cX9_init 122 = .ok (.bipush 8, 2) := op_16 (rdSeg sd_05_cX9_init_3 26 rfl rfl) (rdSeg sd_05_cX9_init_3 27 rfl rfl) (by decide +kernel)
theorem dR_init_124 : decode cX9_init 124 = .ok (.iconst 1, 1) := op_4 (rdSeg sd_05_cX9_init_3 28 rfl rfl)
theorem dR_init_125 : decode cX9_init 125 = .ok (.iastore, 1) := op_79 (rdSeg sd_05_cX9_init_3 29 rfl rfl)
theorem dR_init_126 : decode cX9_init 126 = .ok (.return_, 1) := op_177 (rdSeg sd_05_cX9_init_3 30 rfl rfl)
def sg_05_cX9_error_0 : List UInt8 := [0x2a, 0xb4, 0x00, 0x13, 0x1b, 0x5c, 0x2e, 0x04, 0x60, 0x4f, 0x12, 0x34, 0x1b, 0x64, 0xac]
set_option maxRecDepth 100000 in
theorem sd_05_cX9_error_0 : cX9_error.data.toList.drop 0 = sg_05_cX9_error_0 := by decide +kernel
theorem dR_error_0 : decode cX9_error 0 = .ok (.aload_n 0, 1) := op_42 (rdSeg sd_05_cX9_error_0 0 rfl rfl)
theorem dR_error_1 : decode cX9_error 1 = .ok (.getfield 19, 3) := op_180 (rdSeg sd_05_cX9_error_0 1 rfl rfl) (rdSeg sd_05_cX9_error_0 2 rfl rfl) (rdSeg sd_05_cX9_error_0 3 rfl rfl) rfl
theorem dR_error_4 : decode cX9_error 4 = .ok (.iload_n 1, 1) := op_27 (rdSeg sd_05_cX9_error_0 4 rfl rfl)
theorem dR_error_5 : decode cX9_error 5 = .ok (.dup2, 1) := op_92 (rdSeg sd_05_cX9_error_0 5 rfl rfl)
theorem dR_error_6 : decode cX9_error 6 = .ok (.iaload, 1) := op_46 (rdSeg sd_05_cX9_error_0 6 rfl rfl)
theorem dR_error_7 : decode cX9_error 7 = .ok (.iconst 1, 1) := op_4 (rdSeg sd_05_cX9_error_0 7 rfl rfl)
theorem dR_error_8 : decode cX9_error 8 = .ok (.iadd, 1) := op_96 (rdSeg sd_05_cX9_error_0 8 rfl rfl)
theorem dR_error_9 : decode cX9_error 9 = .ok (.iastore, 1) := op_79 (rdSeg sd_05_cX9_error_0 9 rfl rfl)
theorem dR_error_10 : decode cX9_error 10 = .ok (.ldc 52, 2) := op_18 (rdSeg sd_05_cX9_error_0 10 rfl rfl) (rdSeg sd_05_cX9_error_0 11 rfl rfl)
theorem dR_error_12 : decode cX9_error 12 = .ok (.iload_n 1, 1) := op_27 (rdSeg sd_05_cX9_error_0 12 rfl rfl)
theorem dR_error_13 : decode cX9_error 13 = .ok (.isub, 1) := op_100 (rdSeg sd_05_cX9_error_0 13 rfl rfl)
theorem dR_error_14 : decode cX9_error 14 = .ok (.ireturn, 1) := op_172 (rdSeg sd_05_cX9_error_0 14 rfl rfl)
def sg_05_cX9_in_0 : List UInt8 := [0x1a, 0x1b, 0xa1, 0x00, 0x0c, 0x1a, 0x1c, 0xa3, 0x00, 0x07, 0x04, 0xa7, 0x00, 0x04, 0x03, 0xac]
set_option maxRecDepth 100000 in
theorem sd_05_cX9_in_0 : cX9_in.data.toList.drop 0 = sg_05_cX9_in_0 := by decide +kernel
theorem dR_in_0 : decode cX9_in 0 = .ok (.iload_n 0, 1) := op_26 (rdSeg sd_05_cX9_in_0 0 rfl rfl)
theorem dR_in_1 : decode cX9_in 1 = .ok (.iload_n 1, 1) := op_27 (rdSeg sd_05_cX9_in_0 1 rfl rfl)
theorem dR_in_2 : decode cX9_in 2 = .ok (.if_icmp .lt 12, 3) := op_161 (rdSeg sd_05_cX9_in_0 2 rfl rfl) (rdSeg sd_05_cX9_in_0 3 rfl rfl) (rdSeg sd_05_cX9_in_0 4 rfl rfl) (by decide +kernel)
theorem dR_in_5 : decode cX9_in 5 = .ok (.iload_n 0, 1) := op_26 (rdSeg sd_05_cX9_in_0 5 rfl rfl)
theorem dR_in_6 : decode cX9_in 6 = .ok (.iload_n 2, 1) := op_28 (rdSeg sd_05_cX9_in_0 6 rfl rfl)
theorem dR_in_7 : decode cX9_in 7 = .ok (.if_icmp .gt 7, 3) := op_163 (rdSeg sd_05_cX9_in_0 7 rfl rfl) (rdSeg sd_05_cX9_in_0 8 rfl rfl) (rdSeg sd_05_cX9_in_0 9 rfl rfl) (by decide +kernel)
theorem dR_in_10 : decode cX9_in 10 = .ok (.iconst 1, 1) := op_4 (rdSeg sd_05_cX9_in_0 10 rfl rfl)
theorem dR_in_11 : decode cX9_in 11 = .ok (.goto 4, 3) := op_167 (rdSeg sd_05_cX9_in_0 11 rfl rfl) (rdSeg sd_05_cX9_in_0 12 rfl rfl) (rdSeg sd_05_cX9_in_0 13 rfl rfl) (by decide +kernel)
theorem dR_in_14 : decode cX9_in 14 = .ok (.iconst 0, 1) := op_3 (rdSeg sd_05_cX9_in_0 14 rfl rfl)
theorem dR_in_15 : decode cX9_in 15 = .ok (.ireturn, 1) := op_172 (rdSeg sd_05_cX9_in_0 15 rfl rfl)
def sg_05_cX9_held_0 : List UInt8 := [0x1a, 0x1b, 0xa2, 0x00, 0x07, 0x1b, 0xa7, 0x00, 0x0d, 0x1a, 0x1c, 0xa4, 0x00, 0x07, 0x1c, 0xa7, 0x00, 0x04, 0x1a, 0xac]
set_option maxRecDepth 100000 in
theorem sd_05_cX9_held_0 : cX9_held.data.toList.drop 0 = sg_05_cX9_held_0 := by decide +kernel
theorem dR_held_0 : decode cX9_held 0 = .ok (.iload_n 0, 1) := op_26 (rdSeg sd_05_cX9_held_0 0 rfl rfl)
theorem dR_held_1 : decode cX9_held 1 = .ok (.iload_n 1, 1) := op_27 (rdSeg sd_05_cX9_held_0 1 rfl rfl)
theorem dR_held_2 : decode cX9_held 2 = .ok (.if_icmp .ge 7, 3) := op_162 (rdSeg sd_05_cX9_held_0 2 rfl rfl) (rdSeg sd_05_cX9_held_0 3 rfl rfl) (rdSeg sd_05_cX9_held_0 4 rfl rfl) (by decide +kernel)
theorem dR_held_5 : decode cX9_held 5 = .ok (.iload_n 1, 1) := op_27 (rdSeg sd_05_cX9_held_0 5 rfl rfl)
theorem dR_held_6 : decode cX9_held 6 = .ok (.goto 13, 3) := op_167 (rdSeg sd_05_cX9_held_0 6 rfl rfl) (rdSeg sd_05_cX9_held_0 7 rfl rfl) (rdSeg sd_05_cX9_held_0 8 rfl rfl) (by decide +kernel)
theorem dR_held_9 : decode cX9_held 9 = .ok (.iload_n 0, 1) := op_26 (rdSeg sd_05_cX9_held_0 9 rfl rfl)
theorem dR_held_10 : decode cX9_held 10 = .ok (.iload_n 2, 1) := op_28 (rdSeg sd_05_cX9_held_0 10 rfl rfl)
theorem dR_held_11 : decode cX9_held 11 = .ok (.if_icmp .le 7, 3) := op_164 (rdSeg sd_05_cX9_held_0 11 rfl rfl) (rdSeg sd_05_cX9_held_0 12 rfl rfl) (rdSeg sd_05_cX9_held_0 13 rfl rfl) (by decide +kernel)
theorem dR_held_14 : decode cX9_held 14 = .ok (.iload_n 2, 1) := op_28 (rdSeg sd_05_cX9_held_0 14 rfl rfl)
theorem dR_held_15 : decode cX9_held 15 = .ok (.goto 4, 3) := op_167 (rdSeg sd_05_cX9_held_0 15 rfl rfl) (rdSeg sd_05_cX9_held_0 16 rfl rfl) (rdSeg sd_05_cX9_held_0 17 rfl rfl) (by decide +kernel)
theorem dR_held_18 : decode cX9_held 18 = .ok (.iload_n 0, 1) := op_26 (rdSeg sd_05_cX9_held_0 18 rfl rfl)
theorem dR_held_19 : decode cX9_held 19 = .ok (.ireturn, 1) := op_172 (rdSeg sd_05_cX9_held_0 19 rfl rfl)
def sg_05_cX9_carry_0 : List UInt8 := [0x03, 0x3d, 0x1c, 0x11, 0x02, 0x18, 0xa2, 0x00, 0x0f, 0x2b, 0x1c, 0x2a, 0x1c, 0x2e, 0x4f, 0x84, 0x02, 0x01, 0xa7, 0xff, 0xf0, 0xb1]
set_option maxRecDepth 100000 in
theorem sd_05_cX9_carry_0 : cX9_carry.data.toList.drop 0 = sg_05_cX9_carry_0 := by decide +kernel
theorem dR_carry_0 : decode cX9_carry 0 = .ok (.iconst 0, 1) := op_3 (rdSeg sd_05_cX9_carry_0 0 rfl rfl)
theorem dR_carry_1 : decode cX9_carry 1 = .ok (.istore_n 2, 1) := op_61 (rdSeg sd_05_cX9_carry_0 1 rfl rfl)
theorem dR_carry_2 : decode cX9_carry 2 = .ok (.iload_n 2, 1) := op_28 (rdSeg sd_05_cX9_carry_0 2 rfl rfl)
theorem dR_carry_3 : decode cX9_carry 3 = .ok (.sipush 536, 3) := op_17 (rdSeg sd_05_cX9_carry_0 3 rfl rfl) (rdSeg sd_05_cX9_carry_0 4 rfl rfl) (rdSeg sd_05_cX9_carry_0 5 rfl rfl) (by decide +kernel)
theorem dR_carry_6 : decode cX9_carry 6 = .ok (.if_icmp .ge 15, 3) := op_162 (rdSeg sd_05_cX9_carry_0 6 rfl rfl) (rdSeg sd_05_cX9_carry_0 7 rfl rfl) (rdSeg sd_05_cX9_carry_0 8 rfl rfl) (by decide +kernel)
theorem dR_carry_9 : decode cX9_carry 9 = .ok (.aload_n 1, 1) := op_43 (rdSeg sd_05_cX9_carry_0 9 rfl rfl)
theorem dR_carry_10 : decode cX9_carry 10 = .ok (.iload_n 2, 1) := op_28 (rdSeg sd_05_cX9_carry_0 10 rfl rfl)
theorem dR_carry_11 : decode cX9_carry 11 = .ok (.aload_n 0, 1) := op_42 (rdSeg sd_05_cX9_carry_0 11 rfl rfl)
theorem dR_carry_12 : decode cX9_carry 12 = .ok (.iload_n 2, 1) := op_28 (rdSeg sd_05_cX9_carry_0 12 rfl rfl)
theorem dR_carry_13 : decode cX9_carry 13 = .ok (.iaload, 1) := op_46 (rdSeg sd_05_cX9_carry_0 13 rfl rfl)
theorem dR_carry_14 : decode cX9_carry 14 = .ok (.iastore, 1) := op_79 (rdSeg sd_05_cX9_carry_0 14 rfl rfl)
theorem dR_carry_15 : decode cX9_carry 15 = .ok (.iinc 2 1, 3) := op_132 (rdSeg sd_05_cX9_carry_0 15 rfl rfl) (rdSeg sd_05_cX9_carry_0 16 rfl rfl) (rdSeg sd_05_cX9_carry_0 17 rfl rfl) (by decide +kernel)
theorem dR_carry_18 : decode cX9_carry 18 = .ok (.goto (-16), 3) := op_167 (rdSeg sd_05_cX9_carry_0 18 rfl rfl) (rdSeg sd_05_cX9_carry_0 19 rfl rfl) (rdSeg sd_05_cX9_carry_0 20 rfl rfl) (by decide +kernel)
theorem dR_carry_21 : decode cX9_carry 21 = .ok (.return_, 1) := op_177 (rdSeg sd_05_cX9_carry_0 21 rfl rfl)
def sg_05_cX9_isThing_0 : List UInt8 := [0x1b, 0x03, 0x2a, 0xb4, 0x00, 0x07, 0x03, 0x2e, 0x04, 0x64, 0xb8, 0x00, 0x35, 0xac]
set_option maxRecDepth 100000 in
theorem sd_05_cX9_isThing_0 : cX9_isThing.data.toList.drop 0 = sg_05_cX9_isThing_0 := by decide +kernel
theorem dR_isThing_0 : decode cX9_isThing 0 = .ok (.iload_n 1, 1) := op_27 (rdSeg sd_05_cX9_isThing_0 0 rfl rfl)
theorem dR_isThing_1 : decode cX9_isThing 1 = .ok (.iconst 0, 1) := op_3 (rdSeg sd_05_cX9_isThing_0 1 rfl rfl)
theorem dR_isThing_2 : decode cX9_isThing 2 = .ok (.aload_n 0, 1) := op_42 (rdSeg sd_05_cX9_isThing_0 2 rfl rfl)
theorem dR_isThing_3 : decode cX9_isThing 3 = .ok (.getfield 7, 3) := op_180 (rdSeg sd_05_cX9_isThing_0 3 rfl rfl) (rdSeg sd_05_cX9_isThing_0 4 rfl rfl) (rdSeg sd_05_cX9_isThing_0 5 rfl rfl) rfl
theorem dR_isThing_6 : decode cX9_isThing 6 = .ok (.iconst 0, 1) := op_3 (rdSeg sd_05_cX9_isThing_0 6 rfl rfl)
theorem dR_isThing_7 : decode cX9_isThing 7 = .ok (.iaload, 1) := op_46 (rdSeg sd_05_cX9_isThing_0 7 rfl rfl)
theorem dR_isThing_8 : decode cX9_isThing 8 = .ok (.iconst 1, 1) := op_4 (rdSeg sd_05_cX9_isThing_0 8 rfl rfl)
theorem dR_isThing_9 : decode cX9_isThing 9 = .ok (.isub, 1) := op_100 (rdSeg sd_05_cX9_isThing_0 9 rfl rfl)
theorem dR_isThing_10 : decode cX9_isThing 10 = .ok (.invokestatic 53, 3) := op_184 (rdSeg sd_05_cX9_isThing_0 10 rfl rfl) (rdSeg sd_05_cX9_isThing_0 11 rfl rfl) (rdSeg sd_05_cX9_isThing_0 12 rfl rfl) rfl
theorem dR_isThing_13 : decode cX9_isThing 13 = .ok (.ireturn, 1) := op_172 (rdSeg sd_05_cX9_isThing_0 13 rfl rfl)
def sg_05_cX9_its_0 : List UInt8 := [0x2a, 0xb4, 0x00, 0x07, 0x10, 0x0a, 0x10, 0x0a, 0x1b, 0x68, 0x60, 0x1c, 0x60, 0x2e, 0xac]
set_option maxRecDepth 100000 in
theorem sd_05_cX9_its_0 : cX9_its.data.toList.drop 0 = sg_05_cX9_its_0 := by decide +kernel
theorem dR_its_0 : decode cX9_its 0 = .ok (.aload_n 0, 1) := op_42 (rdSeg sd_05_cX9_its_0 0 rfl rfl)
theorem dR_its_1 : decode cX9_its 1 = .ok (.getfield 7, 3) := op_180 (rdSeg sd_05_cX9_its_0 1 rfl rfl) (rdSeg sd_05_cX9_its_0 2 rfl rfl) (rdSeg sd_05_cX9_its_0 3 rfl rfl) rfl
theorem dR_its_4 : decode cX9_its 4 = .ok (.bipush 10, 2) := op_16 (rdSeg sd_05_cX9_its_0 4 rfl rfl) (rdSeg sd_05_cX9_its_0 5 rfl rfl) (by decide +kernel)
theorem dR_its_6 : decode cX9_its 6 = .ok (.bipush 10, 2) := op_16 (rdSeg sd_05_cX9_its_0 6 rfl rfl) (rdSeg sd_05_cX9_its_0 7 rfl rfl) (by decide +kernel)
theorem dR_its_8 : decode cX9_its 8 = .ok (.iload_n 1, 1) := op_27 (rdSeg sd_05_cX9_its_0 8 rfl rfl)
theorem dR_its_9 : decode cX9_its 9 = .ok (.imul, 1) := op_104 (rdSeg sd_05_cX9_its_0 9 rfl rfl)
theorem dR_its_10 : decode cX9_its 10 = .ok (.iadd, 1) := op_96 (rdSeg sd_05_cX9_its_0 10 rfl rfl)
theorem dR_its_11 : decode cX9_its 11 = .ok (.iload_n 2, 1) := op_28 (rdSeg sd_05_cX9_its_0 11 rfl rfl)
theorem dR_its_12 : decode cX9_its 12 = .ok (.iadd, 1) := op_96 (rdSeg sd_05_cX9_its_0 12 rfl rfl)
theorem dR_its_13 : decode cX9_its 13 = .ok (.iaload, 1) := op_46 (rdSeg sd_05_cX9_its_0 13 rfl rfl)
theorem dR_its_14 : decode cX9_its 14 = .ok (.ireturn, 1) := op_172 (rdSeg sd_05_cX9_its_0 14 rfl rfl)
def sg_05_cX9_lays1_0 : List UInt8 := [0x2a, 0xb4, 0x00, 0x07, 0x10, 0x0a, 0x10, 0x0a, 0x1b, 0x68, 0x60, 0x1c, 0x60, 0x1d, 0x4f, 0xb1]
set_option maxRecDepth 100000 in
theorem sd_05_cX9_lays1_0 : cX9_lays1.data.toList.drop 0 = sg_05_cX9_lays1_0 := by decide +kernel
theorem dR_lays1_0 : decode cX9_lays1 0 = .ok (.aload_n 0, 1) := op_42 (rdSeg sd_05_cX9_lays1_0 0 rfl rfl)
theorem dR_lays1_1 : decode cX9_lays1 1 = .ok (.getfield 7, 3) := op_180 (rdSeg sd_05_cX9_lays1_0 1 rfl rfl) (rdSeg sd_05_cX9_lays1_0 2 rfl rfl) (rdSeg sd_05_cX9_lays1_0 3 rfl rfl) rfl
theorem dR_lays1_4 : decode cX9_lays1 4 = .ok (.bipush 10, 2) := op_16 (rdSeg sd_05_cX9_lays1_0 4 rfl rfl) (rdSeg sd_05_cX9_lays1_0 5 rfl rfl) (by decide +kernel)
theorem dR_lays1_6 : decode cX9_lays1 6 = .ok (.bipush 10, 2) := op_16 (rdSeg sd_05_cX9_lays1_0 6 rfl rfl) (rdSeg sd_05_cX9_lays1_0 7 rfl rfl) (by decide +kernel)
theorem dR_lays1_8 : decode cX9_lays1 8 = .ok (.iload_n 1, 1) := op_27 (rdSeg sd_05_cX9_lays1_0 8 rfl rfl)
theorem dR_lays1_9 : decode cX9_lays1 9 = .ok (.imul, 1) := op_104 (rdSeg sd_05_cX9_lays1_0 9 rfl rfl)
theorem dR_lays1_10 : decode cX9_lays1 10 = .ok (.iadd, 1) := op_96 (rdSeg sd_05_cX9_lays1_0 10 rfl rfl)
theorem dR_lays1_11 : decode cX9_lays1 11 = .ok (.iload_n 2, 1) := op_28 (rdSeg sd_05_cX9_lays1_0 11 rfl rfl)
theorem dR_lays1_12 : decode cX9_lays1 12 = .ok (.iadd, 1) := op_96 (rdSeg sd_05_cX9_lays1_0 12 rfl rfl)
theorem dR_lays1_13 : decode cX9_lays1 13 = .ok (.iload_n 3, 1) := op_29 (rdSeg sd_05_cX9_lays1_0 13 rfl rfl)
theorem dR_lays1_14 : decode cX9_lays1 14 = .ok (.iastore, 1) := op_79 (rdSeg sd_05_cX9_lays1_0 14 rfl rfl)
theorem dR_lays1_15 : decode cX9_lays1 15 = .ok (.return_, 1) := op_177 (rdSeg sd_05_cX9_lays1_0 15 rfl rfl)
def sg_05_cX9_addThing_1 : List UInt8 := [0x10, 0x64, 0x6c, 0xb6, 0x00, 0x39, 0x2a, 0x1c, 0x04, 0x1b, 0x10, 0x64, 0x70, 0xb6, 0x00, 0x39, 0x2a, 0xb4, 0x00, 0x07, 0x03, 0x5c, 0x2e, 0x04, 0x60, 0x4f, 0x1c, 0xac]
def sg_05_cX9_addThing_0 : List UInt8 := 0x2a :: 0xb4 :: 0x00 :: 0x07 :: 0x03 :: 0x2e :: 0x3d :: 0x03 :: 0x3e :: 0x1d :: 0x10 :: 0x0a :: 0xa2 :: 0x00 :: 0x10 :: 0x2a :: 0x1c :: 0x1d :: 0x03 :: 0xb6 :: 0x00 :: 0x39 :: 0x84 :: 0x03 :: 0x01 :: 0xa7 :: 0xff :: 0xf0 :: 0x2a :: 0x1c :: 0x03 :: 0x1b :: sg_05_cX9_addThing_1
set_option maxRecDepth 100000 in
theorem sd_05_cX9_addThing_0 : cX9_addThing.data.toList.drop 0 = sg_05_cX9_addThing_0 := by decide +kernel
theorem sd_05_cX9_addThing_1 : cX9_addThing.data.toList.drop 32 = sg_05_cX9_addThing_1 := sg_next sd_05_cX9_addThing_0 rfl
theorem dR_addThing_0 : decode cX9_addThing 0 = .ok (.aload_n 0, 1) := op_42 (rdSeg sd_05_cX9_addThing_0 0 rfl rfl)
theorem dR_addThing_1 : decode cX9_addThing 1 = .ok (.getfield 7, 3) := op_180 (rdSeg sd_05_cX9_addThing_0 1 rfl rfl) (rdSeg sd_05_cX9_addThing_0 2 rfl rfl) (rdSeg sd_05_cX9_addThing_0 3 rfl rfl) rfl
theorem dR_addThing_4 : decode cX9_addThing 4 = .ok (.iconst 0, 1) := op_3 (rdSeg sd_05_cX9_addThing_0 4 rfl rfl)
theorem dR_addThing_5 : decode cX9_addThing 5 = .ok (.iaload, 1) := op_46 (rdSeg sd_05_cX9_addThing_0 5 rfl rfl)
theorem dR_addThing_6 : decode cX9_addThing 6 = .ok (.istore_n 2, 1) := op_61 (rdSeg sd_05_cX9_addThing_0 6 rfl rfl)
theorem dR_addThing_7 : decode cX9_addThing 7 = .ok (.iconst 0, 1) := op_3 (rdSeg sd_05_cX9_addThing_0 7 rfl rfl)
theorem dR_addThing_8 : decode cX9_addThing 8 = .ok (.istore_n 3, 1) := op_62 (rdSeg sd_05_cX9_addThing_0 8 rfl rfl)
theorem dR_addThing_9 : decode cX9_addThing 9 = .ok (.iload_n 3, 1) := op_29 (rdSeg sd_05_cX9_addThing_0 9 rfl rfl)
theorem dR_addThing_10 : decode cX9_addThing 10 = .ok (.bipush 10, 2) := op_16 (rdSeg sd_05_cX9_addThing_0 10 rfl rfl) (rdSeg sd_05_cX9_addThing_0 11 rfl rfl) (by decide +kernel)
theorem dR_addThing_12 : decode cX9_addThing 12 = .ok (.if_icmp .ge 16, 3) := op_162 (rdSeg sd_05_cX9_addThing_0 12 rfl rfl) (rdSeg sd_05_cX9_addThing_0 13 rfl rfl) (rdSeg sd_05_cX9_addThing_0 14 rfl rfl) (by decide +kernel)
theorem dR_addThing_15 : decode cX9_addThing 15 = .ok (.aload_n 0, 1) := op_42 (rdSeg sd_05_cX9_addThing_0 15 rfl rfl)
theorem dR_addThing_16 : decode cX9_addThing 16 = .ok (.iload_n 2, 1) := op_28 (rdSeg sd_05_cX9_addThing_0 16 rfl rfl)
theorem dR_addThing_17 : decode cX9_addThing 17 = .ok (.iload_n 3, 1) := op_29 (rdSeg sd_05_cX9_addThing_0 17 rfl rfl)
theorem dR_addThing_18 : decode cX9_addThing 18 = .ok (.iconst 0, 1) := op_3 (rdSeg sd_05_cX9_addThing_0 18 rfl rfl)
theorem dR_addThing_19 : decode cX9_addThing 19 = .ok (.invokevirtual 57, 3) := op_182 (rdSeg sd_05_cX9_addThing_0 19 rfl rfl) (rdSeg sd_05_cX9_addThing_0 20 rfl rfl) (rdSeg sd_05_cX9_addThing_0 21 rfl rfl) rfl
theorem dR_addThing_22 : decode cX9_addThing 22 = .ok (.iinc 3 1, 3) := op_132 (rdSeg sd_05_cX9_addThing_0 22 rfl rfl) (rdSeg sd_05_cX9_addThing_0 23 rfl rfl) (rdSeg sd_05_cX9_addThing_0 24 rfl rfl) (by decide +kernel)
theorem dR_addThing_25 : decode cX9_addThing 25 = .ok (.goto (-16), 3) := op_167 (rdSeg sd_05_cX9_addThing_0 25 rfl rfl) (rdSeg sd_05_cX9_addThing_0 26 rfl rfl) (rdSeg sd_05_cX9_addThing_0 27 rfl rfl) (by decide +kernel)
theorem dR_addThing_28 : decode cX9_addThing 28 = .ok (.aload_n 0, 1) := op_42 (rdSeg sd_05_cX9_addThing_0 28 rfl rfl)
theorem dR_addThing_29 : decode cX9_addThing 29 = .ok (.iload_n 2, 1) := op_28 (rdSeg sd_05_cX9_addThing_0 29 rfl rfl)
theorem dR_addThing_30 : decode cX9_addThing 30 = .ok (.iconst 0, 1) := op_3 (rdSeg sd_05_cX9_addThing_0 30 rfl rfl)
theorem dR_addThing_31 : decode cX9_addThing 31 = .ok (.iload_n 1, 1) := op_27 (rdSeg sd_05_cX9_addThing_0 31 rfl rfl)
theorem dR_addThing_32 : decode cX9_addThing 32 = .ok (.bipush 100, 2) := op_16 (rdSeg sd_05_cX9_addThing_1 0 rfl rfl) (rdSeg sd_05_cX9_addThing_1 1 rfl rfl) (by decide +kernel)
theorem dR_addThing_34 : decode cX9_addThing 34 = .ok (.idiv, 1) := op_108 (rdSeg sd_05_cX9_addThing_1 2 rfl rfl)
theorem dR_addThing_35 : decode cX9_addThing 35 = .ok (.invokevirtual 57, 3) := op_182 (rdSeg sd_05_cX9_addThing_1 3 rfl rfl) (rdSeg sd_05_cX9_addThing_1 4 rfl rfl) (rdSeg sd_05_cX9_addThing_1 5 rfl rfl) rfl
theorem dR_addThing_38 : decode cX9_addThing 38 = .ok (.aload_n 0, 1) := op_42 (rdSeg sd_05_cX9_addThing_1 6 rfl rfl)
theorem dR_addThing_39 : decode cX9_addThing 39 = .ok (.iload_n 2, 1) := op_28 (rdSeg sd_05_cX9_addThing_1 7 rfl rfl)
theorem dR_addThing_40 : decode cX9_addThing 40 = .ok (.iconst 1, 1) := op_4 (rdSeg sd_05_cX9_addThing_1 8 rfl rfl)
theorem dR_addThing_41 : decode cX9_addThing 41 = .ok (.iload_n 1, 1) := op_27 (rdSeg sd_05_cX9_addThing_1 9 rfl rfl)
theorem dR_addThing_42 : decode cX9_addThing 42 = .ok (.bipush 100, 2) := op_16 (rdSeg sd_05_cX9_addThing_1 10 rfl rfl) (rdSeg sd_05_cX9_addThing_1 11 rfl rfl) (by decide +kernel)
theorem dR_addThing_44 : decode cX9_addThing 44 = .ok (.irem, 1) := op_112 (rdSeg sd_05_cX9_addThing_1 12 rfl rfl)
theorem dR_addThing_45 : decode cX9_addThing 45 = .ok (.invokevirtual 57, 3) := op_182 (rdSeg sd_05_cX9_addThing_1 13 rfl rfl) (rdSeg sd_05_cX9_addThing_1 14 rfl rfl) (rdSeg sd_05_cX9_addThing_1 15 rfl rfl) rfl
theorem dR_addThing_48 : decode cX9_addThing 48 = .ok (.aload_n 0, 1) := op_42 (rdSeg sd_05_cX9_addThing_1 16 rfl rfl)
theorem dR_addThing_49 : decode cX9_addThing 49 = .ok (.getfield 7, 3) := op_180 (rdSeg sd_05_cX9_addThing_1 17 rfl rfl) (rdSeg sd_05_cX9_addThing_1 18 rfl rfl) (rdSeg sd_05_cX9_addThing_1 19 rfl rfl) rfl
theorem dR_addThing_52 : decode cX9_addThing 52 = .ok (.iconst 0, 1) := op_3 (rdSeg sd_05_cX9_addThing_1 20 rfl rfl)
theorem dR_addThing_53 : decode cX9_addThing 53 = .ok (.dup2, 1) := op_92 (rdSeg sd_05_cX9_addThing_1 21 rfl rfl)
theorem dR_addThing_54 : decode cX9_addThing 54 = .ok (.iaload, 1) := op_46 (rdSeg sd_05_cX9_addThing_1 22 rfl rfl)
theorem dR_addThing_55 : decode cX9_addThing 55 = .ok (.iconst 1, 1) := op_4 (rdSeg sd_05_cX9_addThing_1 23 rfl rfl)
theorem dR_addThing_56 : decode cX9_addThing 56 = .ok (.iadd, 1) := op_96 (rdSeg sd_05_cX9_addThing_1 24 rfl rfl)
theorem dR_addThing_57 : decode cX9_addThing 57 = .ok (.iastore, 1) := op_79 (rdSeg sd_05_cX9_addThing_1 25 rfl rfl)
theorem dR_addThing_58 : decode cX9_addThing 58 = .ok (.iload_n 2, 1) := op_28 (rdSeg sd_05_cX9_addThing_1 26 rfl rfl)
theorem dR_addThing_59 : decode cX9_addThing 59 = .ok (.ireturn, 1) := op_172 (rdSeg sd_05_cX9_addThing_1 27 rfl rfl)
def sg_05_cX9_thing_2 : List UInt8 := [0xa2, 0x00, 0x1d, 0x2a, 0x1d, 0x10, 0x06, 0x2a, 0xb4, 0x00, 0x07, 0x04, 0x2e, 0x60, 0x12, 0x45, 0xb6, 0x00, 0x39, 0x2a, 0xb4, 0x00, 0x07, 0x04, 0x5c, 0x2e, 0x04, 0x60, 0x4f, 0x1d, 0xac]
def sg_05_cX9_thing_1 : List UInt8 := 0x2e :: 0x10 :: 0x0c :: 0xa0 :: 0x00 :: 0x09 :: 0x2a :: 0x07 :: 0xb6 :: 0x00 :: 0x3e :: 0xac :: 0x2a :: 0x1b :: 0xb6 :: 0x00 :: 0x42 :: 0x3e :: 0x2a :: 0x1d :: 0x05 :: 0x1c :: 0xb6 :: 0x00 :: 0x39 :: 0x2a :: 0xb4 :: 0x00 :: 0x07 :: 0x04 :: 0x2e :: 0x07 :: sg_05_cX9_thing_2
def sg_05_cX9_thing_0 : List UInt8 := 0x1b :: 0x03 :: 0x11 :: 0x02 :: 0xbb :: 0xb8 :: 0x00 :: 0x35 :: 0x99 :: 0x00 :: 0x0d :: 0x1c :: 0x03 :: 0x12 :: 0x3d :: 0xb8 :: 0x00 :: 0x35 :: 0x9a :: 0x00 :: 0x09 :: 0x2a :: 0x04 :: 0xb6 :: 0x00 :: 0x3e :: 0xac :: 0x2a :: 0xb4 :: 0x00 :: 0x07 :: 0x03 :: sg_05_cX9_thing_1
set_option maxRecDepth 100000 in
theorem sd_05_cX9_thing_0 : cX9_thing.data.toList.drop 0 = sg_05_cX9_thing_0 := by decide +kernel
theorem sd_05_cX9_thing_1 : cX9_thing.data.toList.drop 32 = sg_05_cX9_thing_1 := sg_next sd_05_cX9_thing_0 rfl
theorem sd_05_cX9_thing_2 : cX9_thing.data.toList.drop 64 = sg_05_cX9_thing_2 := sg_next sd_05_cX9_thing_1 rfl
theorem dR_thing_0 : decode cX9_thing 0 = .ok (.iload_n 1, 1) := op_27 (rdSeg sd_05_cX9_thing_0 0 rfl rfl)
theorem dR_thing_1 : decode cX9_thing 1 = .ok (.iconst 0, 1) := op_3 (rdSeg sd_05_cX9_thing_0 1 rfl rfl)
theorem dR_thing_2 : decode cX9_thing 2 = .ok (.sipush 699, 3) := op_17 (rdSeg sd_05_cX9_thing_0 2 rfl rfl) (rdSeg sd_05_cX9_thing_0 3 rfl rfl) (rdSeg sd_05_cX9_thing_0 4 rfl rfl) (by decide +kernel)
theorem dR_thing_5 : decode cX9_thing 5 = .ok (.invokestatic 53, 3) := op_184 (rdSeg sd_05_cX9_thing_0 5 rfl rfl) (rdSeg sd_05_cX9_thing_0 6 rfl rfl) (rdSeg sd_05_cX9_thing_0 7 rfl rfl) rfl
theorem dR_thing_8 : decode cX9_thing 8 = .ok (.ifCond .eq 13, 3) := op_153 (rdSeg sd_05_cX9_thing_0 8 rfl rfl) (rdSeg sd_05_cX9_thing_0 9 rfl rfl) (rdSeg sd_05_cX9_thing_0 10 rfl rfl) (by decide +kernel)
theorem dR_thing_11 : decode cX9_thing 11 = .ok (.iload_n 2, 1) := op_28 (rdSeg sd_05_cX9_thing_0 11 rfl rfl)
theorem dR_thing_12 : decode cX9_thing 12 = .ok (.iconst 0, 1) := op_3 (rdSeg sd_05_cX9_thing_0 12 rfl rfl)
theorem dR_thing_13 : decode cX9_thing 13 = .ok (.ldc 61, 2) := op_18 (rdSeg sd_05_cX9_thing_0 13 rfl rfl) (rdSeg sd_05_cX9_thing_0 14 rfl rfl)
theorem dR_thing_15 : decode cX9_thing 15 = .ok (.invokestatic 53, 3) := op_184 (rdSeg sd_05_cX9_thing_0 15 rfl rfl) (rdSeg sd_05_cX9_thing_0 16 rfl rfl) (rdSeg sd_05_cX9_thing_0 17 rfl rfl) rfl
theorem dR_thing_18 : decode cX9_thing 18 = .ok (.ifCond .ne 9, 3) := op_154 (rdSeg sd_05_cX9_thing_0 18 rfl rfl) (rdSeg sd_05_cX9_thing_0 19 rfl rfl) (rdSeg sd_05_cX9_thing_0 20 rfl rfl) (by decide +kernel)
theorem dR_thing_21 : decode cX9_thing 21 = .ok (.aload_n 0, 1) := op_42 (rdSeg sd_05_cX9_thing_0 21 rfl rfl)
theorem dR_thing_22 : decode cX9_thing 22 = .ok (.iconst 1, 1) := op_4 (rdSeg sd_05_cX9_thing_0 22 rfl rfl)
theorem dR_thing_23 : decode cX9_thing 23 = .ok (.invokevirtual 62, 3) := op_182 (rdSeg sd_05_cX9_thing_0 23 rfl rfl) (rdSeg sd_05_cX9_thing_0 24 rfl rfl) (rdSeg sd_05_cX9_thing_0 25 rfl rfl) rfl
theorem dR_thing_26 : decode cX9_thing 26 = .ok (.ireturn, 1) := op_172 (rdSeg sd_05_cX9_thing_0 26 rfl rfl)
theorem dR_thing_27 : decode cX9_thing 27 = .ok (.aload_n 0, 1) := op_42 (rdSeg sd_05_cX9_thing_0 27 rfl rfl)
theorem dR_thing_28 : decode cX9_thing 28 = .ok (.getfield 7, 3) := op_180 (rdSeg sd_05_cX9_thing_0 28 rfl rfl) (rdSeg sd_05_cX9_thing_0 29 rfl rfl) (rdSeg sd_05_cX9_thing_0 30 rfl rfl) rfl
theorem dR_thing_31 : decode cX9_thing 31 = .ok (.iconst 0, 1) := op_3 (rdSeg sd_05_cX9_thing_0 31 rfl rfl)
theorem dR_thing_32 : decode cX9_thing 32 = .ok (.iaload, 1) := op_46 (rdSeg sd_05_cX9_thing_1 0 rfl rfl)
theorem dR_thing_33 : decode cX9_thing 33 = .ok (.bipush 12, 2) := op_16 (rdSeg sd_05_cX9_thing_1 1 rfl rfl) (rdSeg sd_05_cX9_thing_1 2 rfl rfl) (by decide +kernel)
theorem dR_thing_35 : decode cX9_thing 35 = .ok (.if_icmp .ne 9, 3) := op_160 (rdSeg sd_05_cX9_thing_1 3 rfl rfl) (rdSeg sd_05_cX9_thing_1 4 rfl rfl) (rdSeg sd_05_cX9_thing_1 5 rfl rfl) (by decide +kernel)
theorem dR_thing_38 : decode cX9_thing 38 = .ok (.aload_n 0, 1) := op_42 (rdSeg sd_05_cX9_thing_1 6 rfl rfl)
theorem dR_thing_39 : decode cX9_thing 39 = .ok (.iconst 4, 1) := op_7 (rdSeg sd_05_cX9_thing_1 7 rfl rfl)
theorem dR_thing_40 : decode cX9_thing 40 = .ok (.invokevirtual 62, 3) := op_182 (rdSeg sd_05_cX9_thing_1 8 rfl rfl) (rdSeg sd_05_cX9_thing_1 9 rfl rfl) (rdSeg sd_05_cX9_thing_1 10 rfl rfl) rfl
theorem dR_thing_43 : decode cX9_thing 43 = .ok (.ireturn, 1) := op_172 (rdSeg sd_05_cX9_thing_1 11 rfl rfl)
theorem dR_thing_44 : decode cX9_thing 44 = .ok (.aload_n 0, 1) := op_42 (rdSeg sd_05_cX9_thing_1 12 rfl rfl)
theorem dR_thing_45 : decode cX9_thing 45 = .ok (.iload_n 1, 1) := op_27 (rdSeg sd_05_cX9_thing_1 13 rfl rfl)
theorem dR_thing_46 : decode cX9_thing 46 = .ok (.invokevirtual 66, 3) := op_182 (rdSeg sd_05_cX9_thing_1 14 rfl rfl) (rdSeg sd_05_cX9_thing_1 15 rfl rfl) (rdSeg sd_05_cX9_thing_1 16 rfl rfl) rfl
theorem dR_thing_49 : decode cX9_thing 49 = .ok (.istore_n 3, 1) := op_62 (rdSeg sd_05_cX9_thing_1 17 rfl rfl)
theorem dR_thing_50 : decode cX9_thing 50 = .ok (.aload_n 0, 1) := op_42 (rdSeg sd_05_cX9_thing_1 18 rfl rfl)
theorem dR_thing_51 : decode cX9_thing 51 = .ok (.iload_n 3, 1) := op_29 (rdSeg sd_05_cX9_thing_1 19 rfl rfl)
theorem dR_thing_52 : decode cX9_thing 52 = .ok (.iconst 2, 1) := op_5 (rdSeg sd_05_cX9_thing_1 20 rfl rfl)
theorem dR_thing_53 : decode cX9_thing 53 = .ok (.iload_n 2, 1) := op_28 (rdSeg sd_05_cX9_thing_1 21 rfl rfl)
theorem dR_thing_54 : decode cX9_thing 54 = .ok (.invokevirtual 57, 3) := op_182 (rdSeg sd_05_cX9_thing_1 22 rfl rfl) (rdSeg sd_05_cX9_thing_1 23 rfl rfl) (rdSeg sd_05_cX9_thing_1 24 rfl rfl) rfl
theorem dR_thing_57 : decode cX9_thing 57 = .ok (.aload_n 0, 1) := op_42 (rdSeg sd_05_cX9_thing_1 25 rfl rfl)
theorem dR_thing_58 : decode cX9_thing 58 = .ok (.getfield 7, 3) := op_180 (rdSeg sd_05_cX9_thing_1 26 rfl rfl) (rdSeg sd_05_cX9_thing_1 27 rfl rfl) (rdSeg sd_05_cX9_thing_1 28 rfl rfl) rfl
theorem dR_thing_61 : decode cX9_thing 61 = .ok (.iconst 1, 1) := op_4 (rdSeg sd_05_cX9_thing_1 29 rfl rfl)
theorem dR_thing_62 : decode cX9_thing 62 = .ok (.iaload, 1) := op_46 (rdSeg sd_05_cX9_thing_1 30 rfl rfl)
theorem dR_thing_63 : decode cX9_thing 63 = .ok (.iconst 4, 1) := op_7 (rdSeg sd_05_cX9_thing_1 31 rfl rfl)
theorem dR_thing_64 : decode cX9_thing 64 = .ok (.if_icmp .ge 29, 3) := op_162 (rdSeg sd_05_cX9_thing_2 0 rfl rfl) (rdSeg sd_05_cX9_thing_2 1 rfl rfl) (rdSeg sd_05_cX9_thing_2 2 rfl rfl) (by decide +kernel)
theorem dR_thing_67 : decode cX9_thing 67 = .ok (.aload_n 0, 1) := op_42 (rdSeg sd_05_cX9_thing_2 3 rfl rfl)
theorem dR_thing_68 : decode cX9_thing 68 = .ok (.iload_n 3, 1) := op_29 (rdSeg sd_05_cX9_thing_2 4 rfl rfl)
theorem dR_thing_69 : decode cX9_thing 69 = .ok (.bipush 6, 2) := op_16 (rdSeg sd_05_cX9_thing_2 5 rfl rfl) (rdSeg sd_05_cX9_thing_2 6 rfl rfl) (by decide +kernel)
theorem dR_thing_71 : decode cX9_thing 71 = .ok (.aload_n 0, 1) := op_42 (rdSeg sd_05_cX9_thing_2 7 rfl rfl)
theorem dR_thing_72 : decode cX9_thing 72 = .ok (.getfield 7, 3) := op_180 (rdSeg sd_05_cX9_thing_2 8 rfl rfl) (rdSeg sd_05_cX9_thing_2 9 rfl rfl) (rdSeg sd_05_cX9_thing_2 10 rfl rfl) rfl
theorem dR_thing_75 : decode cX9_thing 75 = .ok (.iconst 1, 1) := op_4 (rdSeg sd_05_cX9_thing_2 11 rfl rfl)
theorem dR_thing_76 : decode cX9_thing 76 = .ok (.iaload, 1) := op_46 (rdSeg sd_05_cX9_thing_2 12 rfl rfl)
theorem dR_thing_77 : decode cX9_thing 77 = .ok (.iadd, 1) := op_96 (rdSeg sd_05_cX9_thing_2 13 rfl rfl)
theorem dR_thing_78 : decode cX9_thing 78 = .ok (.ldc 69, 2) := op_18 (rdSeg sd_05_cX9_thing_2 14 rfl rfl) (rdSeg sd_05_cX9_thing_2 15 rfl rfl)
theorem dR_thing_80 : decode cX9_thing 80 = .ok (.invokevirtual 57, 3) := op_182 (rdSeg sd_05_cX9_thing_2 16 rfl rfl) (rdSeg sd_05_cX9_thing_2 17 rfl rfl) (rdSeg sd_05_cX9_thing_2 18 rfl rfl) rfl
theorem dR_thing_83 : decode cX9_thing 83 = .ok (.aload_n 0, 1) := op_42 (rdSeg sd_05_cX9_thing_2 19 rfl rfl)
theorem dR_thing_84 : decode cX9_thing 84 = .ok (.getfield 7, 3) := op_180 (rdSeg sd_05_cX9_thing_2 20 rfl rfl) (rdSeg sd_05_cX9_thing_2 21 rfl rfl) (rdSeg sd_05_cX9_thing_2 22 rfl rfl) rfl
theorem dR_thing_87 : decode cX9_thing 87 = .ok (.iconst 1, 1) := op_4 (rdSeg sd_05_cX9_thing_2 23 rfl rfl)
theorem dR_thing_88 : decode cX9_thing 88 = .ok (.dup2, 1) := op_92 (rdSeg sd_05_cX9_thing_2 24 rfl rfl)
theorem dR_thing_89 : decode cX9_thing 89 = .ok (.iaload, 1) := op_46 (rdSeg sd_05_cX9_thing_2 25 rfl rfl)
theorem dR_thing_90 : decode cX9_thing 90 = .ok (.iconst 1, 1) := op_4 (rdSeg sd_05_cX9_thing_2 26 rfl rfl)
theorem dR_thing_91 : decode cX9_thing 91 = .ok (.iadd, 1) := op_96 (rdSeg sd_05_cX9_thing_2 27 rfl rfl)
theorem dR_thing_92 : decode cX9_thing 92 = .ok (.iastore, 1) := op_79 (rdSeg sd_05_cX9_thing_2 28 rfl rfl)
theorem dR_thing_93 : decode cX9_thing 93 = .ok (.iload_n 3, 1) := op_29 (rdSeg sd_05_cX9_thing_2 29 rfl rfl)
theorem dR_thing_94 : decode cX9_thing 94 = .ok (.ireturn, 1) := op_172 (rdSeg sd_05_cX9_thing_2 30 rfl rfl)
def sg_05_cX9_told1_0 : List UInt8 := [0x1c, 0x10, 0x0a, 0xa0, 0x00, 0x0b, 0x2a, 0x1b, 0xb6, 0x00, 0x46, 0xa7, 0x00, 0x09, 0x2a, 0x1b, 0x1c, 0xb6, 0x00, 0x49, 0xac]
set_option maxRecDepth 100000 in
theorem sd_05_cX9_told1_0 : cX9_told1.data.toList.drop 0 = sg_05_cX9_told1_0 := by decide +kernel
theorem dR_told1_0 : decode cX9_told1 0 = .ok (.iload_n 2, 1) := op_28 (rdSeg sd_05_cX9_told1_0 0 rfl rfl)
theorem dR_told1_1 : decode cX9_told1 1 = .ok (.bipush 10, 2) := op_16 (rdSeg sd_05_cX9_told1_0 1 rfl rfl) (rdSeg sd_05_cX9_told1_0 2 rfl rfl) (by decide +kernel)
theorem dR_told1_3 : decode cX9_told1 3 = .ok (.if_icmp .ne 11, 3) := op_160 (rdSeg sd_05_cX9_told1_0 3 rfl rfl) (rdSeg sd_05_cX9_told1_0 4 rfl rfl) (rdSeg sd_05_cX9_told1_0 5 rfl rfl) (by decide +kernel)
theorem dR_told1_6 : decode cX9_told1 6 = .ok (.aload_n 0, 1) := op_42 (rdSeg sd_05_cX9_told1_0 6 rfl rfl)
theorem dR_told1_7 : decode cX9_told1 7 = .ok (.iload_n 1, 1) := op_27 (rdSeg sd_05_cX9_told1_0 7 rfl rfl)
theorem dR_told1_8 : decode cX9_told1 8 = .ok (.invokevirtual 70, 3) := op_182 (rdSeg sd_05_cX9_told1_0 8 rfl rfl) (rdSeg sd_05_cX9_told1_0 9 rfl rfl) (rdSeg sd_05_cX9_told1_0 10 rfl rfl) rfl
theorem dR_told1_11 : decode cX9_told1 11 = .ok (.goto 9, 3) := op_167 (rdSeg sd_05_cX9_told1_0 11 rfl rfl) (rdSeg sd_05_cX9_told1_0 12 rfl rfl) (rdSeg sd_05_cX9_told1_0 13 rfl rfl) (by decide +kernel)
theorem dR_told1_14 : decode cX9_told1 14 = .ok (.aload_n 0, 1) := op_42 (rdSeg sd_05_cX9_told1_0 14 rfl rfl)
theorem dR_told1_15 : decode cX9_told1 15 = .ok (.iload_n 1, 1) := op_27 (rdSeg sd_05_cX9_told1_0 15 rfl rfl)
theorem dR_told1_16 : decode cX9_told1 16 = .ok (.iload_n 2, 1) := op_28 (rdSeg sd_05_cX9_told1_0 16 rfl rfl)
theorem dR_told1_17 : decode cX9_told1 17 = .ok (.invokevirtual 73, 3) := op_182 (rdSeg sd_05_cX9_told1_0 17 rfl rfl) (rdSeg sd_05_cX9_told1_0 18 rfl rfl) (rdSeg sd_05_cX9_told1_0 19 rfl rfl) rfl
theorem dR_told1_20 : decode cX9_told1 20 = .ok (.ireturn, 1) := op_172 (rdSeg sd_05_cX9_told1_0 20 rfl rfl)
def sg_05_cX9_thingIs_1 : List UInt8 := [0xac]
def sg_05_cX9_thingIs_0 : List UInt8 := 0x2a :: 0x1b :: 0xb6 :: 0x00 :: 0x4d :: 0x99 :: 0x00 :: 0x16 :: 0x1c :: 0x03 :: 0x10 :: 0x0a :: 0xb8 :: 0x00 :: 0x35 :: 0x99 :: 0x00 :: 0x0c :: 0x2a :: 0x1b :: 0x1c :: 0xb6 :: 0x00 :: 0x51 :: 0xa7 :: 0x00 :: 0x08 :: 0x2a :: 0x04 :: 0xb6 :: 0x00 :: 0x3e :: sg_05_cX9_thingIs_1
set_option maxRecDepth 100000 in
theorem sd_05_cX9_thingIs_0 : cX9_thingIs.data.toList.drop 0 = sg_05_cX9_thingIs_0 := by decide +kernel
theorem sd_05_cX9_thingIs_1 : cX9_thingIs.data.toList.drop 32 = sg_05_cX9_thingIs_1 := sg_next sd_05_cX9_thingIs_0 rfl
theorem dR_thingIs_0 : decode cX9_thingIs 0 = .ok (.aload_n 0, 1) := op_42 (rdSeg sd_05_cX9_thingIs_0 0 rfl rfl)
theorem dR_thingIs_1 : decode cX9_thingIs 1 = .ok (.iload_n 1, 1) := op_27 (rdSeg sd_05_cX9_thingIs_0 1 rfl rfl)
theorem dR_thingIs_2 : decode cX9_thingIs 2 = .ok (.invokevirtual 77, 3) := op_182 (rdSeg sd_05_cX9_thingIs_0 2 rfl rfl) (rdSeg sd_05_cX9_thingIs_0 3 rfl rfl) (rdSeg sd_05_cX9_thingIs_0 4 rfl rfl) rfl
theorem dR_thingIs_5 : decode cX9_thingIs 5 = .ok (.ifCond .eq 22, 3) := op_153 (rdSeg sd_05_cX9_thingIs_0 5 rfl rfl) (rdSeg sd_05_cX9_thingIs_0 6 rfl rfl) (rdSeg sd_05_cX9_thingIs_0 7 rfl rfl) (by decide +kernel)
theorem dR_thingIs_8 : decode cX9_thingIs 8 = .ok (.iload_n 2, 1) := op_28 (rdSeg sd_05_cX9_thingIs_0 8 rfl rfl)
theorem dR_thingIs_9 : decode cX9_thingIs 9 = .ok (.iconst 0, 1) := op_3 (rdSeg sd_05_cX9_thingIs_0 9 rfl rfl)
theorem dR_thingIs_10 : decode cX9_thingIs 10 = .ok (.bipush 10, 2) := op_16 (rdSeg sd_05_cX9_thingIs_0 10 rfl rfl) (rdSeg sd_05_cX9_thingIs_0 11 rfl rfl) (by decide +kernel)
theorem dR_thingIs_12 : decode cX9_thingIs 12 = .ok (.invokestatic 53, 3) := op_184 (rdSeg sd_05_cX9_thingIs_0 12 rfl rfl) (rdSeg sd_05_cX9_thingIs_0 13 rfl rfl) (rdSeg sd_05_cX9_thingIs_0 14 rfl rfl) rfl
theorem dR_thingIs_15 : decode cX9_thingIs 15 = .ok (.ifCond .eq 12, 3) := op_153 (rdSeg sd_05_cX9_thingIs_0 15 rfl rfl) (rdSeg sd_05_cX9_thingIs_0 16 rfl rfl) (rdSeg sd_05_cX9_thingIs_0 17 rfl rfl) (by decide +kernel)
theorem dR_thingIs_18 : decode cX9_thingIs 18 = .ok (.aload_n 0, 1) := op_42 (rdSeg sd_05_cX9_thingIs_0 18 rfl rfl)
theorem dR_thingIs_19 : decode cX9_thingIs 19 = .ok (.iload_n 1, 1) := op_27 (rdSeg sd_05_cX9_thingIs_0 19 rfl rfl)
theorem dR_thingIs_20 : decode cX9_thingIs 20 = .ok (.iload_n 2, 1) := op_28 (rdSeg sd_05_cX9_thingIs_0 20 rfl rfl)
theorem dR_thingIs_21 : decode cX9_thingIs 21 = .ok (.invokevirtual 81, 3) := op_182 (rdSeg sd_05_cX9_thingIs_0 21 rfl rfl) (rdSeg sd_05_cX9_thingIs_0 22 rfl rfl) (rdSeg sd_05_cX9_thingIs_0 23 rfl rfl) rfl
theorem dR_thingIs_24 : decode cX9_thingIs 24 = .ok (.goto 8, 3) := op_167 (rdSeg sd_05_cX9_thingIs_0 24 rfl rfl) (rdSeg sd_05_cX9_thingIs_0 25 rfl rfl) (rdSeg sd_05_cX9_thingIs_0 26 rfl rfl) (by decide +kernel)
theorem dR_thingIs_27 : decode cX9_thingIs 27 = .ok (.aload_n 0, 1) := op_42 (rdSeg sd_05_cX9_thingIs_0 27 rfl rfl)
theorem dR_thingIs_28 : decode cX9_thingIs 28 = .ok (.iconst 1, 1) := op_4 (rdSeg sd_05_cX9_thingIs_0 28 rfl rfl)
theorem dR_thingIs_29 : decode cX9_thingIs 29 = .ok (.invokevirtual 62, 3) := op_182 (rdSeg sd_05_cX9_thingIs_0 29 rfl rfl) (rdSeg sd_05_cX9_thingIs_0 30 rfl rfl) (rdSeg sd_05_cX9_thingIs_0 31 rfl rfl) rfl
theorem dR_thingIs_32 : decode cX9_thingIs 32 = .ok (.ireturn, 1) := op_172 (rdSeg sd_05_cX9_thingIs_1 0 rfl rfl)
def sg_05_cX9_isUnder_1 : List UInt8 := [0x00, 0x0d, 0x1a, 0x10, 0x06, 0xa0, 0x00, 0x07, 0x04, 0xa7, 0x00, 0x04, 0x03, 0xac]
def sg_05_cX9_isUnder_0 : List UInt8 := 0x1b :: 0x99 :: 0x00 :: 0x27 :: 0x1a :: 0x1b :: 0x9f :: 0x00 :: 0x22 :: 0x1b :: 0x04 :: 0xa0 :: 0x00 :: 0x08 :: 0x1a :: 0x07 :: 0x9f :: 0x00 :: 0x18 :: 0x1b :: 0x05 :: 0xa0 :: 0x00 :: 0x08 :: 0x1a :: 0x08 :: 0x9f :: 0x00 :: 0x0e :: 0x1b :: 0x06 :: 0xa0 :: sg_05_cX9_isUnder_1
set_option maxRecDepth 100000 in
theorem sd_05_cX9_isUnder_0 : cX9_isUnder.data.toList.drop 0 = sg_05_cX9_isUnder_0 := by decide +kernel
theorem sd_05_cX9_isUnder_1 : cX9_isUnder.data.toList.drop 32 = sg_05_cX9_isUnder_1 := sg_next sd_05_cX9_isUnder_0 rfl
theorem dR_isUnder_0 : decode cX9_isUnder 0 = .ok (.iload_n 1, 1) := op_27 (rdSeg sd_05_cX9_isUnder_0 0 rfl rfl)
theorem dR_isUnder_1 : decode cX9_isUnder 1 = .ok (.ifCond .eq 39, 3) := op_153 (rdSeg sd_05_cX9_isUnder_0 1 rfl rfl) (rdSeg sd_05_cX9_isUnder_0 2 rfl rfl) (rdSeg sd_05_cX9_isUnder_0 3 rfl rfl) (by decide +kernel)
theorem dR_isUnder_4 : decode cX9_isUnder 4 = .ok (.iload_n 0, 1) := op_26 (rdSeg sd_05_cX9_isUnder_0 4 rfl rfl)
theorem dR_isUnder_5 : decode cX9_isUnder 5 = .ok (.iload_n 1, 1) := op_27 (rdSeg sd_05_cX9_isUnder_0 5 rfl rfl)
theorem dR_isUnder_6 : decode cX9_isUnder 6 = .ok (.if_icmp .eq 34, 3) := op_159 (rdSeg sd_05_cX9_isUnder_0 6 rfl rfl) (rdSeg sd_05_cX9_isUnder_0 7 rfl rfl) (rdSeg sd_05_cX9_isUnder_0 8 rfl rfl) (by decide +kernel)
theorem dR_isUnder_9 : decode cX9_isUnder 9 = .ok (.iload_n 1, 1) := op_27 (rdSeg sd_05_cX9_isUnder_0 9 rfl rfl)
theorem dR_isUnder_10 : decode cX9_isUnder 10 = .ok (.iconst 1, 1) := op_4 (rdSeg sd_05_cX9_isUnder_0 10 rfl rfl)
theorem dR_isUnder_11 : decode cX9_isUnder 11 = .ok (.if_icmp .ne 8, 3) := op_160 (rdSeg sd_05_cX9_isUnder_0 11 rfl rfl) (rdSeg sd_05_cX9_isUnder_0 12 rfl rfl) (rdSeg sd_05_cX9_isUnder_0 13 rfl rfl) (by decide +kernel)
theorem dR_isUnder_14 : decode cX9_isUnder 14 = .ok (.iload_n 0, 1) := op_26 (rdSeg sd_05_cX9_isUnder_0 14 rfl rfl)
theorem dR_isUnder_15 : decode cX9_isUnder 15 = .ok (.iconst 4, 1) := op_7 (rdSeg sd_05_cX9_isUnder_0 15 rfl rfl)
theorem dR_isUnder_16 : decode cX9_isUnder 16 = .ok (.if_icmp .eq 24, 3) := op_159 (rdSeg sd_05_cX9_isUnder_0 16 rfl rfl) (rdSeg sd_05_cX9_isUnder_0 17 rfl rfl) (rdSeg sd_05_cX9_isUnder_0 18 rfl rfl) (by decide +kernel)
theorem dR_isUnder_19 : decode cX9_isUnder 19 = .ok (.iload_n 1, 1) := op_27 (rdSeg sd_05_cX9_isUnder_0 19 rfl rfl)
theorem dR_isUnder_20 : decode cX9_isUnder 20 = .ok (.iconst 2, 1) := op_5 (rdSeg sd_05_cX9_isUnder_0 20 rfl rfl)
theorem dR_isUnder_21 : decode cX9_isUnder 21 = .ok (.if_icmp .ne 8, 3) := op_160 (rdSeg sd_05_cX9_isUnder_0 21 rfl rfl) (rdSeg sd_05_cX9_isUnder_0 22 rfl rfl) (rdSeg sd_05_cX9_isUnder_0 23 rfl rfl) (by decide +kernel)
theorem dR_isUnder_24 : decode cX9_isUnder 24 = .ok (.iload_n 0, 1) := op_26 (rdSeg sd_05_cX9_isUnder_0 24 rfl rfl)
theorem dR_isUnder_25 : decode cX9_isUnder 25 = .ok (.iconst 5, 1) := op_8 (rdSeg sd_05_cX9_isUnder_0 25 rfl rfl)
theorem dR_isUnder_26 : decode cX9_isUnder 26 = .ok (.if_icmp .eq 14, 3) := op_159 (rdSeg sd_05_cX9_isUnder_0 26 rfl rfl) (rdSeg sd_05_cX9_isUnder_0 27 rfl rfl) (rdSeg sd_05_cX9_isUnder_0 28 rfl rfl) (by decide +kernel)
theorem dR_isUnder_29 : decode cX9_isUnder 29 = .ok (.iload_n 1, 1) := op_27 (rdSeg sd_05_cX9_isUnder_0 29 rfl rfl)
theorem dR_isUnder_30 : decode cX9_isUnder 30 = .ok (.iconst 3, 1) := op_6 (rdSeg sd_05_cX9_isUnder_0 30 rfl rfl)
theorem dR_isUnder_31 : decode cX9_isUnder 31 = .ok (.if_icmp .ne 13, 3) := op_160 (rdSeg sd_05_cX9_isUnder_0 31 rfl rfl) (rdSeg sd_05_cX9_isUnder_1 0 rfl rfl) (rdSeg sd_05_cX9_isUnder_1 1 rfl rfl) (by decide +kernel)
theorem dR_isUnder_34 : decode cX9_isUnder 34 = .ok (.iload_n 0, 1) := op_26 (rdSeg sd_05_cX9_isUnder_1 2 rfl rfl)
theorem dR_isUnder_35 : decode cX9_isUnder 35 = .ok (.bipush 6, 2) := op_16 (rdSeg sd_05_cX9_isUnder_1 3 rfl rfl) (rdSeg sd_05_cX9_isUnder_1 4 rfl rfl) (by decide +kernel)
theorem dR_isUnder_37 : decode cX9_isUnder 37 = .ok (.if_icmp .ne 7, 3) := op_160 (rdSeg sd_05_cX9_isUnder_1 5 rfl rfl) (rdSeg sd_05_cX9_isUnder_1 6 rfl rfl) (rdSeg sd_05_cX9_isUnder_1 7 rfl rfl) (by decide +kernel)
theorem dR_isUnder_40 : decode cX9_isUnder 40 = .ok (.iconst 1, 1) := op_4 (rdSeg sd_05_cX9_isUnder_1 8 rfl rfl)
theorem dR_isUnder_41 : decode cX9_isUnder 41 = .ok (.goto 4, 3) := op_167 (rdSeg sd_05_cX9_isUnder_1 9 rfl rfl) (rdSeg sd_05_cX9_isUnder_1 10 rfl rfl) (rdSeg sd_05_cX9_isUnder_1 11 rfl rfl) (by decide +kernel)
theorem dR_isUnder_44 : decode cX9_isUnder 44 = .ok (.iconst 0, 1) := op_3 (rdSeg sd_05_cX9_isUnder_1 12 rfl rfl)
theorem dR_isUnder_45 : decode cX9_isUnder 45 = .ok (.ireturn, 1) := op_172 (rdSeg sd_05_cX9_isUnder_1 13 rfl rfl)
def sg_05_cX9_as_1 : List UInt8 := [0x00, 0x54, 0x99, 0x00, 0x0c, 0x2a, 0x1b, 0x05, 0xb6, 0x00, 0x49, 0xa7, 0x00, 0x08, 0x2a, 0x08, 0xb6, 0x00, 0x3e, 0xac]
def sg_05_cX9_as_0 : List UInt8 := 0x2a :: 0x1b :: 0xb6 :: 0x00 :: 0x4d :: 0x99 :: 0x00 :: 0x0d :: 0x1c :: 0x03 :: 0x10 :: 0x06 :: 0xb8 :: 0x00 :: 0x35 :: 0x9a :: 0x00 :: 0x09 :: 0x2a :: 0x04 :: 0xb6 :: 0x00 :: 0x3e :: 0xac :: 0x2a :: 0x1b :: 0x03 :: 0xb6 :: 0x00 :: 0x49 :: 0x1c :: 0xb8 :: sg_05_cX9_as_1
set_option maxRecDepth 100000 in
theorem sd_05_cX9_as_0 : cX9_as.data.toList.drop 0 = sg_05_cX9_as_0 := by decide +kernel
theorem sd_05_cX9_as_1 : cX9_as.data.toList.drop 32 = sg_05_cX9_as_1 := sg_next sd_05_cX9_as_0 rfl
theorem dR_as_0 : decode cX9_as 0 = .ok (.aload_n 0, 1) := op_42 (rdSeg sd_05_cX9_as_0 0 rfl rfl)
theorem dR_as_1 : decode cX9_as 1 = .ok (.iload_n 1, 1) := op_27 (rdSeg sd_05_cX9_as_0 1 rfl rfl)
theorem dR_as_2 : decode cX9_as 2 = .ok (.invokevirtual 77, 3) := op_182 (rdSeg sd_05_cX9_as_0 2 rfl rfl) (rdSeg sd_05_cX9_as_0 3 rfl rfl) (rdSeg sd_05_cX9_as_0 4 rfl rfl) rfl
theorem dR_as_5 : decode cX9_as 5 = .ok (.ifCond .eq 13, 3) := op_153 (rdSeg sd_05_cX9_as_0 5 rfl rfl) (rdSeg sd_05_cX9_as_0 6 rfl rfl) (rdSeg sd_05_cX9_as_0 7 rfl rfl) (by decide +kernel)
theorem dR_as_8 : decode cX9_as 8 = .ok (.iload_n 2, 1) := op_28 (rdSeg sd_05_cX9_as_0 8 rfl rfl)
theorem dR_as_9 : decode cX9_as 9 = .ok (.iconst 0, 1) := op_3 (rdSeg sd_05_cX9_as_0 9 rfl rfl)
theorem dR_as_10 : decode cX9_as 10 = .ok (.bipush 6, 2) := op_16 (rdSeg sd_05_cX9_as_0 10 rfl rfl) (rdSeg sd_05_cX9_as_0 11 rfl rfl) (by decide +kernel)
theorem dR_as_12 : decode cX9_as 12 = .ok (.invokestatic 53, 3) := op_184 (rdSeg sd_05_cX9_as_0 12 rfl rfl) (rdSeg sd_05_cX9_as_0 13 rfl rfl) (rdSeg sd_05_cX9_as_0 14 rfl rfl) rfl
theorem dR_as_15 : decode cX9_as 15 = .ok (.ifCond .ne 9, 3) := op_154 (rdSeg sd_05_cX9_as_0 15 rfl rfl) (rdSeg sd_05_cX9_as_0 16 rfl rfl) (rdSeg sd_05_cX9_as_0 17 rfl rfl) (by decide +kernel)
theorem dR_as_18 : decode cX9_as 18 = .ok (.aload_n 0, 1) := op_42 (rdSeg sd_05_cX9_as_0 18 rfl rfl)
theorem dR_as_19 : decode cX9_as 19 = .ok (.iconst 1, 1) := op_4 (rdSeg sd_05_cX9_as_0 19 rfl rfl)
theorem dR_as_20 : decode cX9_as 20 = .ok (.invokevirtual 62, 3) := op_182 (rdSeg sd_05_cX9_as_0 20 rfl rfl) (rdSeg sd_05_cX9_as_0 21 rfl rfl) (rdSeg sd_05_cX9_as_0 22 rfl rfl) rfl
theorem dR_as_23 : decode cX9_as 23 = .ok (.ireturn, 1) := op_172 (rdSeg sd_05_cX9_as_0 23 rfl rfl)
theorem dR_as_24 : decode cX9_as 24 = .ok (.aload_n 0, 1) := op_42 (rdSeg sd_05_cX9_as_0 24 rfl rfl)
theorem dR_as_25 : decode cX9_as 25 = .ok (.iload_n 1, 1) := op_27 (rdSeg sd_05_cX9_as_0 25 rfl rfl)
theorem dR_as_26 : decode cX9_as 26 = .ok (.iconst 0, 1) := op_3 (rdSeg sd_05_cX9_as_0 26 rfl rfl)
theorem dR_as_27 : decode cX9_as 27 = .ok (.invokevirtual 73, 3) := op_182 (rdSeg sd_05_cX9_as_0 27 rfl rfl) (rdSeg sd_05_cX9_as_0 28 rfl rfl) (rdSeg sd_05_cX9_as_0 29 rfl rfl) rfl
theorem dR_as_30 : decode cX9_as 30 = .ok (.iload_n 2, 1) := op_28 (rdSeg sd_05_cX9_as_0 30 rfl rfl)
theorem dR_as_31 : decode cX9_as 31 = .ok (.invokestatic 84, 3) := op_184 (rdSeg sd_05_cX9_as_0 31 rfl rfl) (rdSeg sd_05_cX9_as_1 0 rfl rfl) (rdSeg sd_05_cX9_as_1 1 rfl rfl) rfl
theorem dR_as_34 : decode cX9_as 34 = .ok (.ifCond .eq 12, 3) := op_153 (rdSeg sd_05_cX9_as_1 2 rfl rfl) (rdSeg sd_05_cX9_as_1 3 rfl rfl) (rdSeg sd_05_cX9_as_1 4 rfl rfl) (by decide +kernel)
theorem dR_as_37 : decode cX9_as 37 = .ok (.aload_n 0, 1) := op_42 (rdSeg sd_05_cX9_as_1 5 rfl rfl)
theorem dR_as_38 : decode cX9_as 38 = .ok (.iload_n 1, 1) := op_27 (rdSeg sd_05_cX9_as_1 6 rfl rfl)
theorem dR_as_39 : decode cX9_as 39 = .ok (.iconst 2, 1) := op_5 (rdSeg sd_05_cX9_as_1 7 rfl rfl)
theorem dR_as_40 : decode cX9_as 40 = .ok (.invokevirtual 73, 3) := op_182 (rdSeg sd_05_cX9_as_1 8 rfl rfl) (rdSeg sd_05_cX9_as_1 9 rfl rfl) (rdSeg sd_05_cX9_as_1 10 rfl rfl) rfl
theorem dR_as_43 : decode cX9_as 43 = .ok (.goto 8, 3) := op_167 (rdSeg sd_05_cX9_as_1 11 rfl rfl) (rdSeg sd_05_cX9_as_1 12 rfl rfl) (rdSeg sd_05_cX9_as_1 13 rfl rfl) (by decide +kernel)
theorem dR_as_46 : decode cX9_as 46 = .ok (.aload_n 0, 1) := op_42 (rdSeg sd_05_cX9_as_1 14 rfl rfl)
theorem dR_as_47 : decode cX9_as 47 = .ok (.iconst 5, 1) := op_8 (rdSeg sd_05_cX9_as_1 15 rfl rfl)
theorem dR_as_48 : decode cX9_as 48 = .ok (.invokevirtual 62, 3) := op_182 (rdSeg sd_05_cX9_as_1 16 rfl rfl) (rdSeg sd_05_cX9_as_1 17 rfl rfl) (rdSeg sd_05_cX9_as_1 18 rfl rfl) rfl
theorem dR_as_51 : decode cX9_as 51 = .ok (.ireturn, 1) := op_172 (rdSeg sd_05_cX9_as_1 19 rfl rfl)
def sg_05_cX9_set_2 : List UInt8 := [0x00, 0x3e, 0xac, 0x2a, 0x1b, 0x1c, 0xb6, 0x00, 0x49, 0x36, 0x04, 0x2a, 0x1b, 0x1c, 0x1d, 0xb6, 0x00, 0x39, 0x15, 0x04, 0xac]
def sg_05_cX9_set_1 : List UInt8 := 0x00 :: 0x08 :: 0x10 :: 0x06 :: 0xa7 :: 0x00 :: 0x13 :: 0x1c :: 0x04 :: 0xa0 :: 0x00 :: 0x08 :: 0x10 :: 0x63 :: 0xa7 :: 0x00 :: 0x09 :: 0x2a :: 0x1b :: 0x05 :: 0xb6 :: 0x00 :: 0x49 :: 0xb8 :: 0x00 :: 0x35 :: 0x9a :: 0x00 :: 0x09 :: 0x2a :: 0x04 :: 0xb6 :: sg_05_cX9_set_2
def sg_05_cX9_set_0 : List UInt8 := 0x2a :: 0x1b :: 0xb6 :: 0x00 :: 0x4d :: 0x99 :: 0x00 :: 0x11 :: 0x1c :: 0x03 :: 0x08 :: 0xb8 :: 0x00 :: 0x35 :: 0x99 :: 0x00 :: 0x08 :: 0x1c :: 0x05 :: 0xa0 :: 0x00 :: 0x09 :: 0x2a :: 0x04 :: 0xb6 :: 0x00 :: 0x3e :: 0xac :: 0x1d :: 0x03 :: 0x1c :: 0x9a :: sg_05_cX9_set_1
set_option maxRecDepth 100000 in
theorem sd_05_cX9_set_0 : cX9_set.data.toList.drop 0 = sg_05_cX9_set_0 := by decide +kernel
theorem sd_05_cX9_set_1 : cX9_set.data.toList.drop 32 = sg_05_cX9_set_1 := sg_next sd_05_cX9_set_0 rfl
theorem sd_05_cX9_set_2 : cX9_set.data.toList.drop 64 = sg_05_cX9_set_2 := sg_next sd_05_cX9_set_1 rfl
theorem dR_set_0 : decode cX9_set 0 = .ok (.aload_n 0, 1) := op_42 (rdSeg sd_05_cX9_set_0 0 rfl rfl)
theorem dR_set_1 : decode cX9_set 1 = .ok (.iload_n 1, 1) := op_27 (rdSeg sd_05_cX9_set_0 1 rfl rfl)
theorem dR_set_2 : decode cX9_set 2 = .ok (.invokevirtual 77, 3) := op_182 (rdSeg sd_05_cX9_set_0 2 rfl rfl) (rdSeg sd_05_cX9_set_0 3 rfl rfl) (rdSeg sd_05_cX9_set_0 4 rfl rfl) rfl
theorem dR_set_5 : decode cX9_set 5 = .ok (.ifCond .eq 17, 3) := op_153 (rdSeg sd_05_cX9_set_0 5 rfl rfl) (rdSeg sd_05_cX9_set_0 6 rfl rfl) (rdSeg sd_05_cX9_set_0 7 rfl rfl) (by decide +kernel)
theorem dR_set_8 : decode cX9_set 8 = .ok (.iload_n 2, 1) := op_28 (rdSeg sd_05_cX9_set_0 8 rfl rfl)
theorem dR_set_9 : decode cX9_set 9 = .ok (.iconst 0, 1) := op_3 (rdSeg sd_05_cX9_set_0 9 rfl rfl)
theorem dR_set_10 : decode cX9_set 10 = .ok (.iconst 5, 1) := op_8 (rdSeg sd_05_cX9_set_0 10 rfl rfl)
theorem dR_set_11 : decode cX9_set 11 = .ok (.invokestatic 53, 3) := op_184 (rdSeg sd_05_cX9_set_0 11 rfl rfl) (rdSeg sd_05_cX9_set_0 12 rfl rfl) (rdSeg sd_05_cX9_set_0 13 rfl rfl) rfl
theorem dR_set_14 : decode cX9_set 14 = .ok (.ifCond .eq 8, 3) := op_153 (rdSeg sd_05_cX9_set_0 14 rfl rfl) (rdSeg sd_05_cX9_set_0 15 rfl rfl) (rdSeg sd_05_cX9_set_0 16 rfl rfl) (by decide +kernel)
theorem dR_set_17 : decode cX9_set 17 = .ok (.iload_n 2, 1) := op_28 (rdSeg sd_05_cX9_set_0 17 rfl rfl)
theorem dR_set_18 : decode cX9_set 18 = .ok (.iconst 2, 1) := op_5 (rdSeg sd_05_cX9_set_0 18 rfl rfl)
theorem dR_set_19 : decode cX9_set 19 = .ok (.if_icmp .ne 9, 3) := op_160 (rdSeg sd_05_cX9_set_0 19 rfl rfl) (rdSeg sd_05_cX9_set_0 20 rfl rfl) (rdSeg sd_05_cX9_set_0 21 rfl rfl) (by decide +kernel)
theorem dR_set_22 : decode cX9_set 22 = .ok (.aload_n 0, 1) := op_42 (rdSeg sd_05_cX9_set_0 22 rfl rfl)
theorem dR_set_23 : decode cX9_set 23 = .ok (.iconst 1, 1) := op_4 (rdSeg sd_05_cX9_set_0 23 rfl rfl)
theorem dR_set_24 : decode cX9_set 24 = .ok (.invokevirtual 62, 3) := op_182 (rdSeg sd_05_cX9_set_0 24 rfl rfl) (rdSeg sd_05_cX9_set_0 25 rfl rfl) (rdSeg sd_05_cX9_set_0 26 rfl rfl) rfl
theorem dR_set_27 : decode cX9_set 27 = .ok (.ireturn, 1) := op_172 (rdSeg sd_05_cX9_set_0 27 rfl rfl)
theorem dR_set_28 : decode cX9_set 28 = .ok (.iload_n 3, 1) := op_29 (rdSeg sd_05_cX9_set_0 28 rfl rfl)
theorem dR_set_29 : decode cX9_set 29 = .ok (.iconst 0, 1) := op_3 (rdSeg sd_05_cX9_set_0 29 rfl rfl)
theorem dR_set_30 : decode cX9_set 30 = .ok (.iload_n 2, 1) := op_28 (rdSeg sd_05_cX9_set_0 30 rfl rfl)
theorem dR_set_31 : decode cX9_set 31 = .ok (.ifCond .ne 8, 3) := op_154 (rdSeg sd_05_cX9_set_0 31 rfl rfl) (rdSeg sd_05_cX9_set_1 0 rfl rfl) (rdSeg sd_05_cX9_set_1 1 rfl rfl) (by decide +kernel)
theorem dR_set_34 : decode cX9_set 34 = .ok (.bipush 6, 2) := op_16 (rdSeg sd_05_cX9_set_1 2 rfl rfl) (rdSeg sd_05_cX9_set_1 3 rfl rfl) (by decide +kernel)
theorem dR_set_36 : decode cX9_set 36 = .ok (.goto 19, 3) := op_167 (rdSeg sd_05_cX9_set_1 4 rfl rfl) (rdSeg sd_05_cX9_set_1 5 rfl rfl) (rdSeg sd_05_cX9_set_1 6 rfl rfl) (by decide +kernel)
theorem dR_set_39 : decode cX9_set 39 = .ok (.iload_n 2, 1) := op_28 (rdSeg sd_05_cX9_set_1 7 rfl rfl)
theorem dR_set_40 : decode cX9_set 40 = .ok (.iconst 1, 1) := op_4 (rdSeg sd_05_cX9_set_1 8 rfl rfl)
theorem dR_set_41 : decode cX9_set 41 = .ok (.if_icmp .ne 8, 3) := op_160 (rdSeg sd_05_cX9_set_1 9 rfl rfl) (rdSeg sd_05_cX9_set_1 10 rfl rfl) (rdSeg sd_05_cX9_set_1 11 rfl rfl) (by decide +kernel)
theorem dR_set_44 : decode cX9_set 44 = .ok (.bipush 99, 2) := op_16 (rdSeg sd_05_cX9_set_1 12 rfl rfl) (rdSeg sd_05_cX9_set_1 13 rfl rfl) (by decide +kernel)
theorem dR_set_46 : decode cX9_set 46 = .ok (.goto 9, 3) := op_167 (rdSeg sd_05_cX9_set_1 14 rfl rfl) (rdSeg sd_05_cX9_set_1 15 rfl rfl) (rdSeg sd_05_cX9_set_1 16 rfl rfl) (by decide +kernel)
theorem dR_set_49 : decode cX9_set 49 = .ok (.aload_n 0, 1) := op_42 (rdSeg sd_05_cX9_set_1 17 rfl rfl)
theorem dR_set_50 : decode cX9_set 50 = .ok (.iload_n 1, 1) := op_27 (rdSeg sd_05_cX9_set_1 18 rfl rfl)
theorem dR_set_51 : decode cX9_set 51 = .ok (.iconst 2, 1) := op_5 (rdSeg sd_05_cX9_set_1 19 rfl rfl)
theorem dR_set_52 : decode cX9_set 52 = .ok (.invokevirtual 73, 3) := op_182 (rdSeg sd_05_cX9_set_1 20 rfl rfl) (rdSeg sd_05_cX9_set_1 21 rfl rfl) (rdSeg sd_05_cX9_set_1 22 rfl rfl) rfl
theorem dR_set_55 : decode cX9_set 55 = .ok (.invokestatic 53, 3) := op_184 (rdSeg sd_05_cX9_set_1 23 rfl rfl) (rdSeg sd_05_cX9_set_1 24 rfl rfl) (rdSeg sd_05_cX9_set_1 25 rfl rfl) rfl
theorem dR_set_58 : decode cX9_set 58 = .ok (.ifCond .ne 9, 3) := op_154 (rdSeg sd_05_cX9_set_1 26 rfl rfl) (rdSeg sd_05_cX9_set_1 27 rfl rfl) (rdSeg sd_05_cX9_set_1 28 rfl rfl) (by decide +kernel)
theorem dR_set_61 : decode cX9_set 61 = .ok (.aload_n 0, 1) := op_42 (rdSeg sd_05_cX9_set_1 29 rfl rfl)
theorem dR_set_62 : decode cX9_set 62 = .ok (.iconst 1, 1) := op_4 (rdSeg sd_05_cX9_set_1 30 rfl rfl)
theorem dR_set_63 : decode cX9_set 63 = .ok (.invokevirtual 62, 3) := op_182 (rdSeg sd_05_cX9_set_1 31 rfl rfl) (rdSeg sd_05_cX9_set_2 0 rfl rfl) (rdSeg sd_05_cX9_set_2 1 rfl rfl) rfl
theorem dR_set_66 : decode cX9_set 66 = .ok (.ireturn, 1) := op_172 (rdSeg sd_05_cX9_set_2 2 rfl rfl)
theorem dR_set_67 : decode cX9_set 67 = .ok (.aload_n 0, 1) := op_42 (rdSeg sd_05_cX9_set_2 3 rfl rfl)
theorem dR_set_68 : decode cX9_set 68 = .ok (.iload_n 1, 1) := op_27 (rdSeg sd_05_cX9_set_2 4 rfl rfl)
theorem dR_set_69 : decode cX9_set 69 = .ok (.iload_n 2, 1) := op_28 (rdSeg sd_05_cX9_set_2 5 rfl rfl)
theorem dR_set_70 : decode cX9_set 70 = .ok (.invokevirtual 73, 3) := op_182 (rdSeg sd_05_cX9_set_2 6 rfl rfl) (rdSeg sd_05_cX9_set_2 7 rfl rfl) (rdSeg sd_05_cX9_set_2 8 rfl rfl) rfl
theorem dR_set_73 : decode cX9_set 73 = .ok (.istore 4, 2) := op_54 (rdSeg sd_05_cX9_set_2 9 rfl rfl) (rdSeg sd_05_cX9_set_2 10 rfl rfl)
theorem dR_set_75 : decode cX9_set 75 = .ok (.aload_n 0, 1) := op_42 (rdSeg sd_05_cX9_set_2 11 rfl rfl)
theorem dR_set_76 : decode cX9_set 76 = .ok (.iload_n 1, 1) := op_27 (rdSeg sd_05_cX9_set_2 12 rfl rfl)
theorem dR_set_77 : decode cX9_set 77 = .ok (.iload_n 2, 1) := op_28 (rdSeg sd_05_cX9_set_2 13 rfl rfl)
theorem dR_set_78 : decode cX9_set 78 = .ok (.iload_n 3, 1) := op_29 (rdSeg sd_05_cX9_set_2 14 rfl rfl)
theorem dR_set_79 : decode cX9_set 79 = .ok (.invokevirtual 57, 3) := op_182 (rdSeg sd_05_cX9_set_2 15 rfl rfl) (rdSeg sd_05_cX9_set_2 16 rfl rfl) (rdSeg sd_05_cX9_set_2 17 rfl rfl) rfl
theorem dR_set_82 : decode cX9_set 82 = .ok (.iload 4, 2) := op_21 (rdSeg sd_05_cX9_set_2 18 rfl rfl) (rdSeg sd_05_cX9_set_2 19 rfl rfl)
theorem dR_set_84 : decode cX9_set 84 = .ok (.ireturn, 1) := op_172 (rdSeg sd_05_cX9_set_2 20 rfl rfl)
def sg_05_cX9_moves_6 : List UInt8 := [0xb8, 0x00, 0x5c, 0xb6, 0x00, 0x39, 0x84, 0x09, 0x01, 0xa7, 0xff, 0xbd, 0x2a, 0x1b, 0x05, 0x2a, 0x1b, 0x05, 0xb6, 0x00, 0x49, 0x16, 0x04, 0x88, 0x64, 0xb6, 0x00, 0x39, 0xb1]
def sg_05_cX9_moves_5 : List UInt8 := 0x15 :: 0x09 :: 0x2a :: 0x1b :: 0x15 :: 0x09 :: 0xb6 :: 0x00 :: 0x49 :: 0x15 :: 0x0a :: 0x64 :: 0xb6 :: 0x00 :: 0x39 :: 0x2a :: 0x1c :: 0x15 :: 0x09 :: 0x2a :: 0x1c :: 0x15 :: 0x09 :: 0xb6 :: 0x00 :: 0x49 :: 0x15 :: 0x0a :: 0x60 :: 0x03 :: 0x15 :: 0x08 :: sg_05_cX9_moves_6
def sg_05_cX9_moves_4 : List UInt8 := 0xb6 :: 0x00 :: 0x39 :: 0x06 :: 0x36 :: 0x09 :: 0x15 :: 0x09 :: 0x08 :: 0xa3 :: 0x00 :: 0x43 :: 0x2a :: 0x1b :: 0x15 :: 0x09 :: 0xb6 :: 0x00 :: 0x49 :: 0x85 :: 0x1d :: 0x85 :: 0x69 :: 0x14 :: 0x00 :: 0x58 :: 0x6d :: 0x88 :: 0x36 :: 0x0a :: 0x2a :: 0x1b :: sg_05_cX9_moves_5
def sg_05_cX9_moves_3 : List UInt8 := 0xbf :: 0x16 :: 0x04 :: 0x16 :: 0x06 :: 0x61 :: 0x14 :: 0x00 :: 0x5a :: 0x94 :: 0x9e :: 0x00 :: 0x09 :: 0x14 :: 0x00 :: 0x5a :: 0xa7 :: 0x00 :: 0x08 :: 0x16 :: 0x04 :: 0x16 :: 0x06 :: 0x61 :: 0x88 :: 0x36 :: 0x08 :: 0x2a :: 0x1c :: 0x05 :: 0x15 :: 0x08 :: sg_05_cX9_moves_4
def sg_05_cX9_moves_2 : List UInt8 := 0x08 :: 0x16 :: 0x04 :: 0x16 :: 0x06 :: 0x61 :: 0x09 :: 0x94 :: 0x9a :: 0x00 :: 0x07 :: 0x03 :: 0xa7 :: 0x00 :: 0x0c :: 0x16 :: 0x09 :: 0x16 :: 0x04 :: 0x16 :: 0x06 :: 0x61 :: 0x6d :: 0x88 :: 0xb6 :: 0x00 :: 0x39 :: 0x84 :: 0x08 :: 0x01 :: 0xa7 :: 0xff :: sg_05_cX9_moves_3
def sg_05_cX9_moves_1 : List UInt8 := 0x0a :: 0xa2 :: 0x00 :: 0x40 :: 0x16 :: 0x04 :: 0x2a :: 0x1b :: 0x15 :: 0x08 :: 0xb6 :: 0x00 :: 0x49 :: 0x85 :: 0x69 :: 0x16 :: 0x06 :: 0x2a :: 0x1c :: 0x15 :: 0x08 :: 0xb6 :: 0x00 :: 0x49 :: 0x85 :: 0x69 :: 0x61 :: 0x37 :: 0x09 :: 0x2a :: 0x1c :: 0x15 :: sg_05_cX9_moves_2
def sg_05_cX9_moves_0 : List UInt8 := 0x2a :: 0x1b :: 0x05 :: 0xb6 :: 0x00 :: 0x49 :: 0x85 :: 0x1d :: 0x85 :: 0x69 :: 0x14 :: 0x00 :: 0x58 :: 0x6d :: 0x37 :: 0x04 :: 0x2a :: 0x1c :: 0x05 :: 0xb6 :: 0x00 :: 0x49 :: 0x85 :: 0x37 :: 0x06 :: 0x10 :: 0x06 :: 0x36 :: 0x08 :: 0x15 :: 0x08 :: 0x10 :: sg_05_cX9_moves_1
set_option maxRecDepth 100000 in
theorem sd_05_cX9_moves_0 : cX9_moves.data.toList.drop 0 = sg_05_cX9_moves_0 := by decide +kernel
theorem sd_05_cX9_moves_1 : cX9_moves.data.toList.drop 32 = sg_05_cX9_moves_1 := sg_next sd_05_cX9_moves_0 rfl
theorem sd_05_cX9_moves_2 : cX9_moves.data.toList.drop 64 = sg_05_cX9_moves_2 := sg_next sd_05_cX9_moves_1 rfl
theorem sd_05_cX9_moves_3 : cX9_moves.data.toList.drop 96 = sg_05_cX9_moves_3 := sg_next sd_05_cX9_moves_2 rfl
theorem sd_05_cX9_moves_4 : cX9_moves.data.toList.drop 128 = sg_05_cX9_moves_4 := sg_next sd_05_cX9_moves_3 rfl
theorem sd_05_cX9_moves_5 : cX9_moves.data.toList.drop 160 = sg_05_cX9_moves_5 := sg_next sd_05_cX9_moves_4 rfl
theorem sd_05_cX9_moves_6 : cX9_moves.data.toList.drop 192 = sg_05_cX9_moves_6 := sg_next sd_05_cX9_moves_5 rfl
theorem dR_moves_0 : decode cX9_moves 0 = .ok (.aload_n 0, 1) := op_42 (rdSeg sd_05_cX9_moves_0 0 rfl rfl)
theorem dR_moves_1 : decode cX9_moves 1 = .ok (.iload_n 1, 1) := op_27 (rdSeg sd_05_cX9_moves_0 1 rfl rfl)
theorem dR_moves_2 : decode cX9_moves 2 = .ok (.iconst 2, 1) := op_5 (rdSeg sd_05_cX9_moves_0 2 rfl rfl)
theorem dR_moves_3 : decode cX9_moves 3 = .ok (.invokevirtual 73, 3) := op_182 (rdSeg sd_05_cX9_moves_0 3 rfl rfl) (rdSeg sd_05_cX9_moves_0 4 rfl rfl) (rdSeg sd_05_cX9_moves_0 5 rfl rfl) rfl
theorem dR_moves_6 : decode cX9_moves 6 = .ok (.i2l, 1) := op_133 (rdSeg sd_05_cX9_moves_0 6 rfl rfl)
theorem dR_moves_7 : decode cX9_moves 7 = .ok (.iload_n 3, 1) := op_29 (rdSeg sd_05_cX9_moves_0 7 rfl rfl)
theorem dR_moves_8 : decode cX9_moves 8 = .ok (.i2l, 1) := op_133 (rdSeg sd_05_cX9_moves_0 8 rfl rfl)
theorem dR_moves_9 : decode cX9_moves 9 = .ok (.lmul, 1) := op_105 (rdSeg sd_05_cX9_moves_0 9 rfl rfl)
theorem dR_moves_10 : decode cX9_moves 10 = .ok (.ldc2_w 88, 3) := op_20 (rdSeg sd_05_cX9_moves_0 10 rfl rfl) (rdSeg sd_05_cX9_moves_0 11 rfl rfl) (rdSeg sd_05_cX9_moves_0 12 rfl rfl) rfl
theorem dR_moves_13 : decode cX9_moves 13 = .ok (.ldiv, 1) := op_109 (rdSeg sd_05_cX9_moves_0 13 rfl rfl)
theorem dR_moves_14 : decode cX9_moves 14 = .ok (.lstore 4, 2) := op_55 (rdSeg sd_05_cX9_moves_0 14 rfl rfl) (rdSeg sd_05_cX9_moves_0 15 rfl rfl)
theorem dR_moves_16 : decode cX9_moves 16 = .ok (.aload_n 0, 1) := op_42 (rdSeg sd_05_cX9_moves_0 16 rfl rfl)
theorem dR_moves_17 : decode cX9_moves 17 = .ok (.iload_n 2, 1) := op_28 (rdSeg sd_05_cX9_moves_0 17 rfl rfl)
theorem dR_moves_18 : decode cX9_moves 18 = .ok (.iconst 2, 1) := op_5 (rdSeg sd_05_cX9_moves_0 18 rfl rfl)
theorem dR_moves_19 : decode cX9_moves 19 = .ok (.invokevirtual 73, 3) := op_182 (rdSeg sd_05_cX9_moves_0 19 rfl rfl) (rdSeg sd_05_cX9_moves_0 20 rfl rfl) (rdSeg sd_05_cX9_moves_0 21 rfl rfl) rfl
theorem dR_moves_22 : decode cX9_moves 22 = .ok (.i2l, 1) := op_133 (rdSeg sd_05_cX9_moves_0 22 rfl rfl)
theorem dR_moves_23 : decode cX9_moves 23 = .ok (.lstore 6, 2) := op_55 (rdSeg sd_05_cX9_moves_0 23 rfl rfl) (rdSeg sd_05_cX9_moves_0 24 rfl rfl)
theorem dR_moves_25 : decode cX9_moves 25 = .ok (.bipush 6, 2) := op_16 (rdSeg sd_05_cX9_moves_0 25 rfl rfl) (rdSeg sd_05_cX9_moves_0 26 rfl rfl) (by decide +kernel)
theorem dR_moves_27 : decode cX9_moves 27 = .ok (.istore 8, 2) := op_54 (rdSeg sd_05_cX9_moves_0 27 rfl rfl) (rdSeg sd_05_cX9_moves_0 28 rfl rfl)
theorem dR_moves_29 : decode cX9_moves 29 = .ok (.iload 8, 2) := op_21 (rdSeg sd_05_cX9_moves_0 29 rfl rfl) (rdSeg sd_05_cX9_moves_0 30 rfl rfl)
theorem dR_moves_31 : decode cX9_moves 31 = .ok (.bipush 10, 2) := op_16 (rdSeg sd_05_cX9_moves_0 31 rfl rfl) (rdSeg sd_05_cX9_moves_1 0 rfl rfl) (by decide +kernel)
theorem dR_moves_33 : decode cX9_moves 33 = .ok (.if_icmp .ge 64, 3) := op_162 (rdSeg sd_05_cX9_moves_1 1 rfl rfl) (rdSeg sd_05_cX9_moves_1 2 rfl rfl) (rdSeg sd_05_cX9_moves_1 3 rfl rfl) (by decide +kernel)
theorem dR_moves_36 : decode cX9_moves 36 = .ok (.lload 4, 2) := op_22 (rdSeg sd_05_cX9_moves_1 4 rfl rfl) (rdSeg sd_05_cX9_moves_1 5 rfl rfl)
theorem dR_moves_38 : decode cX9_moves 38 = .ok (.aload_n 0, 1) := op_42 (rdSeg sd_05_cX9_moves_1 6 rfl rfl)
theorem dR_moves_39 : decode cX9_moves 39 = .ok (.iload_n 1, 1) := op_27 (rdSeg sd_05_cX9_moves_1 7 rfl rfl)
theorem dR_moves_40 : decode cX9_moves 40 = .ok (.iload 8, 2) := op_21 (rdSeg sd_05_cX9_moves_1 8 rfl rfl) (rdSeg sd_05_cX9_moves_1 9 rfl rfl)
theorem dR_moves_42 : decode cX9_moves 42 = .ok (.invokevirtual 73, 3) := op_182 (rdSeg sd_05_cX9_moves_1 10 rfl rfl) (rdSeg sd_05_cX9_moves_1 11 rfl rfl) (rdSeg sd_05_cX9_moves_1 12 rfl rfl) rfl
theorem dR_moves_45 : decode cX9_moves 45 = .ok (.i2l, 1) := op_133 (rdSeg sd_05_cX9_moves_1 13 rfl rfl)
theorem dR_moves_46 : decode cX9_moves 46 = .ok (.lmul, 1) := op_105 (rdSeg sd_05_cX9_moves_1 14 rfl rfl)
theorem dR_moves_47 : decode cX9_moves 47 = .ok (.lload 6, 2) := op_22 (rdSeg sd_05_cX9_moves_1 15 rfl rfl) (rdSeg sd_05_cX9_moves_1 16 rfl rfl)
theorem dR_moves_49 : decode cX9_moves 49 = .ok (.aload_n 0, 1) := op_42 (rdSeg sd_05_cX9_moves_1 17 rfl rfl)
theorem dR_moves_50 : decode cX9_moves 50 = .ok (.iload_n 2, 1) := op_28 (rdSeg sd_05_cX9_moves_1 18 rfl rfl)
theorem dR_moves_51 : decode cX9_moves 51 = .ok (.iload 8, 2) := op_21 (rdSeg sd_05_cX9_moves_1 19 rfl rfl) (rdSeg sd_05_cX9_moves_1 20 rfl rfl)
theorem dR_moves_53 : decode cX9_moves 53 = .ok (.invokevirtual 73, 3) := op_182 (rdSeg sd_05_cX9_moves_1 21 rfl rfl) (rdSeg sd_05_cX9_moves_1 22 rfl rfl) (rdSeg sd_05_cX9_moves_1 23 rfl rfl) rfl
theorem dR_moves_56 : decode cX9_moves 56 = .ok (.i2l, 1) := op_133 (rdSeg sd_05_cX9_moves_1 24 rfl rfl)
theorem dR_moves_57 : decode cX9_moves 57 = .ok (.lmul, 1) := op_105 (rdSeg sd_05_cX9_moves_1 25 rfl rfl)
theorem dR_moves_58 : decode cX9_moves 58 = .ok (.ladd, 1) := op_97 (rdSeg sd_05_cX9_moves_1 26 rfl rfl)
theorem dR_moves_59 : decode cX9_moves 59 = .ok (.lstore 9, 2) := op_55 (rdSeg sd_05_cX9_moves_1 27 rfl rfl) (rdSeg sd_05_cX9_moves_1 28 rfl rfl)
theorem dR_moves_61 : decode cX9_moves 61 = .ok (.aload_n 0, 1) := op_42 (rdSeg sd_05_cX9_moves_1 29 rfl rfl)
theorem dR_moves_62 : decode cX9_moves 62 = .ok (.iload_n 2, 1) := op_28 (rdSeg sd_05_cX9_moves_1 30 rfl rfl)
theorem dR_moves_63 : decode cX9_moves 63 = .ok (.iload 8, 2) := op_21 (rdSeg sd_05_cX9_moves_1 31 rfl rfl) (rdSeg sd_05_cX9_moves_2 0 rfl rfl)
theorem dR_moves_65 : decode cX9_moves 65 = .ok (.lload 4, 2) := op_22 (rdSeg sd_05_cX9_moves_2 1 rfl rfl) (rdSeg sd_05_cX9_moves_2 2 rfl rfl)
theorem dR_moves_67 : decode cX9_moves 67 = .ok (.lload 6, 2) := op_22 (rdSeg sd_05_cX9_moves_2 3 rfl rfl) (rdSeg sd_05_cX9_moves_2 4 rfl rfl)
theorem dR_moves_69 : decode cX9_moves 69 = .ok (.ladd, 1) := op_97 (rdSeg sd_05_cX9_moves_2 5 rfl rfl)
theorem dR_moves_70 : decode cX9_moves 70 = .ok (.lconst 0, 1) := op_9 (rdSeg sd_05_cX9_moves_2 6 rfl rfl)
theorem dR_moves_71 : decode cX9_moves 71 = .ok (.lcmp, 1) := op_148 (rdSeg sd_05_cX9_moves_2 7 rfl rfl)
theorem dR_moves_72 : decode cX9_moves 72 = .ok (.ifCond .ne 7, 3) := op_154 (rdSeg sd_05_cX9_moves_2 8 rfl rfl) (rdSeg sd_05_cX9_moves_2 9 rfl rfl) (rdSeg sd_05_cX9_moves_2 10 rfl rfl) (by decide +kernel)
theorem dR_moves_75 : decode cX9_moves 75 = .ok (.iconst 0, 1) := op_3 (rdSeg sd_05_cX9_moves_2 11 rfl rfl)
theorem dR_moves_76 : decode cX9_moves 76 = .ok (.goto 12, 3) := op_167 (rdSeg sd_05_cX9_moves_2 12 rfl rfl) (rdSeg sd_05_cX9_moves_2 13 rfl rfl) (rdSeg sd_05_cX9_moves_2 14 rfl rfl) (by decide +kernel)
theorem dR_moves_79 : decode cX9_moves 79 = .ok (.lload 9, 2) := op_22 (rdSeg sd_05_cX9_moves_2 15 rfl rfl) (rdSeg sd_05_cX9_moves_2 16 rfl rfl)
theorem dR_moves_81 : decode cX9_moves 81 = .ok (.lload 4, 2) := op_22 (rdSeg sd_05_cX9_moves_2 17 rfl rfl) (rdSeg sd_05_cX9_moves_2 18 rfl rfl)
theorem dR_moves_83 : decode cX9_moves 83 = .ok (.lload 6, 2) := op_22 (rdSeg sd_05_cX9_moves_2 19 rfl rfl) (rdSeg sd_05_cX9_moves_2 20 rfl rfl)
theorem dR_moves_85 : decode cX9_moves 85 = .ok (.ladd, 1) := op_97 (rdSeg sd_05_cX9_moves_2 21 rfl rfl)
theorem dR_moves_86 : decode cX9_moves 86 = .ok (.ldiv, 1) := op_109 (rdSeg sd_05_cX9_moves_2 22 rfl rfl)
theorem dR_moves_87 : decode cX9_moves 87 = .ok (.l2i, 1) := op_136 (rdSeg sd_05_cX9_moves_2 23 rfl rfl)
theorem dR_moves_88 : decode cX9_moves 88 = .ok (.invokevirtual 57, 3) := op_182 (rdSeg sd_05_cX9_moves_2 24 rfl rfl) (rdSeg sd_05_cX9_moves_2 25 rfl rfl) (rdSeg sd_05_cX9_moves_2 26 rfl rfl) rfl
theorem dR_moves_91 : decode cX9_moves 91 = .ok (.iinc 8 1, 3) := op_132 (rdSeg sd_05_cX9_moves_2 27 rfl rfl) (rdSeg sd_05_cX9_moves_2 28 rfl rfl) (rdSeg sd_05_cX9_moves_2 29 rfl rfl) (by decide +kernel)
theorem dR_moves_94 : decode cX9_moves 94 = .ok (.goto (-65), 3) := op_167 (rdSeg sd_05_cX9_moves_2 30 rfl rfl) (rdSeg sd_05_cX9_moves_2 31 rfl rfl) (rdSeg sd_05_cX9_moves_3 0 rfl rfl) (by decide +kernel)
theorem dR_moves_97 : decode cX9_moves 97 = .ok (.lload 4, 2) := op_22 (rdSeg sd_05_cX9_moves_3 1 rfl rfl) (rdSeg sd_05_cX9_moves_3 2 rfl rfl)
theorem dR_moves_99 : decode cX9_moves 99 = .ok (.lload 6, 2) := op_22 (rdSeg sd_05_cX9_moves_3 3 rfl rfl) (rdSeg sd_05_cX9_moves_3 4 rfl rfl)
theorem dR_moves_101 : decode cX9_moves 101 = .ok (.ladd, 1) := op_97 (rdSeg sd_05_cX9_moves_3 5 rfl rfl)
theorem dR_moves_102 : decode cX9_moves 102 = .ok (.ldc2_w 90, 3) := op_20 (rdSeg sd_05_cX9_moves_3 6 rfl rfl) (rdSeg sd_05_cX9_moves_3 7 rfl rfl) (rdSeg sd_05_cX9_moves_3 8 rfl rfl) rfl
theorem dR_moves_105 : decode cX9_moves 105 = .ok (.lcmp, 1) := op_148 (rdSeg sd_05_cX9_moves_3 9 rfl rfl)
theorem dR_moves_106 : decode cX9_moves 106 = .ok (.ifCond .le 9, 3) := op_158 (rdSeg sd_05_cX9_moves_3 10 rfl rfl) (rdSeg sd_05_cX9_moves_3 11 rfl rfl) (rdSeg sd_05_cX9_moves_3 12 rfl rfl) (by decide +kernel)
theorem dR_moves_109 : decode cX9_moves 109 = .ok (.ldc2_w 90, 3) := op_20 (rdSeg sd_05_cX9_moves_3 13 rfl rfl) (rdSeg sd_05_cX9_moves_3 14 rfl rfl) (rdSeg sd_05_cX9_moves_3 15 rfl rfl) rfl
theorem dR_moves_112 : decode cX9_moves 112 = .ok (.goto 8, 3) := op_167 (rdSeg sd_05_cX9_moves_3 16 rfl rfl) (rdSeg sd_05_cX9_moves_3 17 rfl rfl) (rdSeg sd_05_cX9_moves_3 18 rfl rfl) (by decide +kernel)
theorem dR_moves_115 : decode cX9_moves 115 = .ok (.lload 4, 2) := op_22 (rdSeg sd_05_cX9_moves_3 19 rfl rfl) (rdSeg sd_05_cX9_moves_3 20 rfl rfl)
theorem dR_moves_117 : decode cX9_moves 117 = .ok (.lload 6, 2) := op_22 (rdSeg sd_05_cX9_moves_3 21 rfl rfl) (rdSeg sd_05_cX9_moves_3 22 rfl rfl)
theorem dR_moves_119 : decode cX9_moves 119 = .ok (.ladd, 1) := op_97 (rdSeg sd_05_cX9_moves_3 23 rfl rfl)
theorem dR_moves_120 : decode cX9_moves 120 = .ok (.l2i, 1) := op_136 (rdSeg sd_05_cX9_moves_3 24 rfl rfl)
theorem dR_moves_121 : decode cX9_moves 121 = .ok (.istore 8, 2) := op_54 (rdSeg sd_05_cX9_moves_3 25 rfl rfl) (rdSeg sd_05_cX9_moves_3 26 rfl rfl)
theorem dR_moves_123 : decode cX9_moves 123 = .ok (.aload_n 0, 1) := op_42 (rdSeg sd_05_cX9_moves_3 27 rfl rfl)
theorem dR_moves_124 : decode cX9_moves 124 = .ok (.iload_n 2, 1) := op_28 (rdSeg sd_05_cX9_moves_3 28 rfl rfl)
theorem dR_moves_125 : decode cX9_moves 125 = .ok (.iconst 2, 1) := op_5 (rdSeg sd_05_cX9_moves_3 29 rfl rfl)
theorem dR_moves_126 : decode cX9_moves 126 = .ok (.iload 8, 2) := op_21 (rdSeg sd_05_cX9_moves_3 30 rfl rfl) (rdSeg sd_05_cX9_moves_3 31 rfl rfl)
theorem dR_moves_128 : decode cX9_moves 128 = .ok (.invokevirtual 57, 3) := op_182 (rdSeg sd_05_cX9_moves_4 0 rfl rfl) (rdSeg sd_05_cX9_moves_4 1 rfl rfl) (rdSeg sd_05_cX9_moves_4 2 rfl rfl) rfl
theorem dR_moves_131 : decode cX9_moves 131 = .ok (.iconst 3, 1) := op_6 (rdSeg sd_05_cX9_moves_4 3 rfl rfl)
theorem dR_moves_132 : decode cX9_moves 132 = .ok (.istore 9, 2) := op_54 (rdSeg sd_05_cX9_moves_4 4 rfl rfl) (rdSeg sd_05_cX9_moves_4 5 rfl rfl)
theorem dR_moves_134 : decode cX9_moves 134 = .ok (.iload 9, 2) := op_21 (rdSeg sd_05_cX9_moves_4 6 rfl rfl) (rdSeg sd_05_cX9_moves_4 7 rfl rfl)
theorem dR_moves_136 : decode cX9_moves 136 = .ok (.iconst 5, 1) := op_8 (rdSeg sd_05_cX9_moves_4 8 rfl rfl)
theorem dR_moves_137 : decode cX9_moves 137 = .ok (.if_icmp .gt 67, 3) := op_163 (rdSeg sd_05_cX9_moves_4 9 rfl rfl) (rdSeg sd_05_cX9_moves_4 10 rfl rfl) (rdSeg sd_05_cX9_moves_4 11 rfl rfl) (by decide +kernel)
theorem dR_moves_140 : decode cX9_moves 140 = .ok (.aload_n 0, 1) := op_42 (rdSeg sd_05_cX9_moves_4 12 rfl rfl)
theorem dR_moves_141 : decode cX9_moves 141 = .ok (.iload_n 1, 1) := op_27 (rdSeg sd_05_cX9_moves_4 13 rfl rfl)
theorem dR_moves_142 : decode cX9_moves 142 = .ok (.iload 9, 2) := op_21 (rdSeg sd_05_cX9_moves_4 14 rfl rfl) (rdSeg sd_05_cX9_moves_4 15 rfl rfl)
theorem dR_moves_144 : decode cX9_moves 144 = .ok (.invokevirtual 73, 3) := op_182 (rdSeg sd_05_cX9_moves_4 16 rfl rfl) (rdSeg sd_05_cX9_moves_4 17 rfl rfl) (rdSeg sd_05_cX9_moves_4 18 rfl rfl) rfl
theorem dR_moves_147 : decode cX9_moves 147 = .ok (.i2l, 1) := op_133 (rdSeg sd_05_cX9_moves_4 19 rfl rfl)
theorem dR_moves_148 : decode cX9_moves 148 = .ok (.iload_n 3, 1) := op_29 (rdSeg sd_05_cX9_moves_4 20 rfl rfl)
theorem dR_moves_149 : decode cX9_moves 149 = .ok (.i2l, 1) := op_133 (rdSeg sd_05_cX9_moves_4 21 rfl rfl)
theorem dR_moves_150 : decode cX9_moves 150 = .ok (.lmul, 1) := op_105 (rdSeg sd_05_cX9_moves_4 22 rfl rfl)
theorem dR_moves_151 : decode cX9_moves 151 = .ok (.ldc2_w 88, 3) := op_20 (rdSeg sd_05_cX9_moves_4 23 rfl rfl) (rdSeg sd_05_cX9_moves_4 24 rfl rfl) (rdSeg sd_05_cX9_moves_4 25 rfl rfl) rfl
theorem dR_moves_154 : decode cX9_moves 154 = .ok (.ldiv, 1) := op_109 (rdSeg sd_05_cX9_moves_4 26 rfl rfl)
theorem dR_moves_155 : decode cX9_moves 155 = .ok (.l2i, 1) := op_136 (rdSeg sd_05_cX9_moves_4 27 rfl rfl)
theorem dR_moves_156 : decode cX9_moves 156 = .ok (.istore 10, 2) := op_54 (rdSeg sd_05_cX9_moves_4 28 rfl rfl) (rdSeg sd_05_cX9_moves_4 29 rfl rfl)
theorem dR_moves_158 : decode cX9_moves 158 = .ok (.aload_n 0, 1) := op_42 (rdSeg sd_05_cX9_moves_4 30 rfl rfl)
theorem dR_moves_159 : decode cX9_moves 159 = .ok (.iload_n 1, 1) := op_27 (rdSeg sd_05_cX9_moves_4 31 rfl rfl)
theorem dR_moves_160 : decode cX9_moves 160 = .ok (.iload 9, 2) := op_21 (rdSeg sd_05_cX9_moves_5 0 rfl rfl) (rdSeg sd_05_cX9_moves_5 1 rfl rfl)
theorem dR_moves_162 : decode cX9_moves 162 = .ok (.aload_n 0, 1) := op_42 (rdSeg sd_05_cX9_moves_5 2 rfl rfl)
theorem dR_moves_163 : decode cX9_moves 163 = .ok (.iload_n 1, 1) := op_27 (rdSeg sd_05_cX9_moves_5 3 rfl rfl)
theorem dR_moves_164 : decode cX9_moves 164 = .ok (.iload 9, 2) := op_21 (rdSeg sd_05_cX9_moves_5 4 rfl rfl) (rdSeg sd_05_cX9_moves_5 5 rfl rfl)
theorem dR_moves_166 : decode cX9_moves 166 = .ok (.invokevirtual 73, 3) := op_182 (rdSeg sd_05_cX9_moves_5 6 rfl rfl) (rdSeg sd_05_cX9_moves_5 7 rfl rfl) (rdSeg sd_05_cX9_moves_5 8 rfl rfl) rfl
theorem dR_moves_169 : decode cX9_moves 169 = .ok (.iload 10, 2) := op_21 (rdSeg sd_05_cX9_moves_5 9 rfl rfl) (rdSeg sd_05_cX9_moves_5 10 rfl rfl)
theorem dR_moves_171 : decode cX9_moves 171 = .ok (.isub, 1) := op_100 (rdSeg sd_05_cX9_moves_5 11 rfl rfl)
theorem dR_moves_172 : decode cX9_moves 172 = .ok (.invokevirtual 57, 3) := op_182 (rdSeg sd_05_cX9_moves_5 12 rfl rfl) (rdSeg sd_05_cX9_moves_5 13 rfl rfl) (rdSeg sd_05_cX9_moves_5 14 rfl rfl) rfl
theorem dR_moves_175 : decode cX9_moves 175 = .ok (.aload_n 0, 1) := op_42 (rdSeg sd_05_cX9_moves_5 15 rfl rfl)
theorem dR_moves_176 : decode cX9_moves 176 = .ok (.iload_n 2, 1) := op_28 (rdSeg sd_05_cX9_moves_5 16 rfl rfl)
theorem dR_moves_177 : decode cX9_moves 177 = .ok (.iload 9, 2) := op_21 (rdSeg sd_05_cX9_moves_5 17 rfl rfl) (rdSeg sd_05_cX9_moves_5 18 rfl rfl)
theorem dR_moves_179 : decode cX9_moves 179 = .ok (.aload_n 0, 1) := op_42 (rdSeg sd_05_cX9_moves_5 19 rfl rfl)
theorem dR_moves_180 : decode cX9_moves 180 = .ok (.iload_n 2, 1) := op_28 (rdSeg sd_05_cX9_moves_5 20 rfl rfl)
theorem dR_moves_181 : decode cX9_moves 181 = .ok (.iload 9, 2) := op_21 (rdSeg sd_05_cX9_moves_5 21 rfl rfl) (rdSeg sd_05_cX9_moves_5 22 rfl rfl)
theorem dR_moves_183 : decode cX9_moves 183 = .ok (.invokevirtual 73, 3) := op_182 (rdSeg sd_05_cX9_moves_5 23 rfl rfl) (rdSeg sd_05_cX9_moves_5 24 rfl rfl) (rdSeg sd_05_cX9_moves_5 25 rfl rfl) rfl
theorem dR_moves_186 : decode cX9_moves 186 = .ok (.iload 10, 2) := op_21 (rdSeg sd_05_cX9_moves_5 26 rfl rfl) (rdSeg sd_05_cX9_moves_5 27 rfl rfl)
theorem dR_moves_188 : decode cX9_moves 188 = .ok (.iadd, 1) := op_96 (rdSeg sd_05_cX9_moves_5 28 rfl rfl)
theorem dR_moves_189 : decode cX9_moves 189 = .ok (.iconst 0, 1) := op_3 (rdSeg sd_05_cX9_moves_5 29 rfl rfl)
theorem dR_moves_190 : decode cX9_moves 190 = .ok (.iload 8, 2) := op_21 (rdSeg sd_05_cX9_moves_5 30 rfl rfl) (rdSeg sd_05_cX9_moves_5 31 rfl rfl)
theorem dR_moves_192 : decode cX9_moves 192 = .ok (.invokestatic 92, 3) := op_184 (rdSeg sd_05_cX9_moves_6 0 rfl rfl) (rdSeg sd_05_cX9_moves_6 1 rfl rfl) (rdSeg sd_05_cX9_moves_6 2 rfl rfl) rfl
theorem dR_moves_195 : decode cX9_moves 195 = .ok (.invokevirtual 57, 3) := op_182 (rdSeg sd_05_cX9_moves_6 3 rfl rfl) (rdSeg sd_05_cX9_moves_6 4 rfl rfl) (rdSeg sd_05_cX9_moves_6 5 rfl rfl) rfl
theorem dR_moves_198 : decode cX9_moves 198 = .ok (.iinc 9 1, 3) := op_132 (rdSeg sd_05_cX9_moves_6 6 rfl rfl) (rdSeg sd_05_cX9_moves_6 7 rfl rfl) (rdSeg sd_05_cX9_moves_6 8 rfl rfl) (by decide +kernel)
theorem dR_moves_201 : decode cX9_moves 201 = .ok (.goto (-67), 3) := op_167 (rdSeg sd_05_cX9_moves_6 9 rfl rfl) (rdSeg sd_05_cX9_moves_6 10 rfl rfl) (rdSeg sd_05_cX9_moves_6 11 rfl rfl) (by decide +kernel)
theorem dR_moves_204 : decode cX9_moves 204 = .ok (.aload_n 0, 1) := op_42 (rdSeg sd_05_cX9_moves_6 12 rfl rfl)
theorem dR_moves_205 : decode cX9_moves 205 = .ok (.iload_n 1, 1) := op_27 (rdSeg sd_05_cX9_moves_6 13 rfl rfl)
theorem dR_moves_206 : decode cX9_moves 206 = .ok (.iconst 2, 1) := op_5 (rdSeg sd_05_cX9_moves_6 14 rfl rfl)
theorem dR_moves_207 : decode cX9_moves 207 = .ok (.aload_n 0, 1) := op_42 (rdSeg sd_05_cX9_moves_6 15 rfl rfl)
theorem dR_moves_208 : decode cX9_moves 208 = .ok (.iload_n 1, 1) := op_27 (rdSeg sd_05_cX9_moves_6 16 rfl rfl)
theorem dR_moves_209 : decode cX9_moves 209 = .ok (.iconst 2, 1) := op_5 (rdSeg sd_05_cX9_moves_6 17 rfl rfl)
theorem dR_moves_210 : decode cX9_moves 210 = .ok (.invokevirtual 73, 3) := op_182 (rdSeg sd_05_cX9_moves_6 18 rfl rfl) (rdSeg sd_05_cX9_moves_6 19 rfl rfl) (rdSeg sd_05_cX9_moves_6 20 rfl rfl) rfl
theorem dR_moves_213 : decode cX9_moves 213 = .ok (.lload 4, 2) := op_22 (rdSeg sd_05_cX9_moves_6 21 rfl rfl) (rdSeg sd_05_cX9_moves_6 22 rfl rfl)
theorem dR_moves_215 : decode cX9_moves 215 = .ok (.l2i, 1) := op_136 (rdSeg sd_05_cX9_moves_6 23 rfl rfl)
theorem dR_moves_216 : decode cX9_moves 216 = .ok (.isub, 1) := op_100 (rdSeg sd_05_cX9_moves_6 24 rfl rfl)
theorem dR_moves_217 : decode cX9_moves 217 = .ok (.invokevirtual 57, 3) := op_182 (rdSeg sd_05_cX9_moves_6 25 rfl rfl) (rdSeg sd_05_cX9_moves_6 26 rfl rfl) (rdSeg sd_05_cX9_moves_6 27 rfl rfl) rfl
theorem dR_moves_220 : decode cX9_moves 220 = .ok (.return_, 1) := op_177 (rdSeg sd_05_cX9_moves_6 28 rfl rfl)
def sg_05_cX9_melt_1 : List UInt8 := [0x09, 0x2a, 0x06, 0xb6, 0x00, 0x3e, 0xac, 0x2a, 0x1b, 0x10, 0x0c, 0x1c, 0xb6, 0x00, 0x60, 0x2a, 0x10, 0x0c, 0x05, 0xb6, 0x00, 0x49, 0xac]
def sg_05_cX9_melt_0 : List UInt8 := 0x2a :: 0x1b :: 0xb6 :: 0x00 :: 0x4d :: 0x99 :: 0x00 :: 0x0d :: 0x1c :: 0x04 :: 0x10 :: 0x08 :: 0xb8 :: 0x00 :: 0x35 :: 0x9a :: 0x00 :: 0x09 :: 0x2a :: 0x04 :: 0xb6 :: 0x00 :: 0x3e :: 0xac :: 0x2a :: 0x1b :: 0x05 :: 0xb6 :: 0x00 :: 0x49 :: 0x9a :: 0x00 :: sg_05_cX9_melt_1
set_option maxRecDepth 100000 in
theorem sd_05_cX9_melt_0 : cX9_melt.data.toList.drop 0 = sg_05_cX9_melt_0 := by decide +kernel
theorem sd_05_cX9_melt_1 : cX9_melt.data.toList.drop 32 = sg_05_cX9_melt_1 := sg_next sd_05_cX9_melt_0 rfl
theorem dR_melt_0 : decode cX9_melt 0 = .ok (.aload_n 0, 1) := op_42 (rdSeg sd_05_cX9_melt_0 0 rfl rfl)
theorem dR_melt_1 : decode cX9_melt 1 = .ok (.iload_n 1, 1) := op_27 (rdSeg sd_05_cX9_melt_0 1 rfl rfl)
theorem dR_melt_2 : decode cX9_melt 2 = .ok (.invokevirtual 77, 3) := op_182 (rdSeg sd_05_cX9_melt_0 2 rfl rfl) (rdSeg sd_05_cX9_melt_0 3 rfl rfl) (rdSeg sd_05_cX9_melt_0 4 rfl rfl) rfl
theorem dR_melt_5 : decode cX9_melt 5 = .ok (.ifCond .eq 13, 3) := op_153 (rdSeg sd_05_cX9_melt_0 5 rfl rfl) (rdSeg sd_05_cX9_melt_0 6 rfl rfl) (rdSeg sd_05_cX9_melt_0 7 rfl rfl) (by decide +kernel)
theorem dR_melt_8 : decode cX9_melt 8 = .ok (.iload_n 2, 1) := op_28 (rdSeg sd_05_cX9_melt_0 8 rfl rfl)
theorem dR_melt_9 : decode cX9_melt 9 = .ok (.iconst 1, 1) := op_4 (rdSeg sd_05_cX9_melt_0 9 rfl rfl)
theorem dR_melt_10 : decode cX9_melt 10 = .ok (.bipush 8, 2) := op_16 (rdSeg sd_05_cX9_melt_0 10 rfl rfl) (rdSeg sd_05_cX9_melt_0 11 rfl rfl) (by decide +kernel)
theorem dR_melt_12 : decode cX9_melt 12 = .ok (.invokestatic 53, 3) := op_184 (rdSeg sd_05_cX9_melt_0 12 rfl rfl) (rdSeg sd_05_cX9_melt_0 13 rfl rfl) (rdSeg sd_05_cX9_melt_0 14 rfl rfl) rfl
theorem dR_melt_15 : decode cX9_melt 15 = .ok (.ifCond .ne 9, 3) := op_154 (rdSeg sd_05_cX9_melt_0 15 rfl rfl) (rdSeg sd_05_cX9_melt_0 16 rfl rfl) (rdSeg sd_05_cX9_melt_0 17 rfl rfl) (by decide +kernel)
theorem dR_melt_18 : decode cX9_melt 18 = .ok (.aload_n 0, 1) := op_42 (rdSeg sd_05_cX9_melt_0 18 rfl rfl)
theorem dR_melt_19 : decode cX9_melt 19 = .ok (.iconst 1, 1) := op_4 (rdSeg sd_05_cX9_melt_0 19 rfl rfl)
theorem dR_melt_20 : decode cX9_melt 20 = .ok (.invokevirtual 62, 3) := op_182 (rdSeg sd_05_cX9_melt_0 20 rfl rfl) (rdSeg sd_05_cX9_melt_0 21 rfl rfl) (rdSeg sd_05_cX9_melt_0 22 rfl rfl) rfl
theorem dR_melt_23 : decode cX9_melt 23 = .ok (.ireturn, 1) := op_172 (rdSeg sd_05_cX9_melt_0 23 rfl rfl)
theorem dR_melt_24 : decode cX9_melt 24 = .ok (.aload_n 0, 1) := op_42 (rdSeg sd_05_cX9_melt_0 24 rfl rfl)
theorem dR_melt_25 : decode cX9_melt 25 = .ok (.iload_n 1, 1) := op_27 (rdSeg sd_05_cX9_melt_0 25 rfl rfl)
theorem dR_melt_26 : decode cX9_melt 26 = .ok (.iconst 2, 1) := op_5 (rdSeg sd_05_cX9_melt_0 26 rfl rfl)
theorem dR_melt_27 : decode cX9_melt 27 = .ok (.invokevirtual 73, 3) := op_182 (rdSeg sd_05_cX9_melt_0 27 rfl rfl) (rdSeg sd_05_cX9_melt_0 28 rfl rfl) (rdSeg sd_05_cX9_melt_0 29 rfl rfl) rfl
theorem dR_melt_30 : decode cX9_melt 30 = .ok (.ifCond .ne 9, 3) := op_154 (rdSeg sd_05_cX9_melt_0 30 rfl rfl) (rdSeg sd_05_cX9_melt_0 31 rfl rfl) (rdSeg sd_05_cX9_melt_1 0 rfl rfl) (by decide +kernel)
theorem dR_melt_33 : decode cX9_melt 33 = .ok (.aload_n 0, 1) := op_42 (rdSeg sd_05_cX9_melt_1 1 rfl rfl)
theorem dR_melt_34 : decode cX9_melt 34 = .ok (.iconst 3, 1) := op_6 (rdSeg sd_05_cX9_melt_1 2 rfl rfl)
theorem dR_melt_35 : decode cX9_melt 35 = .ok (.invokevirtual 62, 3) := op_182 (rdSeg sd_05_cX9_melt_1 3 rfl rfl) (rdSeg sd_05_cX9_melt_1 4 rfl rfl) (rdSeg sd_05_cX9_melt_1 5 rfl rfl) rfl
theorem dR_melt_38 : decode cX9_melt 38 = .ok (.ireturn, 1) := op_172 (rdSeg sd_05_cX9_melt_1 6 rfl rfl)
theorem dR_melt_39 : decode cX9_melt 39 = .ok (.aload_n 0, 1) := op_42 (rdSeg sd_05_cX9_melt_1 7 rfl rfl)
theorem dR_melt_40 : decode cX9_melt 40 = .ok (.iload_n 1, 1) := op_27 (rdSeg sd_05_cX9_melt_1 8 rfl rfl)
theorem dR_melt_41 : decode cX9_melt 41 = .ok (.bipush 12, 2) := op_16 (rdSeg sd_05_cX9_melt_1 9 rfl rfl) (rdSeg sd_05_cX9_melt_1 10 rfl rfl) (by decide +kernel)
theorem dR_melt_43 : decode cX9_melt 43 = .ok (.iload_n 2, 1) := op_28 (rdSeg sd_05_cX9_melt_1 11 rfl rfl)
theorem dR_melt_44 : decode cX9_melt 44 = .ok (.invokevirtual 96, 3) := op_182 (rdSeg sd_05_cX9_melt_1 12 rfl rfl) (rdSeg sd_05_cX9_melt_1 13 rfl rfl) (rdSeg sd_05_cX9_melt_1 14 rfl rfl) rfl
theorem dR_melt_47 : decode cX9_melt 47 = .ok (.aload_n 0, 1) := op_42 (rdSeg sd_05_cX9_melt_1 15 rfl rfl)
theorem dR_melt_48 : decode cX9_melt 48 = .ok (.bipush 12, 2) := op_16 (rdSeg sd_05_cX9_melt_1 16 rfl rfl) (rdSeg sd_05_cX9_melt_1 17 rfl rfl) (by decide +kernel)
theorem dR_melt_50 : decode cX9_melt 50 = .ok (.iconst 2, 1) := op_5 (rdSeg sd_05_cX9_melt_1 18 rfl rfl)
theorem dR_melt_51 : decode cX9_melt 51 = .ok (.invokevirtual 73, 3) := op_182 (rdSeg sd_05_cX9_melt_1 19 rfl rfl) (rdSeg sd_05_cX9_melt_1 20 rfl rfl) (rdSeg sd_05_cX9_melt_1 21 rfl rfl) rfl
theorem dR_melt_54 : decode cX9_melt 54 = .ok (.ireturn, 1) := op_172 (rdSeg sd_05_cX9_melt_1 22 rfl rfl)
def sg_05_cX9_crucible_0 : List UInt8 := [0x1b, 0x05, 0x10, 0x09, 0xb8, 0x00, 0x35, 0x99, 0x00, 0x0d, 0x2a, 0x10, 0x0c, 0x1b, 0xb6, 0x00, 0x49, 0xa7, 0x00, 0x08, 0x2a, 0x04, 0xb6, 0x00, 0x3e, 0xac]
set_option maxRecDepth 100000 in
theorem sd_05_cX9_crucible_0 : cX9_crucible.data.toList.drop 0 = sg_05_cX9_crucible_0 := by decide +kernel
theorem dR_crucible_0 : decode cX9_crucible 0 = .ok (.iload_n 1, 1) := op_27 (rdSeg sd_05_cX9_crucible_0 0 rfl rfl)
theorem dR_crucible_1 : decode cX9_crucible 1 = .ok (.iconst 2, 1) := op_5 (rdSeg sd_05_cX9_crucible_0 1 rfl rfl)
theorem dR_crucible_2 : decode cX9_crucible 2 = .ok (.bipush 9, 2) := op_16 (rdSeg sd_05_cX9_crucible_0 2 rfl rfl) (rdSeg sd_05_cX9_crucible_0 3 rfl rfl) (by decide +kernel)
theorem dR_crucible_4 : decode cX9_crucible 4 = .ok (.invokestatic 53, 3) := op_184 (rdSeg sd_05_cX9_crucible_0 4 rfl rfl) (rdSeg sd_05_cX9_crucible_0 5 rfl rfl) (rdSeg sd_05_cX9_crucible_0 6 rfl rfl) rfl
theorem dR_crucible_7 : decode cX9_crucible 7 = .ok (.ifCond .eq 13, 3) := op_153 (rdSeg sd_05_cX9_crucible_0 7 rfl rfl) (rdSeg sd_05_cX9_crucible_0 8 rfl rfl) (rdSeg sd_05_cX9_crucible_0 9 rfl rfl) (by decide +kernel)
theorem dR_crucible_10 : decode cX9_crucible 10 = .ok (.aload_n 0, 1) := op_42 (rdSeg sd_05_cX9_crucible_0 10 rfl rfl)
theorem dR_crucible_11 : decode cX9_crucible 11 = .ok (.bipush 12, 2) := op_16 (rdSeg sd_05_cX9_crucible_0 11 rfl rfl) (rdSeg sd_05_cX9_crucible_0 12 rfl rfl) (by decide +kernel)
theorem dR_crucible_13 : decode cX9_crucible 13 = .ok (.iload_n 1, 1) := op_27 (rdSeg sd_05_cX9_crucible_0 13 rfl rfl)
theorem dR_crucible_14 : decode cX9_crucible 14 = .ok (.invokevirtual 73, 3) := op_182 (rdSeg sd_05_cX9_crucible_0 14 rfl rfl) (rdSeg sd_05_cX9_crucible_0 15 rfl rfl) (rdSeg sd_05_cX9_crucible_0 16 rfl rfl) rfl
theorem dR_crucible_17 : decode cX9_crucible 17 = .ok (.goto 8, 3) := op_167 (rdSeg sd_05_cX9_crucible_0 17 rfl rfl) (rdSeg sd_05_cX9_crucible_0 18 rfl rfl) (rdSeg sd_05_cX9_crucible_0 19 rfl rfl) (by decide +kernel)
theorem dR_crucible_20 : decode cX9_crucible 20 = .ok (.aload_n 0, 1) := op_42 (rdSeg sd_05_cX9_crucible_0 20 rfl rfl)
theorem dR_crucible_21 : decode cX9_crucible 21 = .ok (.iconst 1, 1) := op_4 (rdSeg sd_05_cX9_crucible_0 21 rfl rfl)
theorem dR_crucible_22 : decode cX9_crucible 22 = .ok (.invokevirtual 62, 3) := op_182 (rdSeg sd_05_cX9_crucible_0 22 rfl rfl) (rdSeg sd_05_cX9_crucible_0 23 rfl rfl) (rdSeg sd_05_cX9_crucible_0 24 rfl rfl) rfl
theorem dR_crucible_25 : decode cX9_crucible 25 = .ok (.ireturn, 1) := op_172 (rdSeg sd_05_cX9_crucible_0 25 rfl rfl)
def sg_05_cX9_partOf_0 : List UInt8 := [0x1a, 0x85, 0x1b, 0x85, 0x69, 0x1c, 0x85, 0x6d, 0x88, 0xac]
set_option maxRecDepth 100000 in
theorem sd_05_cX9_partOf_0 : cX9_partOf.data.toList.drop 0 = sg_05_cX9_partOf_0 := by decide +kernel
theorem dR_partOf_0 : decode cX9_partOf 0 = .ok (.iload_n 0, 1) := op_26 (rdSeg sd_05_cX9_partOf_0 0 rfl rfl)
theorem dR_partOf_1 : decode cX9_partOf 1 = .ok (.i2l, 1) := op_133 (rdSeg sd_05_cX9_partOf_0 1 rfl rfl)
theorem dR_partOf_2 : decode cX9_partOf 2 = .ok (.iload_n 1, 1) := op_27 (rdSeg sd_05_cX9_partOf_0 2 rfl rfl)
theorem dR_partOf_3 : decode cX9_partOf 3 = .ok (.i2l, 1) := op_133 (rdSeg sd_05_cX9_partOf_0 3 rfl rfl)
theorem dR_partOf_4 : decode cX9_partOf 4 = .ok (.lmul, 1) := op_105 (rdSeg sd_05_cX9_partOf_0 4 rfl rfl)
theorem dR_partOf_5 : decode cX9_partOf 5 = .ok (.iload_n 2, 1) := op_28 (rdSeg sd_05_cX9_partOf_0 5 rfl rfl)
theorem dR_partOf_6 : decode cX9_partOf 6 = .ok (.i2l, 1) := op_133 (rdSeg sd_05_cX9_partOf_0 6 rfl rfl)
theorem dR_partOf_7 : decode cX9_partOf 7 = .ok (.ldiv, 1) := op_109 (rdSeg sd_05_cX9_partOf_0 7 rfl rfl)
theorem dR_partOf_8 : decode cX9_partOf 8 = .ok (.l2i, 1) := op_136 (rdSeg sd_05_cX9_partOf_0 8 rfl rfl)
theorem dR_partOf_9 : decode cX9_partOf 9 = .ok (.ireturn, 1) := op_172 (rdSeg sd_05_cX9_partOf_0 9 rfl rfl)
def sg_05_cX9_cast_11 : List UInt8 := [0x03, 0xb6, 0x00, 0x39, 0x84, 0x0b, 0x01, 0xa7, 0xff, 0x81, 0x15, 0x09, 0xac]
def sg_05_cX9_cast_10 : List UInt8 := 0xa7 :: 0x00 :: 0x08 :: 0x15 :: 0x0e :: 0x15 :: 0x0f :: 0x64 :: 0xb6 :: 0x00 :: 0x39 :: 0x15 :: 0x0a :: 0x02 :: 0x9f :: 0x00 :: 0x0d :: 0x2a :: 0x15 :: 0x0a :: 0x15 :: 0x0b :: 0x15 :: 0x0f :: 0xb6 :: 0x00 :: 0x39 :: 0x2a :: 0x10 :: 0x0c :: 0x15 :: 0x0b :: sg_05_cX9_cast_11
def sg_05_cX9_cast_9 : List UInt8 := 0x0d :: 0x99 :: 0x00 :: 0x08 :: 0x15 :: 0x0c :: 0xa7 :: 0x00 :: 0x0c :: 0x15 :: 0x0e :: 0x15 :: 0x06 :: 0x10 :: 0x0a :: 0xb8 :: 0x00 :: 0x63 :: 0x36 :: 0x0f :: 0x2a :: 0x15 :: 0x09 :: 0x15 :: 0x0b :: 0x15 :: 0x0d :: 0x99 :: 0x00 :: 0x08 :: 0x15 :: 0x0c :: sg_05_cX9_cast_10
def sg_05_cX9_cast_8 : List UInt8 := 0x04 :: 0xa7 :: 0x00 :: 0x04 :: 0x03 :: 0x36 :: 0x0d :: 0x15 :: 0x0d :: 0x99 :: 0x00 :: 0x08 :: 0x15 :: 0x0c :: 0xa7 :: 0x00 :: 0x0f :: 0x15 :: 0x0c :: 0x15 :: 0x0c :: 0x15 :: 0x05 :: 0x10 :: 0x64 :: 0xb8 :: 0x00 :: 0x63 :: 0x64 :: 0x36 :: 0x0e :: 0x15 :: sg_05_cX9_cast_9
def sg_05_cX9_cast_7 : List UInt8 := 0x00 :: 0x04 :: 0x02 :: 0x36 :: 0x0a :: 0x05 :: 0x36 :: 0x0b :: 0x15 :: 0x0b :: 0x10 :: 0x0a :: 0xa2 :: 0x00 :: 0x7e :: 0x2a :: 0x10 :: 0x0c :: 0x15 :: 0x0b :: 0xb6 :: 0x00 :: 0x49 :: 0x36 :: 0x0c :: 0x15 :: 0x0b :: 0x10 :: 0x06 :: 0xa1 :: 0x00 :: 0x07 :: sg_05_cX9_cast_8
def sg_05_cX9_cast_6 : List UInt8 := 0xb8 :: 0x00 :: 0x63 :: 0xb6 :: 0x00 :: 0x39 :: 0x84 :: 0x09 :: 0x01 :: 0xa7 :: 0xff :: 0xdf :: 0x2a :: 0x1b :: 0xb6 :: 0x00 :: 0x42 :: 0x36 :: 0x09 :: 0x15 :: 0x06 :: 0x9e :: 0x00 :: 0x0d :: 0x2a :: 0x11 :: 0x02 :: 0x58 :: 0xb6 :: 0x00 :: 0x42 :: 0xa7 :: sg_05_cX9_cast_7
def sg_05_cX9_cast_5 : List UInt8 := 0x5c :: 0xb6 :: 0x00 :: 0x39 :: 0x10 :: 0x06 :: 0x36 :: 0x09 :: 0x15 :: 0x09 :: 0x10 :: 0x0a :: 0xa2 :: 0x00 :: 0x20 :: 0x2a :: 0x10 :: 0x0c :: 0x15 :: 0x09 :: 0x2a :: 0x10 :: 0x0c :: 0x15 :: 0x09 :: 0xb6 :: 0x00 :: 0x49 :: 0x15 :: 0x07 :: 0x15 :: 0x08 :: sg_05_cX9_cast_6
def sg_05_cX9_cast_4 : List UInt8 := 0xb8 :: 0x00 :: 0x5c :: 0x36 :: 0x08 :: 0x2a :: 0x10 :: 0x0c :: 0x05 :: 0x15 :: 0x08 :: 0xb6 :: 0x00 :: 0x39 :: 0x2a :: 0x10 :: 0x0c :: 0x06 :: 0x2a :: 0x10 :: 0x0c :: 0x06 :: 0xb6 :: 0x00 :: 0x49 :: 0x1c :: 0x60 :: 0x03 :: 0x15 :: 0x08 :: 0xb8 :: 0x00 :: sg_05_cX9_cast_5
def sg_05_cX9_cast_3 : List UInt8 := 0x07 :: 0x03 :: 0x2e :: 0x15 :: 0x06 :: 0x9e :: 0x00 :: 0x07 :: 0x05 :: 0xa7 :: 0x00 :: 0x04 :: 0x04 :: 0x60 :: 0x10 :: 0x0c :: 0xa4 :: 0x00 :: 0x09 :: 0x2a :: 0x07 :: 0xb6 :: 0x00 :: 0x3e :: 0xac :: 0x15 :: 0x07 :: 0x1c :: 0x60 :: 0x03 :: 0x12 :: 0x3d :: sg_05_cX9_cast_4
def sg_05_cX9_cast_2 : List UInt8 := 0x1d :: 0x10 :: 0x0a :: 0x6c :: 0x10 :: 0x0a :: 0x70 :: 0x36 :: 0x06 :: 0x2a :: 0x10 :: 0x0c :: 0x05 :: 0xb6 :: 0x00 :: 0x49 :: 0x36 :: 0x07 :: 0x15 :: 0x07 :: 0x9a :: 0x00 :: 0x09 :: 0x2a :: 0x06 :: 0xb6 :: 0x00 :: 0x3e :: 0xac :: 0x2a :: 0xb4 :: 0x00 :: sg_05_cX9_cast_3
def sg_05_cX9_cast_1 : List UInt8 := 0x0e :: 0x1d :: 0x10 :: 0x0a :: 0x70 :: 0x9a :: 0x00 :: 0x07 :: 0x04 :: 0xa7 :: 0x00 :: 0x04 :: 0x03 :: 0x36 :: 0x04 :: 0x15 :: 0x04 :: 0x9a :: 0x00 :: 0x09 :: 0x2a :: 0x04 :: 0xb6 :: 0x00 :: 0x3e :: 0xac :: 0x1d :: 0x10 :: 0x64 :: 0x6c :: 0x36 :: 0x05 :: sg_05_cX9_cast_2
def sg_05_cX9_cast_0 : List UInt8 := 0x1b :: 0x03 :: 0x11 :: 0x02 :: 0xbb :: 0xb8 :: 0x00 :: 0x35 :: 0x99 :: 0x00 :: 0x24 :: 0x1c :: 0x03 :: 0x11 :: 0x27 :: 0x0f :: 0xb8 :: 0x00 :: 0x35 :: 0x99 :: 0x00 :: 0x19 :: 0x1d :: 0x03 :: 0x11 :: 0x03 :: 0xde :: 0xb8 :: 0x00 :: 0x35 :: 0x99 :: 0x00 :: sg_05_cX9_cast_1
set_option maxRecDepth 100000 in
theorem sd_05_cX9_cast_0 : cX9_cast.data.toList.drop 0 = sg_05_cX9_cast_0 := by decide +kernel
theorem sd_05_cX9_cast_1 : cX9_cast.data.toList.drop 32 = sg_05_cX9_cast_1 := sg_next sd_05_cX9_cast_0 rfl
theorem sd_05_cX9_cast_2 : cX9_cast.data.toList.drop 64 = sg_05_cX9_cast_2 := sg_next sd_05_cX9_cast_1 rfl
theorem sd_05_cX9_cast_3 : cX9_cast.data.toList.drop 96 = sg_05_cX9_cast_3 := sg_next sd_05_cX9_cast_2 rfl
theorem sd_05_cX9_cast_4 : cX9_cast.data.toList.drop 128 = sg_05_cX9_cast_4 := sg_next sd_05_cX9_cast_3 rfl
theorem sd_05_cX9_cast_5 : cX9_cast.data.toList.drop 160 = sg_05_cX9_cast_5 := sg_next sd_05_cX9_cast_4 rfl
theorem sd_05_cX9_cast_6 : cX9_cast.data.toList.drop 192 = sg_05_cX9_cast_6 := sg_next sd_05_cX9_cast_5 rfl
theorem sd_05_cX9_cast_7 : cX9_cast.data.toList.drop 224 = sg_05_cX9_cast_7 := sg_next sd_05_cX9_cast_6 rfl
theorem sd_05_cX9_cast_8 : cX9_cast.data.toList.drop 256 = sg_05_cX9_cast_8 := sg_next sd_05_cX9_cast_7 rfl
theorem sd_05_cX9_cast_9 : cX9_cast.data.toList.drop 288 = sg_05_cX9_cast_9 := sg_next sd_05_cX9_cast_8 rfl
theorem sd_05_cX9_cast_10 : cX9_cast.data.toList.drop 320 = sg_05_cX9_cast_10 := sg_next sd_05_cX9_cast_9 rfl
theorem sd_05_cX9_cast_11 : cX9_cast.data.toList.drop 352 = sg_05_cX9_cast_11 := sg_next sd_05_cX9_cast_10 rfl
theorem dR_cast_0 : decode cX9_cast 0 = .ok (.iload_n 1, 1) := op_27 (rdSeg sd_05_cX9_cast_0 0 rfl rfl)
theorem dR_cast_1 : decode cX9_cast 1 = .ok (.iconst 0, 1) := op_3 (rdSeg sd_05_cX9_cast_0 1 rfl rfl)
theorem dR_cast_2 : decode cX9_cast 2 = .ok (.sipush 699, 3) := op_17 (rdSeg sd_05_cX9_cast_0 2 rfl rfl) (rdSeg sd_05_cX9_cast_0 3 rfl rfl) (rdSeg sd_05_cX9_cast_0 4 rfl rfl) (by decide +kernel)
theorem dR_cast_5 : decode cX9_cast 5 = .ok (.invokestatic 53, 3) := op_184 (rdSeg sd_05_cX9_cast_0 5 rfl rfl) (rdSeg sd_05_cX9_cast_0 6 rfl rfl) (rdSeg sd_05_cX9_cast_0 7 rfl rfl) rfl
theorem dR_cast_8 : decode cX9_cast 8 = .ok (.ifCond .eq 36, 3) := op_153 (rdSeg sd_05_cX9_cast_0 8 rfl rfl) (rdSeg sd_05_cX9_cast_0 9 rfl rfl) (rdSeg sd_05_cX9_cast_0 10 rfl rfl) (by decide +kernel)
theorem dR_cast_11 : decode cX9_cast 11 = .ok (.iload_n 2, 1) := op_28 (rdSeg sd_05_cX9_cast_0 11 rfl rfl)
theorem dR_cast_12 : decode cX9_cast 12 = .ok (.iconst 0, 1) := op_3 (rdSeg sd_05_cX9_cast_0 12 rfl rfl)
theorem dR_cast_13 : decode cX9_cast 13 = .ok (.sipush 9999, 3) := op_17 (rdSeg sd_05_cX9_cast_0 13 rfl rfl) (rdSeg sd_05_cX9_cast_0 14 rfl rfl) (rdSeg sd_05_cX9_cast_0 15 rfl rfl) (by decide +kernel)
theorem dR_cast_16 : decode cX9_cast 16 = .ok (.invokestatic 53, 3) := op_184 (rdSeg sd_05_cX9_cast_0 16 rfl rfl) (rdSeg sd_05_cX9_cast_0 17 rfl rfl) (rdSeg sd_05_cX9_cast_0 18 rfl rfl) rfl
theorem dR_cast_19 : decode cX9_cast 19 = .ok (.ifCond .eq 25, 3) := op_153 (rdSeg sd_05_cX9_cast_0 19 rfl rfl) (rdSeg sd_05_cX9_cast_0 20 rfl rfl) (rdSeg sd_05_cX9_cast_0 21 rfl rfl) (by decide +kernel)
theorem dR_cast_22 : decode cX9_cast 22 = .ok (.iload_n 3, 1) := op_29 (rdSeg sd_05_cX9_cast_0 22 rfl rfl)
theorem dR_cast_23 : decode cX9_cast 23 = .ok (.iconst 0, 1) := op_3 (rdSeg sd_05_cX9_cast_0 23 rfl rfl)
theorem dR_cast_24 : decode cX9_cast 24 = .ok (.sipush 990, 3) := op_17 (rdSeg sd_05_cX9_cast_0 24 rfl rfl) (rdSeg sd_05_cX9_cast_0 25 rfl rfl) (rdSeg sd_05_cX9_cast_0 26 rfl rfl) (by decide +kernel)
theorem dR_cast_27 : decode cX9_cast 27 = .ok (.invokestatic 53, 3) := op_184 (rdSeg sd_05_cX9_cast_0 27 rfl rfl) (rdSeg sd_05_cX9_cast_0 28 rfl rfl) (rdSeg sd_05_cX9_cast_0 29 rfl rfl) rfl
theorem dR_cast_30 : decode cX9_cast 30 = .ok (.ifCond .eq 14, 3) := op_153 (rdSeg sd_05_cX9_cast_0 30 rfl rfl) (rdSeg sd_05_cX9_cast_0 31 rfl rfl) (rdSeg sd_05_cX9_cast_1 0 rfl rfl) (by decide +kernel)
theorem dR_cast_33 : decode cX9_cast 33 = .ok (.iload_n 3, 1) := op_29 (rdSeg sd_05_cX9_cast_1 1 rfl rfl)
theorem dR_cast_34 : decode cX9_cast 34 = .ok (.bipush 10, 2) := op_16 (rdSeg sd_05_cX9_cast_1 2 rfl rfl) (rdSeg sd_05_cX9_cast_1 3 rfl rfl) (by decide +kernel)
theorem dR_cast_36 : decode cX9_cast 36 = .ok (.irem, 1) := op_112 (rdSeg sd_05_cX9_cast_1 4 rfl rfl)
theorem dR_cast_37 : decode cX9_cast 37 = .ok (.ifCond .ne 7, 3) := op_154 (rdSeg sd_05_cX9_cast_1 5 rfl rfl) (rdSeg sd_05_cX9_cast_1 6 rfl rfl) (rdSeg sd_05_cX9_cast_1 7 rfl rfl) (by decide +kernel)
theorem dR_cast_40 : decode cX9_cast 40 = .ok (.iconst 1, 1) := op_4 (rdSeg sd_05_cX9_cast_1 8 rfl rfl)
theorem dR_cast_41 : decode cX9_cast 41 = .ok (.goto 4, 3) := op_167 (rdSeg sd_05_cX9_cast_1 9 rfl rfl) (rdSeg sd_05_cX9_cast_1 10 rfl rfl) (rdSeg sd_05_cX9_cast_1 11 rfl rfl) (by decide +kernel)
theorem dR_cast_44 : decode cX9_cast 44 = .ok (.iconst 0, 1) := op_3 (rdSeg sd_05_cX9_cast_1 12 rfl rfl)
theorem dR_cast_45 : decode cX9_cast 45 = .ok (.istore 4, 2) := op_54 (rdSeg sd_05_cX9_cast_1 13 rfl rfl) (rdSeg sd_05_cX9_cast_1 14 rfl rfl)
theorem dR_cast_47 : decode cX9_cast 47 = .ok (.iload 4, 2) := op_21 (rdSeg sd_05_cX9_cast_1 15 rfl rfl) (rdSeg sd_05_cX9_cast_1 16 rfl rfl)
theorem dR_cast_49 : decode cX9_cast 49 = .ok (.ifCond .ne 9, 3) := op_154 (rdSeg sd_05_cX9_cast_1 17 rfl rfl) (rdSeg sd_05_cX9_cast_1 18 rfl rfl) (rdSeg sd_05_cX9_cast_1 19 rfl rfl) (by decide +kernel)
theorem dR_cast_52 : decode cX9_cast 52 = .ok (.aload_n 0, 1) := op_42 (rdSeg sd_05_cX9_cast_1 20 rfl rfl)
theorem dR_cast_53 : decode cX9_cast 53 = .ok (.iconst 1, 1) := op_4 (rdSeg sd_05_cX9_cast_1 21 rfl rfl)
theorem dR_cast_54 : decode cX9_cast 54 = .ok (.invokevirtual 62, 3) := op_182 (rdSeg sd_05_cX9_cast_1 22 rfl rfl) (rdSeg sd_05_cX9_cast_1 23 rfl rfl) (rdSeg sd_05_cX9_cast_1 24 rfl rfl) rfl
theorem dR_cast_57 : decode cX9_cast 57 = .ok (.ireturn, 1) := op_172 (rdSeg sd_05_cX9_cast_1 25 rfl rfl)
theorem dR_cast_58 : decode cX9_cast 58 = .ok (.iload_n 3, 1) := op_29 (rdSeg sd_05_cX9_cast_1 26 rfl rfl)
theorem dR_cast_59 : decode cX9_cast 59 = .ok (.bipush 100, 2) := op_16 (rdSeg sd_05_cX9_cast_1 27 rfl rfl) (rdSeg sd_05_cX9_cast_1 28 rfl rfl) (by decide +kernel)
theorem dR_cast_61 : decode cX9_cast 61 = .ok (.idiv, 1) := op_108 (rdSeg sd_05_cX9_cast_1 29 rfl rfl)
theorem dR_cast_62 : decode cX9_cast 62 = .ok (.istore 5, 2) := op_54 (rdSeg sd_05_cX9_cast_1 30 rfl rfl) (rdSeg sd_05_cX9_cast_1 31 rfl rfl)
theorem dR_cast_64 : decode cX9_cast 64 = .ok (.iload_n 3, 1) := op_29 (rdSeg sd_05_cX9_cast_2 0 rfl rfl)
theorem dR_cast_65 : decode cX9_cast 65 = .ok (.bipush 10, 2) := op_16 (rdSeg sd_05_cX9_cast_2 1 rfl rfl) (rdSeg sd_05_cX9_cast_2 2 rfl rfl) (by decide +kernel)
theorem dR_cast_67 : decode cX9_cast 67 = .ok (.idiv, 1) := op_108 (rdSeg sd_05_cX9_cast_2 3 rfl rfl)
theorem dR_cast_68 : decode cX9_cast 68 = .ok (.bipush 10, 2) := op_16 (rdSeg sd_05_cX9_cast_2 4 rfl rfl) (rdSeg sd_05_cX9_cast_2 5 rfl rfl) (by decide +kernel)
theorem dR_cast_70 : decode cX9_cast 70 = .ok (.irem, 1) := op_112 (rdSeg sd_05_cX9_cast_2 6 rfl rfl)
theorem dR_cast_71 : decode cX9_cast 71 = .ok (.istore 6, 2) := op_54 (rdSeg sd_05_cX9_cast_2 7 rfl rfl) (rdSeg sd_05_cX9_cast_2 8 rfl rfl)
theorem dR_cast_73 : decode cX9_cast 73 = .ok (.aload_n 0, 1) := op_42 (rdSeg sd_05_cX9_cast_2 9 rfl rfl)
theorem dR_cast_74 : decode cX9_cast 74 = .ok (.bipush 12, 2) := op_16 (rdSeg sd_05_cX9_cast_2 10 rfl rfl) (rdSeg sd_05_cX9_cast_2 11 rfl rfl) (by decide +kernel)
theorem dR_cast_76 : decode cX9_cast 76 = .ok (.iconst 2, 1) := op_5 (rdSeg sd_05_cX9_cast_2 12 rfl rfl)
theorem dR_cast_77 : decode cX9_cast 77 = .ok (.invokevirtual 73, 3) := op_182 (rdSeg sd_05_cX9_cast_2 13 rfl rfl) (rdSeg sd_05_cX9_cast_2 14 rfl rfl) (rdSeg sd_05_cX9_cast_2 15 rfl rfl) rfl
theorem dR_cast_80 : decode cX9_cast 80 = .ok (.istore 7, 2) := op_54 (rdSeg sd_05_cX9_cast_2 16 rfl rfl) (rdSeg sd_05_cX9_cast_2 17 rfl rfl)
theorem dR_cast_82 : decode cX9_cast 82 = .ok (.iload 7, 2) := op_21 (rdSeg sd_05_cX9_cast_2 18 rfl rfl) (rdSeg sd_05_cX9_cast_2 19 rfl rfl)
theorem dR_cast_84 : decode cX9_cast 84 = .ok (.ifCond .ne 9, 3) := op_154 (rdSeg sd_05_cX9_cast_2 20 rfl rfl) (rdSeg sd_05_cX9_cast_2 21 rfl rfl) (rdSeg sd_05_cX9_cast_2 22 rfl rfl) (by decide +kernel)
theorem dR_cast_87 : decode cX9_cast 87 = .ok (.aload_n 0, 1) := op_42 (rdSeg sd_05_cX9_cast_2 23 rfl rfl)
theorem dR_cast_88 : decode cX9_cast 88 = .ok (.iconst 3, 1) := op_6 (rdSeg sd_05_cX9_cast_2 24 rfl rfl)
theorem dR_cast_89 : decode cX9_cast 89 = .ok (.invokevirtual 62, 3) := op_182 (rdSeg sd_05_cX9_cast_2 25 rfl rfl) (rdSeg sd_05_cX9_cast_2 26 rfl rfl) (rdSeg sd_05_cX9_cast_2 27 rfl rfl) rfl
theorem dR_cast_92 : decode cX9_cast 92 = .ok (.ireturn, 1) := op_172 (rdSeg sd_05_cX9_cast_2 28 rfl rfl)
theorem dR_cast_93 : decode cX9_cast 93 = .ok (.aload_n 0, 1) := op_42 (rdSeg sd_05_cX9_cast_2 29 rfl rfl)
theorem dR_cast_94 : decode cX9_cast 94 = .ok (.getfield 7, 3) := op_180 (rdSeg sd_05_cX9_cast_2 30 rfl rfl) (rdSeg sd_05_cX9_cast_2 31 rfl rfl) (rdSeg sd_05_cX9_cast_3 0 rfl rfl) rfl
theorem dR_cast_97 : decode cX9_cast 97 = .ok (.iconst 0, 1) := op_3 (rdSeg sd_05_cX9_cast_3 1 rfl rfl)
theorem dR_cast_98 : decode cX9_cast 98 = .ok (.iaload, 1) := op_46 (rdSeg sd_05_cX9_cast_3 2 rfl rfl)
theorem dR_cast_99 : decode cX9_cast 99 = .ok (.iload 6, 2) := op_21 (rdSeg sd_05_cX9_cast_3 3 rfl rfl) (rdSeg sd_05_cX9_cast_3 4 rfl rfl)
theorem dR_cast_101 : decode cX9_cast 101 = .ok (.ifCond .le 7, 3) := op_158 (rdSeg sd_05_cX9_cast_3 5 rfl rfl) (rdSeg sd_05_cX9_cast_3 6 rfl rfl) (rdSeg sd_05_cX9_cast_3 7 rfl rfl) (by decide +kernel)
theorem dR_cast_104 : decode cX9_cast 104 = .ok (.iconst 2, 1) := op_5 (rdSeg sd_05_cX9_cast_3 8 rfl rfl)
theorem dR_cast_105 : decode cX9_cast 105 = .ok (.goto 4, 3) := op_167 (rdSeg sd_05_cX9_cast_3 9 rfl rfl) (rdSeg sd_05_cX9_cast_3 10 rfl rfl) (rdSeg sd_05_cX9_cast_3 11 rfl rfl) (by decide +kernel)
theorem dR_cast_108 : decode cX9_cast 108 = .ok (.iconst 1, 1) := op_4 (rdSeg sd_05_cX9_cast_3 12 rfl rfl)
theorem dR_cast_109 : decode cX9_cast 109 = .ok (.iadd, 1) := op_96 (rdSeg sd_05_cX9_cast_3 13 rfl rfl)
theorem dR_cast_110 : decode cX9_cast 110 = .ok (.bipush 12, 2) := op_16 (rdSeg sd_05_cX9_cast_3 14 rfl rfl) (rdSeg sd_05_cX9_cast_3 15 rfl rfl) (by decide +kernel)
theorem dR_cast_112 : decode cX9_cast 112 = .ok (.if_icmp .le 9, 3) := op_164 (rdSeg sd_05_cX9_cast_3 16 rfl rfl) (rdSeg sd_05_cX9_cast_3 17 rfl rfl) (rdSeg sd_05_cX9_cast_3 18 rfl rfl) (by decide +kernel)
theorem dR_cast_115 : decode cX9_cast 115 = .ok (.aload_n 0, 1) := op_42 (rdSeg sd_05_cX9_cast_3 19 rfl rfl)
theorem dR_cast_116 : decode cX9_cast 116 = .ok (.iconst 4, 1) := op_7 (rdSeg sd_05_cX9_cast_3 20 rfl rfl)
theorem dR_cast_117 : decode cX9_cast 117 = .ok (.invokevirtual 62, 3) := op_182 (rdSeg sd_05_cX9_cast_3 21 rfl rfl) (rdSeg sd_05_cX9_cast_3 22 rfl rfl) (rdSeg sd_05_cX9_cast_3 23 rfl rfl) rfl
theorem dR_cast_120 : decode cX9_cast 120 = .ok (.ireturn, 1) := op_172 (rdSeg sd_05_cX9_cast_3 24 rfl rfl)
theorem dR_cast_121 : decode cX9_cast 121 = .ok (.iload 7, 2) := op_21 (rdSeg sd_05_cX9_cast_3 25 rfl rfl) (rdSeg sd_05_cX9_cast_3 26 rfl rfl)
theorem dR_cast_123 : decode cX9_cast 123 = .ok (.iload_n 2, 1) := op_28 (rdSeg sd_05_cX9_cast_3 27 rfl rfl)
theorem dR_cast_124 : decode cX9_cast 124 = .ok (.iadd, 1) := op_96 (rdSeg sd_05_cX9_cast_3 28 rfl rfl)
theorem dR_cast_125 : decode cX9_cast 125 = .ok (.iconst 0, 1) := op_3 (rdSeg sd_05_cX9_cast_3 29 rfl rfl)
theorem dR_cast_126 : decode cX9_cast 126 = .ok (.ldc 61, 2) := op_18 (rdSeg sd_05_cX9_cast_3 30 rfl rfl) (rdSeg sd_05_cX9_cast_3 31 rfl rfl)
theorem dR_cast_128 : decode cX9_cast 128 = .ok (.invokestatic 92, 3) := op_184 (rdSeg sd_05_cX9_cast_4 0 rfl rfl) (rdSeg sd_05_cX9_cast_4 1 rfl rfl) (rdSeg sd_05_cX9_cast_4 2 rfl rfl) rfl
theorem dR_cast_131 : decode cX9_cast 131 = .ok (.istore 8, 2) := op_54 (rdSeg sd_05_cX9_cast_4 3 rfl rfl) (rdSeg sd_05_cX9_cast_4 4 rfl rfl)
theorem dR_cast_133 : decode cX9_cast 133 = .ok (.aload_n 0, 1) := op_42 (rdSeg sd_05_cX9_cast_4 5 rfl rfl)
theorem dR_cast_134 : decode cX9_cast 134 = .ok (.bipush 12, 2) := op_16 (rdSeg sd_05_cX9_cast_4 6 rfl rfl) (rdSeg sd_05_cX9_cast_4 7 rfl rfl) (by decide +kernel)
theorem dR_cast_136 : decode cX9_cast 136 = .ok (.iconst 2, 1) := op_5 (rdSeg sd_05_cX9_cast_4 8 rfl rfl)
theorem dR_cast_137 : decode cX9_cast 137 = .ok (.iload 8, 2) := op_21 (rdSeg sd_05_cX9_cast_4 9 rfl rfl) (rdSeg sd_05_cX9_cast_4 10 rfl rfl)
theorem dR_cast_139 : decode cX9_cast 139 = .ok (.invokevirtual 57, 3) := op_182 (rdSeg sd_05_cX9_cast_4 11 rfl rfl) (rdSeg sd_05_cX9_cast_4 12 rfl rfl) (rdSeg sd_05_cX9_cast_4 13 rfl rfl) rfl
theorem dR_cast_142 : decode cX9_cast 142 = .ok (.aload_n 0, 1) := op_42 (rdSeg sd_05_cX9_cast_4 14 rfl rfl)
theorem dR_cast_143 : decode cX9_cast 143 = .ok (.bipush 12, 2) := op_16 (rdSeg sd_05_cX9_cast_4 15 rfl rfl) (rdSeg sd_05_cX9_cast_4 16 rfl rfl) (by decide +kernel)
theorem dR_cast_145 : decode cX9_cast 145 = .ok (.iconst 3, 1) := op_6 (rdSeg sd_05_cX9_cast_4 17 rfl rfl)
theorem dR_cast_146 : decode cX9_cast 146 = .ok (.aload_n 0, 1) := op_42 (rdSeg sd_05_cX9_cast_4 18 rfl rfl)
theorem dR_cast_147 : decode cX9_cast 147 = .ok (.bipush 12, 2) := op_16 (rdSeg sd_05_cX9_cast_4 19 rfl rfl) (rdSeg sd_05_cX9_cast_4 20 rfl rfl) (by decide +kernel)
theorem dR_cast_149 : decode cX9_cast 149 = .ok (.iconst 3, 1) := op_6 (rdSeg sd_05_cX9_cast_4 21 rfl rfl)
theorem dR_cast_150 : decode cX9_cast 150 = .ok (.invokevirtual 73, 3) := op_182 (rdSeg sd_05_cX9_cast_4 22 rfl rfl) (rdSeg sd_05_cX9_cast_4 23 rfl rfl) (rdSeg sd_05_cX9_cast_4 24 rfl rfl) rfl
theorem dR_cast_153 : decode cX9_cast 153 = .ok (.iload_n 2, 1) := op_28 (rdSeg sd_05_cX9_cast_4 25 rfl rfl)
theorem dR_cast_154 : decode cX9_cast 154 = .ok (.iadd, 1) := op_96 (rdSeg sd_05_cX9_cast_4 26 rfl rfl)
theorem dR_cast_155 : decode cX9_cast 155 = .ok (.iconst 0, 1) := op_3 (rdSeg sd_05_cX9_cast_4 27 rfl rfl)
theorem dR_cast_156 : decode cX9_cast 156 = .ok (.iload 8, 2) := op_21 (rdSeg sd_05_cX9_cast_4 28 rfl rfl) (rdSeg sd_05_cX9_cast_4 29 rfl rfl)
theorem dR_cast_158 : decode cX9_cast 158 = .ok (.invokestatic 92, 3) := op_184 (rdSeg sd_05_cX9_cast_4 30 rfl rfl) (rdSeg sd_05_cX9_cast_4 31 rfl rfl) (rdSeg sd_05_cX9_cast_5 0 rfl rfl) rfl
theorem dR_cast_161 : decode cX9_cast 161 = .ok (.invokevirtual 57, 3) := op_182 (rdSeg sd_05_cX9_cast_5 1 rfl rfl) (rdSeg sd_05_cX9_cast_5 2 rfl rfl) (rdSeg sd_05_cX9_cast_5 3 rfl rfl) rfl
theorem dR_cast_164 : decode cX9_cast 164 = .ok (.bipush 6, 2) := op_16 (rdSeg sd_05_cX9_cast_5 4 rfl rfl) (rdSeg sd_05_cX9_cast_5 5 rfl rfl) (by decide +kernel)
theorem dR_cast_166 : decode cX9_cast 166 = .ok (.istore 9, 2) := op_54 (rdSeg sd_05_cX9_cast_5 6 rfl rfl) (rdSeg sd_05_cX9_cast_5 7 rfl rfl)
theorem dR_cast_168 : decode cX9_cast 168 = .ok (.iload 9, 2) := op_21 (rdSeg sd_05_cX9_cast_5 8 rfl rfl) (rdSeg sd_05_cX9_cast_5 9 rfl rfl)
theorem dR_cast_170 : decode cX9_cast 170 = .ok (.bipush 10, 2) := op_16 (rdSeg sd_05_cX9_cast_5 10 rfl rfl) (rdSeg sd_05_cX9_cast_5 11 rfl rfl) (by decide +kernel)
theorem dR_cast_172 : decode cX9_cast 172 = .ok (.if_icmp .ge 32, 3) := op_162 (rdSeg sd_05_cX9_cast_5 12 rfl rfl) (rdSeg sd_05_cX9_cast_5 13 rfl rfl) (rdSeg sd_05_cX9_cast_5 14 rfl rfl) (by decide +kernel)
theorem dR_cast_175 : decode cX9_cast 175 = .ok (.aload_n 0, 1) := op_42 (rdSeg sd_05_cX9_cast_5 15 rfl rfl)
theorem dR_cast_176 : decode cX9_cast 176 = .ok (.bipush 12, 2) := op_16 (rdSeg sd_05_cX9_cast_5 16 rfl rfl) (rdSeg sd_05_cX9_cast_5 17 rfl rfl) (by decide +kernel)
theorem dR_cast_178 : decode cX9_cast 178 = .ok (.iload 9, 2) := op_21 (rdSeg sd_05_cX9_cast_5 18 rfl rfl) (rdSeg sd_05_cX9_cast_5 19 rfl rfl)
theorem dR_cast_180 : decode cX9_cast 180 = .ok (.aload_n 0, 1) := op_42 (rdSeg sd_05_cX9_cast_5 20 rfl rfl)
theorem dR_cast_181 : decode cX9_cast 181 = .ok (.bipush 12, 2) := op_16 (rdSeg sd_05_cX9_cast_5 21 rfl rfl) (rdSeg sd_05_cX9_cast_5 22 rfl rfl) (by decide +kernel)
theorem dR_cast_183 : decode cX9_cast 183 = .ok (.iload 9, 2) := op_21 (rdSeg sd_05_cX9_cast_5 23 rfl rfl) (rdSeg sd_05_cX9_cast_5 24 rfl rfl)
theorem dR_cast_185 : decode cX9_cast 185 = .ok (.invokevirtual 73, 3) := op_182 (rdSeg sd_05_cX9_cast_5 25 rfl rfl) (rdSeg sd_05_cX9_cast_5 26 rfl rfl) (rdSeg sd_05_cX9_cast_5 27 rfl rfl) rfl
theorem dR_cast_188 : decode cX9_cast 188 = .ok (.iload 7, 2) := op_21 (rdSeg sd_05_cX9_cast_5 28 rfl rfl) (rdSeg sd_05_cX9_cast_5 29 rfl rfl)
theorem dR_cast_190 : decode cX9_cast 190 = .ok (.iload 8, 2) := op_21 (rdSeg sd_05_cX9_cast_5 30 rfl rfl) (rdSeg sd_05_cX9_cast_5 31 rfl rfl)
theorem dR_cast_192 : decode cX9_cast 192 = .ok (.invokestatic 99, 3) := op_184 (rdSeg sd_05_cX9_cast_6 0 rfl rfl) (rdSeg sd_05_cX9_cast_6 1 rfl rfl) (rdSeg sd_05_cX9_cast_6 2 rfl rfl) rfl
theorem dR_cast_195 : decode cX9_cast 195 = .ok (.invokevirtual 57, 3) := op_182 (rdSeg sd_05_cX9_cast_6 3 rfl rfl) (rdSeg sd_05_cX9_cast_6 4 rfl rfl) (rdSeg sd_05_cX9_cast_6 5 rfl rfl) rfl
theorem dR_cast_198 : decode cX9_cast 198 = .ok (.iinc 9 1, 3) := op_132 (rdSeg sd_05_cX9_cast_6 6 rfl rfl) (rdSeg sd_05_cX9_cast_6 7 rfl rfl) (rdSeg sd_05_cX9_cast_6 8 rfl rfl) (by decide +kernel)
theorem dR_cast_201 : decode cX9_cast 201 = .ok (.goto (-33), 3) := op_167 (rdSeg sd_05_cX9_cast_6 9 rfl rfl) (rdSeg sd_05_cX9_cast_6 10 rfl rfl) (rdSeg sd_05_cX9_cast_6 11 rfl rfl) (by decide +kernel)
theorem dR_cast_204 : decode cX9_cast 204 = .ok (.aload_n 0, 1) := op_42 (rdSeg sd_05_cX9_cast_6 12 rfl rfl)
theorem dR_cast_205 : decode cX9_cast 205 = .ok (.iload_n 1, 1) := op_27 (rdSeg sd_05_cX9_cast_6 13 rfl rfl)
theorem dR_cast_206 : decode cX9_cast 206 = .ok (.invokevirtual 66, 3) := op_182 (rdSeg sd_05_cX9_cast_6 14 rfl rfl) (rdSeg sd_05_cX9_cast_6 15 rfl rfl) (rdSeg sd_05_cX9_cast_6 16 rfl rfl) rfl
theorem dR_cast_209 : decode cX9_cast 209 = .ok (.istore 9, 2) := op_54 (rdSeg sd_05_cX9_cast_6 17 rfl rfl) (rdSeg sd_05_cX9_cast_6 18 rfl rfl)
theorem dR_cast_211 : decode cX9_cast 211 = .ok (.iload 6, 2) := op_21 (rdSeg sd_05_cX9_cast_6 19 rfl rfl) (rdSeg sd_05_cX9_cast_6 20 rfl rfl)
theorem dR_cast_213 : decode cX9_cast 213 = .ok (.ifCond .le 13, 3) := op_158 (rdSeg sd_05_cX9_cast_6 21 rfl rfl) (rdSeg sd_05_cX9_cast_6 22 rfl rfl) (rdSeg sd_05_cX9_cast_6 23 rfl rfl) (by decide +kernel)
theorem dR_cast_216 : decode cX9_cast 216 = .ok (.aload_n 0, 1) := op_42 (rdSeg sd_05_cX9_cast_6 24 rfl rfl)
theorem dR_cast_217 : decode cX9_cast 217 = .ok (.sipush 600, 3) := op_17 (rdSeg sd_05_cX9_cast_6 25 rfl rfl) (rdSeg sd_05_cX9_cast_6 26 rfl rfl) (rdSeg sd_05_cX9_cast_6 27 rfl rfl) (by decide +kernel)
theorem dR_cast_220 : decode cX9_cast 220 = .ok (.invokevirtual 66, 3) := op_182 (rdSeg sd_05_cX9_cast_6 28 rfl rfl) (rdSeg sd_05_cX9_cast_6 29 rfl rfl) (rdSeg sd_05_cX9_cast_6 30 rfl rfl) rfl
theorem dR_cast_223 : decode cX9_cast 223 = .ok (.goto 4, 3) := op_167 (rdSeg sd_05_cX9_cast_6 31 rfl rfl) (rdSeg sd_05_cX9_cast_7 0 rfl rfl) (rdSeg sd_05_cX9_cast_7 1 rfl rfl) (by decide +kernel)
theorem dR_cast_226 : decode cX9_cast 226 = .ok (.iconst (-1), 1) := op_2 (rdSeg sd_05_cX9_cast_7 2 rfl rfl)
theorem dR_cast_227 : decode cX9_cast 227 = .ok (.istore 10, 2) := op_54 (rdSeg sd_05_cX9_cast_7 3 rfl rfl) (rdSeg sd_05_cX9_cast_7 4 rfl rfl)
theorem dR_cast_229 : decode cX9_cast 229 = .ok (.iconst 2, 1) := op_5 (rdSeg sd_05_cX9_cast_7 5 rfl rfl)
theorem dR_cast_230 : decode cX9_cast 230 = .ok (.istore 11, 2) := op_54 (rdSeg sd_05_cX9_cast_7 6 rfl rfl) (rdSeg sd_05_cX9_cast_7 7 rfl rfl)
theorem dR_cast_232 : decode cX9_cast 232 = .ok (.iload 11, 2) := op_21 (rdSeg sd_05_cX9_cast_7 8 rfl rfl) (rdSeg sd_05_cX9_cast_7 9 rfl rfl)
theorem dR_cast_234 : decode cX9_cast 234 = .ok (.bipush 10, 2) := op_16 (rdSeg sd_05_cX9_cast_7 10 rfl rfl) (rdSeg sd_05_cX9_cast_7 11 rfl rfl) (by decide +kernel)
theorem dR_cast_236 : decode cX9_cast 236 = .ok (.if_icmp .ge 126, 3) := op_162 (rdSeg sd_05_cX9_cast_7 12 rfl rfl) (rdSeg sd_05_cX9_cast_7 13 rfl rfl) (rdSeg sd_05_cX9_cast_7 14 rfl rfl) (by decide +kernel)
theorem dR_cast_239 : decode cX9_cast 239 = .ok (.aload_n 0, 1) := op_42 (rdSeg sd_05_cX9_cast_7 15 rfl rfl)
theorem dR_cast_240 : decode cX9_cast 240 = .ok (.bipush 12, 2) := op_16 (rdSeg sd_05_cX9_cast_7 16 rfl rfl) (rdSeg sd_05_cX9_cast_7 17 rfl rfl) (by decide +kernel)
theorem dR_cast_242 : decode cX9_cast 242 = .ok (.iload 11, 2) := op_21 (rdSeg sd_05_cX9_cast_7 18 rfl rfl) (rdSeg sd_05_cX9_cast_7 19 rfl rfl)
theorem dR_cast_244 : decode cX9_cast 244 = .ok (.invokevirtual 73, 3) := op_182 (rdSeg sd_05_cX9_cast_7 20 rfl rfl) (rdSeg sd_05_cX9_cast_7 21 rfl rfl) (rdSeg sd_05_cX9_cast_7 22 rfl rfl) rfl
theorem dR_cast_247 : decode cX9_cast 247 = .ok (.istore 12, 2) := op_54 (rdSeg sd_05_cX9_cast_7 23 rfl rfl) (rdSeg sd_05_cX9_cast_7 24 rfl rfl)
theorem dR_cast_249 : decode cX9_cast 249 = .ok (.iload 11, 2) := op_21 (rdSeg sd_05_cX9_cast_7 25 rfl rfl) (rdSeg sd_05_cX9_cast_7 26 rfl rfl)
theorem dR_cast_251 : decode cX9_cast 251 = .ok (.bipush 6, 2) := op_16 (rdSeg sd_05_cX9_cast_7 27 rfl rfl) (rdSeg sd_05_cX9_cast_7 28 rfl rfl) (by decide +kernel)
theorem dR_cast_253 : decode cX9_cast 253 = .ok (.if_icmp .lt 7, 3) := op_161 (rdSeg sd_05_cX9_cast_7 29 rfl rfl) (rdSeg sd_05_cX9_cast_7 30 rfl rfl) (rdSeg sd_05_cX9_cast_7 31 rfl rfl) (by decide +kernel)
theorem dR_cast_256 : decode cX9_cast 256 = .ok (.iconst 1, 1) := op_4 (rdSeg sd_05_cX9_cast_8 0 rfl rfl)
theorem dR_cast_257 : decode cX9_cast 257 = .ok (.goto 4, 3) := op_167 (rdSeg sd_05_cX9_cast_8 1 rfl rfl) (rdSeg sd_05_cX9_cast_8 2 rfl rfl) (rdSeg sd_05_cX9_cast_8 3 rfl rfl) (by decide +kernel)
theorem dR_cast_260 : decode cX9_cast 260 = .ok (.iconst 0, 1) := op_3 (rdSeg sd_05_cX9_cast_8 4 rfl rfl)
theorem dR_cast_261 : decode cX9_cast 261 = .ok (.istore 13, 2) := op_54 (rdSeg sd_05_cX9_cast_8 5 rfl rfl) (rdSeg sd_05_cX9_cast_8 6 rfl rfl)
theorem dR_cast_263 : decode cX9_cast 263 = .ok (.iload 13, 2) := op_21 (rdSeg sd_05_cX9_cast_8 7 rfl rfl) (rdSeg sd_05_cX9_cast_8 8 rfl rfl)
theorem dR_cast_265 : decode cX9_cast 265 = .ok (.ifCond .eq 8, 3) := op_153 (rdSeg sd_05_cX9_cast_8 9 rfl rfl) (rdSeg sd_05_cX9_cast_8 10 rfl rfl) (rdSeg sd_05_cX9_cast_8 11 rfl rfl) (by decide +kernel)
theorem dR_cast_268 : decode cX9_cast 268 = .ok (.iload 12, 2) := op_21 (rdSeg sd_05_cX9_cast_8 12 rfl rfl) (rdSeg sd_05_cX9_cast_8 13 rfl rfl)
theorem dR_cast_270 : decode cX9_cast 270 = .ok (.goto 15, 3) := op_167 (rdSeg sd_05_cX9_cast_8 14 rfl rfl) (rdSeg sd_05_cX9_cast_8 15 rfl rfl) (rdSeg sd_05_cX9_cast_8 16 rfl rfl) (by decide +kernel)
theorem dR_cast_273 : decode cX9_cast 273 = .ok (.iload 12, 2) := op_21 (rdSeg sd_05_cX9_cast_8 17 rfl rfl) (rdSeg sd_05_cX9_cast_8 18 rfl rfl)
theorem dR_cast_275 : decode cX9_cast 275 = .ok (.iload 12, 2) := op_21 (rdSeg sd_05_cX9_cast_8 19 rfl rfl) (rdSeg sd_05_cX9_cast_8 20 rfl rfl)
theorem dR_cast_277 : decode cX9_cast 277 = .ok (.iload 5, 2) := op_21 (rdSeg sd_05_cX9_cast_8 21 rfl rfl) (rdSeg sd_05_cX9_cast_8 22 rfl rfl)
theorem dR_cast_279 : decode cX9_cast 279 = .ok (.bipush 100, 2) := op_16 (rdSeg sd_05_cX9_cast_8 23 rfl rfl) (rdSeg sd_05_cX9_cast_8 24 rfl rfl) (by decide +kernel)
theorem dR_cast_281 : decode cX9_cast 281 = .ok (.invokestatic 99, 3) := op_184 (rdSeg sd_05_cX9_cast_8 25 rfl rfl) (rdSeg sd_05_cX9_cast_8 26 rfl rfl) (rdSeg sd_05_cX9_cast_8 27 rfl rfl) rfl
theorem dR_cast_284 : decode cX9_cast 284 = .ok (.isub, 1) := op_100 (rdSeg sd_05_cX9_cast_8 28 rfl rfl)
theorem dR_cast_285 : decode cX9_cast 285 = .ok (.istore 14, 2) := op_54 (rdSeg sd_05_cX9_cast_8 29 rfl rfl) (rdSeg sd_05_cX9_cast_8 30 rfl rfl)
theorem dR_cast_287 : decode cX9_cast 287 = .ok (.iload 13, 2) := op_21 (rdSeg sd_05_cX9_cast_8 31 rfl rfl) (rdSeg sd_05_cX9_cast_9 0 rfl rfl)
theorem dR_cast_289 : decode cX9_cast 289 = .ok (.ifCond .eq 8, 3) := op_153 (rdSeg sd_05_cX9_cast_9 1 rfl rfl) (rdSeg sd_05_cX9_cast_9 2 rfl rfl) (rdSeg sd_05_cX9_cast_9 3 rfl rfl) (by decide +kernel)
theorem dR_cast_292 : decode cX9_cast 292 = .ok (.iload 12, 2) := op_21 (rdSeg sd_05_cX9_cast_9 4 rfl rfl) (rdSeg sd_05_cX9_cast_9 5 rfl rfl)
theorem dR_cast_294 : decode cX9_cast 294 = .ok (.goto 12, 3) := op_167 (rdSeg sd_05_cX9_cast_9 6 rfl rfl) (rdSeg sd_05_cX9_cast_9 7 rfl rfl) (rdSeg sd_05_cX9_cast_9 8 rfl rfl) (by decide +kernel)
theorem dR_cast_297 : decode cX9_cast 297 = .ok (.iload 14, 2) := op_21 (rdSeg sd_05_cX9_cast_9 9 rfl rfl) (rdSeg sd_05_cX9_cast_9 10 rfl rfl)
theorem dR_cast_299 : decode cX9_cast 299 = .ok (.iload 6, 2) := op_21 (rdSeg sd_05_cX9_cast_9 11 rfl rfl) (rdSeg sd_05_cX9_cast_9 12 rfl rfl)
theorem dR_cast_301 : decode cX9_cast 301 = .ok (.bipush 10, 2) := op_16 (rdSeg sd_05_cX9_cast_9 13 rfl rfl) (rdSeg sd_05_cX9_cast_9 14 rfl rfl) (by decide +kernel)
theorem dR_cast_303 : decode cX9_cast 303 = .ok (.invokestatic 99, 3) := op_184 (rdSeg sd_05_cX9_cast_9 15 rfl rfl) (rdSeg sd_05_cX9_cast_9 16 rfl rfl) (rdSeg sd_05_cX9_cast_9 17 rfl rfl) rfl
theorem dR_cast_306 : decode cX9_cast 306 = .ok (.istore 15, 2) := op_54 (rdSeg sd_05_cX9_cast_9 18 rfl rfl) (rdSeg sd_05_cX9_cast_9 19 rfl rfl)
theorem dR_cast_308 : decode cX9_cast 308 = .ok (.aload_n 0, 1) := op_42 (rdSeg sd_05_cX9_cast_9 20 rfl rfl)
theorem dR_cast_309 : decode cX9_cast 309 = .ok (.iload 9, 2) := op_21 (rdSeg sd_05_cX9_cast_9 21 rfl rfl) (rdSeg sd_05_cX9_cast_9 22 rfl rfl)
theorem dR_cast_311 : decode cX9_cast 311 = .ok (.iload 11, 2) := op_21 (rdSeg sd_05_cX9_cast_9 23 rfl rfl) (rdSeg sd_05_cX9_cast_9 24 rfl rfl)
theorem dR_cast_313 : decode cX9_cast 313 = .ok (.iload 13, 2) := op_21 (rdSeg sd_05_cX9_cast_9 25 rfl rfl) (rdSeg sd_05_cX9_cast_9 26 rfl rfl)
theorem dR_cast_315 : decode cX9_cast 315 = .ok (.ifCond .eq 8, 3) := op_153 (rdSeg sd_05_cX9_cast_9 27 rfl rfl) (rdSeg sd_05_cX9_cast_9 28 rfl rfl) (rdSeg sd_05_cX9_cast_9 29 rfl rfl) (by decide +kernel)
theorem dR_cast_318 : decode cX9_cast 318 = .ok (.iload 12, 2) := op_21 (rdSeg sd_05_cX9_cast_9 30 rfl rfl) (rdSeg sd_05_cX9_cast_9 31 rfl rfl)
theorem dR_cast_320 : decode cX9_cast 320 = .ok (.goto 8, 3) := op_167 (rdSeg sd_05_cX9_cast_10 0 rfl rfl) (rdSeg sd_05_cX9_cast_10 1 rfl rfl) (rdSeg sd_05_cX9_cast_10 2 rfl rfl) (by decide +kernel)
theorem dR_cast_323 : decode cX9_cast 323 = .ok (.iload 14, 2) := op_21 (rdSeg sd_05_cX9_cast_10 3 rfl rfl) (rdSeg sd_05_cX9_cast_10 4 rfl rfl)
theorem dR_cast_325 : decode cX9_cast 325 = .ok (.iload 15, 2) := op_21 (rdSeg sd_05_cX9_cast_10 5 rfl rfl) (rdSeg sd_05_cX9_cast_10 6 rfl rfl)
theorem dR_cast_327 : decode cX9_cast 327 = .ok (.isub, 1) := op_100 (rdSeg sd_05_cX9_cast_10 7 rfl rfl)
theorem dR_cast_328 : decode cX9_cast 328 = .ok (.invokevirtual 57, 3) := op_182 (rdSeg sd_05_cX9_cast_10 8 rfl rfl) (rdSeg sd_05_cX9_cast_10 9 rfl rfl) (rdSeg sd_05_cX9_cast_10 10 rfl rfl) rfl
theorem dR_cast_331 : decode cX9_cast 331 = .ok (.iload 10, 2) := op_21 (rdSeg sd_05_cX9_cast_10 11 rfl rfl) (rdSeg sd_05_cX9_cast_10 12 rfl rfl)
theorem dR_cast_333 : decode cX9_cast 333 = .ok (.iconst (-1), 1) := op_2 (rdSeg sd_05_cX9_cast_10 13 rfl rfl)
theorem dR_cast_334 : decode cX9_cast 334 = .ok (.if_icmp .eq 13, 3) := op_159 (rdSeg sd_05_cX9_cast_10 14 rfl rfl) (rdSeg sd_05_cX9_cast_10 15 rfl rfl) (rdSeg sd_05_cX9_cast_10 16 rfl rfl) (by decide +kernel)
theorem dR_cast_337 : decode cX9_cast 337 = .ok (.aload_n 0, 1) := op_42 (rdSeg sd_05_cX9_cast_10 17 rfl rfl)
theorem dR_cast_338 : decode cX9_cast 338 = .ok (.iload 10, 2) := op_21 (rdSeg sd_05_cX9_cast_10 18 rfl rfl) (rdSeg sd_05_cX9_cast_10 19 rfl rfl)
theorem dR_cast_340 : decode cX9_cast 340 = .ok (.iload 11, 2) := op_21 (rdSeg sd_05_cX9_cast_10 20 rfl rfl) (rdSeg sd_05_cX9_cast_10 21 rfl rfl)
theorem dR_cast_342 : decode cX9_cast 342 = .ok (.iload 15, 2) := op_21 (rdSeg sd_05_cX9_cast_10 22 rfl rfl) (rdSeg sd_05_cX9_cast_10 23 rfl rfl)
theorem dR_cast_344 : decode cX9_cast 344 = .ok (.invokevirtual 57, 3) := op_182 (rdSeg sd_05_cX9_cast_10 24 rfl rfl) (rdSeg sd_05_cX9_cast_10 25 rfl rfl) (rdSeg sd_05_cX9_cast_10 26 rfl rfl) rfl
theorem dR_cast_347 : decode cX9_cast 347 = .ok (.aload_n 0, 1) := op_42 (rdSeg sd_05_cX9_cast_10 27 rfl rfl)
theorem dR_cast_348 : decode cX9_cast 348 = .ok (.bipush 12, 2) := op_16 (rdSeg sd_05_cX9_cast_10 28 rfl rfl) (rdSeg sd_05_cX9_cast_10 29 rfl rfl) (by decide +kernel)
theorem dR_cast_350 : decode cX9_cast 350 = .ok (.iload 11, 2) := op_21 (rdSeg sd_05_cX9_cast_10 30 rfl rfl) (rdSeg sd_05_cX9_cast_10 31 rfl rfl)
theorem dR_cast_352 : decode cX9_cast 352 = .ok (.iconst 0, 1) := op_3 (rdSeg sd_05_cX9_cast_11 0 rfl rfl)
theorem dR_cast_353 : decode cX9_cast 353 = .ok (.invokevirtual 57, 3) := op_182 (rdSeg sd_05_cX9_cast_11 1 rfl rfl) (rdSeg sd_05_cX9_cast_11 2 rfl rfl) (rdSeg sd_05_cX9_cast_11 3 rfl rfl) rfl
theorem dR_cast_356 : decode cX9_cast 356 = .ok (.iinc 11 1, 3) := op_132 (rdSeg sd_05_cX9_cast_11 4 rfl rfl) (rdSeg sd_05_cX9_cast_11 5 rfl rfl) (rdSeg sd_05_cX9_cast_11 6 rfl rfl) (by decide +kernel)
theorem dR_cast_359 : decode cX9_cast 359 = .ok (.goto (-127), 3) := op_167 (rdSeg sd_05_cX9_cast_11 7 rfl rfl) (rdSeg sd_05_cX9_cast_11 8 rfl rfl) (rdSeg sd_05_cX9_cast_11 9 rfl rfl) (by decide +kernel)
theorem dR_cast_362 : decode cX9_cast 362 = .ok (.iload 9, 2) := op_21 (rdSeg sd_05_cX9_cast_11 10 rfl rfl) (rdSeg sd_05_cX9_cast_11 11 rfl rfl)
theorem dR_cast_364 : decode cX9_cast 364 = .ok (.ireturn, 1) := op_172 (rdSeg sd_05_cX9_cast_11 12 rfl rfl)
def sg_05_cX9_draw_0 : List UInt8 := [0x2a, 0xb4, 0x00, 0x07, 0x10, 0x08, 0x2a, 0xb4, 0x00, 0x07, 0x10, 0x08, 0x2e, 0x12, 0x66, 0x68, 0x11, 0x30, 0x39, 0x60, 0x4f, 0x2a, 0xb4, 0x00, 0x07, 0x10, 0x08, 0x2e, 0x10, 0x08, 0x7c, 0xac]
set_option maxRecDepth 100000 in
theorem sd_05_cX9_draw_0 : cX9_draw.data.toList.drop 0 = sg_05_cX9_draw_0 := by decide +kernel
theorem dR_draw_0 : decode cX9_draw 0 = .ok (.aload_n 0, 1) := op_42 (rdSeg sd_05_cX9_draw_0 0 rfl rfl)
theorem dR_draw_1 : decode cX9_draw 1 = .ok (.getfield 7, 3) := op_180 (rdSeg sd_05_cX9_draw_0 1 rfl rfl) (rdSeg sd_05_cX9_draw_0 2 rfl rfl) (rdSeg sd_05_cX9_draw_0 3 rfl rfl) rfl
theorem dR_draw_4 : decode cX9_draw 4 = .ok (.bipush 8, 2) := op_16 (rdSeg sd_05_cX9_draw_0 4 rfl rfl) (rdSeg sd_05_cX9_draw_0 5 rfl rfl) (by decide +kernel)
theorem dR_draw_6 : decode cX9_draw 6 = .ok (.aload_n 0, 1) := op_42 (rdSeg sd_05_cX9_draw_0 6 rfl rfl)
theorem dR_draw_7 : decode cX9_draw 7 = .ok (.getfield 7, 3) := op_180 (rdSeg sd_05_cX9_draw_0 7 rfl rfl) (rdSeg sd_05_cX9_draw_0 8 rfl rfl) (rdSeg sd_05_cX9_draw_0 9 rfl rfl) rfl
theorem dR_draw_10 : decode cX9_draw 10 = .ok (.bipush 8, 2) := op_16 (rdSeg sd_05_cX9_draw_0 10 rfl rfl) (rdSeg sd_05_cX9_draw_0 11 rfl rfl) (by decide +kernel)
theorem dR_draw_12 : decode cX9_draw 12 = .ok (.iaload, 1) := op_46 (rdSeg sd_05_cX9_draw_0 12 rfl rfl)
theorem dR_draw_13 : decode cX9_draw 13 = .ok (.ldc 102, 2) := op_18 (rdSeg sd_05_cX9_draw_0 13 rfl rfl) (rdSeg sd_05_cX9_draw_0 14 rfl rfl)
theorem dR_draw_15 : decode cX9_draw 15 = .ok (.imul, 1) := op_104 (rdSeg sd_05_cX9_draw_0 15 rfl rfl)
theorem dR_draw_16 : decode cX9_draw 16 = .ok (.sipush 12345, 3) := op_17 (rdSeg sd_05_cX9_draw_0 16 rfl rfl) (rdSeg sd_05_cX9_draw_0 17 rfl rfl) (rdSeg sd_05_cX9_draw_0 18 rfl rfl) (by decide +kernel)
theorem dR_draw_19 : decode cX9_draw 19 = .ok (.iadd, 1) := op_96 (rdSeg sd_05_cX9_draw_0 19 rfl rfl)
theorem dR_draw_20 : decode cX9_draw 20 = .ok (.iastore, 1) := op_79 (rdSeg sd_05_cX9_draw_0 20 rfl rfl)
theorem dR_draw_21 : decode cX9_draw 21 = .ok (.aload_n 0, 1) := op_42 (rdSeg sd_05_cX9_draw_0 21 rfl rfl)
theorem dR_draw_22 : decode cX9_draw 22 = .ok (.getfield 7, 3) := op_180 (rdSeg sd_05_cX9_draw_0 22 rfl rfl) (rdSeg sd_05_cX9_draw_0 23 rfl rfl) (rdSeg sd_05_cX9_draw_0 24 rfl rfl) rfl
theorem dR_draw_25 : decode cX9_draw 25 = .ok (.bipush 8, 2) := op_16 (rdSeg sd_05_cX9_draw_0 25 rfl rfl) (rdSeg sd_05_cX9_draw_0 26 rfl rfl) (by decide +kernel)
theorem dR_draw_27 : decode cX9_draw 27 = .ok (.iaload, 1) := op_46 (rdSeg sd_05_cX9_draw_0 27 rfl rfl)
theorem dR_draw_28 : decode cX9_draw 28 = .ok (.bipush 8, 2) := op_16 (rdSeg sd_05_cX9_draw_0 28 rfl rfl) (rdSeg sd_05_cX9_draw_0 29 rfl rfl) (by decide +kernel)
theorem dR_draw_30 : decode cX9_draw 30 = .ok (.iushr, 1) := op_124 (rdSeg sd_05_cX9_draw_0 30 rfl rfl)
theorem dR_draw_31 : decode cX9_draw 31 = .ok (.ireturn, 1) := op_172 (rdSeg sd_05_cX9_draw_0 31 rfl rfl)
def sg_05_cX9_year_2 : List UInt8 := [0x01, 0x01, 0xa7, 0xff, 0xc0, 0x2a, 0xb4, 0x00, 0x07, 0x08, 0x5c, 0x2e, 0x04, 0x60, 0x4f, 0xb1]
def sg_05_cX9_year_1 : List UInt8 := 0xa3 :: 0x00 :: 0x1f :: 0x2a :: 0x1b :: 0x1c :: 0x2a :: 0x1b :: 0x1c :: 0xb6 :: 0x00 :: 0x49 :: 0x2a :: 0x1b :: 0x1c :: 0xb6 :: 0x00 :: 0x49 :: 0x10 :: 0x64 :: 0x6c :: 0x64 :: 0xb6 :: 0x00 :: 0x39 :: 0x84 :: 0x02 :: 0x01 :: 0xa7 :: 0xff :: 0xe2 :: 0x84 :: sg_05_cX9_year_2
def sg_05_cX9_year_0 : List UInt8 := 0x03 :: 0x3c :: 0x1b :: 0x2a :: 0xb4 :: 0x00 :: 0x07 :: 0x03 :: 0x2e :: 0xa2 :: 0x00 :: 0x3c :: 0x2a :: 0xb6 :: 0x00 :: 0x67 :: 0x10 :: 0x64 :: 0x70 :: 0x2a :: 0x1b :: 0x04 :: 0xb6 :: 0x00 :: 0x49 :: 0xa2 :: 0x00 :: 0x26 :: 0x05 :: 0x3d :: 0x1c :: 0x08 :: sg_05_cX9_year_1
set_option maxRecDepth 100000 in
theorem sd_05_cX9_year_0 : cX9_year.data.toList.drop 0 = sg_05_cX9_year_0 := by decide +kernel
theorem sd_05_cX9_year_1 : cX9_year.data.toList.drop 32 = sg_05_cX9_year_1 := sg_next sd_05_cX9_year_0 rfl
theorem sd_05_cX9_year_2 : cX9_year.data.toList.drop 64 = sg_05_cX9_year_2 := sg_next sd_05_cX9_year_1 rfl
theorem dR_year_0 : decode cX9_year 0 = .ok (.iconst 0, 1) := op_3 (rdSeg sd_05_cX9_year_0 0 rfl rfl)
theorem dR_year_1 : decode cX9_year 1 = .ok (.istore_n 1, 1) := op_60 (rdSeg sd_05_cX9_year_0 1 rfl rfl)
theorem dR_year_2 : decode cX9_year 2 = .ok (.iload_n 1, 1) := op_27 (rdSeg sd_05_cX9_year_0 2 rfl rfl)
theorem dR_year_3 : decode cX9_year 3 = .ok (.aload_n 0, 1) := op_42 (rdSeg sd_05_cX9_year_0 3 rfl rfl)
theorem dR_year_4 : decode cX9_year 4 = .ok (.getfield 7, 3) := op_180 (rdSeg sd_05_cX9_year_0 4 rfl rfl) (rdSeg sd_05_cX9_year_0 5 rfl rfl) (rdSeg sd_05_cX9_year_0 6 rfl rfl) rfl
theorem dR_year_7 : decode cX9_year 7 = .ok (.iconst 0, 1) := op_3 (rdSeg sd_05_cX9_year_0 7 rfl rfl)
theorem dR_year_8 : decode cX9_year 8 = .ok (.iaload, 1) := op_46 (rdSeg sd_05_cX9_year_0 8 rfl rfl)
theorem dR_year_9 : decode cX9_year 9 = .ok (.if_icmp .ge 60, 3) := op_162 (rdSeg sd_05_cX9_year_0 9 rfl rfl) (rdSeg sd_05_cX9_year_0 10 rfl rfl) (rdSeg sd_05_cX9_year_0 11 rfl rfl) (by decide +kernel)
theorem dR_year_12 : decode cX9_year 12 = .ok (.aload_n 0, 1) := op_42 (rdSeg sd_05_cX9_year_0 12 rfl rfl)
theorem dR_year_13 : decode cX9_year 13 = .ok (.invokevirtual 103, 3) := op_182 (rdSeg sd_05_cX9_year_0 13 rfl rfl) (rdSeg sd_05_cX9_year_0 14 rfl rfl) (rdSeg sd_05_cX9_year_0 15 rfl rfl) rfl
theorem dR_year_16 : decode cX9_year 16 = .ok (.bipush 100, 2) := op_16 (rdSeg sd_05_cX9_year_0 16 rfl rfl) (rdSeg sd_05_cX9_year_0 17 rfl rfl) (by decide +kernel)
theorem dR_year_18 : decode cX9_year 18 = .ok (.irem, 1) := op_112 (rdSeg sd_05_cX9_year_0 18 rfl rfl)
theorem dR_year_19 : decode cX9_year 19 = .ok (.aload_n 0, 1) := op_42 (rdSeg sd_05_cX9_year_0 19 rfl rfl)
theorem dR_year_20 : decode cX9_year 20 = .ok (.iload_n 1, 1) := op_27 (rdSeg sd_05_cX9_year_0 20 rfl rfl)
theorem dR_year_21 : decode cX9_year 21 = .ok (.iconst 1, 1) := op_4 (rdSeg sd_05_cX9_year_0 21 rfl rfl)
theorem dR_year_22 : decode cX9_year 22 = .ok (.invokevirtual 73, 3) := op_182 (rdSeg sd_05_cX9_year_0 22 rfl rfl) (rdSeg sd_05_cX9_year_0 23 rfl rfl) (rdSeg sd_05_cX9_year_0 24 rfl rfl) rfl
theorem dR_year_25 : decode cX9_year 25 = .ok (.if_icmp .ge 38, 3) := op_162 (rdSeg sd_05_cX9_year_0 25 rfl rfl) (rdSeg sd_05_cX9_year_0 26 rfl rfl) (rdSeg sd_05_cX9_year_0 27 rfl rfl) (by decide +kernel)
theorem dR_year_28 : decode cX9_year 28 = .ok (.iconst 2, 1) := op_5 (rdSeg sd_05_cX9_year_0 28 rfl rfl)
theorem dR_year_29 : decode cX9_year 29 = .ok (.istore_n 2, 1) := op_61 (rdSeg sd_05_cX9_year_0 29 rfl rfl)
theorem dR_year_30 : decode cX9_year 30 = .ok (.iload_n 2, 1) := op_28 (rdSeg sd_05_cX9_year_0 30 rfl rfl)
theorem dR_year_31 : decode cX9_year 31 = .ok (.iconst 5, 1) := op_8 (rdSeg sd_05_cX9_year_0 31 rfl rfl)
theorem dR_year_32 : decode cX9_year 32 = .ok (.if_icmp .gt 31, 3) := op_163 (rdSeg sd_05_cX9_year_1 0 rfl rfl) (rdSeg sd_05_cX9_year_1 1 rfl rfl) (rdSeg sd_05_cX9_year_1 2 rfl rfl) (by decide +kernel)
theorem dR_year_35 : decode cX9_year 35 = .ok (.aload_n 0, 1) := op_42 (rdSeg sd_05_cX9_year_1 3 rfl rfl)
theorem dR_year_36 : decode cX9_year 36 = .ok (.iload_n 1, 1) := op_27 (rdSeg sd_05_cX9_year_1 4 rfl rfl)
theorem dR_year_37 : decode cX9_year 37 = .ok (.iload_n 2, 1) := op_28 (rdSeg sd_05_cX9_year_1 5 rfl rfl)
theorem dR_year_38 : decode cX9_year 38 = .ok (.aload_n 0, 1) := op_42 (rdSeg sd_05_cX9_year_1 6 rfl rfl)
theorem dR_year_39 : decode cX9_year 39 = .ok (.iload_n 1, 1) := op_27 (rdSeg sd_05_cX9_year_1 7 rfl rfl)
theorem dR_year_40 : decode cX9_year 40 = .ok (.iload_n 2, 1) := op_28 (rdSeg sd_05_cX9_year_1 8 rfl rfl)
theorem dR_year_41 : decode cX9_year 41 = .ok (.invokevirtual 73, 3) := op_182 (rdSeg sd_05_cX9_year_1 9 rfl rfl) (rdSeg sd_05_cX9_year_1 10 rfl rfl) (rdSeg sd_05_cX9_year_1 11 rfl rfl) rfl
theorem dR_year_44 : decode cX9_year 44 = .ok (.aload_n 0, 1) := op_42 (rdSeg sd_05_cX9_year_1 12 rfl rfl)
theorem dR_year_45 : decode cX9_year 45 = .ok (.iload_n 1, 1) := op_27 (rdSeg sd_05_cX9_year_1 13 rfl rfl)
theorem dR_year_46 : decode cX9_year 46 = .ok (.iload_n 2, 1) := op_28 (rdSeg sd_05_cX9_year_1 14 rfl rfl)
theorem dR_year_47 : decode cX9_year 47 = .ok (.invokevirtual 73, 3) := op_182 (rdSeg sd_05_cX9_year_1 15 rfl rfl) (rdSeg sd_05_cX9_year_1 16 rfl rfl) (rdSeg sd_05_cX9_year_1 17 rfl rfl) rfl
theorem dR_year_50 : decode cX9_year 50 = .ok (.bipush 100, 2) := op_16 (rdSeg sd_05_cX9_year_1 18 rfl rfl) (rdSeg sd_05_cX9_year_1 19 rfl rfl) (by decide +kernel)
theorem dR_year_52 : decode cX9_year 52 = .ok (.idiv, 1) := op_108 (rdSeg sd_05_cX9_year_1 20 rfl rfl)
theorem dR_year_53 : decode cX9_year 53 = .ok (.isub, 1) := op_100 (rdSeg sd_05_cX9_year_1 21 rfl rfl)
theorem dR_year_54 : decode cX9_year 54 = .ok (.invokevirtual 57, 3) := op_182 (rdSeg sd_05_cX9_year_1 22 rfl rfl) (rdSeg sd_05_cX9_year_1 23 rfl rfl) (rdSeg sd_05_cX9_year_1 24 rfl rfl) rfl
theorem dR_year_57 : decode cX9_year 57 = .ok (.iinc 2 1, 3) := op_132 (rdSeg sd_05_cX9_year_1 25 rfl rfl) (rdSeg sd_05_cX9_year_1 26 rfl rfl) (rdSeg sd_05_cX9_year_1 27 rfl rfl) (by decide +kernel)
theorem dR_year_60 : decode cX9_year 60 = .ok (.goto (-30), 3) := op_167 (rdSeg sd_05_cX9_year_1 28 rfl rfl) (rdSeg sd_05_cX9_year_1 29 rfl rfl) (rdSeg sd_05_cX9_year_1 30 rfl rfl) (by decide +kernel)
theorem dR_year_63 : decode cX9_year 63 = .ok (.iinc 1 1, 3) := op_132 (rdSeg sd_05_cX9_year_1 31 rfl rfl) (rdSeg sd_05_cX9_year_2 0 rfl rfl) (rdSeg sd_05_cX9_year_2 1 rfl rfl) (by decide +kernel)
theorem dR_year_66 : decode cX9_year 66 = .ok (.goto (-64), 3) := op_167 (rdSeg sd_05_cX9_year_2 2 rfl rfl) (rdSeg sd_05_cX9_year_2 3 rfl rfl) (rdSeg sd_05_cX9_year_2 4 rfl rfl) (by decide +kernel)
theorem dR_year_69 : decode cX9_year 69 = .ok (.aload_n 0, 1) := op_42 (rdSeg sd_05_cX9_year_2 5 rfl rfl)
theorem dR_year_70 : decode cX9_year 70 = .ok (.getfield 7, 3) := op_180 (rdSeg sd_05_cX9_year_2 6 rfl rfl) (rdSeg sd_05_cX9_year_2 7 rfl rfl) (rdSeg sd_05_cX9_year_2 8 rfl rfl) rfl
theorem dR_year_73 : decode cX9_year 73 = .ok (.iconst 5, 1) := op_8 (rdSeg sd_05_cX9_year_2 9 rfl rfl)
theorem dR_year_74 : decode cX9_year 74 = .ok (.dup2, 1) := op_92 (rdSeg sd_05_cX9_year_2 10 rfl rfl)
theorem dR_year_75 : decode cX9_year 75 = .ok (.iaload, 1) := op_46 (rdSeg sd_05_cX9_year_2 11 rfl rfl)
theorem dR_year_76 : decode cX9_year 76 = .ok (.iconst 1, 1) := op_4 (rdSeg sd_05_cX9_year_2 12 rfl rfl)
theorem dR_year_77 : decode cX9_year 77 = .ok (.iadd, 1) := op_96 (rdSeg sd_05_cX9_year_2 13 rfl rfl)
theorem dR_year_78 : decode cX9_year 78 = .ok (.iastore, 1) := op_79 (rdSeg sd_05_cX9_year_2 14 rfl rfl)
theorem dR_year_79 : decode cX9_year 79 = .ok (.return_, 1) := op_177 (rdSeg sd_05_cX9_year_2 15 rfl rfl)
def sg_05_cX9_go_0 : List UInt8 := [0x03, 0x3d, 0x1c, 0x1b, 0xa2, 0x00, 0x0d, 0x2a, 0xb6, 0x00, 0x6b, 0x84, 0x02, 0x01, 0xa7, 0xff, 0xf4, 0xb1]
set_option maxRecDepth 100000 in
theorem sd_05_cX9_go_0 : cX9_go.data.toList.drop 0 = sg_05_cX9_go_0 := by decide +kernel
theorem dR_go_0 : decode cX9_go 0 = .ok (.iconst 0, 1) := op_3 (rdSeg sd_05_cX9_go_0 0 rfl rfl)
theorem dR_go_1 : decode cX9_go 1 = .ok (.istore_n 2, 1) := op_61 (rdSeg sd_05_cX9_go_0 1 rfl rfl)
theorem dR_go_2 : decode cX9_go 2 = .ok (.iload_n 2, 1) := op_28 (rdSeg sd_05_cX9_go_0 2 rfl rfl)
theorem dR_go_3 : decode cX9_go 3 = .ok (.iload_n 1, 1) := op_27 (rdSeg sd_05_cX9_go_0 3 rfl rfl)
theorem dR_go_4 : decode cX9_go 4 = .ok (.if_icmp .ge 13, 3) := op_162 (rdSeg sd_05_cX9_go_0 4 rfl rfl) (rdSeg sd_05_cX9_go_0 5 rfl rfl) (rdSeg sd_05_cX9_go_0 6 rfl rfl) (by decide +kernel)
theorem dR_go_7 : decode cX9_go 7 = .ok (.aload_n 0, 1) := op_42 (rdSeg sd_05_cX9_go_0 7 rfl rfl)
theorem dR_go_8 : decode cX9_go 8 = .ok (.invokevirtual 107, 3) := op_182 (rdSeg sd_05_cX9_go_0 8 rfl rfl) (rdSeg sd_05_cX9_go_0 9 rfl rfl) (rdSeg sd_05_cX9_go_0 10 rfl rfl) rfl
theorem dR_go_11 : decode cX9_go 11 = .ok (.iinc 2 1, 3) := op_132 (rdSeg sd_05_cX9_go_0 11 rfl rfl) (rdSeg sd_05_cX9_go_0 12 rfl rfl) (rdSeg sd_05_cX9_go_0 13 rfl rfl) (by decide +kernel)
theorem dR_go_14 : decode cX9_go 14 = .ok (.goto (-12), 3) := op_167 (rdSeg sd_05_cX9_go_0 14 rfl rfl) (rdSeg sd_05_cX9_go_0 15 rfl rfl) (rdSeg sd_05_cX9_go_0 16 rfl rfl) (by decide +kernel)
theorem dR_go_17 : decode cX9_go 17 = .ok (.return_, 1) := op_177 (rdSeg sd_05_cX9_go_0 17 rfl rfl)
def sg_05_cX9_allGrams_0 : List UInt8 := [0x03, 0x3c, 0x03, 0x3d, 0x1c, 0x2a, 0xb4, 0x00, 0x07, 0x03, 0x2e, 0xa2, 0x00, 0x12, 0x1b, 0x2a, 0x1c, 0x05, 0xb6, 0x00, 0x49, 0x60, 0x3c, 0x84, 0x02, 0x01, 0xa7, 0xff, 0xea, 0x1b, 0xac]
set_option maxRecDepth 100000 in
theorem sd_05_cX9_allGrams_0 : cX9_allGrams.data.toList.drop 0 = sg_05_cX9_allGrams_0 := by decide +kernel
theorem dR_allGrams_0 : decode cX9_allGrams 0 = .ok (.iconst 0, 1) := op_3 (rdSeg sd_05_cX9_allGrams_0 0 rfl rfl)
theorem dR_allGrams_1 : decode cX9_allGrams 1 = .ok (.istore_n 1, 1) := op_60 (rdSeg sd_05_cX9_allGrams_0 1 rfl rfl)
theorem dR_allGrams_2 : decode cX9_allGrams 2 = .ok (.iconst 0, 1) := op_3 (rdSeg sd_05_cX9_allGrams_0 2 rfl rfl)
theorem dR_allGrams_3 : decode cX9_allGrams 3 = .ok (.istore_n 2, 1) := op_61 (rdSeg sd_05_cX9_allGrams_0 3 rfl rfl)
theorem dR_allGrams_4 : decode cX9_allGrams 4 = .ok (.iload_n 2, 1) := op_28 (rdSeg sd_05_cX9_allGrams_0 4 rfl rfl)
theorem dR_allGrams_5 : decode cX9_allGrams 5 = .ok (.aload_n 0, 1) := op_42 (rdSeg sd_05_cX9_allGrams_0 5 rfl rfl)
theorem dR_allGrams_6 : decode cX9_allGrams 6 = .ok (.getfield 7, 3) := op_180 (rdSeg sd_05_cX9_allGrams_0 6 rfl rfl) (rdSeg sd_05_cX9_allGrams_0 7 rfl rfl) (rdSeg sd_05_cX9_allGrams_0 8 rfl rfl) rfl
theorem dR_allGrams_9 : decode cX9_allGrams 9 = .ok (.iconst 0, 1) := op_3 (rdSeg sd_05_cX9_allGrams_0 9 rfl rfl)
theorem dR_allGrams_10 : decode cX9_allGrams 10 = .ok (.iaload, 1) := op_46 (rdSeg sd_05_cX9_allGrams_0 10 rfl rfl)
theorem dR_allGrams_11 : decode cX9_allGrams 11 = .ok (.if_icmp .ge 18, 3) := op_162 (rdSeg sd_05_cX9_allGrams_0 11 rfl rfl) (rdSeg sd_05_cX9_allGrams_0 12 rfl rfl) (rdSeg sd_05_cX9_allGrams_0 13 rfl rfl) (by decide +kernel)
theorem dR_allGrams_14 : decode cX9_allGrams 14 = .ok (.iload_n 1, 1) := op_27 (rdSeg sd_05_cX9_allGrams_0 14 rfl rfl)
theorem dR_allGrams_15 : decode cX9_allGrams 15 = .ok (.aload_n 0, 1) := op_42 (rdSeg sd_05_cX9_allGrams_0 15 rfl rfl)
theorem dR_allGrams_16 : decode cX9_allGrams 16 = .ok (.iload_n 2, 1) := op_28 (rdSeg sd_05_cX9_allGrams_0 16 rfl rfl)
theorem dR_allGrams_17 : decode cX9_allGrams 17 = .ok (.iconst 2, 1) := op_5 (rdSeg sd_05_cX9_allGrams_0 17 rfl rfl)
theorem dR_allGrams_18 : decode cX9_allGrams 18 = .ok (.invokevirtual 73, 3) := op_182 (rdSeg sd_05_cX9_allGrams_0 18 rfl rfl) (rdSeg sd_05_cX9_allGrams_0 19 rfl rfl) (rdSeg sd_05_cX9_allGrams_0 20 rfl rfl) rfl
theorem dR_allGrams_21 : decode cX9_allGrams 21 = .ok (.iadd, 1) := op_96 (rdSeg sd_05_cX9_allGrams_0 21 rfl rfl)
theorem dR_allGrams_22 : decode cX9_allGrams 22 = .ok (.istore_n 1, 1) := op_60 (rdSeg sd_05_cX9_allGrams_0 22 rfl rfl)
theorem dR_allGrams_23 : decode cX9_allGrams 23 = .ok (.iinc 2 1, 3) := op_132 (rdSeg sd_05_cX9_allGrams_0 23 rfl rfl) (rdSeg sd_05_cX9_allGrams_0 24 rfl rfl) (rdSeg sd_05_cX9_allGrams_0 25 rfl rfl) (by decide +kernel)
theorem dR_allGrams_26 : decode cX9_allGrams 26 = .ok (.goto (-22), 3) := op_167 (rdSeg sd_05_cX9_allGrams_0 26 rfl rfl) (rdSeg sd_05_cX9_allGrams_0 27 rfl rfl) (rdSeg sd_05_cX9_allGrams_0 28 rfl rfl) (by decide +kernel)
theorem dR_allGrams_29 : decode cX9_allGrams 29 = .ok (.iload_n 1, 1) := op_27 (rdSeg sd_05_cX9_allGrams_0 29 rfl rfl)
theorem dR_allGrams_30 : decode cX9_allGrams 30 = .ok (.ireturn, 1) := op_172 (rdSeg sd_05_cX9_allGrams_0 30 rfl rfl)
def sg_05_cX9_years_1 : List UInt8 := [0xb6, 0x00, 0x3e, 0xac, 0x2a, 0x1b, 0xb6, 0x00, 0x6e, 0x2a, 0xb6, 0x00, 0x72, 0xac]
def sg_05_cX9_years_0 : List UInt8 := 0x1b :: 0x04 :: 0x10 :: 0x3c :: 0xb8 :: 0x00 :: 0x35 :: 0x9a :: 0x00 :: 0x09 :: 0x2a :: 0x04 :: 0xb6 :: 0x00 :: 0x3e :: 0xac :: 0x2a :: 0xb4 :: 0x00 :: 0x07 :: 0x08 :: 0x2e :: 0x1b :: 0x60 :: 0x11 :: 0x27 :: 0x0f :: 0xa4 :: 0x00 :: 0x09 :: 0x2a :: 0x06 :: sg_05_cX9_years_1
set_option maxRecDepth 100000 in
theorem sd_05_cX9_years_0 : cX9_years.data.toList.drop 0 = sg_05_cX9_years_0 := by decide +kernel
theorem sd_05_cX9_years_1 : cX9_years.data.toList.drop 32 = sg_05_cX9_years_1 := sg_next sd_05_cX9_years_0 rfl
theorem dR_years_0 : decode cX9_years 0 = .ok (.iload_n 1, 1) := op_27 (rdSeg sd_05_cX9_years_0 0 rfl rfl)
theorem dR_years_1 : decode cX9_years 1 = .ok (.iconst 1, 1) := op_4 (rdSeg sd_05_cX9_years_0 1 rfl rfl)
theorem dR_years_2 : decode cX9_years 2 = .ok (.bipush 60, 2) := op_16 (rdSeg sd_05_cX9_years_0 2 rfl rfl) (rdSeg sd_05_cX9_years_0 3 rfl rfl) (by decide +kernel)
theorem dR_years_4 : decode cX9_years 4 = .ok (.invokestatic 53, 3) := op_184 (rdSeg sd_05_cX9_years_0 4 rfl rfl) (rdSeg sd_05_cX9_years_0 5 rfl rfl) (rdSeg sd_05_cX9_years_0 6 rfl rfl) rfl
theorem dR_years_7 : decode cX9_years 7 = .ok (.ifCond .ne 9, 3) := op_154 (rdSeg sd_05_cX9_years_0 7 rfl rfl) (rdSeg sd_05_cX9_years_0 8 rfl rfl) (rdSeg sd_05_cX9_years_0 9 rfl rfl) (by decide +kernel)
theorem dR_years_10 : decode cX9_years 10 = .ok (.aload_n 0, 1) := op_42 (rdSeg sd_05_cX9_years_0 10 rfl rfl)
theorem dR_years_11 : decode cX9_years 11 = .ok (.iconst 1, 1) := op_4 (rdSeg sd_05_cX9_years_0 11 rfl rfl)
theorem dR_years_12 : decode cX9_years 12 = .ok (.invokevirtual 62, 3) := op_182 (rdSeg sd_05_cX9_years_0 12 rfl rfl) (rdSeg sd_05_cX9_years_0 13 rfl rfl) (rdSeg sd_05_cX9_years_0 14 rfl rfl) rfl
theorem dR_years_15 : decode cX9_years 15 = .ok (.ireturn, 1) := op_172 (rdSeg sd_05_cX9_years_0 15 rfl rfl)
theorem dR_years_16 : decode cX9_years 16 = .ok (.aload_n 0, 1) := op_42 (rdSeg sd_05_cX9_years_0 16 rfl rfl)
theorem dR_years_17 : decode cX9_years 17 = .ok (.getfield 7, 3) := op_180 (rdSeg sd_05_cX9_years_0 17 rfl rfl) (rdSeg sd_05_cX9_years_0 18 rfl rfl) (rdSeg sd_05_cX9_years_0 19 rfl rfl) rfl
theorem dR_years_20 : decode cX9_years 20 = .ok (.iconst 5, 1) := op_8 (rdSeg sd_05_cX9_years_0 20 rfl rfl)
theorem dR_years_21 : decode cX9_years 21 = .ok (.iaload, 1) := op_46 (rdSeg sd_05_cX9_years_0 21 rfl rfl)
theorem dR_years_22 : decode cX9_years 22 = .ok (.iload_n 1, 1) := op_27 (rdSeg sd_05_cX9_years_0 22 rfl rfl)
theorem dR_years_23 : decode cX9_years 23 = .ok (.iadd, 1) := op_96 (rdSeg sd_05_cX9_years_0 23 rfl rfl)
theorem dR_years_24 : decode cX9_years 24 = .ok (.sipush 9999, 3) := op_17 (rdSeg sd_05_cX9_years_0 24 rfl rfl) (rdSeg sd_05_cX9_years_0 25 rfl rfl) (rdSeg sd_05_cX9_years_0 26 rfl rfl) (by decide +kernel)
theorem dR_years_27 : decode cX9_years 27 = .ok (.if_icmp .le 9, 3) := op_164 (rdSeg sd_05_cX9_years_0 27 rfl rfl) (rdSeg sd_05_cX9_years_0 28 rfl rfl) (rdSeg sd_05_cX9_years_0 29 rfl rfl) (by decide +kernel)
theorem dR_years_30 : decode cX9_years 30 = .ok (.aload_n 0, 1) := op_42 (rdSeg sd_05_cX9_years_0 30 rfl rfl)
theorem dR_years_31 : decode cX9_years 31 = .ok (.iconst 3, 1) := op_6 (rdSeg sd_05_cX9_years_0 31 rfl rfl)
theorem dR_years_32 : decode cX9_years 32 = .ok (.invokevirtual 62, 3) := op_182 (rdSeg sd_05_cX9_years_1 0 rfl rfl) (rdSeg sd_05_cX9_years_1 1 rfl rfl) (rdSeg sd_05_cX9_years_1 2 rfl rfl) rfl
theorem dR_years_35 : decode cX9_years 35 = .ok (.ireturn, 1) := op_172 (rdSeg sd_05_cX9_years_1 3 rfl rfl)
theorem dR_years_36 : decode cX9_years 36 = .ok (.aload_n 0, 1) := op_42 (rdSeg sd_05_cX9_years_1 4 rfl rfl)
theorem dR_years_37 : decode cX9_years 37 = .ok (.iload_n 1, 1) := op_27 (rdSeg sd_05_cX9_years_1 5 rfl rfl)
theorem dR_years_38 : decode cX9_years 38 = .ok (.invokevirtual 110, 3) := op_182 (rdSeg sd_05_cX9_years_1 6 rfl rfl) (rdSeg sd_05_cX9_years_1 7 rfl rfl) (rdSeg sd_05_cX9_years_1 8 rfl rfl) rfl
theorem dR_years_41 : decode cX9_years 41 = .ok (.aload_n 0, 1) := op_42 (rdSeg sd_05_cX9_years_1 9 rfl rfl)
theorem dR_years_42 : decode cX9_years 42 = .ok (.invokevirtual 114, 3) := op_182 (rdSeg sd_05_cX9_years_1 10 rfl rfl) (rdSeg sd_05_cX9_years_1 11 rfl rfl) (rdSeg sd_05_cX9_years_1 12 rfl rfl) rfl
theorem dR_years_45 : decode cX9_years 45 = .ok (.ireturn, 1) := op_172 (rdSeg sd_05_cX9_years_1 13 rfl rfl)
def sg_05_cX9_then_2 : List UInt8 := [0x00, 0x07, 0xb8, 0x00, 0x75, 0x15, 0x04, 0xac]
def sg_05_cX9_then_1 : List UInt8 := 0x3e :: 0xac :: 0x2a :: 0xb4 :: 0x00 :: 0x07 :: 0x2a :: 0xb4 :: 0x00 :: 0x10 :: 0xb8 :: 0x00 :: 0x75 :: 0x2a :: 0x1b :: 0xb6 :: 0x00 :: 0x6e :: 0x2a :: 0x1c :: 0x1d :: 0xb6 :: 0x00 :: 0x51 :: 0x36 :: 0x04 :: 0x2a :: 0xb4 :: 0x00 :: 0x10 :: 0x2a :: 0xb4 :: sg_05_cX9_then_2
def sg_05_cX9_then_0 : List UInt8 := 0x1b :: 0x03 :: 0x10 :: 0x3c :: 0xb8 :: 0x00 :: 0x35 :: 0x99 :: 0x00 :: 0x15 :: 0x2a :: 0x1c :: 0xb6 :: 0x00 :: 0x4d :: 0x99 :: 0x00 :: 0x0d :: 0x1d :: 0x03 :: 0x10 :: 0x0a :: 0xb8 :: 0x00 :: 0x35 :: 0x9a :: 0x00 :: 0x09 :: 0x2a :: 0x04 :: 0xb6 :: 0x00 :: sg_05_cX9_then_1
set_option maxRecDepth 100000 in
theorem sd_05_cX9_then_0 : cX9_then.data.toList.drop 0 = sg_05_cX9_then_0 := by decide +kernel
theorem sd_05_cX9_then_1 : cX9_then.data.toList.drop 32 = sg_05_cX9_then_1 := sg_next sd_05_cX9_then_0 rfl
theorem sd_05_cX9_then_2 : cX9_then.data.toList.drop 64 = sg_05_cX9_then_2 := sg_next sd_05_cX9_then_1 rfl
theorem dR_then_0 : decode cX9_then 0 = .ok (.iload_n 1, 1) := op_27 (rdSeg sd_05_cX9_then_0 0 rfl rfl)
theorem dR_then_1 : decode cX9_then 1 = .ok (.iconst 0, 1) := op_3 (rdSeg sd_05_cX9_then_0 1 rfl rfl)
theorem dR_then_2 : decode cX9_then 2 = .ok (.bipush 60, 2) := op_16 (rdSeg sd_05_cX9_then_0 2 rfl rfl) (rdSeg sd_05_cX9_then_0 3 rfl rfl) (by decide +kernel)
theorem dR_then_4 : decode cX9_then 4 = .ok (.invokestatic 53, 3) := op_184 (rdSeg sd_05_cX9_then_0 4 rfl rfl) (rdSeg sd_05_cX9_then_0 5 rfl rfl) (rdSeg sd_05_cX9_then_0 6 rfl rfl) rfl
theorem dR_then_7 : decode cX9_then 7 = .ok (.ifCond .eq 21, 3) := op_153 (rdSeg sd_05_cX9_then_0 7 rfl rfl) (rdSeg sd_05_cX9_then_0 8 rfl rfl) (rdSeg sd_05_cX9_then_0 9 rfl rfl) (by decide +kernel)
theorem dR_then_10 : decode cX9_then 10 = .ok (.aload_n 0, 1) := op_42 (rdSeg sd_05_cX9_then_0 10 rfl rfl)
theorem dR_then_11 : decode cX9_then 11 = .ok (.iload_n 2, 1) := op_28 (rdSeg sd_05_cX9_then_0 11 rfl rfl)
theorem dR_then_12 : decode cX9_then 12 = .ok (.invokevirtual 77, 3) := op_182 (rdSeg sd_05_cX9_then_0 12 rfl rfl) (rdSeg sd_05_cX9_then_0 13 rfl rfl) (rdSeg sd_05_cX9_then_0 14 rfl rfl) rfl
theorem dR_then_15 : decode cX9_then 15 = .ok (.ifCond .eq 13, 3) := op_153 (rdSeg sd_05_cX9_then_0 15 rfl rfl) (rdSeg sd_05_cX9_then_0 16 rfl rfl) (rdSeg sd_05_cX9_then_0 17 rfl rfl) (by decide +kernel)
theorem dR_then_18 : decode cX9_then 18 = .ok (.iload_n 3, 1) := op_29 (rdSeg sd_05_cX9_then_0 18 rfl rfl)
theorem dR_then_19 : decode cX9_then 19 = .ok (.iconst 0, 1) := op_3 (rdSeg sd_05_cX9_then_0 19 rfl rfl)
theorem dR_then_20 : decode cX9_then 20 = .ok (.bipush 10, 2) := op_16 (rdSeg sd_05_cX9_then_0 20 rfl rfl) (rdSeg sd_05_cX9_then_0 21 rfl rfl) (by decide +kernel)
theorem dR_then_22 : decode cX9_then 22 = .ok (.invokestatic 53, 3) := op_184 (rdSeg sd_05_cX9_then_0 22 rfl rfl) (rdSeg sd_05_cX9_then_0 23 rfl rfl) (rdSeg sd_05_cX9_then_0 24 rfl rfl) rfl
theorem dR_then_25 : decode cX9_then 25 = .ok (.ifCond .ne 9, 3) := op_154 (rdSeg sd_05_cX9_then_0 25 rfl rfl) (rdSeg sd_05_cX9_then_0 26 rfl rfl) (rdSeg sd_05_cX9_then_0 27 rfl rfl) (by decide +kernel)
theorem dR_then_28 : decode cX9_then 28 = .ok (.aload_n 0, 1) := op_42 (rdSeg sd_05_cX9_then_0 28 rfl rfl)
theorem dR_then_29 : decode cX9_then 29 = .ok (.iconst 1, 1) := op_4 (rdSeg sd_05_cX9_then_0 29 rfl rfl)
theorem dR_then_30 : decode cX9_then 30 = .ok (.invokevirtual 62, 3) := op_182 (rdSeg sd_05_cX9_then_0 30 rfl rfl) (rdSeg sd_05_cX9_then_0 31 rfl rfl) (rdSeg sd_05_cX9_then_1 0 rfl rfl) rfl
theorem dR_then_33 : decode cX9_then 33 = .ok (.ireturn, 1) := op_172 (rdSeg sd_05_cX9_then_1 1 rfl rfl)
theorem dR_then_34 : decode cX9_then 34 = .ok (.aload_n 0, 1) := op_42 (rdSeg sd_05_cX9_then_1 2 rfl rfl)
theorem dR_then_35 : decode cX9_then 35 = .ok (.getfield 7, 3) := op_180 (rdSeg sd_05_cX9_then_1 3 rfl rfl) (rdSeg sd_05_cX9_then_1 4 rfl rfl) (rdSeg sd_05_cX9_then_1 5 rfl rfl) rfl
theorem dR_then_38 : decode cX9_then 38 = .ok (.aload_n 0, 1) := op_42 (rdSeg sd_05_cX9_then_1 6 rfl rfl)
theorem dR_then_39 : decode cX9_then 39 = .ok (.getfield 16, 3) := op_180 (rdSeg sd_05_cX9_then_1 7 rfl rfl) (rdSeg sd_05_cX9_then_1 8 rfl rfl) (rdSeg sd_05_cX9_then_1 9 rfl rfl) rfl
theorem dR_then_42 : decode cX9_then 42 = .ok (.invokestatic 117, 3) := op_184 (rdSeg sd_05_cX9_then_1 10 rfl rfl) (rdSeg sd_05_cX9_then_1 11 rfl rfl) (rdSeg sd_05_cX9_then_1 12 rfl rfl) rfl
theorem dR_then_45 : decode cX9_then 45 = .ok (.aload_n 0, 1) := op_42 (rdSeg sd_05_cX9_then_1 13 rfl rfl)
theorem dR_then_46 : decode cX9_then 46 = .ok (.iload_n 1, 1) := op_27 (rdSeg sd_05_cX9_then_1 14 rfl rfl)
theorem dR_then_47 : decode cX9_then 47 = .ok (.invokevirtual 110, 3) := op_182 (rdSeg sd_05_cX9_then_1 15 rfl rfl) (rdSeg sd_05_cX9_then_1 16 rfl rfl) (rdSeg sd_05_cX9_then_1 17 rfl rfl) rfl
theorem dR_then_50 : decode cX9_then 50 = .ok (.aload_n 0, 1) := op_42 (rdSeg sd_05_cX9_then_1 18 rfl rfl)
theorem dR_then_51 : decode cX9_then 51 = .ok (.iload_n 2, 1) := op_28 (rdSeg sd_05_cX9_then_1 19 rfl rfl)
theorem dR_then_52 : decode cX9_then 52 = .ok (.iload_n 3, 1) := op_29 (rdSeg sd_05_cX9_then_1 20 rfl rfl)
theorem dR_then_53 : decode cX9_then 53 = .ok (.invokevirtual 81, 3) := op_182 (rdSeg sd_05_cX9_then_1 21 rfl rfl) (rdSeg sd_05_cX9_then_1 22 rfl rfl) (rdSeg sd_05_cX9_then_1 23 rfl rfl) rfl
theorem dR_then_56 : decode cX9_then 56 = .ok (.istore 4, 2) := op_54 (rdSeg sd_05_cX9_then_1 24 rfl rfl) (rdSeg sd_05_cX9_then_1 25 rfl rfl)
theorem dR_then_58 : decode cX9_then 58 = .ok (.aload_n 0, 1) := op_42 (rdSeg sd_05_cX9_then_1 26 rfl rfl)
theorem dR_then_59 : decode cX9_then 59 = .ok (.getfield 16, 3) := op_180 (rdSeg sd_05_cX9_then_1 27 rfl rfl) (rdSeg sd_05_cX9_then_1 28 rfl rfl) (rdSeg sd_05_cX9_then_1 29 rfl rfl) rfl
theorem dR_then_62 : decode cX9_then 62 = .ok (.aload_n 0, 1) := op_42 (rdSeg sd_05_cX9_then_1 30 rfl rfl)
theorem dR_then_63 : decode cX9_then 63 = .ok (.getfield 7, 3) := op_180 (rdSeg sd_05_cX9_then_1 31 rfl rfl) (rdSeg sd_05_cX9_then_2 0 rfl rfl) (rdSeg sd_05_cX9_then_2 1 rfl rfl) rfl
theorem dR_then_66 : decode cX9_then 66 = .ok (.invokestatic 117, 3) := op_184 (rdSeg sd_05_cX9_then_2 2 rfl rfl) (rdSeg sd_05_cX9_then_2 3 rfl rfl) (rdSeg sd_05_cX9_then_2 4 rfl rfl) rfl
theorem dR_then_69 : decode cX9_then 69 = .ok (.iload 4, 2) := op_21 (rdSeg sd_05_cX9_then_2 5 rfl rfl) (rdSeg sd_05_cX9_then_2 6 rfl rfl)
theorem dR_then_71 : decode cX9_then 71 = .ok (.ireturn, 1) := op_172 (rdSeg sd_05_cX9_then_2 7 rfl rfl)
def sg_05_cX9_seed_0 : List UInt8 := [0x2a, 0xb4, 0x00, 0x07, 0x10, 0x08, 0x2e, 0x3d, 0x2a, 0xb4, 0x00, 0x07, 0x10, 0x08, 0x1b, 0x4f, 0x1c, 0xac]
set_option maxRecDepth 100000 in
theorem sd_05_cX9_seed_0 : cX9_seed.data.toList.drop 0 = sg_05_cX9_seed_0 := by decide +kernel
theorem dR_seed_0 : decode cX9_seed 0 = .ok (.aload_n 0, 1) := op_42 (rdSeg sd_05_cX9_seed_0 0 rfl rfl)
theorem dR_seed_1 : decode cX9_seed 1 = .ok (.getfield 7, 3) := op_180 (rdSeg sd_05_cX9_seed_0 1 rfl rfl) (rdSeg sd_05_cX9_seed_0 2 rfl rfl) (rdSeg sd_05_cX9_seed_0 3 rfl rfl) rfl
theorem dR_seed_4 : decode cX9_seed 4 = .ok (.bipush 8, 2) := op_16 (rdSeg sd_05_cX9_seed_0 4 rfl rfl) (rdSeg sd_05_cX9_seed_0 5 rfl rfl) (by decide +kernel)
theorem dR_seed_6 : decode cX9_seed 6 = .ok (.iaload, 1) := op_46 (rdSeg sd_05_cX9_seed_0 6 rfl rfl)
theorem dR_seed_7 : decode cX9_seed 7 = .ok (.istore_n 2, 1) := op_61 (rdSeg sd_05_cX9_seed_0 7 rfl rfl)
theorem dR_seed_8 : decode cX9_seed 8 = .ok (.aload_n 0, 1) := op_42 (rdSeg sd_05_cX9_seed_0 8 rfl rfl)
theorem dR_seed_9 : decode cX9_seed 9 = .ok (.getfield 7, 3) := op_180 (rdSeg sd_05_cX9_seed_0 9 rfl rfl) (rdSeg sd_05_cX9_seed_0 10 rfl rfl) (rdSeg sd_05_cX9_seed_0 11 rfl rfl) rfl
theorem dR_seed_12 : decode cX9_seed 12 = .ok (.bipush 8, 2) := op_16 (rdSeg sd_05_cX9_seed_0 12 rfl rfl) (rdSeg sd_05_cX9_seed_0 13 rfl rfl) (by decide +kernel)
theorem dR_seed_14 : decode cX9_seed 14 = .ok (.iload_n 1, 1) := op_27 (rdSeg sd_05_cX9_seed_0 14 rfl rfl)
theorem dR_seed_15 : decode cX9_seed 15 = .ok (.iastore, 1) := op_79 (rdSeg sd_05_cX9_seed_0 15 rfl rfl)
theorem dR_seed_16 : decode cX9_seed 16 = .ok (.iload_n 2, 1) := op_28 (rdSeg sd_05_cX9_seed_0 16 rfl rfl)
theorem dR_seed_17 : decode cX9_seed 17 = .ok (.ireturn, 1) := op_172 (rdSeg sd_05_cX9_seed_0 17 rfl rfl)
def sg_05_cX9_feed_3 : List UInt8 := [0x2e, 0xac]
def sg_05_cX9_feed_2 : List UInt8 := 0x04 :: 0x68 :: 0x7b :: 0x14 :: 0x00 :: 0x79 :: 0x7f :: 0x88 :: 0x4f :: 0x2a :: 0xb4 :: 0x00 :: 0x07 :: 0x10 :: 0x06 :: 0x5c :: 0x2e :: 0x04 :: 0x60 :: 0x4f :: 0x84 :: 0x04 :: 0x01 :: 0xa7 :: 0xff :: 0xd0 :: 0x2a :: 0xb4 :: 0x00 :: 0x07 :: 0x10 :: 0x06 :: sg_05_cX9_feed_3
def sg_05_cX9_feed_1 : List UInt8 := 0xb6 :: 0x00 :: 0x3e :: 0xac :: 0x03 :: 0x36 :: 0x04 :: 0x15 :: 0x04 :: 0x1d :: 0xa2 :: 0x00 :: 0x30 :: 0x2a :: 0xb4 :: 0x00 :: 0x07 :: 0x11 :: 0x01 :: 0xc4 :: 0x2a :: 0xb4 :: 0x00 :: 0x07 :: 0x10 :: 0x06 :: 0x2e :: 0x60 :: 0x1f :: 0x10 :: 0x08 :: 0x15 :: sg_05_cX9_feed_2
def sg_05_cX9_feed_0 : List UInt8 := 0x1d :: 0x04 :: 0x10 :: 0x08 :: 0xb8 :: 0x00 :: 0x35 :: 0x9a :: 0x00 :: 0x09 :: 0x2a :: 0x04 :: 0xb6 :: 0x00 :: 0x3e :: 0xac :: 0x2a :: 0xb4 :: 0x00 :: 0x07 :: 0x10 :: 0x06 :: 0x2e :: 0x1d :: 0x60 :: 0x10 :: 0x3c :: 0xa4 :: 0x00 :: 0x09 :: 0x2a :: 0x07 :: sg_05_cX9_feed_1
set_option maxRecDepth 100000 in
theorem sd_05_cX9_feed_0 : cX9_feed.data.toList.drop 0 = sg_05_cX9_feed_0 := by decide +kernel
theorem sd_05_cX9_feed_1 : cX9_feed.data.toList.drop 32 = sg_05_cX9_feed_1 := sg_next sd_05_cX9_feed_0 rfl
theorem sd_05_cX9_feed_2 : cX9_feed.data.toList.drop 64 = sg_05_cX9_feed_2 := sg_next sd_05_cX9_feed_1 rfl
theorem sd_05_cX9_feed_3 : cX9_feed.data.toList.drop 96 = sg_05_cX9_feed_3 := sg_next sd_05_cX9_feed_2 rfl
theorem dR_feed_0 : decode cX9_feed 0 = .ok (.iload_n 3, 1) := op_29 (rdSeg sd_05_cX9_feed_0 0 rfl rfl)
theorem dR_feed_1 : decode cX9_feed 1 = .ok (.iconst 1, 1) := op_4 (rdSeg sd_05_cX9_feed_0 1 rfl rfl)
theorem dR_feed_2 : decode cX9_feed 2 = .ok (.bipush 8, 2) := op_16 (rdSeg sd_05_cX9_feed_0 2 rfl rfl) (rdSeg sd_05_cX9_feed_0 3 rfl rfl) (by decide +kernel)
theorem dR_feed_4 : decode cX9_feed 4 = .ok (.invokestatic 53, 3) := op_184 (rdSeg sd_05_cX9_feed_0 4 rfl rfl) (rdSeg sd_05_cX9_feed_0 5 rfl rfl) (rdSeg sd_05_cX9_feed_0 6 rfl rfl) rfl
theorem dR_feed_7 : decode cX9_feed 7 = .ok (.ifCond .ne 9, 3) := op_154 (rdSeg sd_05_cX9_feed_0 7 rfl rfl) (rdSeg sd_05_cX9_feed_0 8 rfl rfl) (rdSeg sd_05_cX9_feed_0 9 rfl rfl) (by decide +kernel)
theorem dR_feed_10 : decode cX9_feed 10 = .ok (.aload_n 0, 1) := op_42 (rdSeg sd_05_cX9_feed_0 10 rfl rfl)
theorem dR_feed_11 : decode cX9_feed 11 = .ok (.iconst 1, 1) := op_4 (rdSeg sd_05_cX9_feed_0 11 rfl rfl)
theorem dR_feed_12 : decode cX9_feed 12 = .ok (.invokevirtual 62, 3) := op_182 (rdSeg sd_05_cX9_feed_0 12 rfl rfl) (rdSeg sd_05_cX9_feed_0 13 rfl rfl) (rdSeg sd_05_cX9_feed_0 14 rfl rfl) rfl
theorem dR_feed_15 : decode cX9_feed 15 = .ok (.ireturn, 1) := op_172 (rdSeg sd_05_cX9_feed_0 15 rfl rfl)
theorem dR_feed_16 : decode cX9_feed 16 = .ok (.aload_n 0, 1) := op_42 (rdSeg sd_05_cX9_feed_0 16 rfl rfl)
theorem dR_feed_17 : decode cX9_feed 17 = .ok (.getfield 7, 3) := op_180 (rdSeg sd_05_cX9_feed_0 17 rfl rfl) (rdSeg sd_05_cX9_feed_0 18 rfl rfl) (rdSeg sd_05_cX9_feed_0 19 rfl rfl) rfl
theorem dR_feed_20 : decode cX9_feed 20 = .ok (.bipush 6, 2) := op_16 (rdSeg sd_05_cX9_feed_0 20 rfl rfl) (rdSeg sd_05_cX9_feed_0 21 rfl rfl) (by decide +kernel)
theorem dR_feed_22 : decode cX9_feed 22 = .ok (.iaload, 1) := op_46 (rdSeg sd_05_cX9_feed_0 22 rfl rfl)
theorem dR_feed_23 : decode cX9_feed 23 = .ok (.iload_n 3, 1) := op_29 (rdSeg sd_05_cX9_feed_0 23 rfl rfl)
theorem dR_feed_24 : decode cX9_feed 24 = .ok (.iadd, 1) := op_96 (rdSeg sd_05_cX9_feed_0 24 rfl rfl)
theorem dR_feed_25 : decode cX9_feed 25 = .ok (.bipush 60, 2) := op_16 (rdSeg sd_05_cX9_feed_0 25 rfl rfl) (rdSeg sd_05_cX9_feed_0 26 rfl rfl) (by decide +kernel)
theorem dR_feed_27 : decode cX9_feed 27 = .ok (.if_icmp .le 9, 3) := op_164 (rdSeg sd_05_cX9_feed_0 27 rfl rfl) (rdSeg sd_05_cX9_feed_0 28 rfl rfl) (rdSeg sd_05_cX9_feed_0 29 rfl rfl) (by decide +kernel)
theorem dR_feed_30 : decode cX9_feed 30 = .ok (.aload_n 0, 1) := op_42 (rdSeg sd_05_cX9_feed_0 30 rfl rfl)
theorem dR_feed_31 : decode cX9_feed 31 = .ok (.iconst 4, 1) := op_7 (rdSeg sd_05_cX9_feed_0 31 rfl rfl)
theorem dR_feed_32 : decode cX9_feed 32 = .ok (.invokevirtual 62, 3) := op_182 (rdSeg sd_05_cX9_feed_1 0 rfl rfl) (rdSeg sd_05_cX9_feed_1 1 rfl rfl) (rdSeg sd_05_cX9_feed_1 2 rfl rfl) rfl
theorem dR_feed_35 : decode cX9_feed 35 = .ok (.ireturn, 1) := op_172 (rdSeg sd_05_cX9_feed_1 3 rfl rfl)
theorem dR_feed_36 : decode cX9_feed 36 = .ok (.iconst 0, 1) := op_3 (rdSeg sd_05_cX9_feed_1 4 rfl rfl)
theorem dR_feed_37 : decode cX9_feed 37 = .ok (.istore 4, 2) := op_54 (rdSeg sd_05_cX9_feed_1 5 rfl rfl) (rdSeg sd_05_cX9_feed_1 6 rfl rfl)
theorem dR_feed_39 : decode cX9_feed 39 = .ok (.iload 4, 2) := op_21 (rdSeg sd_05_cX9_feed_1 7 rfl rfl) (rdSeg sd_05_cX9_feed_1 8 rfl rfl)
theorem dR_feed_41 : decode cX9_feed 41 = .ok (.iload_n 3, 1) := op_29 (rdSeg sd_05_cX9_feed_1 9 rfl rfl)
theorem dR_feed_42 : decode cX9_feed 42 = .ok (.if_icmp .ge 48, 3) := op_162 (rdSeg sd_05_cX9_feed_1 10 rfl rfl) (rdSeg sd_05_cX9_feed_1 11 rfl rfl) (rdSeg sd_05_cX9_feed_1 12 rfl rfl) (by decide +kernel)
theorem dR_feed_45 : decode cX9_feed 45 = .ok (.aload_n 0, 1) := op_42 (rdSeg sd_05_cX9_feed_1 13 rfl rfl)
theorem dR_feed_46 : decode cX9_feed 46 = .ok (.getfield 7, 3) := op_180 (rdSeg sd_05_cX9_feed_1 14 rfl rfl) (rdSeg sd_05_cX9_feed_1 15 rfl rfl) (rdSeg sd_05_cX9_feed_1 16 rfl rfl) rfl
theorem dR_feed_49 : decode cX9_feed 49 = .ok (.sipush 452, 3) := op_17 (rdSeg sd_05_cX9_feed_1 17 rfl rfl) (rdSeg sd_05_cX9_feed_1 18 rfl rfl) (rdSeg sd_05_cX9_feed_1 19 rfl rfl) (by decide +kernel)
theorem dR_feed_52 : decode cX9_feed 52 = .ok (.aload_n 0, 1) := op_42 (rdSeg sd_05_cX9_feed_1 20 rfl rfl)
theorem dR_feed_53 : decode cX9_feed 53 = .ok (.getfield 7, 3) := op_180 (rdSeg sd_05_cX9_feed_1 21 rfl rfl) (rdSeg sd_05_cX9_feed_1 22 rfl rfl) (rdSeg sd_05_cX9_feed_1 23 rfl rfl) rfl
theorem dR_feed_56 : decode cX9_feed 56 = .ok (.bipush 6, 2) := op_16 (rdSeg sd_05_cX9_feed_1 24 rfl rfl) (rdSeg sd_05_cX9_feed_1 25 rfl rfl) (by decide +kernel)
theorem dR_feed_58 : decode cX9_feed 58 = .ok (.iaload, 1) := op_46 (rdSeg sd_05_cX9_feed_1 26 rfl rfl)
theorem dR_feed_59 : decode cX9_feed 59 = .ok (.iadd, 1) := op_96 (rdSeg sd_05_cX9_feed_1 27 rfl rfl)
theorem dR_feed_60 : decode cX9_feed 60 = .ok (.lload_n 1, 1) := op_31 (rdSeg sd_05_cX9_feed_1 28 rfl rfl)
theorem dR_feed_61 : decode cX9_feed 61 = .ok (.bipush 8, 2) := op_16 (rdSeg sd_05_cX9_feed_1 29 rfl rfl) (rdSeg sd_05_cX9_feed_1 30 rfl rfl) (by decide +kernel)
theorem dR_feed_63 : decode cX9_feed 63 = .ok (.iload 4, 2) := op_21 (rdSeg sd_05_cX9_feed_1 31 rfl rfl) (rdSeg sd_05_cX9_feed_2 0 rfl rfl)
theorem dR_feed_65 : decode cX9_feed 65 = .ok (.imul, 1) := op_104 (rdSeg sd_05_cX9_feed_2 1 rfl rfl)
theorem dR_feed_66 : decode cX9_feed 66 = .ok (.lshr, 1) := op_123 (rdSeg sd_05_cX9_feed_2 2 rfl rfl)
theorem dR_feed_67 : decode cX9_feed 67 = .ok (.ldc2_w 121, 3) := op_20 (rdSeg sd_05_cX9_feed_2 3 rfl rfl) (rdSeg sd_05_cX9_feed_2 4 rfl rfl) (rdSeg sd_05_cX9_feed_2 5 rfl rfl) rfl
theorem dR_feed_70 : decode cX9_feed 70 = .ok (.land, 1) := op_127 (rdSeg sd_05_cX9_feed_2 6 rfl rfl)
theorem dR_feed_71 : decode cX9_feed 71 = .ok (.l2i, 1) := op_136 (rdSeg sd_05_cX9_feed_2 7 rfl rfl)
theorem dR_feed_72 : decode cX9_feed 72 = .ok (.iastore, 1) := op_79 (rdSeg sd_05_cX9_feed_2 8 rfl rfl)
theorem dR_feed_73 : decode cX9_feed 73 = .ok (.aload_n 0, 1) := op_42 (rdSeg sd_05_cX9_feed_2 9 rfl rfl)
theorem dR_feed_74 : decode cX9_feed 74 = .ok (.getfield 7, 3) := op_180 (rdSeg sd_05_cX9_feed_2 10 rfl rfl) (rdSeg sd_05_cX9_feed_2 11 rfl rfl) (rdSeg sd_05_cX9_feed_2 12 rfl rfl) rfl
theorem dR_feed_77 : decode cX9_feed 77 = .ok (.bipush 6, 2) := op_16 (rdSeg sd_05_cX9_feed_2 13 rfl rfl) (rdSeg sd_05_cX9_feed_2 14 rfl rfl) (by decide +kernel)
theorem dR_feed_79 : decode cX9_feed 79 = .ok (.dup2, 1) := op_92 (rdSeg sd_05_cX9_feed_2 15 rfl rfl)
theorem dR_feed_80 : decode cX9_feed 80 = .ok (.iaload, 1) := op_46 (rdSeg sd_05_cX9_feed_2 16 rfl rfl)
theorem dR_feed_81 : decode cX9_feed 81 = .ok (.iconst 1, 1) := op_4 (rdSeg sd_05_cX9_feed_2 17 rfl rfl)
theorem dR_feed_82 : decode cX9_feed 82 = .ok (.iadd, 1) := op_96 (rdSeg sd_05_cX9_feed_2 18 rfl rfl)
theorem dR_feed_83 : decode cX9_feed 83 = .ok (.iastore, 1) := op_79 (rdSeg sd_05_cX9_feed_2 19 rfl rfl)
theorem dR_feed_84 : decode cX9_feed 84 = .ok (.iinc 4 1, 3) := op_132 (rdSeg sd_05_cX9_feed_2 20 rfl rfl) (rdSeg sd_05_cX9_feed_2 21 rfl rfl) (rdSeg sd_05_cX9_feed_2 22 rfl rfl) (by decide +kernel)
theorem dR_feed_87 : decode cX9_feed 87 = .ok (.goto (-48), 3) := op_167 (rdSeg sd_05_cX9_feed_2 23 rfl rfl) (rdSeg sd_05_cX9_feed_2 24 rfl rfl) (rdSeg sd_05_cX9_feed_2 25 rfl rfl) (by decide +kernel)
theorem dR_feed_90 : decode cX9_feed 90 = .ok (.aload_n 0, 1) := op_42 (rdSeg sd_05_cX9_feed_2 26 rfl rfl)
theorem dR_feed_91 : decode cX9_feed 91 = .ok (.getfield 7, 3) := op_180 (rdSeg sd_05_cX9_feed_2 27 rfl rfl) (rdSeg sd_05_cX9_feed_2 28 rfl rfl) (rdSeg sd_05_cX9_feed_2 29 rfl rfl) rfl
theorem dR_feed_94 : decode cX9_feed 94 = .ok (.bipush 6, 2) := op_16 (rdSeg sd_05_cX9_feed_2 30 rfl rfl) (rdSeg sd_05_cX9_feed_2 31 rfl rfl) (by decide +kernel)
theorem dR_feed_96 : decode cX9_feed 96 = .ok (.iaload, 1) := op_46 (rdSeg sd_05_cX9_feed_3 0 rfl rfl)
theorem dR_feed_97 : decode cX9_feed 97 = .ok (.ireturn, 1) := op_172 (rdSeg sd_05_cX9_feed_3 1 rfl rfl)
def sg_05_cX9_look_0 : List UInt8 := [0x2a, 0xb4, 0x00, 0x7b, 0x2a, 0xb4, 0x00, 0x07, 0x10, 0x06, 0x2e, 0xa2, 0x00, 0x13, 0x2a, 0xb4, 0x00, 0x07, 0x11, 0x01, 0xc4, 0x2a, 0xb4, 0x00, 0x7b, 0x60, 0x2e, 0xa7, 0x00, 0x04, 0x02, 0xac]
set_option maxRecDepth 100000 in
theorem sd_05_cX9_look_0 : cX9_look.data.toList.drop 0 = sg_05_cX9_look_0 := by decide +kernel
theorem dR_look_0 : decode cX9_look 0 = .ok (.aload_n 0, 1) := op_42 (rdSeg sd_05_cX9_look_0 0 rfl rfl)
theorem dR_look_1 : decode cX9_look 1 = .ok (.getfield 123, 3) := op_180 (rdSeg sd_05_cX9_look_0 1 rfl rfl) (rdSeg sd_05_cX9_look_0 2 rfl rfl) (rdSeg sd_05_cX9_look_0 3 rfl rfl) rfl
theorem dR_look_4 : decode cX9_look 4 = .ok (.aload_n 0, 1) := op_42 (rdSeg sd_05_cX9_look_0 4 rfl rfl)
theorem dR_look_5 : decode cX9_look 5 = .ok (.getfield 7, 3) := op_180 (rdSeg sd_05_cX9_look_0 5 rfl rfl) (rdSeg sd_05_cX9_look_0 6 rfl rfl) (rdSeg sd_05_cX9_look_0 7 rfl rfl) rfl
theorem dR_look_8 : decode cX9_look 8 = .ok (.bipush 6, 2) := op_16 (rdSeg sd_05_cX9_look_0 8 rfl rfl) (rdSeg sd_05_cX9_look_0 9 rfl rfl) (by decide +kernel)
theorem dR_look_10 : decode cX9_look 10 = .ok (.iaload, 1) := op_46 (rdSeg sd_05_cX9_look_0 10 rfl rfl)
theorem dR_look_11 : decode cX9_look 11 = .ok (.if_icmp .ge 19, 3) := op_162 (rdSeg sd_05_cX9_look_0 11 rfl rfl) (rdSeg sd_05_cX9_look_0 12 rfl rfl) (rdSeg sd_05_cX9_look_0 13 rfl rfl) (by decide +kernel)
theorem dR_look_14 : decode cX9_look 14 = .ok (.aload_n 0, 1) := op_42 (rdSeg sd_05_cX9_look_0 14 rfl rfl)
theorem dR_look_15 : decode cX9_look 15 = .ok (.getfield 7, 3) := op_180 (rdSeg sd_05_cX9_look_0 15 rfl rfl) (rdSeg sd_05_cX9_look_0 16 rfl rfl) (rdSeg sd_05_cX9_look_0 17 rfl rfl) rfl
theorem dR_look_18 : decode cX9_look 18 = .ok (.sipush 452, 3) := op_17 (rdSeg sd_05_cX9_look_0 18 rfl rfl) (rdSeg sd_05_cX9_look_0 19 rfl rfl) (rdSeg sd_05_cX9_look_0 20 rfl rfl) (by decide +kernel)
theorem dR_look_21 : decode cX9_look 21 = .ok (.aload_n 0, 1) := op_42 (rdSeg sd_05_cX9_look_0 21 rfl rfl)
theorem dR_look_22 : decode cX9_look 22 = .ok (.getfield 123, 3) := op_180 (rdSeg sd_05_cX9_look_0 22 rfl rfl) (rdSeg sd_05_cX9_look_0 23 rfl rfl) (rdSeg sd_05_cX9_look_0 24 rfl rfl) rfl
theorem dR_look_25 : decode cX9_look 25 = .ok (.iadd, 1) := op_96 (rdSeg sd_05_cX9_look_0 25 rfl rfl)
end
section
-- decode rows of the reference
def sg_06_cX9_look_0 : List UInt8 := [0x2a, 0xb4, 0x00, 0x7b, 0x2a, 0xb4, 0x00, 0x07, 0x10, 0x06, 0x2e, 0xa2, 0x00, 0x13, 0x2a, 0xb4, 0x00, 0x07, 0x11, 0x01, 0xc4, 0x2a, 0xb4, 0x00, 0x7b, 0x60, 0x2e, 0xa7, 0x00, 0x04, 0x02, 0xac]
set_option maxRecDepth 100000 in
theorem sd_06_cX9_look_0 : cX9_look.data.toList.drop 0 = sg_06_cX9_look_0 := by decide +kernel
theorem dR_look_26 : decode cX9_look 26 = .ok (.iaload, 1) := op_46 (rdSeg sd_06_cX9_look_0 26 rfl rfl)
theorem dR_look_27 : decode cX9_look 27 = .ok (.goto 4, 3) := op_167 (rdSeg sd_06_cX9_look_0 27 rfl rfl) (rdSeg sd_06_cX9_look_0 28 rfl rfl) (rdSeg sd_06_cX9_look_0 29 rfl rfl) (by decide +kernel)
theorem dR_look_30 : decode cX9_look 30 = .ok (.iconst (-1), 1) := op_2 (rdSeg sd_06_cX9_look_0 30 rfl rfl)
theorem dR_look_31 : decode cX9_look 31 = .ok (.ireturn, 1) := op_172 (rdSeg sd_06_cX9_look_0 31 rfl rfl)
def sg_06_cX9_isName_1 : List UInt8 := [0xa7, 0x00, 0x14, 0x1b, 0x10, 0x63, 0x9f, 0x00, 0x09, 0x1b, 0x10, 0x6e, 0xa0, 0x00, 0x07, 0x04, 0xa7, 0x00, 0x04, 0x03, 0xac]
def sg_06_cX9_isName_0 : List UInt8 := 0x1b :: 0x10 :: 0x67 :: 0xa0 :: 0x00 :: 0x05 :: 0x04 :: 0xac :: 0x2a :: 0xb4 :: 0x00 :: 0x7f :: 0x9a :: 0x00 :: 0x17 :: 0x1b :: 0x10 :: 0x73 :: 0x9f :: 0x00 :: 0x09 :: 0x1b :: 0x10 :: 0x6d :: 0xa0 :: 0x00 :: 0x07 :: 0x04 :: 0xa7 :: 0x00 :: 0x18 :: 0x03 :: sg_06_cX9_isName_1
set_option maxRecDepth 100000 in
theorem sd_06_cX9_isName_0 : cX9_isName.data.toList.drop 0 = sg_06_cX9_isName_0 := by decide +kernel
theorem sd_06_cX9_isName_1 : cX9_isName.data.toList.drop 32 = sg_06_cX9_isName_1 := sg_next sd_06_cX9_isName_0 rfl
theorem dR_isName_0 : decode cX9_isName 0 = .ok (.iload_n 1, 1) := op_27 (rdSeg sd_06_cX9_isName_0 0 rfl rfl)
theorem dR_isName_1 : decode cX9_isName 1 = .ok (.bipush 103, 2) := op_16 (rdSeg sd_06_cX9_isName_0 1 rfl rfl) (rdSeg sd_06_cX9_isName_0 2 rfl rfl) (by decide +kernel)
theorem dR_isName_3 : decode cX9_isName 3 = .ok (.if_icmp .ne 5, 3) := op_160 (rdSeg sd_06_cX9_isName_0 3 rfl rfl) (rdSeg sd_06_cX9_isName_0 4 rfl rfl) (rdSeg sd_06_cX9_isName_0 5 rfl rfl) (by decide +kernel)
theorem dR_isName_6 : decode cX9_isName 6 = .ok (.iconst 1, 1) := op_4 (rdSeg sd_06_cX9_isName_0 6 rfl rfl)
theorem dR_isName_7 : decode cX9_isName 7 = .ok (.ireturn, 1) := op_172 (rdSeg sd_06_cX9_isName_0 7 rfl rfl)
theorem dR_isName_8 : decode cX9_isName 8 = .ok (.aload_n 0, 1) := op_42 (rdSeg sd_06_cX9_isName_0 8 rfl rfl)
theorem dR_isName_9 : decode cX9_isName 9 = .ok (.getfield 127, 3) := op_180 (rdSeg sd_06_cX9_isName_0 9 rfl rfl) (rdSeg sd_06_cX9_isName_0 10 rfl rfl) (rdSeg sd_06_cX9_isName_0 11 rfl rfl) rfl
theorem dR_isName_12 : decode cX9_isName 12 = .ok (.ifCond .ne 23, 3) := op_154 (rdSeg sd_06_cX9_isName_0 12 rfl rfl) (rdSeg sd_06_cX9_isName_0 13 rfl rfl) (rdSeg sd_06_cX9_isName_0 14 rfl rfl) (by decide +kernel)
theorem dR_isName_15 : decode cX9_isName 15 = .ok (.iload_n 1, 1) := op_27 (rdSeg sd_06_cX9_isName_0 15 rfl rfl)
theorem dR_isName_16 : decode cX9_isName 16 = .ok (.bipush 115, 2) := op_16 (rdSeg sd_06_cX9_isName_0 16 rfl rfl) (rdSeg sd_06_cX9_isName_0 17 rfl rfl) (by decide +kernel)
theorem dR_isName_18 : decode cX9_isName 18 = .ok (.if_icmp .eq 9, 3) := op_159 (rdSeg sd_06_cX9_isName_0 18 rfl rfl) (rdSeg sd_06_cX9_isName_0 19 rfl rfl) (rdSeg sd_06_cX9_isName_0 20 rfl rfl) (by decide +kernel)
theorem dR_isName_21 : decode cX9_isName 21 = .ok (.iload_n 1, 1) := op_27 (rdSeg sd_06_cX9_isName_0 21 rfl rfl)
theorem dR_isName_22 : decode cX9_isName 22 = .ok (.bipush 109, 2) := op_16 (rdSeg sd_06_cX9_isName_0 22 rfl rfl) (rdSeg sd_06_cX9_isName_0 23 rfl rfl) (by decide +kernel)
theorem dR_isName_24 : decode cX9_isName 24 = .ok (.if_icmp .ne 7, 3) := op_160 (rdSeg sd_06_cX9_isName_0 24 rfl rfl) (rdSeg sd_06_cX9_isName_0 25 rfl rfl) (rdSeg sd_06_cX9_isName_0 26 rfl rfl) (by decide +kernel)
theorem dR_isName_27 : decode cX9_isName 27 = .ok (.iconst 1, 1) := op_4 (rdSeg sd_06_cX9_isName_0 27 rfl rfl)
theorem dR_isName_28 : decode cX9_isName 28 = .ok (.goto 24, 3) := op_167 (rdSeg sd_06_cX9_isName_0 28 rfl rfl) (rdSeg sd_06_cX9_isName_0 29 rfl rfl) (rdSeg sd_06_cX9_isName_0 30 rfl rfl) (by decide +kernel)
theorem dR_isName_31 : decode cX9_isName 31 = .ok (.iconst 0, 1) := op_3 (rdSeg sd_06_cX9_isName_0 31 rfl rfl)
theorem dR_isName_32 : decode cX9_isName 32 = .ok (.goto 20, 3) := op_167 (rdSeg sd_06_cX9_isName_1 0 rfl rfl) (rdSeg sd_06_cX9_isName_1 1 rfl rfl) (rdSeg sd_06_cX9_isName_1 2 rfl rfl) (by decide +kernel)
theorem dR_isName_35 : decode cX9_isName 35 = .ok (.iload_n 1, 1) := op_27 (rdSeg sd_06_cX9_isName_1 3 rfl rfl)
theorem dR_isName_36 : decode cX9_isName 36 = .ok (.bipush 99, 2) := op_16 (rdSeg sd_06_cX9_isName_1 4 rfl rfl) (rdSeg sd_06_cX9_isName_1 5 rfl rfl) (by decide +kernel)
theorem dR_isName_38 : decode cX9_isName 38 = .ok (.if_icmp .eq 9, 3) := op_159 (rdSeg sd_06_cX9_isName_1 6 rfl rfl) (rdSeg sd_06_cX9_isName_1 7 rfl rfl) (rdSeg sd_06_cX9_isName_1 8 rfl rfl) (by decide +kernel)
theorem dR_isName_41 : decode cX9_isName 41 = .ok (.iload_n 1, 1) := op_27 (rdSeg sd_06_cX9_isName_1 9 rfl rfl)
theorem dR_isName_42 : decode cX9_isName 42 = .ok (.bipush 110, 2) := op_16 (rdSeg sd_06_cX9_isName_1 10 rfl rfl) (rdSeg sd_06_cX9_isName_1 11 rfl rfl) (by decide +kernel)
theorem dR_isName_44 : decode cX9_isName 44 = .ok (.if_icmp .ne 7, 3) := op_160 (rdSeg sd_06_cX9_isName_1 12 rfl rfl) (rdSeg sd_06_cX9_isName_1 13 rfl rfl) (rdSeg sd_06_cX9_isName_1 14 rfl rfl) (by decide +kernel)
theorem dR_isName_47 : decode cX9_isName 47 = .ok (.iconst 1, 1) := op_4 (rdSeg sd_06_cX9_isName_1 15 rfl rfl)
theorem dR_isName_48 : decode cX9_isName 48 = .ok (.goto 4, 3) := op_167 (rdSeg sd_06_cX9_isName_1 16 rfl rfl) (rdSeg sd_06_cX9_isName_1 17 rfl rfl) (rdSeg sd_06_cX9_isName_1 18 rfl rfl) (by decide +kernel)
theorem dR_isName_51 : decode cX9_isName 51 = .ok (.iconst 0, 1) := op_3 (rdSeg sd_06_cX9_isName_1 19 rfl rfl)
theorem dR_isName_52 : decode cX9_isName 52 = .ok (.ireturn, 1) := op_172 (rdSeg sd_06_cX9_isName_1 20 rfl rfl)
def sg_06_cX9_lays_1 : List UInt8 := [0x60, 0xb5, 0x00, 0x82, 0xb1]
def sg_06_cX9_lays_0 : List UInt8 := 0x2a :: 0xb4 :: 0x00 :: 0x16 :: 0x05 :: 0x2a :: 0xb4 :: 0x00 :: 0x82 :: 0x68 :: 0x1b :: 0x4f :: 0x2a :: 0xb4 :: 0x00 :: 0x16 :: 0x05 :: 0x2a :: 0xb4 :: 0x00 :: 0x82 :: 0x68 :: 0x04 :: 0x60 :: 0x1c :: 0x4f :: 0x2a :: 0x59 :: 0xb4 :: 0x00 :: 0x82 :: 0x04 :: sg_06_cX9_lays_1
set_option maxRecDepth 100000 in
theorem sd_06_cX9_lays_0 : cX9_lays.data.toList.drop 0 = sg_06_cX9_lays_0 := by decide +kernel
theorem sd_06_cX9_lays_1 : cX9_lays.data.toList.drop 32 = sg_06_cX9_lays_1 := sg_next sd_06_cX9_lays_0 rfl
theorem dR_lays_0 : decode cX9_lays 0 = .ok (.aload_n 0, 1) := op_42 (rdSeg sd_06_cX9_lays_0 0 rfl rfl)
theorem dR_lays_1 : decode cX9_lays 1 = .ok (.getfield 22, 3) := op_180 (rdSeg sd_06_cX9_lays_0 1 rfl rfl) (rdSeg sd_06_cX9_lays_0 2 rfl rfl) (rdSeg sd_06_cX9_lays_0 3 rfl rfl) rfl
theorem dR_lays_4 : decode cX9_lays 4 = .ok (.iconst 2, 1) := op_5 (rdSeg sd_06_cX9_lays_0 4 rfl rfl)
theorem dR_lays_5 : decode cX9_lays 5 = .ok (.aload_n 0, 1) := op_42 (rdSeg sd_06_cX9_lays_0 5 rfl rfl)
theorem dR_lays_6 : decode cX9_lays 6 = .ok (.getfield 130, 3) := op_180 (rdSeg sd_06_cX9_lays_0 6 rfl rfl) (rdSeg sd_06_cX9_lays_0 7 rfl rfl) (rdSeg sd_06_cX9_lays_0 8 rfl rfl) rfl
theorem dR_lays_9 : decode cX9_lays 9 = .ok (.imul, 1) := op_104 (rdSeg sd_06_cX9_lays_0 9 rfl rfl)
theorem dR_lays_10 : decode cX9_lays 10 = .ok (.iload_n 1, 1) := op_27 (rdSeg sd_06_cX9_lays_0 10 rfl rfl)
theorem dR_lays_11 : decode cX9_lays 11 = .ok (.iastore, 1) := op_79 (rdSeg sd_06_cX9_lays_0 11 rfl rfl)
theorem dR_lays_12 : decode cX9_lays 12 = .ok (.aload_n 0, 1) := op_42 (rdSeg sd_06_cX9_lays_0 12 rfl rfl)
theorem dR_lays_13 : decode cX9_lays 13 = .ok (.getfield 22, 3) := op_180 (rdSeg sd_06_cX9_lays_0 13 rfl rfl) (rdSeg sd_06_cX9_lays_0 14 rfl rfl) (rdSeg sd_06_cX9_lays_0 15 rfl rfl) rfl
theorem dR_lays_16 : decode cX9_lays 16 = .ok (.iconst 2, 1) := op_5 (rdSeg sd_06_cX9_lays_0 16 rfl rfl)
theorem dR_lays_17 : decode cX9_lays 17 = .ok (.aload_n 0, 1) := op_42 (rdSeg sd_06_cX9_lays_0 17 rfl rfl)
theorem dR_lays_18 : decode cX9_lays 18 = .ok (.getfield 130, 3) := op_180 (rdSeg sd_06_cX9_lays_0 18 rfl rfl) (rdSeg sd_06_cX9_lays_0 19 rfl rfl) (rdSeg sd_06_cX9_lays_0 20 rfl rfl) rfl
theorem dR_lays_21 : decode cX9_lays 21 = .ok (.imul, 1) := op_104 (rdSeg sd_06_cX9_lays_0 21 rfl rfl)
theorem dR_lays_22 : decode cX9_lays 22 = .ok (.iconst 1, 1) := op_4 (rdSeg sd_06_cX9_lays_0 22 rfl rfl)
theorem dR_lays_23 : decode cX9_lays 23 = .ok (.iadd, 1) := op_96 (rdSeg sd_06_cX9_lays_0 23 rfl rfl)
theorem dR_lays_24 : decode cX9_lays 24 = .ok (.iload_n 2, 1) := op_28 (rdSeg sd_06_cX9_lays_0 24 rfl rfl)
theorem dR_lays_25 : decode cX9_lays 25 = .ok (.iastore, 1) := op_79 (rdSeg sd_06_cX9_lays_0 25 rfl rfl)
theorem dR_lays_26 : decode cX9_lays 26 = .ok (.aload_n 0, 1) := op_42 (rdSeg sd_06_cX9_lays_0 26 rfl rfl)
theorem dR_lays_27 : decode cX9_lays 27 = .ok (.dup, 1) := op_89 (rdSeg sd_06_cX9_lays_0 27 rfl rfl)
theorem dR_lays_28 : decode cX9_lays 28 = .ok (.getfield 130, 3) := op_180 (rdSeg sd_06_cX9_lays_0 28 rfl rfl) (rdSeg sd_06_cX9_lays_0 29 rfl rfl) (rdSeg sd_06_cX9_lays_0 30 rfl rfl) rfl
theorem dR_lays_31 : decode cX9_lays 31 = .ok (.iconst 1, 1) := op_4 (rdSeg sd_06_cX9_lays_0 31 rfl rfl)
theorem dR_lays_32 : decode cX9_lays 32 = .ok (.iadd, 1) := op_96 (rdSeg sd_06_cX9_lays_1 0 rfl rfl)
theorem dR_lays_33 : decode cX9_lays 33 = .ok (.putfield 130, 3) := op_181 (rdSeg sd_06_cX9_lays_1 1 rfl rfl) (rdSeg sd_06_cX9_lays_1 2 rfl rfl) (rdSeg sd_06_cX9_lays_1 3 rfl rfl) rfl
theorem dR_lays_36 : decode cX9_lays 36 = .ok (.return_, 1) := op_177 (rdSeg sd_06_cX9_lays_1 4 rfl rfl)
def sg_06_cX9_whole_1 : List UInt8 := [0x9a, 0x00, 0x05, 0x03, 0xac, 0x2a, 0x06, 0x10, 0x7c, 0xb6, 0x00, 0x8c, 0xa7, 0xff, 0xdd, 0x04, 0xac]
def sg_06_cX9_whole_0 : List UInt8 := 0x2a :: 0xb6 :: 0x00 :: 0x85 :: 0x9a :: 0x00 :: 0x05 :: 0x03 :: 0xac :: 0x2a :: 0xb6 :: 0x00 :: 0x89 :: 0x10 :: 0x7c :: 0xa0 :: 0x00 :: 0x20 :: 0x2a :: 0x59 :: 0xb4 :: 0x00 :: 0x7b :: 0x04 :: 0x60 :: 0xb5 :: 0x00 :: 0x7b :: 0x2a :: 0xb6 :: 0x00 :: 0x85 :: sg_06_cX9_whole_1
set_option maxRecDepth 100000 in
theorem sd_06_cX9_whole_0 : cX9_whole.data.toList.drop 0 = sg_06_cX9_whole_0 := by decide +kernel
theorem sd_06_cX9_whole_1 : cX9_whole.data.toList.drop 32 = sg_06_cX9_whole_1 := sg_next sd_06_cX9_whole_0 rfl
theorem dR_whole_0 : decode cX9_whole 0 = .ok (.aload_n 0, 1) := op_42 (rdSeg sd_06_cX9_whole_0 0 rfl rfl)
theorem dR_whole_1 : decode cX9_whole 1 = .ok (.invokevirtual 133, 3) := op_182 (rdSeg sd_06_cX9_whole_0 1 rfl rfl) (rdSeg sd_06_cX9_whole_0 2 rfl rfl) (rdSeg sd_06_cX9_whole_0 3 rfl rfl) rfl
theorem dR_whole_4 : decode cX9_whole 4 = .ok (.ifCond .ne 5, 3) := op_154 (rdSeg sd_06_cX9_whole_0 4 rfl rfl) (rdSeg sd_06_cX9_whole_0 5 rfl rfl) (rdSeg sd_06_cX9_whole_0 6 rfl rfl) (by decide +kernel)
theorem dR_whole_7 : decode cX9_whole 7 = .ok (.iconst 0, 1) := op_3 (rdSeg sd_06_cX9_whole_0 7 rfl rfl)
theorem dR_whole_8 : decode cX9_whole 8 = .ok (.ireturn, 1) := op_172 (rdSeg sd_06_cX9_whole_0 8 rfl rfl)
theorem dR_whole_9 : decode cX9_whole 9 = .ok (.aload_n 0, 1) := op_42 (rdSeg sd_06_cX9_whole_0 9 rfl rfl)
theorem dR_whole_10 : decode cX9_whole 10 = .ok (.invokevirtual 137, 3) := op_182 (rdSeg sd_06_cX9_whole_0 10 rfl rfl) (rdSeg sd_06_cX9_whole_0 11 rfl rfl) (rdSeg sd_06_cX9_whole_0 12 rfl rfl) rfl
theorem dR_whole_13 : decode cX9_whole 13 = .ok (.bipush 124, 2) := op_16 (rdSeg sd_06_cX9_whole_0 13 rfl rfl) (rdSeg sd_06_cX9_whole_0 14 rfl rfl) (by decide +kernel)
theorem dR_whole_15 : decode cX9_whole 15 = .ok (.if_icmp .ne 32, 3) := op_160 (rdSeg sd_06_cX9_whole_0 15 rfl rfl) (rdSeg sd_06_cX9_whole_0 16 rfl rfl) (rdSeg sd_06_cX9_whole_0 17 rfl rfl) (by decide +kernel)
theorem dR_whole_18 : decode cX9_whole 18 = .ok (.aload_n 0, 1) := op_42 (rdSeg sd_06_cX9_whole_0 18 rfl rfl)
theorem dR_whole_19 : decode cX9_whole 19 = .ok (.dup, 1) := op_89 (rdSeg sd_06_cX9_whole_0 19 rfl rfl)
theorem dR_whole_20 : decode cX9_whole 20 = .ok (.getfield 123, 3) := op_180 (rdSeg sd_06_cX9_whole_0 20 rfl rfl) (rdSeg sd_06_cX9_whole_0 21 rfl rfl) (rdSeg sd_06_cX9_whole_0 22 rfl rfl) rfl
theorem dR_whole_23 : decode cX9_whole 23 = .ok (.iconst 1, 1) := op_4 (rdSeg sd_06_cX9_whole_0 23 rfl rfl)
theorem dR_whole_24 : decode cX9_whole 24 = .ok (.iadd, 1) := op_96 (rdSeg sd_06_cX9_whole_0 24 rfl rfl)
theorem dR_whole_25 : decode cX9_whole 25 = .ok (.putfield 123, 3) := op_181 (rdSeg sd_06_cX9_whole_0 25 rfl rfl) (rdSeg sd_06_cX9_whole_0 26 rfl rfl) (rdSeg sd_06_cX9_whole_0 27 rfl rfl) rfl
theorem dR_whole_28 : decode cX9_whole 28 = .ok (.aload_n 0, 1) := op_42 (rdSeg sd_06_cX9_whole_0 28 rfl rfl)
theorem dR_whole_29 : decode cX9_whole 29 = .ok (.invokevirtual 133, 3) := op_182 (rdSeg sd_06_cX9_whole_0 29 rfl rfl) (rdSeg sd_06_cX9_whole_0 30 rfl rfl) (rdSeg sd_06_cX9_whole_0 31 rfl rfl) rfl
theorem dR_whole_32 : decode cX9_whole 32 = .ok (.ifCond .ne 5, 3) := op_154 (rdSeg sd_06_cX9_whole_1 0 rfl rfl) (rdSeg sd_06_cX9_whole_1 1 rfl rfl) (rdSeg sd_06_cX9_whole_1 2 rfl rfl) (by decide +kernel)
theorem dR_whole_35 : decode cX9_whole 35 = .ok (.iconst 0, 1) := op_3 (rdSeg sd_06_cX9_whole_1 3 rfl rfl)
theorem dR_whole_36 : decode cX9_whole 36 = .ok (.ireturn, 1) := op_172 (rdSeg sd_06_cX9_whole_1 4 rfl rfl)
theorem dR_whole_37 : decode cX9_whole 37 = .ok (.aload_n 0, 1) := op_42 (rdSeg sd_06_cX9_whole_1 5 rfl rfl)
theorem dR_whole_38 : decode cX9_whole 38 = .ok (.iconst 3, 1) := op_6 (rdSeg sd_06_cX9_whole_1 6 rfl rfl)
theorem dR_whole_39 : decode cX9_whole 39 = .ok (.bipush 124, 2) := op_16 (rdSeg sd_06_cX9_whole_1 7 rfl rfl) (rdSeg sd_06_cX9_whole_1 8 rfl rfl) (by decide +kernel)
theorem dR_whole_41 : decode cX9_whole 41 = .ok (.invokevirtual 140, 3) := op_182 (rdSeg sd_06_cX9_whole_1 9 rfl rfl) (rdSeg sd_06_cX9_whole_1 10 rfl rfl) (rdSeg sd_06_cX9_whole_1 11 rfl rfl) rfl
theorem dR_whole_44 : decode cX9_whole 44 = .ok (.goto (-35), 3) := op_167 (rdSeg sd_06_cX9_whole_1 12 rfl rfl) (rdSeg sd_06_cX9_whole_1 13 rfl rfl) (rdSeg sd_06_cX9_whole_1 14 rfl rfl) (by decide +kernel)
theorem dR_whole_47 : decode cX9_whole 47 = .ok (.iconst 1, 1) := op_4 (rdSeg sd_06_cX9_whole_1 15 rfl rfl)
theorem dR_whole_48 : decode cX9_whole 48 = .ok (.ireturn, 1) := op_172 (rdSeg sd_06_cX9_whole_1 16 rfl rfl)
def sg_06_cX9_both_1 : List UInt8 := [0x9a, 0x00, 0x05, 0x03, 0xac, 0x2a, 0x06, 0x10, 0x26, 0xb6, 0x00, 0x8c, 0xa7, 0xff, 0xdd, 0x04, 0xac]
def sg_06_cX9_both_0 : List UInt8 := 0x2a :: 0xb6 :: 0x00 :: 0x90 :: 0x9a :: 0x00 :: 0x05 :: 0x03 :: 0xac :: 0x2a :: 0xb6 :: 0x00 :: 0x89 :: 0x10 :: 0x26 :: 0xa0 :: 0x00 :: 0x20 :: 0x2a :: 0x59 :: 0xb4 :: 0x00 :: 0x7b :: 0x04 :: 0x60 :: 0xb5 :: 0x00 :: 0x7b :: 0x2a :: 0xb6 :: 0x00 :: 0x90 :: sg_06_cX9_both_1
set_option maxRecDepth 100000 in
theorem sd_06_cX9_both_0 : cX9_both.data.toList.drop 0 = sg_06_cX9_both_0 := by decide +kernel
theorem sd_06_cX9_both_1 : cX9_both.data.toList.drop 32 = sg_06_cX9_both_1 := sg_next sd_06_cX9_both_0 rfl
theorem dR_both_0 : decode cX9_both 0 = .ok (.aload_n 0, 1) := op_42 (rdSeg sd_06_cX9_both_0 0 rfl rfl)
theorem dR_both_1 : decode cX9_both 1 = .ok (.invokevirtual 144, 3) := op_182 (rdSeg sd_06_cX9_both_0 1 rfl rfl) (rdSeg sd_06_cX9_both_0 2 rfl rfl) (rdSeg sd_06_cX9_both_0 3 rfl rfl) rfl
theorem dR_both_4 : decode cX9_both 4 = .ok (.ifCond .ne 5, 3) := op_154 (rdSeg sd_06_cX9_both_0 4 rfl rfl) (rdSeg sd_06_cX9_both_0 5 rfl rfl) (rdSeg sd_06_cX9_both_0 6 rfl rfl) (by decide +kernel)
theorem dR_both_7 : decode cX9_both 7 = .ok (.iconst 0, 1) := op_3 (rdSeg sd_06_cX9_both_0 7 rfl rfl)
theorem dR_both_8 : decode cX9_both 8 = .ok (.ireturn, 1) := op_172 (rdSeg sd_06_cX9_both_0 8 rfl rfl)
theorem dR_both_9 : decode cX9_both 9 = .ok (.aload_n 0, 1) := op_42 (rdSeg sd_06_cX9_both_0 9 rfl rfl)
theorem dR_both_10 : decode cX9_both 10 = .ok (.invokevirtual 137, 3) := op_182 (rdSeg sd_06_cX9_both_0 10 rfl rfl) (rdSeg sd_06_cX9_both_0 11 rfl rfl) (rdSeg sd_06_cX9_both_0 12 rfl rfl) rfl
theorem dR_both_13 : decode cX9_both 13 = .ok (.bipush 38, 2) := op_16 (rdSeg sd_06_cX9_both_0 13 rfl rfl) (rdSeg sd_06_cX9_both_0 14 rfl rfl) (by decide +kernel)
theorem dR_both_15 : decode cX9_both 15 = .ok (.if_icmp .ne 32, 3) := op_160 (rdSeg sd_06_cX9_both_0 15 rfl rfl) (rdSeg sd_06_cX9_both_0 16 rfl rfl) (rdSeg sd_06_cX9_both_0 17 rfl rfl) (by decide +kernel)
theorem dR_both_18 : decode cX9_both 18 = .ok (.aload_n 0, 1) := op_42 (rdSeg sd_06_cX9_both_0 18 rfl rfl)
theorem dR_both_19 : decode cX9_both 19 = .ok (.dup, 1) := op_89 (rdSeg sd_06_cX9_both_0 19 rfl rfl)
theorem dR_both_20 : decode cX9_both 20 = .ok (.getfield 123, 3) := op_180 (rdSeg sd_06_cX9_both_0 20 rfl rfl) (rdSeg sd_06_cX9_both_0 21 rfl rfl) (rdSeg sd_06_cX9_both_0 22 rfl rfl) rfl
theorem dR_both_23 : decode cX9_both 23 = .ok (.iconst 1, 1) := op_4 (rdSeg sd_06_cX9_both_0 23 rfl rfl)
theorem dR_both_24 : decode cX9_both 24 = .ok (.iadd, 1) := op_96 (rdSeg sd_06_cX9_both_0 24 rfl rfl)
theorem dR_both_25 : decode cX9_both 25 = .ok (.putfield 123, 3) := op_181 (rdSeg sd_06_cX9_both_0 25 rfl rfl) (rdSeg sd_06_cX9_both_0 26 rfl rfl) (rdSeg sd_06_cX9_both_0 27 rfl rfl) rfl
theorem dR_both_28 : decode cX9_both 28 = .ok (.aload_n 0, 1) := op_42 (rdSeg sd_06_cX9_both_0 28 rfl rfl)
theorem dR_both_29 : decode cX9_both 29 = .ok (.invokevirtual 144, 3) := op_182 (rdSeg sd_06_cX9_both_0 29 rfl rfl) (rdSeg sd_06_cX9_both_0 30 rfl rfl) (rdSeg sd_06_cX9_both_0 31 rfl rfl) rfl
theorem dR_both_32 : decode cX9_both 32 = .ok (.ifCond .ne 5, 3) := op_154 (rdSeg sd_06_cX9_both_1 0 rfl rfl) (rdSeg sd_06_cX9_both_1 1 rfl rfl) (rdSeg sd_06_cX9_both_1 2 rfl rfl) (by decide +kernel)
theorem dR_both_35 : decode cX9_both 35 = .ok (.iconst 0, 1) := op_3 (rdSeg sd_06_cX9_both_1 3 rfl rfl)
theorem dR_both_36 : decode cX9_both 36 = .ok (.ireturn, 1) := op_172 (rdSeg sd_06_cX9_both_1 4 rfl rfl)
theorem dR_both_37 : decode cX9_both 37 = .ok (.aload_n 0, 1) := op_42 (rdSeg sd_06_cX9_both_1 5 rfl rfl)
theorem dR_both_38 : decode cX9_both 38 = .ok (.iconst 3, 1) := op_6 (rdSeg sd_06_cX9_both_1 6 rfl rfl)
theorem dR_both_39 : decode cX9_both 39 = .ok (.bipush 38, 2) := op_16 (rdSeg sd_06_cX9_both_1 7 rfl rfl) (rdSeg sd_06_cX9_both_1 8 rfl rfl) (by decide +kernel)
theorem dR_both_41 : decode cX9_both 41 = .ok (.invokevirtual 140, 3) := op_182 (rdSeg sd_06_cX9_both_1 9 rfl rfl) (rdSeg sd_06_cX9_both_1 10 rfl rfl) (rdSeg sd_06_cX9_both_1 11 rfl rfl) rfl
theorem dR_both_44 : decode cX9_both 44 = .ok (.goto (-35), 3) := op_167 (rdSeg sd_06_cX9_both_1 12 rfl rfl) (rdSeg sd_06_cX9_both_1 13 rfl rfl) (rdSeg sd_06_cX9_both_1 14 rfl rfl) (by decide +kernel)
theorem dR_both_47 : decode cX9_both 47 = .ok (.iconst 1, 1) := op_4 (rdSeg sd_06_cX9_both_1 15 rfl rfl)
theorem dR_both_48 : decode cX9_both 48 = .ok (.ireturn, 1) := op_172 (rdSeg sd_06_cX9_both_1 16 rfl rfl)
def sg_06_cX9_compared_1 : List UInt8 := [0x04, 0xac, 0x2a, 0x59, 0xb4, 0x00, 0x7b, 0x04, 0x60, 0xb5, 0x00, 0x7b, 0x2a, 0xb6, 0x00, 0x93, 0x9a, 0x00, 0x05, 0x03, 0xac, 0x2a, 0x06, 0x1b, 0xb6, 0x00, 0x8c, 0x04, 0xac]
def sg_06_cX9_compared_0 : List UInt8 := 0x2a :: 0xb6 :: 0x00 :: 0x93 :: 0x9a :: 0x00 :: 0x05 :: 0x03 :: 0xac :: 0x2a :: 0xb6 :: 0x00 :: 0x89 :: 0x3c :: 0x1b :: 0x10 :: 0x3c :: 0x9f :: 0x00 :: 0x11 :: 0x1b :: 0x10 :: 0x3d :: 0x9f :: 0x00 :: 0x0b :: 0x1b :: 0x10 :: 0x3e :: 0x9f :: 0x00 :: 0x05 :: sg_06_cX9_compared_1
set_option maxRecDepth 100000 in
theorem sd_06_cX9_compared_0 : cX9_compared.data.toList.drop 0 = sg_06_cX9_compared_0 := by decide +kernel
theorem sd_06_cX9_compared_1 : cX9_compared.data.toList.drop 32 = sg_06_cX9_compared_1 := sg_next sd_06_cX9_compared_0 rfl
theorem dR_compared_0 : decode cX9_compared 0 = .ok (.aload_n 0, 1) := op_42 (rdSeg sd_06_cX9_compared_0 0 rfl rfl)
theorem dR_compared_1 : decode cX9_compared 1 = .ok (.invokevirtual 147, 3) := op_182 (rdSeg sd_06_cX9_compared_0 1 rfl rfl) (rdSeg sd_06_cX9_compared_0 2 rfl rfl) (rdSeg sd_06_cX9_compared_0 3 rfl rfl) rfl
theorem dR_compared_4 : decode cX9_compared 4 = .ok (.ifCond .ne 5, 3) := op_154 (rdSeg sd_06_cX9_compared_0 4 rfl rfl) (rdSeg sd_06_cX9_compared_0 5 rfl rfl) (rdSeg sd_06_cX9_compared_0 6 rfl rfl) (by decide +kernel)
theorem dR_compared_7 : decode cX9_compared 7 = .ok (.iconst 0, 1) := op_3 (rdSeg sd_06_cX9_compared_0 7 rfl rfl)
theorem dR_compared_8 : decode cX9_compared 8 = .ok (.ireturn, 1) := op_172 (rdSeg sd_06_cX9_compared_0 8 rfl rfl)
theorem dR_compared_9 : decode cX9_compared 9 = .ok (.aload_n 0, 1) := op_42 (rdSeg sd_06_cX9_compared_0 9 rfl rfl)
theorem dR_compared_10 : decode cX9_compared 10 = .ok (.invokevirtual 137, 3) := op_182 (rdSeg sd_06_cX9_compared_0 10 rfl rfl) (rdSeg sd_06_cX9_compared_0 11 rfl rfl) (rdSeg sd_06_cX9_compared_0 12 rfl rfl) rfl
theorem dR_compared_13 : decode cX9_compared 13 = .ok (.istore_n 1, 1) := op_60 (rdSeg sd_06_cX9_compared_0 13 rfl rfl)
theorem dR_compared_14 : decode cX9_compared 14 = .ok (.iload_n 1, 1) := op_27 (rdSeg sd_06_cX9_compared_0 14 rfl rfl)
theorem dR_compared_15 : decode cX9_compared 15 = .ok (.bipush 60, 2) := op_16 (rdSeg sd_06_cX9_compared_0 15 rfl rfl) (rdSeg sd_06_cX9_compared_0 16 rfl rfl) (by decide +kernel)
theorem dR_compared_17 : decode cX9_compared 17 = .ok (.if_icmp .eq 17, 3) := op_159 (rdSeg sd_06_cX9_compared_0 17 rfl rfl) (rdSeg sd_06_cX9_compared_0 18 rfl rfl) (rdSeg sd_06_cX9_compared_0 19 rfl rfl) (by decide +kernel)
theorem dR_compared_20 : decode cX9_compared 20 = .ok (.iload_n 1, 1) := op_27 (rdSeg sd_06_cX9_compared_0 20 rfl rfl)
theorem dR_compared_21 : decode cX9_compared 21 = .ok (.bipush 61, 2) := op_16 (rdSeg sd_06_cX9_compared_0 21 rfl rfl) (rdSeg sd_06_cX9_compared_0 22 rfl rfl) (by decide +kernel)
theorem dR_compared_23 : decode cX9_compared 23 = .ok (.if_icmp .eq 11, 3) := op_159 (rdSeg sd_06_cX9_compared_0 23 rfl rfl) (rdSeg sd_06_cX9_compared_0 24 rfl rfl) (rdSeg sd_06_cX9_compared_0 25 rfl rfl) (by decide +kernel)
theorem dR_compared_26 : decode cX9_compared 26 = .ok (.iload_n 1, 1) := op_27 (rdSeg sd_06_cX9_compared_0 26 rfl rfl)
theorem dR_compared_27 : decode cX9_compared 27 = .ok (.bipush 62, 2) := op_16 (rdSeg sd_06_cX9_compared_0 27 rfl rfl) (rdSeg sd_06_cX9_compared_0 28 rfl rfl) (by decide +kernel)
theorem dR_compared_29 : decode cX9_compared 29 = .ok (.if_icmp .eq 5, 3) := op_159 (rdSeg sd_06_cX9_compared_0 29 rfl rfl) (rdSeg sd_06_cX9_compared_0 30 rfl rfl) (rdSeg sd_06_cX9_compared_0 31 rfl rfl) (by decide +kernel)
theorem dR_compared_32 : decode cX9_compared 32 = .ok (.iconst 1, 1) := op_4 (rdSeg sd_06_cX9_compared_1 0 rfl rfl)
theorem dR_compared_33 : decode cX9_compared 33 = .ok (.ireturn, 1) := op_172 (rdSeg sd_06_cX9_compared_1 1 rfl rfl)
theorem dR_compared_34 : decode cX9_compared 34 = .ok (.aload_n 0, 1) := op_42 (rdSeg sd_06_cX9_compared_1 2 rfl rfl)
theorem dR_compared_35 : decode cX9_compared 35 = .ok (.dup, 1) := op_89 (rdSeg sd_06_cX9_compared_1 3 rfl rfl)
theorem dR_compared_36 : decode cX9_compared 36 = .ok (.getfield 123, 3) := op_180 (rdSeg sd_06_cX9_compared_1 4 rfl rfl) (rdSeg sd_06_cX9_compared_1 5 rfl rfl) (rdSeg sd_06_cX9_compared_1 6 rfl rfl) rfl
theorem dR_compared_39 : decode cX9_compared 39 = .ok (.iconst 1, 1) := op_4 (rdSeg sd_06_cX9_compared_1 7 rfl rfl)
theorem dR_compared_40 : decode cX9_compared 40 = .ok (.iadd, 1) := op_96 (rdSeg sd_06_cX9_compared_1 8 rfl rfl)
theorem dR_compared_41 : decode cX9_compared 41 = .ok (.putfield 123, 3) := op_181 (rdSeg sd_06_cX9_compared_1 9 rfl rfl) (rdSeg sd_06_cX9_compared_1 10 rfl rfl) (rdSeg sd_06_cX9_compared_1 11 rfl rfl) rfl
theorem dR_compared_44 : decode cX9_compared 44 = .ok (.aload_n 0, 1) := op_42 (rdSeg sd_06_cX9_compared_1 12 rfl rfl)
theorem dR_compared_45 : decode cX9_compared 45 = .ok (.invokevirtual 147, 3) := op_182 (rdSeg sd_06_cX9_compared_1 13 rfl rfl) (rdSeg sd_06_cX9_compared_1 14 rfl rfl) (rdSeg sd_06_cX9_compared_1 15 rfl rfl) rfl
theorem dR_compared_48 : decode cX9_compared 48 = .ok (.ifCond .ne 5, 3) := op_154 (rdSeg sd_06_cX9_compared_1 16 rfl rfl) (rdSeg sd_06_cX9_compared_1 17 rfl rfl) (rdSeg sd_06_cX9_compared_1 18 rfl rfl) (by decide +kernel)
theorem dR_compared_51 : decode cX9_compared 51 = .ok (.iconst 0, 1) := op_3 (rdSeg sd_06_cX9_compared_1 19 rfl rfl)
theorem dR_compared_52 : decode cX9_compared 52 = .ok (.ireturn, 1) := op_172 (rdSeg sd_06_cX9_compared_1 20 rfl rfl)
theorem dR_compared_53 : decode cX9_compared 53 = .ok (.aload_n 0, 1) := op_42 (rdSeg sd_06_cX9_compared_1 21 rfl rfl)
theorem dR_compared_54 : decode cX9_compared 54 = .ok (.iconst 3, 1) := op_6 (rdSeg sd_06_cX9_compared_1 22 rfl rfl)
theorem dR_compared_55 : decode cX9_compared 55 = .ok (.iload_n 1, 1) := op_27 (rdSeg sd_06_cX9_compared_1 23 rfl rfl)
theorem dR_compared_56 : decode cX9_compared 56 = .ok (.invokevirtual 140, 3) := op_182 (rdSeg sd_06_cX9_compared_1 24 rfl rfl) (rdSeg sd_06_cX9_compared_1 25 rfl rfl) (rdSeg sd_06_cX9_compared_1 26 rfl rfl) rfl
theorem dR_compared_59 : decode cX9_compared 59 = .ok (.iconst 1, 1) := op_4 (rdSeg sd_06_cX9_compared_1 27 rfl rfl)
theorem dR_compared_60 : decode cX9_compared 60 = .ok (.ireturn, 1) := op_172 (rdSeg sd_06_cX9_compared_1 28 rfl rfl)
def sg_06_cX9_sum_1 : List UInt8 := [0x2a, 0x59, 0xb4, 0x00, 0x7b, 0x04, 0x60, 0xb5, 0x00, 0x7b, 0x2a, 0xb6, 0x00, 0x96, 0x9a, 0x00, 0x05, 0x03, 0xac, 0x2a, 0x06, 0x1b, 0xb6, 0x00, 0x8c, 0xa7, 0xff, 0xd0, 0x04, 0xac]
def sg_06_cX9_sum_0 : List UInt8 := 0x2a :: 0xb6 :: 0x00 :: 0x96 :: 0x9a :: 0x00 :: 0x05 :: 0x03 :: 0xac :: 0x2a :: 0xb6 :: 0x00 :: 0x89 :: 0x10 :: 0x2b :: 0x9f :: 0x00 :: 0x0c :: 0x2a :: 0xb6 :: 0x00 :: 0x89 :: 0x10 :: 0x2d :: 0xa0 :: 0x00 :: 0x24 :: 0x2a :: 0xb6 :: 0x00 :: 0x89 :: 0x3c :: sg_06_cX9_sum_1
set_option maxRecDepth 100000 in
theorem sd_06_cX9_sum_0 : cX9_sum.data.toList.drop 0 = sg_06_cX9_sum_0 := by decide +kernel
theorem sd_06_cX9_sum_1 : cX9_sum.data.toList.drop 32 = sg_06_cX9_sum_1 := sg_next sd_06_cX9_sum_0 rfl
theorem dR_sum_0 : decode cX9_sum 0 = .ok (.aload_n 0, 1) := op_42 (rdSeg sd_06_cX9_sum_0 0 rfl rfl)
theorem dR_sum_1 : decode cX9_sum 1 = .ok (.invokevirtual 150, 3) := op_182 (rdSeg sd_06_cX9_sum_0 1 rfl rfl) (rdSeg sd_06_cX9_sum_0 2 rfl rfl) (rdSeg sd_06_cX9_sum_0 3 rfl rfl) rfl
theorem dR_sum_4 : decode cX9_sum 4 = .ok (.ifCond .ne 5, 3) := op_154 (rdSeg sd_06_cX9_sum_0 4 rfl rfl) (rdSeg sd_06_cX9_sum_0 5 rfl rfl) (rdSeg sd_06_cX9_sum_0 6 rfl rfl) (by decide +kernel)
theorem dR_sum_7 : decode cX9_sum 7 = .ok (.iconst 0, 1) := op_3 (rdSeg sd_06_cX9_sum_0 7 rfl rfl)
theorem dR_sum_8 : decode cX9_sum 8 = .ok (.ireturn, 1) := op_172 (rdSeg sd_06_cX9_sum_0 8 rfl rfl)
theorem dR_sum_9 : decode cX9_sum 9 = .ok (.aload_n 0, 1) := op_42 (rdSeg sd_06_cX9_sum_0 9 rfl rfl)
theorem dR_sum_10 : decode cX9_sum 10 = .ok (.invokevirtual 137, 3) := op_182 (rdSeg sd_06_cX9_sum_0 10 rfl rfl) (rdSeg sd_06_cX9_sum_0 11 rfl rfl) (rdSeg sd_06_cX9_sum_0 12 rfl rfl) rfl
theorem dR_sum_13 : decode cX9_sum 13 = .ok (.bipush 43, 2) := op_16 (rdSeg sd_06_cX9_sum_0 13 rfl rfl) (rdSeg sd_06_cX9_sum_0 14 rfl rfl) (by decide +kernel)
theorem dR_sum_15 : decode cX9_sum 15 = .ok (.if_icmp .eq 12, 3) := op_159 (rdSeg sd_06_cX9_sum_0 15 rfl rfl) (rdSeg sd_06_cX9_sum_0 16 rfl rfl) (rdSeg sd_06_cX9_sum_0 17 rfl rfl) (by decide +kernel)
theorem dR_sum_18 : decode cX9_sum 18 = .ok (.aload_n 0, 1) := op_42 (rdSeg sd_06_cX9_sum_0 18 rfl rfl)
theorem dR_sum_19 : decode cX9_sum 19 = .ok (.invokevirtual 137, 3) := op_182 (rdSeg sd_06_cX9_sum_0 19 rfl rfl) (rdSeg sd_06_cX9_sum_0 20 rfl rfl) (rdSeg sd_06_cX9_sum_0 21 rfl rfl) rfl
theorem dR_sum_22 : decode cX9_sum 22 = .ok (.bipush 45, 2) := op_16 (rdSeg sd_06_cX9_sum_0 22 rfl rfl) (rdSeg sd_06_cX9_sum_0 23 rfl rfl) (by decide +kernel)
theorem dR_sum_24 : decode cX9_sum 24 = .ok (.if_icmp .ne 36, 3) := op_160 (rdSeg sd_06_cX9_sum_0 24 rfl rfl) (rdSeg sd_06_cX9_sum_0 25 rfl rfl) (rdSeg sd_06_cX9_sum_0 26 rfl rfl) (by decide +kernel)
theorem dR_sum_27 : decode cX9_sum 27 = .ok (.aload_n 0, 1) := op_42 (rdSeg sd_06_cX9_sum_0 27 rfl rfl)
theorem dR_sum_28 : decode cX9_sum 28 = .ok (.invokevirtual 137, 3) := op_182 (rdSeg sd_06_cX9_sum_0 28 rfl rfl) (rdSeg sd_06_cX9_sum_0 29 rfl rfl) (rdSeg sd_06_cX9_sum_0 30 rfl rfl) rfl
theorem dR_sum_31 : decode cX9_sum 31 = .ok (.istore_n 1, 1) := op_60 (rdSeg sd_06_cX9_sum_0 31 rfl rfl)
theorem dR_sum_32 : decode cX9_sum 32 = .ok (.aload_n 0, 1) := op_42 (rdSeg sd_06_cX9_sum_1 0 rfl rfl)
theorem dR_sum_33 : decode cX9_sum 33 = .ok (.dup, 1) := op_89 (rdSeg sd_06_cX9_sum_1 1 rfl rfl)
theorem dR_sum_34 : decode cX9_sum 34 = .ok (.getfield 123, 3) := op_180 (rdSeg sd_06_cX9_sum_1 2 rfl rfl) (rdSeg sd_06_cX9_sum_1 3 rfl rfl) (rdSeg sd_06_cX9_sum_1 4 rfl rfl) rfl
theorem dR_sum_37 : decode cX9_sum 37 = .ok (.iconst 1, 1) := op_4 (rdSeg sd_06_cX9_sum_1 5 rfl rfl)
theorem dR_sum_38 : decode cX9_sum 38 = .ok (.iadd, 1) := op_96 (rdSeg sd_06_cX9_sum_1 6 rfl rfl)
theorem dR_sum_39 : decode cX9_sum 39 = .ok (.putfield 123, 3) := op_181 (rdSeg sd_06_cX9_sum_1 7 rfl rfl) (rdSeg sd_06_cX9_sum_1 8 rfl rfl) (rdSeg sd_06_cX9_sum_1 9 rfl rfl) rfl
theorem dR_sum_42 : decode cX9_sum 42 = .ok (.aload_n 0, 1) := op_42 (rdSeg sd_06_cX9_sum_1 10 rfl rfl)
theorem dR_sum_43 : decode cX9_sum 43 = .ok (.invokevirtual 150, 3) := op_182 (rdSeg sd_06_cX9_sum_1 11 rfl rfl) (rdSeg sd_06_cX9_sum_1 12 rfl rfl) (rdSeg sd_06_cX9_sum_1 13 rfl rfl) rfl
theorem dR_sum_46 : decode cX9_sum 46 = .ok (.ifCond .ne 5, 3) := op_154 (rdSeg sd_06_cX9_sum_1 14 rfl rfl) (rdSeg sd_06_cX9_sum_1 15 rfl rfl) (rdSeg sd_06_cX9_sum_1 16 rfl rfl) (by decide +kernel)
theorem dR_sum_49 : decode cX9_sum 49 = .ok (.iconst 0, 1) := op_3 (rdSeg sd_06_cX9_sum_1 17 rfl rfl)
theorem dR_sum_50 : decode cX9_sum 50 = .ok (.ireturn, 1) := op_172 (rdSeg sd_06_cX9_sum_1 18 rfl rfl)
theorem dR_sum_51 : decode cX9_sum 51 = .ok (.aload_n 0, 1) := op_42 (rdSeg sd_06_cX9_sum_1 19 rfl rfl)
theorem dR_sum_52 : decode cX9_sum 52 = .ok (.iconst 3, 1) := op_6 (rdSeg sd_06_cX9_sum_1 20 rfl rfl)
theorem dR_sum_53 : decode cX9_sum 53 = .ok (.iload_n 1, 1) := op_27 (rdSeg sd_06_cX9_sum_1 21 rfl rfl)
theorem dR_sum_54 : decode cX9_sum 54 = .ok (.invokevirtual 140, 3) := op_182 (rdSeg sd_06_cX9_sum_1 22 rfl rfl) (rdSeg sd_06_cX9_sum_1 23 rfl rfl) (rdSeg sd_06_cX9_sum_1 24 rfl rfl) rfl
theorem dR_sum_57 : decode cX9_sum 57 = .ok (.goto (-48), 3) := op_167 (rdSeg sd_06_cX9_sum_1 25 rfl rfl) (rdSeg sd_06_cX9_sum_1 26 rfl rfl) (rdSeg sd_06_cX9_sum_1 27 rfl rfl) (by decide +kernel)
theorem dR_sum_60 : decode cX9_sum 60 = .ok (.iconst 1, 1) := op_4 (rdSeg sd_06_cX9_sum_1 28 rfl rfl)
theorem dR_sum_61 : decode cX9_sum 61 = .ok (.ireturn, 1) := op_172 (rdSeg sd_06_cX9_sum_1 29 rfl rfl)
def sg_06_cX9_product_2 : List UInt8 := [0x00, 0x8c, 0xa7, 0xff, 0xc7, 0x04, 0xac]
def sg_06_cX9_product_1 : List UInt8 := 0x25 :: 0xa0 :: 0x00 :: 0x24 :: 0x2a :: 0xb6 :: 0x00 :: 0x89 :: 0x3c :: 0x2a :: 0x59 :: 0xb4 :: 0x00 :: 0x7b :: 0x04 :: 0x60 :: 0xb5 :: 0x00 :: 0x7b :: 0x2a :: 0xb6 :: 0x00 :: 0x99 :: 0x9a :: 0x00 :: 0x05 :: 0x03 :: 0xac :: 0x2a :: 0x06 :: 0x1b :: 0xb6 :: sg_06_cX9_product_2
def sg_06_cX9_product_0 : List UInt8 := 0x2a :: 0xb6 :: 0x00 :: 0x99 :: 0x9a :: 0x00 :: 0x05 :: 0x03 :: 0xac :: 0x2a :: 0xb6 :: 0x00 :: 0x89 :: 0x10 :: 0x2a :: 0x9f :: 0x00 :: 0x15 :: 0x2a :: 0xb6 :: 0x00 :: 0x89 :: 0x10 :: 0x2f :: 0x9f :: 0x00 :: 0x0c :: 0x2a :: 0xb6 :: 0x00 :: 0x89 :: 0x10 :: sg_06_cX9_product_1
set_option maxRecDepth 100000 in
theorem sd_06_cX9_product_0 : cX9_product.data.toList.drop 0 = sg_06_cX9_product_0 := by decide +kernel
theorem sd_06_cX9_product_1 : cX9_product.data.toList.drop 32 = sg_06_cX9_product_1 := sg_next sd_06_cX9_product_0 rfl
theorem sd_06_cX9_product_2 : cX9_product.data.toList.drop 64 = sg_06_cX9_product_2 := sg_next sd_06_cX9_product_1 rfl
theorem dR_product_0 : decode cX9_product 0 = .ok (.aload_n 0, 1) := op_42 (rdSeg sd_06_cX9_product_0 0 rfl rfl)
theorem dR_product_1 : decode cX9_product 1 = .ok (.invokevirtual 153, 3) := op_182 (rdSeg sd_06_cX9_product_0 1 rfl rfl) (rdSeg sd_06_cX9_product_0 2 rfl rfl) (rdSeg sd_06_cX9_product_0 3 rfl rfl) rfl
theorem dR_product_4 : decode cX9_product 4 = .ok (.ifCond .ne 5, 3) := op_154 (rdSeg sd_06_cX9_product_0 4 rfl rfl) (rdSeg sd_06_cX9_product_0 5 rfl rfl) (rdSeg sd_06_cX9_product_0 6 rfl rfl) (by decide +kernel)
theorem dR_product_7 : decode cX9_product 7 = .ok (.iconst 0, 1) := op_3 (rdSeg sd_06_cX9_product_0 7 rfl rfl)
theorem dR_product_8 : decode cX9_product 8 = .ok (.ireturn, 1) := op_172 (rdSeg sd_06_cX9_product_0 8 rfl rfl)
theorem dR_product_9 : decode cX9_product 9 = .ok (.aload_n 0, 1) := op_42 (rdSeg sd_06_cX9_product_0 9 rfl rfl)
theorem dR_product_10 : decode cX9_product 10 = .ok (.invokevirtual 137, 3) := op_182 (rdSeg sd_06_cX9_product_0 10 rfl rfl) (rdSeg sd_06_cX9_product_0 11 rfl rfl) (rdSeg sd_06_cX9_product_0 12 rfl rfl) rfl
theorem dR_product_13 : decode cX9_product 13 = .ok (.bipush 42, 2) := op_16 (rdSeg sd_06_cX9_product_0 13 rfl rfl) (rdSeg sd_06_cX9_product_0 14 rfl rfl) (by decide +kernel)
theorem dR_product_15 : decode cX9_product 15 = .ok (.if_icmp .eq 21, 3) := op_159 (rdSeg sd_06_cX9_product_0 15 rfl rfl) (rdSeg sd_06_cX9_product_0 16 rfl rfl) (rdSeg sd_06_cX9_product_0 17 rfl rfl) (by decide +kernel)
theorem dR_product_18 : decode cX9_product 18 = .ok (.aload_n 0, 1) := op_42 (rdSeg sd_06_cX9_product_0 18 rfl rfl)
theorem dR_product_19 : decode cX9_product 19 = .ok (.invokevirtual 137, 3) := op_182 (rdSeg sd_06_cX9_product_0 19 rfl rfl) (rdSeg sd_06_cX9_product_0 20 rfl rfl) (rdSeg sd_06_cX9_product_0 21 rfl rfl) rfl
theorem dR_product_22 : decode cX9_product 22 = .ok (.bipush 47, 2) := op_16 (rdSeg sd_06_cX9_product_0 22 rfl rfl) (rdSeg sd_06_cX9_product_0 23 rfl rfl) (by decide +kernel)
theorem dR_product_24 : decode cX9_product 24 = .ok (.if_icmp .eq 12, 3) := op_159 (rdSeg sd_06_cX9_product_0 24 rfl rfl) (rdSeg sd_06_cX9_product_0 25 rfl rfl) (rdSeg sd_06_cX9_product_0 26 rfl rfl) (by decide +kernel)
theorem dR_product_27 : decode cX9_product 27 = .ok (.aload_n 0, 1) := op_42 (rdSeg sd_06_cX9_product_0 27 rfl rfl)
theorem dR_product_28 : decode cX9_product 28 = .ok (.invokevirtual 137, 3) := op_182 (rdSeg sd_06_cX9_product_0 28 rfl rfl) (rdSeg sd_06_cX9_product_0 29 rfl rfl) (rdSeg sd_06_cX9_product_0 30 rfl rfl) rfl
theorem dR_product_31 : decode cX9_product 31 = .ok (.bipush 37, 2) := op_16 (rdSeg sd_06_cX9_product_0 31 rfl rfl) (rdSeg sd_06_cX9_product_1 0 rfl rfl) (by decide +kernel)
theorem dR_product_33 : decode cX9_product 33 = .ok (.if_icmp .ne 36, 3) := op_160 (rdSeg sd_06_cX9_product_1 1 rfl rfl) (rdSeg sd_06_cX9_product_1 2 rfl rfl) (rdSeg sd_06_cX9_product_1 3 rfl rfl) (by decide +kernel)
theorem dR_product_36 : decode cX9_product 36 = .ok (.aload_n 0, 1) := op_42 (rdSeg sd_06_cX9_product_1 4 rfl rfl)
theorem dR_product_37 : decode cX9_product 37 = .ok (.invokevirtual 137, 3) := op_182 (rdSeg sd_06_cX9_product_1 5 rfl rfl) (rdSeg sd_06_cX9_product_1 6 rfl rfl) (rdSeg sd_06_cX9_product_1 7 rfl rfl) rfl
theorem dR_product_40 : decode cX9_product 40 = .ok (.istore_n 1, 1) := op_60 (rdSeg sd_06_cX9_product_1 8 rfl rfl)
theorem dR_product_41 : decode cX9_product 41 = .ok (.aload_n 0, 1) := op_42 (rdSeg sd_06_cX9_product_1 9 rfl rfl)
theorem dR_product_42 : decode cX9_product 42 = .ok (.dup, 1) := op_89 (rdSeg sd_06_cX9_product_1 10 rfl rfl)
theorem dR_product_43 : decode cX9_product 43 = .ok (.getfield 123, 3) := op_180 (rdSeg sd_06_cX9_product_1 11 rfl rfl) (rdSeg sd_06_cX9_product_1 12 rfl rfl) (rdSeg sd_06_cX9_product_1 13 rfl rfl) rfl
theorem dR_product_46 : decode cX9_product 46 = .ok (.iconst 1, 1) := op_4 (rdSeg sd_06_cX9_product_1 14 rfl rfl)
theorem dR_product_47 : decode cX9_product 47 = .ok (.iadd, 1) := op_96 (rdSeg sd_06_cX9_product_1 15 rfl rfl)
theorem dR_product_48 : decode cX9_product 48 = .ok (.putfield 123, 3) := op_181 (rdSeg sd_06_cX9_product_1 16 rfl rfl) (rdSeg sd_06_cX9_product_1 17 rfl rfl) (rdSeg sd_06_cX9_product_1 18 rfl rfl) rfl
theorem dR_product_51 : decode cX9_product 51 = .ok (.aload_n 0, 1) := op_42 (rdSeg sd_06_cX9_product_1 19 rfl rfl)
theorem dR_product_52 : decode cX9_product 52 = .ok (.invokevirtual 153, 3) := op_182 (rdSeg sd_06_cX9_product_1 20 rfl rfl) (rdSeg sd_06_cX9_product_1 21 rfl rfl) (rdSeg sd_06_cX9_product_1 22 rfl rfl) rfl
theorem dR_product_55 : decode cX9_product 55 = .ok (.ifCond .ne 5, 3) := op_154 (rdSeg sd_06_cX9_product_1 23 rfl rfl) (rdSeg sd_06_cX9_product_1 24 rfl rfl) (rdSeg sd_06_cX9_product_1 25 rfl rfl) (by decide +kernel)
theorem dR_product_58 : decode cX9_product 58 = .ok (.iconst 0, 1) := op_3 (rdSeg sd_06_cX9_product_1 26 rfl rfl)
theorem dR_product_59 : decode cX9_product 59 = .ok (.ireturn, 1) := op_172 (rdSeg sd_06_cX9_product_1 27 rfl rfl)
theorem dR_product_60 : decode cX9_product 60 = .ok (.aload_n 0, 1) := op_42 (rdSeg sd_06_cX9_product_1 28 rfl rfl)
theorem dR_product_61 : decode cX9_product 61 = .ok (.iconst 3, 1) := op_6 (rdSeg sd_06_cX9_product_1 29 rfl rfl)
theorem dR_product_62 : decode cX9_product 62 = .ok (.iload_n 1, 1) := op_27 (rdSeg sd_06_cX9_product_1 30 rfl rfl)
theorem dR_product_63 : decode cX9_product 63 = .ok (.invokevirtual 140, 3) := op_182 (rdSeg sd_06_cX9_product_1 31 rfl rfl) (rdSeg sd_06_cX9_product_2 0 rfl rfl) (rdSeg sd_06_cX9_product_2 1 rfl rfl) rfl
theorem dR_product_66 : decode cX9_product 66 = .ok (.goto (-57), 3) := op_167 (rdSeg sd_06_cX9_product_2 2 rfl rfl) (rdSeg sd_06_cX9_product_2 3 rfl rfl) (rdSeg sd_06_cX9_product_2 4 rfl rfl) (by decide +kernel)
theorem dR_product_69 : decode cX9_product 69 = .ok (.iconst 1, 1) := op_4 (rdSeg sd_06_cX9_product_2 5 rfl rfl)
theorem dR_product_70 : decode cX9_product 70 = .ok (.ireturn, 1) := op_172 (rdSeg sd_06_cX9_product_2 6 rfl rfl)
def sg_06_cX9_opens_0 : List UInt8 := [0x2a, 0xb4, 0x00, 0x9c, 0x08, 0xa0, 0x00, 0x05, 0x03, 0xac, 0x2a, 0x59, 0xb4, 0x00, 0x9c, 0x04, 0x60, 0xb5, 0x00, 0x9c, 0x2a, 0x59, 0xb4, 0x00, 0x7b, 0x04, 0x60, 0xb5, 0x00, 0x7b, 0x04, 0xac]
set_option maxRecDepth 100000 in
theorem sd_06_cX9_opens_0 : cX9_opens.data.toList.drop 0 = sg_06_cX9_opens_0 := by decide +kernel
theorem dR_opens_0 : decode cX9_opens 0 = .ok (.aload_n 0, 1) := op_42 (rdSeg sd_06_cX9_opens_0 0 rfl rfl)
theorem dR_opens_1 : decode cX9_opens 1 = .ok (.getfield 156, 3) := op_180 (rdSeg sd_06_cX9_opens_0 1 rfl rfl) (rdSeg sd_06_cX9_opens_0 2 rfl rfl) (rdSeg sd_06_cX9_opens_0 3 rfl rfl) rfl
theorem dR_opens_4 : decode cX9_opens 4 = .ok (.iconst 5, 1) := op_8 (rdSeg sd_06_cX9_opens_0 4 rfl rfl)
theorem dR_opens_5 : decode cX9_opens 5 = .ok (.if_icmp .ne 5, 3) := op_160 (rdSeg sd_06_cX9_opens_0 5 rfl rfl) (rdSeg sd_06_cX9_opens_0 6 rfl rfl) (rdSeg sd_06_cX9_opens_0 7 rfl rfl) (by decide +kernel)
theorem dR_opens_8 : decode cX9_opens 8 = .ok (.iconst 0, 1) := op_3 (rdSeg sd_06_cX9_opens_0 8 rfl rfl)
theorem dR_opens_9 : decode cX9_opens 9 = .ok (.ireturn, 1) := op_172 (rdSeg sd_06_cX9_opens_0 9 rfl rfl)
theorem dR_opens_10 : decode cX9_opens 10 = .ok (.aload_n 0, 1) := op_42 (rdSeg sd_06_cX9_opens_0 10 rfl rfl)
theorem dR_opens_11 : decode cX9_opens 11 = .ok (.dup, 1) := op_89 (rdSeg sd_06_cX9_opens_0 11 rfl rfl)
theorem dR_opens_12 : decode cX9_opens 12 = .ok (.getfield 156, 3) := op_180 (rdSeg sd_06_cX9_opens_0 12 rfl rfl) (rdSeg sd_06_cX9_opens_0 13 rfl rfl) (rdSeg sd_06_cX9_opens_0 14 rfl rfl) rfl
theorem dR_opens_15 : decode cX9_opens 15 = .ok (.iconst 1, 1) := op_4 (rdSeg sd_06_cX9_opens_0 15 rfl rfl)
theorem dR_opens_16 : decode cX9_opens 16 = .ok (.iadd, 1) := op_96 (rdSeg sd_06_cX9_opens_0 16 rfl rfl)
theorem dR_opens_17 : decode cX9_opens 17 = .ok (.putfield 156, 3) := op_181 (rdSeg sd_06_cX9_opens_0 17 rfl rfl) (rdSeg sd_06_cX9_opens_0 18 rfl rfl) (rdSeg sd_06_cX9_opens_0 19 rfl rfl) rfl
theorem dR_opens_20 : decode cX9_opens 20 = .ok (.aload_n 0, 1) := op_42 (rdSeg sd_06_cX9_opens_0 20 rfl rfl)
theorem dR_opens_21 : decode cX9_opens 21 = .ok (.dup, 1) := op_89 (rdSeg sd_06_cX9_opens_0 21 rfl rfl)
theorem dR_opens_22 : decode cX9_opens 22 = .ok (.getfield 123, 3) := op_180 (rdSeg sd_06_cX9_opens_0 22 rfl rfl) (rdSeg sd_06_cX9_opens_0 23 rfl rfl) (rdSeg sd_06_cX9_opens_0 24 rfl rfl) rfl
theorem dR_opens_25 : decode cX9_opens 25 = .ok (.iconst 1, 1) := op_4 (rdSeg sd_06_cX9_opens_0 25 rfl rfl)
theorem dR_opens_26 : decode cX9_opens 26 = .ok (.iadd, 1) := op_96 (rdSeg sd_06_cX9_opens_0 26 rfl rfl)
theorem dR_opens_27 : decode cX9_opens 27 = .ok (.putfield 123, 3) := op_181 (rdSeg sd_06_cX9_opens_0 27 rfl rfl) (rdSeg sd_06_cX9_opens_0 28 rfl rfl) (rdSeg sd_06_cX9_opens_0 29 rfl rfl) rfl
theorem dR_opens_30 : decode cX9_opens 30 = .ok (.iconst 1, 1) := op_4 (rdSeg sd_06_cX9_opens_0 30 rfl rfl)
theorem dR_opens_31 : decode cX9_opens 31 = .ok (.ireturn, 1) := op_172 (rdSeg sd_06_cX9_opens_0 31 rfl rfl)
def sg_06_cX9_one_6 : List UInt8 := [0x9c, 0x04, 0xac]
def sg_06_cX9_one_5 : List UInt8 := 0x00 :: 0x0c :: 0x2a :: 0xb6 :: 0x00 :: 0x89 :: 0x10 :: 0x29 :: 0x9f :: 0x00 :: 0x05 :: 0x03 :: 0xac :: 0x2a :: 0x59 :: 0xb4 :: 0x00 :: 0x7b :: 0x04 :: 0x60 :: 0xb5 :: 0x00 :: 0x7b :: 0x2a :: 0x59 :: 0xb4 :: 0x00 :: 0x9c :: 0x04 :: 0x64 :: 0xb5 :: 0x00 :: sg_06_cX9_one_6
def sg_06_cX9_one_4 : List UInt8 := 0x9c :: 0x04 :: 0x64 :: 0xb5 :: 0x00 :: 0x9c :: 0x2a :: 0x05 :: 0x03 :: 0xb6 :: 0x00 :: 0x8c :: 0x04 :: 0xac :: 0x1b :: 0x10 :: 0x28 :: 0xa0 :: 0x00 :: 0x1a :: 0x2a :: 0xb6 :: 0x00 :: 0xa2 :: 0x99 :: 0x00 :: 0x13 :: 0x2a :: 0xb6 :: 0x00 :: 0xa5 :: 0x99 :: sg_06_cX9_one_5
def sg_06_cX9_one_3 : List UInt8 := 0x1c :: 0xb6 :: 0x00 :: 0x8c :: 0x04 :: 0xac :: 0x1b :: 0x10 :: 0x21 :: 0xa0 :: 0x00 :: 0x25 :: 0x2a :: 0xb6 :: 0x00 :: 0xa2 :: 0x99 :: 0x00 :: 0x0a :: 0x2a :: 0xb6 :: 0x00 :: 0x99 :: 0x9a :: 0x00 :: 0x05 :: 0x03 :: 0xac :: 0x2a :: 0x59 :: 0xb4 :: 0x00 :: sg_06_cX9_one_4
def sg_06_cX9_one_2 : List UInt8 := 0x20 :: 0x10 :: 0x0a :: 0x1c :: 0x68 :: 0x2a :: 0xb6 :: 0x00 :: 0x89 :: 0x60 :: 0x10 :: 0x30 :: 0x64 :: 0x3d :: 0x2a :: 0x59 :: 0xb4 :: 0x00 :: 0x7b :: 0x04 :: 0x60 :: 0xb5 :: 0x00 :: 0x7b :: 0x84 :: 0x03 :: 0x01 :: 0xa7 :: 0xff :: 0xd3 :: 0x2a :: 0x03 :: sg_06_cX9_one_3
def sg_06_cX9_one_1 : List UInt8 := 0x10 :: 0x30 :: 0x10 :: 0x39 :: 0xb8 :: 0x00 :: 0x35 :: 0x99 :: 0x00 :: 0x3f :: 0x03 :: 0x3d :: 0x03 :: 0x3e :: 0x1d :: 0x07 :: 0xa2 :: 0x00 :: 0x2e :: 0x2a :: 0xb6 :: 0x00 :: 0x89 :: 0x10 :: 0x30 :: 0x10 :: 0x39 :: 0xb8 :: 0x00 :: 0x35 :: 0x99 :: 0x00 :: sg_06_cX9_one_2
def sg_06_cX9_one_0 : List UInt8 := 0x2a :: 0xb6 :: 0x00 :: 0x89 :: 0x3c :: 0x2a :: 0x1b :: 0xb6 :: 0x00 :: 0x9f :: 0x99 :: 0x00 :: 0x15 :: 0x2a :: 0x59 :: 0xb4 :: 0x00 :: 0x7b :: 0x04 :: 0x60 :: 0xb5 :: 0x00 :: 0x7b :: 0x2a :: 0x04 :: 0x1b :: 0xb6 :: 0x00 :: 0x8c :: 0x04 :: 0xac :: 0x1b :: sg_06_cX9_one_1
set_option maxRecDepth 100000 in
theorem sd_06_cX9_one_0 : cX9_one.data.toList.drop 0 = sg_06_cX9_one_0 := by decide +kernel
theorem sd_06_cX9_one_1 : cX9_one.data.toList.drop 32 = sg_06_cX9_one_1 := sg_next sd_06_cX9_one_0 rfl
theorem sd_06_cX9_one_2 : cX9_one.data.toList.drop 64 = sg_06_cX9_one_2 := sg_next sd_06_cX9_one_1 rfl
theorem sd_06_cX9_one_3 : cX9_one.data.toList.drop 96 = sg_06_cX9_one_3 := sg_next sd_06_cX9_one_2 rfl
theorem sd_06_cX9_one_4 : cX9_one.data.toList.drop 128 = sg_06_cX9_one_4 := sg_next sd_06_cX9_one_3 rfl
theorem sd_06_cX9_one_5 : cX9_one.data.toList.drop 160 = sg_06_cX9_one_5 := sg_next sd_06_cX9_one_4 rfl
theorem sd_06_cX9_one_6 : cX9_one.data.toList.drop 192 = sg_06_cX9_one_6 := sg_next sd_06_cX9_one_5 rfl
theorem dR_one_0 : decode cX9_one 0 = .ok (.aload_n 0, 1) := op_42 (rdSeg sd_06_cX9_one_0 0 rfl rfl)
theorem dR_one_1 : decode cX9_one 1 = .ok (.invokevirtual 137, 3) := op_182 (rdSeg sd_06_cX9_one_0 1 rfl rfl) (rdSeg sd_06_cX9_one_0 2 rfl rfl) (rdSeg sd_06_cX9_one_0 3 rfl rfl) rfl
theorem dR_one_4 : decode cX9_one 4 = .ok (.istore_n 1, 1) := op_60 (rdSeg sd_06_cX9_one_0 4 rfl rfl)
theorem dR_one_5 : decode cX9_one 5 = .ok (.aload_n 0, 1) := op_42 (rdSeg sd_06_cX9_one_0 5 rfl rfl)
theorem dR_one_6 : decode cX9_one 6 = .ok (.iload_n 1, 1) := op_27 (rdSeg sd_06_cX9_one_0 6 rfl rfl)
theorem dR_one_7 : decode cX9_one 7 = .ok (.invokevirtual 159, 3) := op_182 (rdSeg sd_06_cX9_one_0 7 rfl rfl) (rdSeg sd_06_cX9_one_0 8 rfl rfl) (rdSeg sd_06_cX9_one_0 9 rfl rfl) rfl
theorem dR_one_10 : decode cX9_one 10 = .ok (.ifCond .eq 21, 3) := op_153 (rdSeg sd_06_cX9_one_0 10 rfl rfl) (rdSeg sd_06_cX9_one_0 11 rfl rfl) (rdSeg sd_06_cX9_one_0 12 rfl rfl) (by decide +kernel)
theorem dR_one_13 : decode cX9_one 13 = .ok (.aload_n 0, 1) := op_42 (rdSeg sd_06_cX9_one_0 13 rfl rfl)
theorem dR_one_14 : decode cX9_one 14 = .ok (.dup, 1) := op_89 (rdSeg sd_06_cX9_one_0 14 rfl rfl)
theorem dR_one_15 : decode cX9_one 15 = .ok (.getfield 123, 3) := op_180 (rdSeg sd_06_cX9_one_0 15 rfl rfl) (rdSeg sd_06_cX9_one_0 16 rfl rfl) (rdSeg sd_06_cX9_one_0 17 rfl rfl) rfl
theorem dR_one_18 : decode cX9_one 18 = .ok (.iconst 1, 1) := op_4 (rdSeg sd_06_cX9_one_0 18 rfl rfl)
theorem dR_one_19 : decode cX9_one 19 = .ok (.iadd, 1) := op_96 (rdSeg sd_06_cX9_one_0 19 rfl rfl)
theorem dR_one_20 : decode cX9_one 20 = .ok (.putfield 123, 3) := op_181 (rdSeg sd_06_cX9_one_0 20 rfl rfl) (rdSeg sd_06_cX9_one_0 21 rfl rfl) (rdSeg sd_06_cX9_one_0 22 rfl rfl) rfl
theorem dR_one_23 : decode cX9_one 23 = .ok (.aload_n 0, 1) := op_42 (rdSeg sd_06_cX9_one_0 23 rfl rfl)
theorem dR_one_24 : decode cX9_one 24 = .ok (.iconst 1, 1) := op_4 (rdSeg sd_06_cX9_one_0 24 rfl rfl)
theorem dR_one_25 : decode cX9_one 25 = .ok (.iload_n 1, 1) := op_27 (rdSeg sd_06_cX9_one_0 25 rfl rfl)
theorem dR_one_26 : decode cX9_one 26 = .ok (.invokevirtual 140, 3) := op_182 (rdSeg sd_06_cX9_one_0 26 rfl rfl) (rdSeg sd_06_cX9_one_0 27 rfl rfl) (rdSeg sd_06_cX9_one_0 28 rfl rfl) rfl
theorem dR_one_29 : decode cX9_one 29 = .ok (.iconst 1, 1) := op_4 (rdSeg sd_06_cX9_one_0 29 rfl rfl)
theorem dR_one_30 : decode cX9_one 30 = .ok (.ireturn, 1) := op_172 (rdSeg sd_06_cX9_one_0 30 rfl rfl)
theorem dR_one_31 : decode cX9_one 31 = .ok (.iload_n 1, 1) := op_27 (rdSeg sd_06_cX9_one_0 31 rfl rfl)
theorem dR_one_32 : decode cX9_one 32 = .ok (.bipush 48, 2) := op_16 (rdSeg sd_06_cX9_one_1 0 rfl rfl) (rdSeg sd_06_cX9_one_1 1 rfl rfl) (by decide +kernel)
theorem dR_one_34 : decode cX9_one 34 = .ok (.bipush 57, 2) := op_16 (rdSeg sd_06_cX9_one_1 2 rfl rfl) (rdSeg sd_06_cX9_one_1 3 rfl rfl) (by decide +kernel)
theorem dR_one_36 : decode cX9_one 36 = .ok (.invokestatic 53, 3) := op_184 (rdSeg sd_06_cX9_one_1 4 rfl rfl) (rdSeg sd_06_cX9_one_1 5 rfl rfl) (rdSeg sd_06_cX9_one_1 6 rfl rfl) rfl
theorem dR_one_39 : decode cX9_one 39 = .ok (.ifCond .eq 63, 3) := op_153 (rdSeg sd_06_cX9_one_1 7 rfl rfl) (rdSeg sd_06_cX9_one_1 8 rfl rfl) (rdSeg sd_06_cX9_one_1 9 rfl rfl) (by decide +kernel)
theorem dR_one_42 : decode cX9_one 42 = .ok (.iconst 0, 1) := op_3 (rdSeg sd_06_cX9_one_1 10 rfl rfl)
theorem dR_one_43 : decode cX9_one 43 = .ok (.istore_n 2, 1) := op_61 (rdSeg sd_06_cX9_one_1 11 rfl rfl)
theorem dR_one_44 : decode cX9_one 44 = .ok (.iconst 0, 1) := op_3 (rdSeg sd_06_cX9_one_1 12 rfl rfl)
theorem dR_one_45 : decode cX9_one 45 = .ok (.istore_n 3, 1) := op_62 (rdSeg sd_06_cX9_one_1 13 rfl rfl)
theorem dR_one_46 : decode cX9_one 46 = .ok (.iload_n 3, 1) := op_29 (rdSeg sd_06_cX9_one_1 14 rfl rfl)
theorem dR_one_47 : decode cX9_one 47 = .ok (.iconst 4, 1) := op_7 (rdSeg sd_06_cX9_one_1 15 rfl rfl)
theorem dR_one_48 : decode cX9_one 48 = .ok (.if_icmp .ge 46, 3) := op_162 (rdSeg sd_06_cX9_one_1 16 rfl rfl) (rdSeg sd_06_cX9_one_1 17 rfl rfl) (rdSeg sd_06_cX9_one_1 18 rfl rfl) (by decide +kernel)
theorem dR_one_51 : decode cX9_one 51 = .ok (.aload_n 0, 1) := op_42 (rdSeg sd_06_cX9_one_1 19 rfl rfl)
theorem dR_one_52 : decode cX9_one 52 = .ok (.invokevirtual 137, 3) := op_182 (rdSeg sd_06_cX9_one_1 20 rfl rfl) (rdSeg sd_06_cX9_one_1 21 rfl rfl) (rdSeg sd_06_cX9_one_1 22 rfl rfl) rfl
theorem dR_one_55 : decode cX9_one 55 = .ok (.bipush 48, 2) := op_16 (rdSeg sd_06_cX9_one_1 23 rfl rfl) (rdSeg sd_06_cX9_one_1 24 rfl rfl) (by decide +kernel)
theorem dR_one_57 : decode cX9_one 57 = .ok (.bipush 57, 2) := op_16 (rdSeg sd_06_cX9_one_1 25 rfl rfl) (rdSeg sd_06_cX9_one_1 26 rfl rfl) (by decide +kernel)
theorem dR_one_59 : decode cX9_one 59 = .ok (.invokestatic 53, 3) := op_184 (rdSeg sd_06_cX9_one_1 27 rfl rfl) (rdSeg sd_06_cX9_one_1 28 rfl rfl) (rdSeg sd_06_cX9_one_1 29 rfl rfl) rfl
theorem dR_one_62 : decode cX9_one 62 = .ok (.ifCond .eq 32, 3) := op_153 (rdSeg sd_06_cX9_one_1 30 rfl rfl) (rdSeg sd_06_cX9_one_1 31 rfl rfl) (rdSeg sd_06_cX9_one_2 0 rfl rfl) (by decide +kernel)
theorem dR_one_65 : decode cX9_one 65 = .ok (.bipush 10, 2) := op_16 (rdSeg sd_06_cX9_one_2 1 rfl rfl) (rdSeg sd_06_cX9_one_2 2 rfl rfl) (by decide +kernel)
theorem dR_one_67 : decode cX9_one 67 = .ok (.iload_n 2, 1) := op_28 (rdSeg sd_06_cX9_one_2 3 rfl rfl)
theorem dR_one_68 : decode cX9_one 68 = .ok (.imul, 1) := op_104 (rdSeg sd_06_cX9_one_2 4 rfl rfl)
theorem dR_one_69 : decode cX9_one 69 = .ok (.aload_n 0, 1) := op_42 (rdSeg sd_06_cX9_one_2 5 rfl rfl)
theorem dR_one_70 : decode cX9_one 70 = .ok (.invokevirtual 137, 3) := op_182 (rdSeg sd_06_cX9_one_2 6 rfl rfl) (rdSeg sd_06_cX9_one_2 7 rfl rfl) (rdSeg sd_06_cX9_one_2 8 rfl rfl) rfl
theorem dR_one_73 : decode cX9_one 73 = .ok (.iadd, 1) := op_96 (rdSeg sd_06_cX9_one_2 9 rfl rfl)
theorem dR_one_74 : decode cX9_one 74 = .ok (.bipush 48, 2) := op_16 (rdSeg sd_06_cX9_one_2 10 rfl rfl) (rdSeg sd_06_cX9_one_2 11 rfl rfl) (by decide +kernel)
theorem dR_one_76 : decode cX9_one 76 = .ok (.isub, 1) := op_100 (rdSeg sd_06_cX9_one_2 12 rfl rfl)
theorem dR_one_77 : decode cX9_one 77 = .ok (.istore_n 2, 1) := op_61 (rdSeg sd_06_cX9_one_2 13 rfl rfl)
theorem dR_one_78 : decode cX9_one 78 = .ok (.aload_n 0, 1) := op_42 (rdSeg sd_06_cX9_one_2 14 rfl rfl)
theorem dR_one_79 : decode cX9_one 79 = .ok (.dup, 1) := op_89 (rdSeg sd_06_cX9_one_2 15 rfl rfl)
theorem dR_one_80 : decode cX9_one 80 = .ok (.getfield 123, 3) := op_180 (rdSeg sd_06_cX9_one_2 16 rfl rfl) (rdSeg sd_06_cX9_one_2 17 rfl rfl) (rdSeg sd_06_cX9_one_2 18 rfl rfl) rfl
theorem dR_one_83 : decode cX9_one 83 = .ok (.iconst 1, 1) := op_4 (rdSeg sd_06_cX9_one_2 19 rfl rfl)
theorem dR_one_84 : decode cX9_one 84 = .ok (.iadd, 1) := op_96 (rdSeg sd_06_cX9_one_2 20 rfl rfl)
theorem dR_one_85 : decode cX9_one 85 = .ok (.putfield 123, 3) := op_181 (rdSeg sd_06_cX9_one_2 21 rfl rfl) (rdSeg sd_06_cX9_one_2 22 rfl rfl) (rdSeg sd_06_cX9_one_2 23 rfl rfl) rfl
theorem dR_one_88 : decode cX9_one 88 = .ok (.iinc 3 1, 3) := op_132 (rdSeg sd_06_cX9_one_2 24 rfl rfl) (rdSeg sd_06_cX9_one_2 25 rfl rfl) (rdSeg sd_06_cX9_one_2 26 rfl rfl) (by decide +kernel)
theorem dR_one_91 : decode cX9_one 91 = .ok (.goto (-45), 3) := op_167 (rdSeg sd_06_cX9_one_2 27 rfl rfl) (rdSeg sd_06_cX9_one_2 28 rfl rfl) (rdSeg sd_06_cX9_one_2 29 rfl rfl) (by decide +kernel)
theorem dR_one_94 : decode cX9_one 94 = .ok (.aload_n 0, 1) := op_42 (rdSeg sd_06_cX9_one_2 30 rfl rfl)
theorem dR_one_95 : decode cX9_one 95 = .ok (.iconst 0, 1) := op_3 (rdSeg sd_06_cX9_one_2 31 rfl rfl)
theorem dR_one_96 : decode cX9_one 96 = .ok (.iload_n 2, 1) := op_28 (rdSeg sd_06_cX9_one_3 0 rfl rfl)
theorem dR_one_97 : decode cX9_one 97 = .ok (.invokevirtual 140, 3) := op_182 (rdSeg sd_06_cX9_one_3 1 rfl rfl) (rdSeg sd_06_cX9_one_3 2 rfl rfl) (rdSeg sd_06_cX9_one_3 3 rfl rfl) rfl
theorem dR_one_100 : decode cX9_one 100 = .ok (.iconst 1, 1) := op_4 (rdSeg sd_06_cX9_one_3 4 rfl rfl)
theorem dR_one_101 : decode cX9_one 101 = .ok (.ireturn, 1) := op_172 (rdSeg sd_06_cX9_one_3 5 rfl rfl)
theorem dR_one_102 : decode cX9_one 102 = .ok (.iload_n 1, 1) := op_27 (rdSeg sd_06_cX9_one_3 6 rfl rfl)
theorem dR_one_103 : decode cX9_one 103 = .ok (.bipush 33, 2) := op_16 (rdSeg sd_06_cX9_one_3 7 rfl rfl) (rdSeg sd_06_cX9_one_3 8 rfl rfl) (by decide +kernel)
theorem dR_one_105 : decode cX9_one 105 = .ok (.if_icmp .ne 37, 3) := op_160 (rdSeg sd_06_cX9_one_3 9 rfl rfl) (rdSeg sd_06_cX9_one_3 10 rfl rfl) (rdSeg sd_06_cX9_one_3 11 rfl rfl) (by decide +kernel)
theorem dR_one_108 : decode cX9_one 108 = .ok (.aload_n 0, 1) := op_42 (rdSeg sd_06_cX9_one_3 12 rfl rfl)
theorem dR_one_109 : decode cX9_one 109 = .ok (.invokevirtual 162, 3) := op_182 (rdSeg sd_06_cX9_one_3 13 rfl rfl) (rdSeg sd_06_cX9_one_3 14 rfl rfl) (rdSeg sd_06_cX9_one_3 15 rfl rfl) rfl
theorem dR_one_112 : decode cX9_one 112 = .ok (.ifCond .eq 10, 3) := op_153 (rdSeg sd_06_cX9_one_3 16 rfl rfl) (rdSeg sd_06_cX9_one_3 17 rfl rfl) (rdSeg sd_06_cX9_one_3 18 rfl rfl) (by decide +kernel)
theorem dR_one_115 : decode cX9_one 115 = .ok (.aload_n 0, 1) := op_42 (rdSeg sd_06_cX9_one_3 19 rfl rfl)
theorem dR_one_116 : decode cX9_one 116 = .ok (.invokevirtual 153, 3) := op_182 (rdSeg sd_06_cX9_one_3 20 rfl rfl) (rdSeg sd_06_cX9_one_3 21 rfl rfl) (rdSeg sd_06_cX9_one_3 22 rfl rfl) rfl
theorem dR_one_119 : decode cX9_one 119 = .ok (.ifCond .ne 5, 3) := op_154 (rdSeg sd_06_cX9_one_3 23 rfl rfl) (rdSeg sd_06_cX9_one_3 24 rfl rfl) (rdSeg sd_06_cX9_one_3 25 rfl rfl) (by decide +kernel)
theorem dR_one_122 : decode cX9_one 122 = .ok (.iconst 0, 1) := op_3 (rdSeg sd_06_cX9_one_3 26 rfl rfl)
theorem dR_one_123 : decode cX9_one 123 = .ok (.ireturn, 1) := op_172 (rdSeg sd_06_cX9_one_3 27 rfl rfl)
theorem dR_one_124 : decode cX9_one 124 = .ok (.aload_n 0, 1) := op_42 (rdSeg sd_06_cX9_one_3 28 rfl rfl)
theorem dR_one_125 : decode cX9_one 125 = .ok (.dup, 1) := op_89 (rdSeg sd_06_cX9_one_3 29 rfl rfl)
theorem dR_one_126 : decode cX9_one 126 = .ok (.getfield 156, 3) := op_180 (rdSeg sd_06_cX9_one_3 30 rfl rfl) (rdSeg sd_06_cX9_one_3 31 rfl rfl) (rdSeg sd_06_cX9_one_4 0 rfl rfl) rfl
theorem dR_one_129 : decode cX9_one 129 = .ok (.iconst 1, 1) := op_4 (rdSeg sd_06_cX9_one_4 1 rfl rfl)
theorem dR_one_130 : decode cX9_one 130 = .ok (.isub, 1) := op_100 (rdSeg sd_06_cX9_one_4 2 rfl rfl)
theorem dR_one_131 : decode cX9_one 131 = .ok (.putfield 156, 3) := op_181 (rdSeg sd_06_cX9_one_4 3 rfl rfl) (rdSeg sd_06_cX9_one_4 4 rfl rfl) (rdSeg sd_06_cX9_one_4 5 rfl rfl) rfl
theorem dR_one_134 : decode cX9_one 134 = .ok (.aload_n 0, 1) := op_42 (rdSeg sd_06_cX9_one_4 6 rfl rfl)
theorem dR_one_135 : decode cX9_one 135 = .ok (.iconst 2, 1) := op_5 (rdSeg sd_06_cX9_one_4 7 rfl rfl)
theorem dR_one_136 : decode cX9_one 136 = .ok (.iconst 0, 1) := op_3 (rdSeg sd_06_cX9_one_4 8 rfl rfl)
theorem dR_one_137 : decode cX9_one 137 = .ok (.invokevirtual 140, 3) := op_182 (rdSeg sd_06_cX9_one_4 9 rfl rfl) (rdSeg sd_06_cX9_one_4 10 rfl rfl) (rdSeg sd_06_cX9_one_4 11 rfl rfl) rfl
theorem dR_one_140 : decode cX9_one 140 = .ok (.iconst 1, 1) := op_4 (rdSeg sd_06_cX9_one_4 12 rfl rfl)
theorem dR_one_141 : decode cX9_one 141 = .ok (.ireturn, 1) := op_172 (rdSeg sd_06_cX9_one_4 13 rfl rfl)
theorem dR_one_142 : decode cX9_one 142 = .ok (.iload_n 1, 1) := op_27 (rdSeg sd_06_cX9_one_4 14 rfl rfl)
theorem dR_one_143 : decode cX9_one 143 = .ok (.bipush 40, 2) := op_16 (rdSeg sd_06_cX9_one_4 15 rfl rfl) (rdSeg sd_06_cX9_one_4 16 rfl rfl) (by decide +kernel)
theorem dR_one_145 : decode cX9_one 145 = .ok (.if_icmp .ne 26, 3) := op_160 (rdSeg sd_06_cX9_one_4 17 rfl rfl) (rdSeg sd_06_cX9_one_4 18 rfl rfl) (rdSeg sd_06_cX9_one_4 19 rfl rfl) (by decide +kernel)
theorem dR_one_148 : decode cX9_one 148 = .ok (.aload_n 0, 1) := op_42 (rdSeg sd_06_cX9_one_4 20 rfl rfl)
theorem dR_one_149 : decode cX9_one 149 = .ok (.invokevirtual 162, 3) := op_182 (rdSeg sd_06_cX9_one_4 21 rfl rfl) (rdSeg sd_06_cX9_one_4 22 rfl rfl) (rdSeg sd_06_cX9_one_4 23 rfl rfl) rfl
theorem dR_one_152 : decode cX9_one 152 = .ok (.ifCond .eq 19, 3) := op_153 (rdSeg sd_06_cX9_one_4 24 rfl rfl) (rdSeg sd_06_cX9_one_4 25 rfl rfl) (rdSeg sd_06_cX9_one_4 26 rfl rfl) (by decide +kernel)
theorem dR_one_155 : decode cX9_one 155 = .ok (.aload_n 0, 1) := op_42 (rdSeg sd_06_cX9_one_4 27 rfl rfl)
theorem dR_one_156 : decode cX9_one 156 = .ok (.invokevirtual 165, 3) := op_182 (rdSeg sd_06_cX9_one_4 28 rfl rfl) (rdSeg sd_06_cX9_one_4 29 rfl rfl) (rdSeg sd_06_cX9_one_4 30 rfl rfl) rfl
theorem dR_one_159 : decode cX9_one 159 = .ok (.ifCond .eq 12, 3) := op_153 (rdSeg sd_06_cX9_one_4 31 rfl rfl) (rdSeg sd_06_cX9_one_5 0 rfl rfl) (rdSeg sd_06_cX9_one_5 1 rfl rfl) (by decide +kernel)
theorem dR_one_162 : decode cX9_one 162 = .ok (.aload_n 0, 1) := op_42 (rdSeg sd_06_cX9_one_5 2 rfl rfl)
theorem dR_one_163 : decode cX9_one 163 = .ok (.invokevirtual 137, 3) := op_182 (rdSeg sd_06_cX9_one_5 3 rfl rfl) (rdSeg sd_06_cX9_one_5 4 rfl rfl) (rdSeg sd_06_cX9_one_5 5 rfl rfl) rfl
theorem dR_one_166 : decode cX9_one 166 = .ok (.bipush 41, 2) := op_16 (rdSeg sd_06_cX9_one_5 6 rfl rfl) (rdSeg sd_06_cX9_one_5 7 rfl rfl) (by decide +kernel)
theorem dR_one_168 : decode cX9_one 168 = .ok (.if_icmp .eq 5, 3) := op_159 (rdSeg sd_06_cX9_one_5 8 rfl rfl) (rdSeg sd_06_cX9_one_5 9 rfl rfl) (rdSeg sd_06_cX9_one_5 10 rfl rfl) (by decide +kernel)
theorem dR_one_171 : decode cX9_one 171 = .ok (.iconst 0, 1) := op_3 (rdSeg sd_06_cX9_one_5 11 rfl rfl)
theorem dR_one_172 : decode cX9_one 172 = .ok (.ireturn, 1) := op_172 (rdSeg sd_06_cX9_one_5 12 rfl rfl)
theorem dR_one_173 : decode cX9_one 173 = .ok (.aload_n 0, 1) := op_42 (rdSeg sd_06_cX9_one_5 13 rfl rfl)
theorem dR_one_174 : decode cX9_one 174 = .ok (.dup, 1) := op_89 (rdSeg sd_06_cX9_one_5 14 rfl rfl)
theorem dR_one_175 : decode cX9_one 175 = .ok (.getfield 123, 3) := op_180 (rdSeg sd_06_cX9_one_5 15 rfl rfl) (rdSeg sd_06_cX9_one_5 16 rfl rfl) (rdSeg sd_06_cX9_one_5 17 rfl rfl) rfl
theorem dR_one_178 : decode cX9_one 178 = .ok (.iconst 1, 1) := op_4 (rdSeg sd_06_cX9_one_5 18 rfl rfl)
theorem dR_one_179 : decode cX9_one 179 = .ok (.iadd, 1) := op_96 (rdSeg sd_06_cX9_one_5 19 rfl rfl)
theorem dR_one_180 : decode cX9_one 180 = .ok (.putfield 123, 3) := op_181 (rdSeg sd_06_cX9_one_5 20 rfl rfl) (rdSeg sd_06_cX9_one_5 21 rfl rfl) (rdSeg sd_06_cX9_one_5 22 rfl rfl) rfl
theorem dR_one_183 : decode cX9_one 183 = .ok (.aload_n 0, 1) := op_42 (rdSeg sd_06_cX9_one_5 23 rfl rfl)
theorem dR_one_184 : decode cX9_one 184 = .ok (.dup, 1) := op_89 (rdSeg sd_06_cX9_one_5 24 rfl rfl)
theorem dR_one_185 : decode cX9_one 185 = .ok (.getfield 156, 3) := op_180 (rdSeg sd_06_cX9_one_5 25 rfl rfl) (rdSeg sd_06_cX9_one_5 26 rfl rfl) (rdSeg sd_06_cX9_one_5 27 rfl rfl) rfl
theorem dR_one_188 : decode cX9_one 188 = .ok (.iconst 1, 1) := op_4 (rdSeg sd_06_cX9_one_5 28 rfl rfl)
theorem dR_one_189 : decode cX9_one 189 = .ok (.isub, 1) := op_100 (rdSeg sd_06_cX9_one_5 29 rfl rfl)
theorem dR_one_190 : decode cX9_one 190 = .ok (.putfield 156, 3) := op_181 (rdSeg sd_06_cX9_one_5 30 rfl rfl) (rdSeg sd_06_cX9_one_5 31 rfl rfl) (rdSeg sd_06_cX9_one_6 0 rfl rfl) rfl
theorem dR_one_193 : decode cX9_one 193 = .ok (.iconst 1, 1) := op_4 (rdSeg sd_06_cX9_one_6 1 rfl rfl)
theorem dR_one_194 : decode cX9_one 194 = .ok (.ireturn, 1) := op_172 (rdSeg sd_06_cX9_one_6 2 rfl rfl)
def sg_06_cX9_hasText_0 : List UInt8 := [0x2a, 0xb4, 0x00, 0x07, 0x11, 0x00, 0xca, 0x10, 0x7d, 0x1b, 0x68, 0x60, 0x2e, 0x9e, 0x00, 0x07, 0x04, 0xa7, 0x00, 0x04, 0x03, 0xac]
set_option maxRecDepth 100000 in
theorem sd_06_cX9_hasText_0 : cX9_hasText.data.toList.drop 0 = sg_06_cX9_hasText_0 := by decide +kernel
theorem dR_hasText_0 : decode cX9_hasText 0 = .ok (.aload_n 0, 1) := op_42 (rdSeg sd_06_cX9_hasText_0 0 rfl rfl)
theorem dR_hasText_1 : decode cX9_hasText 1 = .ok (.getfield 7, 3) := op_180 (rdSeg sd_06_cX9_hasText_0 1 rfl rfl) (rdSeg sd_06_cX9_hasText_0 2 rfl rfl) (rdSeg sd_06_cX9_hasText_0 3 rfl rfl) rfl
theorem dR_hasText_4 : decode cX9_hasText 4 = .ok (.sipush 202, 3) := op_17 (rdSeg sd_06_cX9_hasText_0 4 rfl rfl) (rdSeg sd_06_cX9_hasText_0 5 rfl rfl) (rdSeg sd_06_cX9_hasText_0 6 rfl rfl) (by decide +kernel)
theorem dR_hasText_7 : decode cX9_hasText 7 = .ok (.bipush 125, 2) := op_16 (rdSeg sd_06_cX9_hasText_0 7 rfl rfl) (rdSeg sd_06_cX9_hasText_0 8 rfl rfl) (by decide +kernel)
theorem dR_hasText_9 : decode cX9_hasText 9 = .ok (.iload_n 1, 1) := op_27 (rdSeg sd_06_cX9_hasText_0 9 rfl rfl)
theorem dR_hasText_10 : decode cX9_hasText 10 = .ok (.imul, 1) := op_104 (rdSeg sd_06_cX9_hasText_0 10 rfl rfl)
theorem dR_hasText_11 : decode cX9_hasText 11 = .ok (.iadd, 1) := op_96 (rdSeg sd_06_cX9_hasText_0 11 rfl rfl)
theorem dR_hasText_12 : decode cX9_hasText 12 = .ok (.iaload, 1) := op_46 (rdSeg sd_06_cX9_hasText_0 12 rfl rfl)
theorem dR_hasText_13 : decode cX9_hasText 13 = .ok (.ifCond .le 7, 3) := op_158 (rdSeg sd_06_cX9_hasText_0 13 rfl rfl) (rdSeg sd_06_cX9_hasText_0 14 rfl rfl) (rdSeg sd_06_cX9_hasText_0 15 rfl rfl) (by decide +kernel)
theorem dR_hasText_16 : decode cX9_hasText 16 = .ok (.iconst 1, 1) := op_4 (rdSeg sd_06_cX9_hasText_0 16 rfl rfl)
theorem dR_hasText_17 : decode cX9_hasText 17 = .ok (.goto 4, 3) := op_167 (rdSeg sd_06_cX9_hasText_0 17 rfl rfl) (rdSeg sd_06_cX9_hasText_0 18 rfl rfl) (rdSeg sd_06_cX9_hasText_0 19 rfl rfl) (by decide +kernel)
theorem dR_hasText_20 : decode cX9_hasText 20 = .ok (.iconst 0, 1) := op_3 (rdSeg sd_06_cX9_hasText_0 20 rfl rfl)
theorem dR_hasText_21 : decode cX9_hasText 21 = .ok (.ireturn, 1) := op_172 (rdSeg sd_06_cX9_hasText_0 21 rfl rfl)
def sg_06_cX9_text_4 : List UInt8 := [0x16, 0x15, 0x04, 0x2e, 0x4f, 0x84, 0x04, 0x01, 0xa7, 0xff, 0xe0, 0x04, 0xac]
def sg_06_cX9_text_3 : List UInt8 := 0x2a :: 0xb4 :: 0x00 :: 0x82 :: 0x4f :: 0x03 :: 0x36 :: 0x04 :: 0x15 :: 0x04 :: 0x05 :: 0x2a :: 0xb4 :: 0x00 :: 0x82 :: 0x68 :: 0xa2 :: 0x00 :: 0x1b :: 0x2a :: 0xb4 :: 0x00 :: 0x07 :: 0x1d :: 0x04 :: 0x60 :: 0x15 :: 0x04 :: 0x60 :: 0x2a :: 0xb4 :: 0x00 :: sg_06_cX9_text_4
def sg_06_cX9_text_2 : List UInt8 := 0x00 :: 0x07 :: 0x10 :: 0x06 :: 0x03 :: 0x4f :: 0x1c :: 0x9a :: 0x00 :: 0x0b :: 0x10 :: 0xf6 :: 0x2a :: 0xb4 :: 0x00 :: 0x7b :: 0x64 :: 0xac :: 0x11 :: 0x00 :: 0xca :: 0x10 :: 0x7d :: 0x1b :: 0x68 :: 0x60 :: 0x3e :: 0x2a :: 0xb4 :: 0x00 :: 0x07 :: 0x1d :: sg_06_cX9_text_3
def sg_06_cX9_text_1 : List UInt8 := 0xb5 :: 0x00 :: 0x82 :: 0x2a :: 0xb6 :: 0x00 :: 0xa5 :: 0x99 :: 0x00 :: 0x15 :: 0x2a :: 0xb4 :: 0x00 :: 0x7b :: 0x2a :: 0xb4 :: 0x00 :: 0x07 :: 0x10 :: 0x06 :: 0x2e :: 0xa0 :: 0x00 :: 0x07 :: 0x04 :: 0xa7 :: 0x00 :: 0x04 :: 0x03 :: 0x3d :: 0x2a :: 0xb4 :: sg_06_cX9_text_2
def sg_06_cX9_text_0 : List UInt8 := 0x1b :: 0x03 :: 0x04 :: 0xb8 :: 0x00 :: 0x35 :: 0x9a :: 0x00 :: 0x09 :: 0x2a :: 0x04 :: 0xb6 :: 0x00 :: 0x3e :: 0xac :: 0x2a :: 0x1b :: 0xb5 :: 0x00 :: 0x7f :: 0x2a :: 0x03 :: 0xb5 :: 0x00 :: 0x7b :: 0x2a :: 0x03 :: 0xb5 :: 0x00 :: 0x9c :: 0x2a :: 0x03 :: sg_06_cX9_text_1
set_option maxRecDepth 100000 in
theorem sd_06_cX9_text_0 : cX9_text.data.toList.drop 0 = sg_06_cX9_text_0 := by decide +kernel
theorem sd_06_cX9_text_1 : cX9_text.data.toList.drop 32 = sg_06_cX9_text_1 := sg_next sd_06_cX9_text_0 rfl
theorem sd_06_cX9_text_2 : cX9_text.data.toList.drop 64 = sg_06_cX9_text_2 := sg_next sd_06_cX9_text_1 rfl
theorem sd_06_cX9_text_3 : cX9_text.data.toList.drop 96 = sg_06_cX9_text_3 := sg_next sd_06_cX9_text_2 rfl
theorem sd_06_cX9_text_4 : cX9_text.data.toList.drop 128 = sg_06_cX9_text_4 := sg_next sd_06_cX9_text_3 rfl
theorem dR_text_0 : decode cX9_text 0 = .ok (.iload_n 1, 1) := op_27 (rdSeg sd_06_cX9_text_0 0 rfl rfl)
theorem dR_text_1 : decode cX9_text 1 = .ok (.iconst 0, 1) := op_3 (rdSeg sd_06_cX9_text_0 1 rfl rfl)
theorem dR_text_2 : decode cX9_text 2 = .ok (.iconst 1, 1) := op_4 (rdSeg sd_06_cX9_text_0 2 rfl rfl)
theorem dR_text_3 : decode cX9_text 3 = .ok (.invokestatic 53, 3) := op_184 (rdSeg sd_06_cX9_text_0 3 rfl rfl) (rdSeg sd_06_cX9_text_0 4 rfl rfl) (rdSeg sd_06_cX9_text_0 5 rfl rfl) rfl
theorem dR_text_6 : decode cX9_text 6 = .ok (.ifCond .ne 9, 3) := op_154 (rdSeg sd_06_cX9_text_0 6 rfl rfl) (rdSeg sd_06_cX9_text_0 7 rfl rfl) (rdSeg sd_06_cX9_text_0 8 rfl rfl) (by decide +kernel)
theorem dR_text_9 : decode cX9_text 9 = .ok (.aload_n 0, 1) := op_42 (rdSeg sd_06_cX9_text_0 9 rfl rfl)
theorem dR_text_10 : decode cX9_text 10 = .ok (.iconst 1, 1) := op_4 (rdSeg sd_06_cX9_text_0 10 rfl rfl)
theorem dR_text_11 : decode cX9_text 11 = .ok (.invokevirtual 62, 3) := op_182 (rdSeg sd_06_cX9_text_0 11 rfl rfl) (rdSeg sd_06_cX9_text_0 12 rfl rfl) (rdSeg sd_06_cX9_text_0 13 rfl rfl) rfl
theorem dR_text_14 : decode cX9_text 14 = .ok (.ireturn, 1) := op_172 (rdSeg sd_06_cX9_text_0 14 rfl rfl)
theorem dR_text_15 : decode cX9_text 15 = .ok (.aload_n 0, 1) := op_42 (rdSeg sd_06_cX9_text_0 15 rfl rfl)
theorem dR_text_16 : decode cX9_text 16 = .ok (.iload_n 1, 1) := op_27 (rdSeg sd_06_cX9_text_0 16 rfl rfl)
theorem dR_text_17 : decode cX9_text 17 = .ok (.putfield 127, 3) := op_181 (rdSeg sd_06_cX9_text_0 17 rfl rfl) (rdSeg sd_06_cX9_text_0 18 rfl rfl) (rdSeg sd_06_cX9_text_0 19 rfl rfl) rfl
theorem dR_text_20 : decode cX9_text 20 = .ok (.aload_n 0, 1) := op_42 (rdSeg sd_06_cX9_text_0 20 rfl rfl)
theorem dR_text_21 : decode cX9_text 21 = .ok (.iconst 0, 1) := op_3 (rdSeg sd_06_cX9_text_0 21 rfl rfl)
theorem dR_text_22 : decode cX9_text 22 = .ok (.putfield 123, 3) := op_181 (rdSeg sd_06_cX9_text_0 22 rfl rfl) (rdSeg sd_06_cX9_text_0 23 rfl rfl) (rdSeg sd_06_cX9_text_0 24 rfl rfl) rfl
theorem dR_text_25 : decode cX9_text 25 = .ok (.aload_n 0, 1) := op_42 (rdSeg sd_06_cX9_text_0 25 rfl rfl)
theorem dR_text_26 : decode cX9_text 26 = .ok (.iconst 0, 1) := op_3 (rdSeg sd_06_cX9_text_0 26 rfl rfl)
theorem dR_text_27 : decode cX9_text 27 = .ok (.putfield 156, 3) := op_181 (rdSeg sd_06_cX9_text_0 27 rfl rfl) (rdSeg sd_06_cX9_text_0 28 rfl rfl) (rdSeg sd_06_cX9_text_0 29 rfl rfl) rfl
theorem dR_text_30 : decode cX9_text 30 = .ok (.aload_n 0, 1) := op_42 (rdSeg sd_06_cX9_text_0 30 rfl rfl)
theorem dR_text_31 : decode cX9_text 31 = .ok (.iconst 0, 1) := op_3 (rdSeg sd_06_cX9_text_0 31 rfl rfl)
theorem dR_text_32 : decode cX9_text 32 = .ok (.putfield 130, 3) := op_181 (rdSeg sd_06_cX9_text_1 0 rfl rfl) (rdSeg sd_06_cX9_text_1 1 rfl rfl) (rdSeg sd_06_cX9_text_1 2 rfl rfl) rfl
theorem dR_text_35 : decode cX9_text 35 = .ok (.aload_n 0, 1) := op_42 (rdSeg sd_06_cX9_text_1 3 rfl rfl)
theorem dR_text_36 : decode cX9_text 36 = .ok (.invokevirtual 165, 3) := op_182 (rdSeg sd_06_cX9_text_1 4 rfl rfl) (rdSeg sd_06_cX9_text_1 5 rfl rfl) (rdSeg sd_06_cX9_text_1 6 rfl rfl) rfl
theorem dR_text_39 : decode cX9_text 39 = .ok (.ifCond .eq 21, 3) := op_153 (rdSeg sd_06_cX9_text_1 7 rfl rfl) (rdSeg sd_06_cX9_text_1 8 rfl rfl) (rdSeg sd_06_cX9_text_1 9 rfl rfl) (by decide +kernel)
theorem dR_text_42 : decode cX9_text 42 = .ok (.aload_n 0, 1) := op_42 (rdSeg sd_06_cX9_text_1 10 rfl rfl)
theorem dR_text_43 : decode cX9_text 43 = .ok (.getfield 123, 3) := op_180 (rdSeg sd_06_cX9_text_1 11 rfl rfl) (rdSeg sd_06_cX9_text_1 12 rfl rfl) (rdSeg sd_06_cX9_text_1 13 rfl rfl) rfl
theorem dR_text_46 : decode cX9_text 46 = .ok (.aload_n 0, 1) := op_42 (rdSeg sd_06_cX9_text_1 14 rfl rfl)
theorem dR_text_47 : decode cX9_text 47 = .ok (.getfield 7, 3) := op_180 (rdSeg sd_06_cX9_text_1 15 rfl rfl) (rdSeg sd_06_cX9_text_1 16 rfl rfl) (rdSeg sd_06_cX9_text_1 17 rfl rfl) rfl
theorem dR_text_50 : decode cX9_text 50 = .ok (.bipush 6, 2) := op_16 (rdSeg sd_06_cX9_text_1 18 rfl rfl) (rdSeg sd_06_cX9_text_1 19 rfl rfl) (by decide +kernel)
theorem dR_text_52 : decode cX9_text 52 = .ok (.iaload, 1) := op_46 (rdSeg sd_06_cX9_text_1 20 rfl rfl)
theorem dR_text_53 : decode cX9_text 53 = .ok (.if_icmp .ne 7, 3) := op_160 (rdSeg sd_06_cX9_text_1 21 rfl rfl) (rdSeg sd_06_cX9_text_1 22 rfl rfl) (rdSeg sd_06_cX9_text_1 23 rfl rfl) (by decide +kernel)
theorem dR_text_56 : decode cX9_text 56 = .ok (.iconst 1, 1) := op_4 (rdSeg sd_06_cX9_text_1 24 rfl rfl)
theorem dR_text_57 : decode cX9_text 57 = .ok (.goto 4, 3) := op_167 (rdSeg sd_06_cX9_text_1 25 rfl rfl) (rdSeg sd_06_cX9_text_1 26 rfl rfl) (rdSeg sd_06_cX9_text_1 27 rfl rfl) (by decide +kernel)
theorem dR_text_60 : decode cX9_text 60 = .ok (.iconst 0, 1) := op_3 (rdSeg sd_06_cX9_text_1 28 rfl rfl)
theorem dR_text_61 : decode cX9_text 61 = .ok (.istore_n 2, 1) := op_61 (rdSeg sd_06_cX9_text_1 29 rfl rfl)
theorem dR_text_62 : decode cX9_text 62 = .ok (.aload_n 0, 1) := op_42 (rdSeg sd_06_cX9_text_1 30 rfl rfl)
theorem dR_text_63 : decode cX9_text 63 = .ok (.getfield 7, 3) := op_180 (rdSeg sd_06_cX9_text_1 31 rfl rfl) (rdSeg sd_06_cX9_text_2 0 rfl rfl) (rdSeg sd_06_cX9_text_2 1 rfl rfl) rfl
theorem dR_text_66 : decode cX9_text 66 = .ok (.bipush 6, 2) := op_16 (rdSeg sd_06_cX9_text_2 2 rfl rfl) (rdSeg sd_06_cX9_text_2 3 rfl rfl) (by decide +kernel)
theorem dR_text_68 : decode cX9_text 68 = .ok (.iconst 0, 1) := op_3 (rdSeg sd_06_cX9_text_2 4 rfl rfl)
theorem dR_text_69 : decode cX9_text 69 = .ok (.iastore, 1) := op_79 (rdSeg sd_06_cX9_text_2 5 rfl rfl)
theorem dR_text_70 : decode cX9_text 70 = .ok (.iload_n 2, 1) := op_28 (rdSeg sd_06_cX9_text_2 6 rfl rfl)
theorem dR_text_71 : decode cX9_text 71 = .ok (.ifCond .ne 11, 3) := op_154 (rdSeg sd_06_cX9_text_2 7 rfl rfl) (rdSeg sd_06_cX9_text_2 8 rfl rfl) (rdSeg sd_06_cX9_text_2 9 rfl rfl) (by decide +kernel)
theorem dR_text_74 : decode cX9_text 74 = .ok (.bipush (-10), 2) := op_16 (rdSeg sd_06_cX9_text_2 10 rfl rfl) (rdSeg sd_06_cX9_text_2 11 rfl rfl) (by decide +kernel)
theorem dR_text_76 : decode cX9_text 76 = .ok (.aload_n 0, 1) := op_42 (rdSeg sd_06_cX9_text_2 12 rfl rfl)
theorem dR_text_77 : decode cX9_text 77 = .ok (.getfield 123, 3) := op_180 (rdSeg sd_06_cX9_text_2 13 rfl rfl) (rdSeg sd_06_cX9_text_2 14 rfl rfl) (rdSeg sd_06_cX9_text_2 15 rfl rfl) rfl
theorem dR_text_80 : decode cX9_text 80 = .ok (.isub, 1) := op_100 (rdSeg sd_06_cX9_text_2 16 rfl rfl)
theorem dR_text_81 : decode cX9_text 81 = .ok (.ireturn, 1) := op_172 (rdSeg sd_06_cX9_text_2 17 rfl rfl)
theorem dR_text_82 : decode cX9_text 82 = .ok (.sipush 202, 3) := op_17 (rdSeg sd_06_cX9_text_2 18 rfl rfl) (rdSeg sd_06_cX9_text_2 19 rfl rfl) (rdSeg sd_06_cX9_text_2 20 rfl rfl) (by decide +kernel)
theorem dR_text_85 : decode cX9_text 85 = .ok (.bipush 125, 2) := op_16 (rdSeg sd_06_cX9_text_2 21 rfl rfl) (rdSeg sd_06_cX9_text_2 22 rfl rfl) (by decide +kernel)
theorem dR_text_87 : decode cX9_text 87 = .ok (.iload_n 1, 1) := op_27 (rdSeg sd_06_cX9_text_2 23 rfl rfl)
theorem dR_text_88 : decode cX9_text 88 = .ok (.imul, 1) := op_104 (rdSeg sd_06_cX9_text_2 24 rfl rfl)
theorem dR_text_89 : decode cX9_text 89 = .ok (.iadd, 1) := op_96 (rdSeg sd_06_cX9_text_2 25 rfl rfl)
theorem dR_text_90 : decode cX9_text 90 = .ok (.istore_n 3, 1) := op_62 (rdSeg sd_06_cX9_text_2 26 rfl rfl)
theorem dR_text_91 : decode cX9_text 91 = .ok (.aload_n 0, 1) := op_42 (rdSeg sd_06_cX9_text_2 27 rfl rfl)
theorem dR_text_92 : decode cX9_text 92 = .ok (.getfield 7, 3) := op_180 (rdSeg sd_06_cX9_text_2 28 rfl rfl) (rdSeg sd_06_cX9_text_2 29 rfl rfl) (rdSeg sd_06_cX9_text_2 30 rfl rfl) rfl
theorem dR_text_95 : decode cX9_text 95 = .ok (.iload_n 3, 1) := op_29 (rdSeg sd_06_cX9_text_2 31 rfl rfl)
theorem dR_text_96 : decode cX9_text 96 = .ok (.aload_n 0, 1) := op_42 (rdSeg sd_06_cX9_text_3 0 rfl rfl)
theorem dR_text_97 : decode cX9_text 97 = .ok (.getfield 130, 3) := op_180 (rdSeg sd_06_cX9_text_3 1 rfl rfl) (rdSeg sd_06_cX9_text_3 2 rfl rfl) (rdSeg sd_06_cX9_text_3 3 rfl rfl) rfl
theorem dR_text_100 : decode cX9_text 100 = .ok (.iastore, 1) := op_79 (rdSeg sd_06_cX9_text_3 4 rfl rfl)
theorem dR_text_101 : decode cX9_text 101 = .ok (.iconst 0, 1) := op_3 (rdSeg sd_06_cX9_text_3 5 rfl rfl)
theorem dR_text_102 : decode cX9_text 102 = .ok (.istore 4, 2) := op_54 (rdSeg sd_06_cX9_text_3 6 rfl rfl) (rdSeg sd_06_cX9_text_3 7 rfl rfl)
theorem dR_text_104 : decode cX9_text 104 = .ok (.iload 4, 2) := op_21 (rdSeg sd_06_cX9_text_3 8 rfl rfl) (rdSeg sd_06_cX9_text_3 9 rfl rfl)
theorem dR_text_106 : decode cX9_text 106 = .ok (.iconst 2, 1) := op_5 (rdSeg sd_06_cX9_text_3 10 rfl rfl)
theorem dR_text_107 : decode cX9_text 107 = .ok (.aload_n 0, 1) := op_42 (rdSeg sd_06_cX9_text_3 11 rfl rfl)
theorem dR_text_108 : decode cX9_text 108 = .ok (.getfield 130, 3) := op_180 (rdSeg sd_06_cX9_text_3 12 rfl rfl) (rdSeg sd_06_cX9_text_3 13 rfl rfl) (rdSeg sd_06_cX9_text_3 14 rfl rfl) rfl
theorem dR_text_111 : decode cX9_text 111 = .ok (.imul, 1) := op_104 (rdSeg sd_06_cX9_text_3 15 rfl rfl)
theorem dR_text_112 : decode cX9_text 112 = .ok (.if_icmp .ge 27, 3) := op_162 (rdSeg sd_06_cX9_text_3 16 rfl rfl) (rdSeg sd_06_cX9_text_3 17 rfl rfl) (rdSeg sd_06_cX9_text_3 18 rfl rfl) (by decide +kernel)
theorem dR_text_115 : decode cX9_text 115 = .ok (.aload_n 0, 1) := op_42 (rdSeg sd_06_cX9_text_3 19 rfl rfl)
theorem dR_text_116 : decode cX9_text 116 = .ok (.getfield 7, 3) := op_180 (rdSeg sd_06_cX9_text_3 20 rfl rfl) (rdSeg sd_06_cX9_text_3 21 rfl rfl) (rdSeg sd_06_cX9_text_3 22 rfl rfl) rfl
theorem dR_text_119 : decode cX9_text 119 = .ok (.iload_n 3, 1) := op_29 (rdSeg sd_06_cX9_text_3 23 rfl rfl)
theorem dR_text_120 : decode cX9_text 120 = .ok (.iconst 1, 1) := op_4 (rdSeg sd_06_cX9_text_3 24 rfl rfl)
theorem dR_text_121 : decode cX9_text 121 = .ok (.iadd, 1) := op_96 (rdSeg sd_06_cX9_text_3 25 rfl rfl)
theorem dR_text_122 : decode cX9_text 122 = .ok (.iload 4, 2) := op_21 (rdSeg sd_06_cX9_text_3 26 rfl rfl) (rdSeg sd_06_cX9_text_3 27 rfl rfl)
theorem dR_text_124 : decode cX9_text 124 = .ok (.iadd, 1) := op_96 (rdSeg sd_06_cX9_text_3 28 rfl rfl)
theorem dR_text_125 : decode cX9_text 125 = .ok (.aload_n 0, 1) := op_42 (rdSeg sd_06_cX9_text_3 29 rfl rfl)
theorem dR_text_126 : decode cX9_text 126 = .ok (.getfield 22, 3) := op_180 (rdSeg sd_06_cX9_text_3 30 rfl rfl) (rdSeg sd_06_cX9_text_3 31 rfl rfl) (rdSeg sd_06_cX9_text_4 0 rfl rfl) rfl
theorem dR_text_129 : decode cX9_text 129 = .ok (.iload 4, 2) := op_21 (rdSeg sd_06_cX9_text_4 1 rfl rfl) (rdSeg sd_06_cX9_text_4 2 rfl rfl)
theorem dR_text_131 : decode cX9_text 131 = .ok (.iaload, 1) := op_46 (rdSeg sd_06_cX9_text_4 3 rfl rfl)
theorem dR_text_132 : decode cX9_text 132 = .ok (.iastore, 1) := op_79 (rdSeg sd_06_cX9_text_4 4 rfl rfl)
theorem dR_text_133 : decode cX9_text 133 = .ok (.iinc 4 1, 3) := op_132 (rdSeg sd_06_cX9_text_4 5 rfl rfl) (rdSeg sd_06_cX9_text_4 6 rfl rfl) (rdSeg sd_06_cX9_text_4 7 rfl rfl) (by decide +kernel)
theorem dR_text_136 : decode cX9_text 136 = .ok (.goto (-32), 3) := op_167 (rdSeg sd_06_cX9_text_4 8 rfl rfl) (rdSeg sd_06_cX9_text_4 9 rfl rfl) (rdSeg sd_06_cX9_text_4 10 rfl rfl) (by decide +kernel)
theorem dR_text_139 : decode cX9_text 139 = .ok (.iconst 1, 1) := op_4 (rdSeg sd_06_cX9_text_4 11 rfl rfl)
theorem dR_text_140 : decode cX9_text 140 = .ok (.ireturn, 1) := op_172 (rdSeg sd_06_cX9_text_4 12 rfl rfl)
def sg_06_cX9_untell_1 : List UInt8 := [0x07, 0x11, 0x00, 0xca, 0x10, 0x7d, 0x1b, 0x68, 0x60, 0x03, 0x4f, 0x1c, 0xac]
def sg_06_cX9_untell_0 : List UInt8 := 0x1b :: 0x03 :: 0x04 :: 0xb8 :: 0x00 :: 0x35 :: 0x9a :: 0x00 :: 0x09 :: 0x2a :: 0x04 :: 0xb6 :: 0x00 :: 0x3e :: 0xac :: 0x2a :: 0x1b :: 0xb6 :: 0x00 :: 0xa8 :: 0x99 :: 0x00 :: 0x07 :: 0x04 :: 0xa7 :: 0x00 :: 0x04 :: 0x03 :: 0x3d :: 0x2a :: 0xb4 :: 0x00 :: sg_06_cX9_untell_1
set_option maxRecDepth 100000 in
theorem sd_06_cX9_untell_0 : cX9_untell.data.toList.drop 0 = sg_06_cX9_untell_0 := by decide +kernel
theorem sd_06_cX9_untell_1 : cX9_untell.data.toList.drop 32 = sg_06_cX9_untell_1 := sg_next sd_06_cX9_untell_0 rfl
theorem dR_untell_0 : decode cX9_untell 0 = .ok (.iload_n 1, 1) := op_27 (rdSeg sd_06_cX9_untell_0 0 rfl rfl)
theorem dR_untell_1 : decode cX9_untell 1 = .ok (.iconst 0, 1) := op_3 (rdSeg sd_06_cX9_untell_0 1 rfl rfl)
theorem dR_untell_2 : decode cX9_untell 2 = .ok (.iconst 1, 1) := op_4 (rdSeg sd_06_cX9_untell_0 2 rfl rfl)
theorem dR_untell_3 : decode cX9_untell 3 = .ok (.invokestatic 53, 3) := op_184 (rdSeg sd_06_cX9_untell_0 3 rfl rfl) (rdSeg sd_06_cX9_untell_0 4 rfl rfl) (rdSeg sd_06_cX9_untell_0 5 rfl rfl) rfl
theorem dR_untell_6 : decode cX9_untell 6 = .ok (.ifCond .ne 9, 3) := op_154 (rdSeg sd_06_cX9_untell_0 6 rfl rfl) (rdSeg sd_06_cX9_untell_0 7 rfl rfl) (rdSeg sd_06_cX9_untell_0 8 rfl rfl) (by decide +kernel)
theorem dR_untell_9 : decode cX9_untell 9 = .ok (.aload_n 0, 1) := op_42 (rdSeg sd_06_cX9_untell_0 9 rfl rfl)
theorem dR_untell_10 : decode cX9_untell 10 = .ok (.iconst 1, 1) := op_4 (rdSeg sd_06_cX9_untell_0 10 rfl rfl)
theorem dR_untell_11 : decode cX9_untell 11 = .ok (.invokevirtual 62, 3) := op_182 (rdSeg sd_06_cX9_untell_0 11 rfl rfl) (rdSeg sd_06_cX9_untell_0 12 rfl rfl) (rdSeg sd_06_cX9_untell_0 13 rfl rfl) rfl
theorem dR_untell_14 : decode cX9_untell 14 = .ok (.ireturn, 1) := op_172 (rdSeg sd_06_cX9_untell_0 14 rfl rfl)
theorem dR_untell_15 : decode cX9_untell 15 = .ok (.aload_n 0, 1) := op_42 (rdSeg sd_06_cX9_untell_0 15 rfl rfl)
theorem dR_untell_16 : decode cX9_untell 16 = .ok (.iload_n 1, 1) := op_27 (rdSeg sd_06_cX9_untell_0 16 rfl rfl)
theorem dR_untell_17 : decode cX9_untell 17 = .ok (.invokevirtual 168, 3) := op_182 (rdSeg sd_06_cX9_untell_0 17 rfl rfl) (rdSeg sd_06_cX9_untell_0 18 rfl rfl) (rdSeg sd_06_cX9_untell_0 19 rfl rfl) rfl
theorem dR_untell_20 : decode cX9_untell 20 = .ok (.ifCond .eq 7, 3) := op_153 (rdSeg sd_06_cX9_untell_0 20 rfl rfl) (rdSeg sd_06_cX9_untell_0 21 rfl rfl) (rdSeg sd_06_cX9_untell_0 22 rfl rfl) (by decide +kernel)
theorem dR_untell_23 : decode cX9_untell 23 = .ok (.iconst 1, 1) := op_4 (rdSeg sd_06_cX9_untell_0 23 rfl rfl)
theorem dR_untell_24 : decode cX9_untell 24 = .ok (.goto 4, 3) := op_167 (rdSeg sd_06_cX9_untell_0 24 rfl rfl) (rdSeg sd_06_cX9_untell_0 25 rfl rfl) (rdSeg sd_06_cX9_untell_0 26 rfl rfl) (by decide +kernel)
theorem dR_untell_27 : decode cX9_untell 27 = .ok (.iconst 0, 1) := op_3 (rdSeg sd_06_cX9_untell_0 27 rfl rfl)
theorem dR_untell_28 : decode cX9_untell 28 = .ok (.istore_n 2, 1) := op_61 (rdSeg sd_06_cX9_untell_0 28 rfl rfl)
theorem dR_untell_29 : decode cX9_untell 29 = .ok (.aload_n 0, 1) := op_42 (rdSeg sd_06_cX9_untell_0 29 rfl rfl)
theorem dR_untell_30 : decode cX9_untell 30 = .ok (.getfield 7, 3) := op_180 (rdSeg sd_06_cX9_untell_0 30 rfl rfl) (rdSeg sd_06_cX9_untell_0 31 rfl rfl) (rdSeg sd_06_cX9_untell_1 0 rfl rfl) rfl
theorem dR_untell_33 : decode cX9_untell 33 = .ok (.sipush 202, 3) := op_17 (rdSeg sd_06_cX9_untell_1 1 rfl rfl) (rdSeg sd_06_cX9_untell_1 2 rfl rfl) (rdSeg sd_06_cX9_untell_1 3 rfl rfl) (by decide +kernel)
theorem dR_untell_36 : decode cX9_untell 36 = .ok (.bipush 125, 2) := op_16 (rdSeg sd_06_cX9_untell_1 4 rfl rfl) (rdSeg sd_06_cX9_untell_1 5 rfl rfl) (by decide +kernel)
theorem dR_untell_38 : decode cX9_untell 38 = .ok (.iload_n 1, 1) := op_27 (rdSeg sd_06_cX9_untell_1 6 rfl rfl)
theorem dR_untell_39 : decode cX9_untell 39 = .ok (.imul, 1) := op_104 (rdSeg sd_06_cX9_untell_1 7 rfl rfl)
theorem dR_untell_40 : decode cX9_untell 40 = .ok (.iadd, 1) := op_96 (rdSeg sd_06_cX9_untell_1 8 rfl rfl)
theorem dR_untell_41 : decode cX9_untell 41 = .ok (.iconst 0, 1) := op_3 (rdSeg sd_06_cX9_untell_1 9 rfl rfl)
theorem dR_untell_42 : decode cX9_untell 42 = .ok (.iastore, 1) := op_79 (rdSeg sd_06_cX9_untell_1 10 rfl rfl)
theorem dR_untell_43 : decode cX9_untell 43 = .ok (.iload_n 2, 1) := op_28 (rdSeg sd_06_cX9_untell_1 11 rfl rfl)
theorem dR_untell_44 : decode cX9_untell 44 = .ok (.ireturn, 1) := op_172 (rdSeg sd_06_cX9_untell_1 12 rfl rfl)
def sg_06_cX9_joined_7 : List UInt8 := [0x00, 0x07, 0x04, 0xa7, 0x00, 0x04, 0x03, 0xac]
def sg_06_cX9_joined_6 : List UInt8 := 0xac :: 0x1b :: 0x1c :: 0xa0 :: 0x00 :: 0x07 :: 0x04 :: 0xa7 :: 0x00 :: 0x04 :: 0x03 :: 0xac :: 0x1b :: 0x99 :: 0x00 :: 0x0b :: 0x1c :: 0x99 :: 0x00 :: 0x07 :: 0x04 :: 0xa7 :: 0x00 :: 0x04 :: 0x03 :: 0xac :: 0x1b :: 0x9a :: 0x00 :: 0x07 :: 0x1c :: 0x99 :: sg_06_cX9_joined_7
def sg_06_cX9_joined_5 : List UInt8 := 0xa0 :: 0x00 :: 0x07 :: 0x03 :: 0xa7 :: 0x00 :: 0x06 :: 0x1b :: 0x1c :: 0x70 :: 0xac :: 0x1b :: 0x1c :: 0xa2 :: 0x00 :: 0x07 :: 0x04 :: 0xa7 :: 0x00 :: 0x04 :: 0x03 :: 0xac :: 0x1b :: 0x1c :: 0xa4 :: 0x00 :: 0x07 :: 0x04 :: 0xa7 :: 0x00 :: 0x04 :: 0x03 :: sg_06_cX9_joined_6
def sg_06_cX9_joined_4 : List UInt8 := 0x1b :: 0x1c :: 0x68 :: 0xac :: 0x1c :: 0x9a :: 0x00 :: 0x07 :: 0x03 :: 0xa7 :: 0x00 :: 0x10 :: 0x1c :: 0x02 :: 0xa0 :: 0x00 :: 0x08 :: 0x1b :: 0x74 :: 0xa7 :: 0x00 :: 0x06 :: 0x1b :: 0x1c :: 0x6c :: 0xac :: 0x1c :: 0x99 :: 0x00 :: 0x08 :: 0x1c :: 0x02 :: sg_06_cX9_joined_5
def sg_06_cX9_joined_3 : List UInt8 := 0x00 :: 0x00 :: 0x00 :: 0xd9 :: 0x00 :: 0x00 :: 0x00 :: 0xd9 :: 0x00 :: 0x00 :: 0x00 :: 0xd9 :: 0x00 :: 0x00 :: 0x00 :: 0xaa :: 0x00 :: 0x00 :: 0x00 :: 0xc0 :: 0x00 :: 0x00 :: 0x00 :: 0xb5 :: 0x1b :: 0x1c :: 0x60 :: 0xac :: 0x1b :: 0x1c :: 0x64 :: 0xac :: sg_06_cX9_joined_4
def sg_06_cX9_joined_2 : List UInt8 := 0x00 :: 0x00 :: 0x00 :: 0xd9 :: 0x00 :: 0x00 :: 0x00 :: 0xd9 :: 0x00 :: 0x00 :: 0x00 :: 0xd9 :: 0x00 :: 0x00 :: 0x00 :: 0xd9 :: 0x00 :: 0x00 :: 0x00 :: 0xd9 :: 0x00 :: 0x00 :: 0x00 :: 0xd9 :: 0x00 :: 0x00 :: 0x00 :: 0xd9 :: 0x00 :: 0x00 :: 0x00 :: 0xd9 :: sg_06_cX9_joined_3
def sg_06_cX9_joined_1 : List UInt8 := 0x00 :: 0x00 :: 0x00 :: 0xd9 :: 0x00 :: 0x00 :: 0x00 :: 0x7f :: 0x00 :: 0x00 :: 0x00 :: 0x77 :: 0x00 :: 0x00 :: 0x00 :: 0xd9 :: 0x00 :: 0x00 :: 0x00 :: 0x7b :: 0x00 :: 0x00 :: 0x00 :: 0xd9 :: 0x00 :: 0x00 :: 0x00 :: 0x83 :: 0x00 :: 0x00 :: 0x00 :: 0xd9 :: sg_06_cX9_joined_2
def sg_06_cX9_joined_0 : List UInt8 := 0x1a :: 0xaa :: 0x00 :: 0x00 :: 0x00 :: 0x00 :: 0x00 :: 0xd9 :: 0x00 :: 0x00 :: 0x00 :: 0x25 :: 0x00 :: 0x00 :: 0x00 :: 0x3e :: 0x00 :: 0x00 :: 0x00 :: 0x99 :: 0x00 :: 0x00 :: 0x00 :: 0xcb :: 0x00 :: 0x00 :: 0x00 :: 0xd9 :: 0x00 :: 0x00 :: 0x00 :: 0xd9 :: sg_06_cX9_joined_1
set_option maxRecDepth 100000 in
theorem sd_06_cX9_joined_0 : cX9_joined.data.toList.drop 0 = sg_06_cX9_joined_0 := by decide +kernel
theorem sd_06_cX9_joined_1 : cX9_joined.data.toList.drop 32 = sg_06_cX9_joined_1 := sg_next sd_06_cX9_joined_0 rfl
theorem sd_06_cX9_joined_2 : cX9_joined.data.toList.drop 64 = sg_06_cX9_joined_2 := sg_next sd_06_cX9_joined_1 rfl
theorem sd_06_cX9_joined_3 : cX9_joined.data.toList.drop 96 = sg_06_cX9_joined_3 := sg_next sd_06_cX9_joined_2 rfl
theorem sd_06_cX9_joined_4 : cX9_joined.data.toList.drop 128 = sg_06_cX9_joined_4 := sg_next sd_06_cX9_joined_3 rfl
theorem sd_06_cX9_joined_5 : cX9_joined.data.toList.drop 160 = sg_06_cX9_joined_5 := sg_next sd_06_cX9_joined_4 rfl
theorem sd_06_cX9_joined_6 : cX9_joined.data.toList.drop 192 = sg_06_cX9_joined_6 := sg_next sd_06_cX9_joined_5 rfl
theorem sd_06_cX9_joined_7 : cX9_joined.data.toList.drop 224 = sg_06_cX9_joined_7 := sg_next sd_06_cX9_joined_6 rfl
theorem dR_joined_0 : decode cX9_joined 0 = .ok (.iload_n 0, 1) := op_26 (rdSeg sd_06_cX9_joined_0 0 rfl rfl)
theorem dR_joined_1 : decode cX9_joined 1 = .ok (.tableswitch 217 37 62 #[153, 203, 217, 217, 217, 127, 119, 217, 123, 217, 131, 217, 217, 217, 217, 217, 217, 217, 217, 217, 217, 217, 217, 170, 192, 181], 119) := by decide +kernel
theorem dR_joined_120 : decode cX9_joined 120 = .ok (.iload_n 1, 1) := op_27 (rdSeg sd_06_cX9_joined_3 24 rfl rfl)
theorem dR_joined_121 : decode cX9_joined 121 = .ok (.iload_n 2, 1) := op_28 (rdSeg sd_06_cX9_joined_3 25 rfl rfl)
theorem dR_joined_122 : decode cX9_joined 122 = .ok (.iadd, 1) := op_96 (rdSeg sd_06_cX9_joined_3 26 rfl rfl)
theorem dR_joined_123 : decode cX9_joined 123 = .ok (.ireturn, 1) := op_172 (rdSeg sd_06_cX9_joined_3 27 rfl rfl)
theorem dR_joined_124 : decode cX9_joined 124 = .ok (.iload_n 1, 1) := op_27 (rdSeg sd_06_cX9_joined_3 28 rfl rfl)
theorem dR_joined_125 : decode cX9_joined 125 = .ok (.iload_n 2, 1) := op_28 (rdSeg sd_06_cX9_joined_3 29 rfl rfl)
theorem dR_joined_126 : decode cX9_joined 126 = .ok (.isub, 1) := op_100 (rdSeg sd_06_cX9_joined_3 30 rfl rfl)
theorem dR_joined_127 : decode cX9_joined 127 = .ok (.ireturn, 1) := op_172 (rdSeg sd_06_cX9_joined_3 31 rfl rfl)
theorem dR_joined_128 : decode cX9_joined 128 = .ok (.iload_n 1, 1) := op_27 (rdSeg sd_06_cX9_joined_4 0 rfl rfl)
theorem dR_joined_129 : decode cX9_joined 129 = .ok (.iload_n 2, 1) := op_28 (rdSeg sd_06_cX9_joined_4 1 rfl rfl)
theorem dR_joined_130 : decode cX9_joined 130 = .ok (.imul, 1) := op_104 (rdSeg sd_06_cX9_joined_4 2 rfl rfl)
theorem dR_joined_131 : decode cX9_joined 131 = .ok (.ireturn, 1) := op_172 (rdSeg sd_06_cX9_joined_4 3 rfl rfl)
theorem dR_joined_132 : decode cX9_joined 132 = .ok (.iload_n 2, 1) := op_28 (rdSeg sd_06_cX9_joined_4 4 rfl rfl)
theorem dR_joined_133 : decode cX9_joined 133 = .ok (.ifCond .ne 7, 3) := op_154 (rdSeg sd_06_cX9_joined_4 5 rfl rfl) (rdSeg sd_06_cX9_joined_4 6 rfl rfl) (rdSeg sd_06_cX9_joined_4 7 rfl rfl) (by decide +kernel)
theorem dR_joined_136 : decode cX9_joined 136 = .ok (.iconst 0, 1) := op_3 (rdSeg sd_06_cX9_joined_4 8 rfl rfl)
theorem dR_joined_137 : decode cX9_joined 137 = .ok (.goto 16, 3) := op_167 (rdSeg sd_06_cX9_joined_4 9 rfl rfl) (rdSeg sd_06_cX9_joined_4 10 rfl rfl) (rdSeg sd_06_cX9_joined_4 11 rfl rfl) (by decide +kernel)
theorem dR_joined_140 : decode cX9_joined 140 = .ok (.iload_n 2, 1) := op_28 (rdSeg sd_06_cX9_joined_4 12 rfl rfl)
theorem dR_joined_141 : decode cX9_joined 141 = .ok (.iconst (-1), 1) := op_2 (rdSeg sd_06_cX9_joined_4 13 rfl rfl)
theorem dR_joined_142 : decode cX9_joined 142 = .ok (.if_icmp .ne 8, 3) := op_160 (rdSeg sd_06_cX9_joined_4 14 rfl rfl) (rdSeg sd_06_cX9_joined_4 15 rfl rfl) (rdSeg sd_06_cX9_joined_4 16 rfl rfl) (by decide +kernel)
theorem dR_joined_145 : decode cX9_joined 145 = .ok (.iload_n 1, 1) := op_27 (rdSeg sd_06_cX9_joined_4 17 rfl rfl)
theorem dR_joined_146 : decode cX9_joined 146 = .ok (.ineg, 1) := op_116 (rdSeg sd_06_cX9_joined_4 18 rfl rfl)
theorem dR_joined_147 : decode cX9_joined 147 = .ok (.goto 6, 3) := op_167 (rdSeg sd_06_cX9_joined_4 19 rfl rfl) (rdSeg sd_06_cX9_joined_4 20 rfl rfl) (rdSeg sd_06_cX9_joined_4 21 rfl rfl) (by decide +kernel)
theorem dR_joined_150 : decode cX9_joined 150 = .ok (.iload_n 1, 1) := op_27 (rdSeg sd_06_cX9_joined_4 22 rfl rfl)
theorem dR_joined_151 : decode cX9_joined 151 = .ok (.iload_n 2, 1) := op_28 (rdSeg sd_06_cX9_joined_4 23 rfl rfl)
theorem dR_joined_152 : decode cX9_joined 152 = .ok (.idiv, 1) := op_108 (rdSeg sd_06_cX9_joined_4 24 rfl rfl)
theorem dR_joined_153 : decode cX9_joined 153 = .ok (.ireturn, 1) := op_172 (rdSeg sd_06_cX9_joined_4 25 rfl rfl)
theorem dR_joined_154 : decode cX9_joined 154 = .ok (.iload_n 2, 1) := op_28 (rdSeg sd_06_cX9_joined_4 26 rfl rfl)
theorem dR_joined_155 : decode cX9_joined 155 = .ok (.ifCond .eq 8, 3) := op_153 (rdSeg sd_06_cX9_joined_4 27 rfl rfl) (rdSeg sd_06_cX9_joined_4 28 rfl rfl) (rdSeg sd_06_cX9_joined_4 29 rfl rfl) (by decide +kernel)
theorem dR_joined_158 : decode cX9_joined 158 = .ok (.iload_n 2, 1) := op_28 (rdSeg sd_06_cX9_joined_4 30 rfl rfl)
theorem dR_joined_159 : decode cX9_joined 159 = .ok (.iconst (-1), 1) := op_2 (rdSeg sd_06_cX9_joined_4 31 rfl rfl)
theorem dR_joined_160 : decode cX9_joined 160 = .ok (.if_icmp .ne 7, 3) := op_160 (rdSeg sd_06_cX9_joined_5 0 rfl rfl) (rdSeg sd_06_cX9_joined_5 1 rfl rfl) (rdSeg sd_06_cX9_joined_5 2 rfl rfl) (by decide +kernel)
theorem dR_joined_163 : decode cX9_joined 163 = .ok (.iconst 0, 1) := op_3 (rdSeg sd_06_cX9_joined_5 3 rfl rfl)
theorem dR_joined_164 : decode cX9_joined 164 = .ok (.goto 6, 3) := op_167 (rdSeg sd_06_cX9_joined_5 4 rfl rfl) (rdSeg sd_06_cX9_joined_5 5 rfl rfl) (rdSeg sd_06_cX9_joined_5 6 rfl rfl) (by decide +kernel)
theorem dR_joined_167 : decode cX9_joined 167 = .ok (.iload_n 1, 1) := op_27 (rdSeg sd_06_cX9_joined_5 7 rfl rfl)
theorem dR_joined_168 : decode cX9_joined 168 = .ok (.iload_n 2, 1) := op_28 (rdSeg sd_06_cX9_joined_5 8 rfl rfl)
theorem dR_joined_169 : decode cX9_joined 169 = .ok (.irem, 1) := op_112 (rdSeg sd_06_cX9_joined_5 9 rfl rfl)
theorem dR_joined_170 : decode cX9_joined 170 = .ok (.ireturn, 1) := op_172 (rdSeg sd_06_cX9_joined_5 10 rfl rfl)
theorem dR_joined_171 : decode cX9_joined 171 = .ok (.iload_n 1, 1) := op_27 (rdSeg sd_06_cX9_joined_5 11 rfl rfl)
theorem dR_joined_172 : decode cX9_joined 172 = .ok (.iload_n 2, 1) := op_28 (rdSeg sd_06_cX9_joined_5 12 rfl rfl)
theorem dR_joined_173 : decode cX9_joined 173 = .ok (.if_icmp .ge 7, 3) := op_162 (rdSeg sd_06_cX9_joined_5 13 rfl rfl) (rdSeg sd_06_cX9_joined_5 14 rfl rfl) (rdSeg sd_06_cX9_joined_5 15 rfl rfl) (by decide +kernel)
theorem dR_joined_176 : decode cX9_joined 176 = .ok (.iconst 1, 1) := op_4 (rdSeg sd_06_cX9_joined_5 16 rfl rfl)
theorem dR_joined_177 : decode cX9_joined 177 = .ok (.goto 4, 3) := op_167 (rdSeg sd_06_cX9_joined_5 17 rfl rfl) (rdSeg sd_06_cX9_joined_5 18 rfl rfl) (rdSeg sd_06_cX9_joined_5 19 rfl rfl) (by decide +kernel)
theorem dR_joined_180 : decode cX9_joined 180 = .ok (.iconst 0, 1) := op_3 (rdSeg sd_06_cX9_joined_5 20 rfl rfl)
theorem dR_joined_181 : decode cX9_joined 181 = .ok (.ireturn, 1) := op_172 (rdSeg sd_06_cX9_joined_5 21 rfl rfl)
theorem dR_joined_182 : decode cX9_joined 182 = .ok (.iload_n 1, 1) := op_27 (rdSeg sd_06_cX9_joined_5 22 rfl rfl)
theorem dR_joined_183 : decode cX9_joined 183 = .ok (.iload_n 2, 1) := op_28 (rdSeg sd_06_cX9_joined_5 23 rfl rfl)
theorem dR_joined_184 : decode cX9_joined 184 = .ok (.if_icmp .le 7, 3) := op_164 (rdSeg sd_06_cX9_joined_5 24 rfl rfl) (rdSeg sd_06_cX9_joined_5 25 rfl rfl) (rdSeg sd_06_cX9_joined_5 26 rfl rfl) (by decide +kernel)
theorem dR_joined_187 : decode cX9_joined 187 = .ok (.iconst 1, 1) := op_4 (rdSeg sd_06_cX9_joined_5 27 rfl rfl)
theorem dR_joined_188 : decode cX9_joined 188 = .ok (.goto 4, 3) := op_167 (rdSeg sd_06_cX9_joined_5 28 rfl rfl) (rdSeg sd_06_cX9_joined_5 29 rfl rfl) (rdSeg sd_06_cX9_joined_5 30 rfl rfl) (by decide +kernel)
theorem dR_joined_191 : decode cX9_joined 191 = .ok (.iconst 0, 1) := op_3 (rdSeg sd_06_cX9_joined_5 31 rfl rfl)
theorem dR_joined_192 : decode cX9_joined 192 = .ok (.ireturn, 1) := op_172 (rdSeg sd_06_cX9_joined_6 0 rfl rfl)
theorem dR_joined_193 : decode cX9_joined 193 = .ok (.iload_n 1, 1) := op_27 (rdSeg sd_06_cX9_joined_6 1 rfl rfl)
theorem dR_joined_194 : decode cX9_joined 194 = .ok (.iload_n 2, 1) := op_28 (rdSeg sd_06_cX9_joined_6 2 rfl rfl)
theorem dR_joined_195 : decode cX9_joined 195 = .ok (.if_icmp .ne 7, 3) := op_160 (rdSeg sd_06_cX9_joined_6 3 rfl rfl) (rdSeg sd_06_cX9_joined_6 4 rfl rfl) (rdSeg sd_06_cX9_joined_6 5 rfl rfl) (by decide +kernel)
theorem dR_joined_198 : decode cX9_joined 198 = .ok (.iconst 1, 1) := op_4 (rdSeg sd_06_cX9_joined_6 6 rfl rfl)
theorem dR_joined_199 : decode cX9_joined 199 = .ok (.goto 4, 3) := op_167 (rdSeg sd_06_cX9_joined_6 7 rfl rfl) (rdSeg sd_06_cX9_joined_6 8 rfl rfl) (rdSeg sd_06_cX9_joined_6 9 rfl rfl) (by decide +kernel)
theorem dR_joined_202 : decode cX9_joined 202 = .ok (.iconst 0, 1) := op_3 (rdSeg sd_06_cX9_joined_6 10 rfl rfl)
theorem dR_joined_203 : decode cX9_joined 203 = .ok (.ireturn, 1) := op_172 (rdSeg sd_06_cX9_joined_6 11 rfl rfl)
theorem dR_joined_204 : decode cX9_joined 204 = .ok (.iload_n 1, 1) := op_27 (rdSeg sd_06_cX9_joined_6 12 rfl rfl)
theorem dR_joined_205 : decode cX9_joined 205 = .ok (.ifCond .eq 11, 3) := op_153 (rdSeg sd_06_cX9_joined_6 13 rfl rfl) (rdSeg sd_06_cX9_joined_6 14 rfl rfl) (rdSeg sd_06_cX9_joined_6 15 rfl rfl) (by decide +kernel)
theorem dR_joined_208 : decode cX9_joined 208 = .ok (.iload_n 2, 1) := op_28 (rdSeg sd_06_cX9_joined_6 16 rfl rfl)
theorem dR_joined_209 : decode cX9_joined 209 = .ok (.ifCond .eq 7, 3) := op_153 (rdSeg sd_06_cX9_joined_6 17 rfl rfl) (rdSeg sd_06_cX9_joined_6 18 rfl rfl) (rdSeg sd_06_cX9_joined_6 19 rfl rfl) (by decide +kernel)
theorem dR_joined_212 : decode cX9_joined 212 = .ok (.iconst 1, 1) := op_4 (rdSeg sd_06_cX9_joined_6 20 rfl rfl)
theorem dR_joined_213 : decode cX9_joined 213 = .ok (.goto 4, 3) := op_167 (rdSeg sd_06_cX9_joined_6 21 rfl rfl) (rdSeg sd_06_cX9_joined_6 22 rfl rfl) (rdSeg sd_06_cX9_joined_6 23 rfl rfl) (by decide +kernel)
theorem dR_joined_216 : decode cX9_joined 216 = .ok (.iconst 0, 1) := op_3 (rdSeg sd_06_cX9_joined_6 24 rfl rfl)
theorem dR_joined_217 : decode cX9_joined 217 = .ok (.ireturn, 1) := op_172 (rdSeg sd_06_cX9_joined_6 25 rfl rfl)
theorem dR_joined_218 : decode cX9_joined 218 = .ok (.iload_n 1, 1) := op_27 (rdSeg sd_06_cX9_joined_6 26 rfl rfl)
theorem dR_joined_219 : decode cX9_joined 219 = .ok (.ifCond .ne 7, 3) := op_154 (rdSeg sd_06_cX9_joined_6 27 rfl rfl) (rdSeg sd_06_cX9_joined_6 28 rfl rfl) (rdSeg sd_06_cX9_joined_6 29 rfl rfl) (by decide +kernel)
theorem dR_joined_222 : decode cX9_joined 222 = .ok (.iload_n 2, 1) := op_28 (rdSeg sd_06_cX9_joined_6 30 rfl rfl)
theorem dR_joined_223 : decode cX9_joined 223 = .ok (.ifCond .eq 7, 3) := op_153 (rdSeg sd_06_cX9_joined_6 31 rfl rfl) (rdSeg sd_06_cX9_joined_7 0 rfl rfl) (rdSeg sd_06_cX9_joined_7 1 rfl rfl) (by decide +kernel)
theorem dR_joined_226 : decode cX9_joined 226 = .ok (.iconst 1, 1) := op_4 (rdSeg sd_06_cX9_joined_7 2 rfl rfl)
theorem dR_joined_227 : decode cX9_joined 227 = .ok (.goto 4, 3) := op_167 (rdSeg sd_06_cX9_joined_7 3 rfl rfl) (rdSeg sd_06_cX9_joined_7 4 rfl rfl) (rdSeg sd_06_cX9_joined_7 5 rfl rfl) (by decide +kernel)
theorem dR_joined_230 : decode cX9_joined 230 = .ok (.iconst 0, 1) := op_3 (rdSeg sd_06_cX9_joined_7 6 rfl rfl)
theorem dR_joined_231 : decode cX9_joined 231 = .ok (.ireturn, 1) := op_172 (rdSeg sd_06_cX9_joined_7 7 rfl rfl)
def sg_06_cX9_worked_5 : List UInt8 := [0x01, 0xa7, 0xff, 0x6d, 0x2a, 0xb4, 0x00, 0x1c, 0x03, 0x2e, 0xac]
def sg_06_cX9_worked_4 : List UInt8 := 0x84 :: 0x03 :: 0xff :: 0x2a :: 0xb4 :: 0x00 :: 0x1c :: 0x1d :: 0x04 :: 0x64 :: 0x15 :: 0x06 :: 0x2a :: 0xb4 :: 0x00 :: 0x1c :: 0x1d :: 0x04 :: 0x64 :: 0x2e :: 0x2a :: 0xb4 :: 0x00 :: 0x1c :: 0x1d :: 0x2e :: 0xb8 :: 0x00 :: 0xab :: 0x4f :: 0x84 :: 0x04 :: sg_06_cX9_worked_5
def sg_06_cX9_worked_3 : List UInt8 := 0x05 :: 0x05 :: 0xa0 :: 0x00 :: 0x1e :: 0x2a :: 0xb4 :: 0x00 :: 0x1c :: 0x1d :: 0x04 :: 0x64 :: 0x2a :: 0xb4 :: 0x00 :: 0x1c :: 0x1d :: 0x04 :: 0x64 :: 0x2e :: 0x9a :: 0x00 :: 0x07 :: 0x04 :: 0xa7 :: 0x00 :: 0x04 :: 0x03 :: 0x4f :: 0xa7 :: 0x00 :: 0x21 :: sg_06_cX9_worked_4
def sg_06_cX9_worked_2 : List UInt8 := 0x00 :: 0x20 :: 0x2a :: 0xb4 :: 0x00 :: 0x1c :: 0x1d :: 0x15 :: 0x05 :: 0x9a :: 0x00 :: 0x08 :: 0x15 :: 0x06 :: 0xa7 :: 0x00 :: 0x0a :: 0x2a :: 0xb4 :: 0x00 :: 0x19 :: 0x15 :: 0x06 :: 0x2e :: 0x4f :: 0x84 :: 0x03 :: 0x01 :: 0xa7 :: 0x00 :: 0x42 :: 0x15 :: sg_06_cX9_worked_3
def sg_06_cX9_worked_1 : List UInt8 := 0x05 :: 0x15 :: 0x04 :: 0x68 :: 0x60 :: 0x2e :: 0x36 :: 0x05 :: 0x2a :: 0xb4 :: 0x00 :: 0x07 :: 0x1c :: 0x05 :: 0x60 :: 0x05 :: 0x15 :: 0x04 :: 0x68 :: 0x60 :: 0x2e :: 0x36 :: 0x06 :: 0x15 :: 0x05 :: 0x99 :: 0x00 :: 0x09 :: 0x15 :: 0x05 :: 0x04 :: 0xa0 :: sg_06_cX9_worked_2
def sg_06_cX9_worked_0 : List UInt8 := 0x11 :: 0x00 :: 0xca :: 0x10 :: 0x7d :: 0x1b :: 0x68 :: 0x60 :: 0x3d :: 0x03 :: 0x3e :: 0x03 :: 0x36 :: 0x04 :: 0x15 :: 0x04 :: 0x2a :: 0xb4 :: 0x00 :: 0x07 :: 0x1c :: 0x2e :: 0xa2 :: 0x00 :: 0x8e :: 0x2a :: 0xb4 :: 0x00 :: 0x07 :: 0x1c :: 0x04 :: 0x60 :: sg_06_cX9_worked_1
set_option maxRecDepth 100000 in
theorem sd_06_cX9_worked_0 : cX9_worked.data.toList.drop 0 = sg_06_cX9_worked_0 := by decide +kernel
theorem sd_06_cX9_worked_1 : cX9_worked.data.toList.drop 32 = sg_06_cX9_worked_1 := sg_next sd_06_cX9_worked_0 rfl
theorem sd_06_cX9_worked_2 : cX9_worked.data.toList.drop 64 = sg_06_cX9_worked_2 := sg_next sd_06_cX9_worked_1 rfl
theorem sd_06_cX9_worked_3 : cX9_worked.data.toList.drop 96 = sg_06_cX9_worked_3 := sg_next sd_06_cX9_worked_2 rfl
theorem sd_06_cX9_worked_4 : cX9_worked.data.toList.drop 128 = sg_06_cX9_worked_4 := sg_next sd_06_cX9_worked_3 rfl
theorem sd_06_cX9_worked_5 : cX9_worked.data.toList.drop 160 = sg_06_cX9_worked_5 := sg_next sd_06_cX9_worked_4 rfl
theorem dR_worked_0 : decode cX9_worked 0 = .ok (.sipush 202, 3) := op_17 (rdSeg sd_06_cX9_worked_0 0 rfl rfl) (rdSeg sd_06_cX9_worked_0 1 rfl rfl) (rdSeg sd_06_cX9_worked_0 2 rfl rfl) (by decide +kernel)
theorem dR_worked_3 : decode cX9_worked 3 = .ok (.bipush 125, 2) := op_16 (rdSeg sd_06_cX9_worked_0 3 rfl rfl) (rdSeg sd_06_cX9_worked_0 4 rfl rfl) (by decide +kernel)
theorem dR_worked_5 : decode cX9_worked 5 = .ok (.iload_n 1, 1) := op_27 (rdSeg sd_06_cX9_worked_0 5 rfl rfl)
theorem dR_worked_6 : decode cX9_worked 6 = .ok (.imul, 1) := op_104 (rdSeg sd_06_cX9_worked_0 6 rfl rfl)
theorem dR_worked_7 : decode cX9_worked 7 = .ok (.iadd, 1) := op_96 (rdSeg sd_06_cX9_worked_0 7 rfl rfl)
theorem dR_worked_8 : decode cX9_worked 8 = .ok (.istore_n 2, 1) := op_61 (rdSeg sd_06_cX9_worked_0 8 rfl rfl)
theorem dR_worked_9 : decode cX9_worked 9 = .ok (.iconst 0, 1) := op_3 (rdSeg sd_06_cX9_worked_0 9 rfl rfl)
theorem dR_worked_10 : decode cX9_worked 10 = .ok (.istore_n 3, 1) := op_62 (rdSeg sd_06_cX9_worked_0 10 rfl rfl)
theorem dR_worked_11 : decode cX9_worked 11 = .ok (.iconst 0, 1) := op_3 (rdSeg sd_06_cX9_worked_0 11 rfl rfl)
theorem dR_worked_12 : decode cX9_worked 12 = .ok (.istore 4, 2) := op_54 (rdSeg sd_06_cX9_worked_0 12 rfl rfl) (rdSeg sd_06_cX9_worked_0 13 rfl rfl)
theorem dR_worked_14 : decode cX9_worked 14 = .ok (.iload 4, 2) := op_21 (rdSeg sd_06_cX9_worked_0 14 rfl rfl) (rdSeg sd_06_cX9_worked_0 15 rfl rfl)
theorem dR_worked_16 : decode cX9_worked 16 = .ok (.aload_n 0, 1) := op_42 (rdSeg sd_06_cX9_worked_0 16 rfl rfl)
theorem dR_worked_17 : decode cX9_worked 17 = .ok (.getfield 7, 3) := op_180 (rdSeg sd_06_cX9_worked_0 17 rfl rfl) (rdSeg sd_06_cX9_worked_0 18 rfl rfl) (rdSeg sd_06_cX9_worked_0 19 rfl rfl) rfl
theorem dR_worked_20 : decode cX9_worked 20 = .ok (.iload_n 2, 1) := op_28 (rdSeg sd_06_cX9_worked_0 20 rfl rfl)
theorem dR_worked_21 : decode cX9_worked 21 = .ok (.iaload, 1) := op_46 (rdSeg sd_06_cX9_worked_0 21 rfl rfl)
theorem dR_worked_22 : decode cX9_worked 22 = .ok (.if_icmp .ge 142, 3) := op_162 (rdSeg sd_06_cX9_worked_0 22 rfl rfl) (rdSeg sd_06_cX9_worked_0 23 rfl rfl) (rdSeg sd_06_cX9_worked_0 24 rfl rfl) (by decide +kernel)
theorem dR_worked_25 : decode cX9_worked 25 = .ok (.aload_n 0, 1) := op_42 (rdSeg sd_06_cX9_worked_0 25 rfl rfl)
theorem dR_worked_26 : decode cX9_worked 26 = .ok (.getfield 7, 3) := op_180 (rdSeg sd_06_cX9_worked_0 26 rfl rfl) (rdSeg sd_06_cX9_worked_0 27 rfl rfl) (rdSeg sd_06_cX9_worked_0 28 rfl rfl) rfl
theorem dR_worked_29 : decode cX9_worked 29 = .ok (.iload_n 2, 1) := op_28 (rdSeg sd_06_cX9_worked_0 29 rfl rfl)
theorem dR_worked_30 : decode cX9_worked 30 = .ok (.iconst 1, 1) := op_4 (rdSeg sd_06_cX9_worked_0 30 rfl rfl)
theorem dR_worked_31 : decode cX9_worked 31 = .ok (.iadd, 1) := op_96 (rdSeg sd_06_cX9_worked_0 31 rfl rfl)
theorem dR_worked_32 : decode cX9_worked 32 = .ok (.iconst 2, 1) := op_5 (rdSeg sd_06_cX9_worked_1 0 rfl rfl)
theorem dR_worked_33 : decode cX9_worked 33 = .ok (.iload 4, 2) := op_21 (rdSeg sd_06_cX9_worked_1 1 rfl rfl) (rdSeg sd_06_cX9_worked_1 2 rfl rfl)
theorem dR_worked_35 : decode cX9_worked 35 = .ok (.imul, 1) := op_104 (rdSeg sd_06_cX9_worked_1 3 rfl rfl)
theorem dR_worked_36 : decode cX9_worked 36 = .ok (.iadd, 1) := op_96 (rdSeg sd_06_cX9_worked_1 4 rfl rfl)
theorem dR_worked_37 : decode cX9_worked 37 = .ok (.iaload, 1) := op_46 (rdSeg sd_06_cX9_worked_1 5 rfl rfl)
theorem dR_worked_38 : decode cX9_worked 38 = .ok (.istore 5, 2) := op_54 (rdSeg sd_06_cX9_worked_1 6 rfl rfl) (rdSeg sd_06_cX9_worked_1 7 rfl rfl)
theorem dR_worked_40 : decode cX9_worked 40 = .ok (.aload_n 0, 1) := op_42 (rdSeg sd_06_cX9_worked_1 8 rfl rfl)
theorem dR_worked_41 : decode cX9_worked 41 = .ok (.getfield 7, 3) := op_180 (rdSeg sd_06_cX9_worked_1 9 rfl rfl) (rdSeg sd_06_cX9_worked_1 10 rfl rfl) (rdSeg sd_06_cX9_worked_1 11 rfl rfl) rfl
theorem dR_worked_44 : decode cX9_worked 44 = .ok (.iload_n 2, 1) := op_28 (rdSeg sd_06_cX9_worked_1 12 rfl rfl)
theorem dR_worked_45 : decode cX9_worked 45 = .ok (.iconst 2, 1) := op_5 (rdSeg sd_06_cX9_worked_1 13 rfl rfl)
theorem dR_worked_46 : decode cX9_worked 46 = .ok (.iadd, 1) := op_96 (rdSeg sd_06_cX9_worked_1 14 rfl rfl)
theorem dR_worked_47 : decode cX9_worked 47 = .ok (.iconst 2, 1) := op_5 (rdSeg sd_06_cX9_worked_1 15 rfl rfl)
theorem dR_worked_48 : decode cX9_worked 48 = .ok (.iload 4, 2) := op_21 (rdSeg sd_06_cX9_worked_1 16 rfl rfl) (rdSeg sd_06_cX9_worked_1 17 rfl rfl)
theorem dR_worked_50 : decode cX9_worked 50 = .ok (.imul, 1) := op_104 (rdSeg sd_06_cX9_worked_1 18 rfl rfl)
theorem dR_worked_51 : decode cX9_worked 51 = .ok (.iadd, 1) := op_96 (rdSeg sd_06_cX9_worked_1 19 rfl rfl)
theorem dR_worked_52 : decode cX9_worked 52 = .ok (.iaload, 1) := op_46 (rdSeg sd_06_cX9_worked_1 20 rfl rfl)
theorem dR_worked_53 : decode cX9_worked 53 = .ok (.istore 6, 2) := op_54 (rdSeg sd_06_cX9_worked_1 21 rfl rfl) (rdSeg sd_06_cX9_worked_1 22 rfl rfl)
theorem dR_worked_55 : decode cX9_worked 55 = .ok (.iload 5, 2) := op_21 (rdSeg sd_06_cX9_worked_1 23 rfl rfl) (rdSeg sd_06_cX9_worked_1 24 rfl rfl)
theorem dR_worked_57 : decode cX9_worked 57 = .ok (.ifCond .eq 9, 3) := op_153 (rdSeg sd_06_cX9_worked_1 25 rfl rfl) (rdSeg sd_06_cX9_worked_1 26 rfl rfl) (rdSeg sd_06_cX9_worked_1 27 rfl rfl) (by decide +kernel)
theorem dR_worked_60 : decode cX9_worked 60 = .ok (.iload 5, 2) := op_21 (rdSeg sd_06_cX9_worked_1 28 rfl rfl) (rdSeg sd_06_cX9_worked_1 29 rfl rfl)
theorem dR_worked_62 : decode cX9_worked 62 = .ok (.iconst 1, 1) := op_4 (rdSeg sd_06_cX9_worked_1 30 rfl rfl)
theorem dR_worked_63 : decode cX9_worked 63 = .ok (.if_icmp .ne 32, 3) := op_160 (rdSeg sd_06_cX9_worked_1 31 rfl rfl) (rdSeg sd_06_cX9_worked_2 0 rfl rfl) (rdSeg sd_06_cX9_worked_2 1 rfl rfl) (by decide +kernel)
theorem dR_worked_66 : decode cX9_worked 66 = .ok (.aload_n 0, 1) := op_42 (rdSeg sd_06_cX9_worked_2 2 rfl rfl)
theorem dR_worked_67 : decode cX9_worked 67 = .ok (.getfield 28, 3) := op_180 (rdSeg sd_06_cX9_worked_2 3 rfl rfl) (rdSeg sd_06_cX9_worked_2 4 rfl rfl) (rdSeg sd_06_cX9_worked_2 5 rfl rfl) rfl
theorem dR_worked_70 : decode cX9_worked 70 = .ok (.iload_n 3, 1) := op_29 (rdSeg sd_06_cX9_worked_2 6 rfl rfl)
theorem dR_worked_71 : decode cX9_worked 71 = .ok (.iload 5, 2) := op_21 (rdSeg sd_06_cX9_worked_2 7 rfl rfl) (rdSeg sd_06_cX9_worked_2 8 rfl rfl)
theorem dR_worked_73 : decode cX9_worked 73 = .ok (.ifCond .ne 8, 3) := op_154 (rdSeg sd_06_cX9_worked_2 9 rfl rfl) (rdSeg sd_06_cX9_worked_2 10 rfl rfl) (rdSeg sd_06_cX9_worked_2 11 rfl rfl) (by decide +kernel)
theorem dR_worked_76 : decode cX9_worked 76 = .ok (.iload 6, 2) := op_21 (rdSeg sd_06_cX9_worked_2 12 rfl rfl) (rdSeg sd_06_cX9_worked_2 13 rfl rfl)
theorem dR_worked_78 : decode cX9_worked 78 = .ok (.goto 10, 3) := op_167 (rdSeg sd_06_cX9_worked_2 14 rfl rfl) (rdSeg sd_06_cX9_worked_2 15 rfl rfl) (rdSeg sd_06_cX9_worked_2 16 rfl rfl) (by decide +kernel)
theorem dR_worked_81 : decode cX9_worked 81 = .ok (.aload_n 0, 1) := op_42 (rdSeg sd_06_cX9_worked_2 17 rfl rfl)
theorem dR_worked_82 : decode cX9_worked 82 = .ok (.getfield 25, 3) := op_180 (rdSeg sd_06_cX9_worked_2 18 rfl rfl) (rdSeg sd_06_cX9_worked_2 19 rfl rfl) (rdSeg sd_06_cX9_worked_2 20 rfl rfl) rfl
theorem dR_worked_85 : decode cX9_worked 85 = .ok (.iload 6, 2) := op_21 (rdSeg sd_06_cX9_worked_2 21 rfl rfl) (rdSeg sd_06_cX9_worked_2 22 rfl rfl)
theorem dR_worked_87 : decode cX9_worked 87 = .ok (.iaload, 1) := op_46 (rdSeg sd_06_cX9_worked_2 23 rfl rfl)
theorem dR_worked_88 : decode cX9_worked 88 = .ok (.iastore, 1) := op_79 (rdSeg sd_06_cX9_worked_2 24 rfl rfl)
theorem dR_worked_89 : decode cX9_worked 89 = .ok (.iinc 3 1, 3) := op_132 (rdSeg sd_06_cX9_worked_2 25 rfl rfl) (rdSeg sd_06_cX9_worked_2 26 rfl rfl) (rdSeg sd_06_cX9_worked_2 27 rfl rfl) (by decide +kernel)
theorem dR_worked_92 : decode cX9_worked 92 = .ok (.goto 66, 3) := op_167 (rdSeg sd_06_cX9_worked_2 28 rfl rfl) (rdSeg sd_06_cX9_worked_2 29 rfl rfl) (rdSeg sd_06_cX9_worked_2 30 rfl rfl) (by decide +kernel)
theorem dR_worked_95 : decode cX9_worked 95 = .ok (.iload 5, 2) := op_21 (rdSeg sd_06_cX9_worked_2 31 rfl rfl) (rdSeg sd_06_cX9_worked_3 0 rfl rfl)
theorem dR_worked_97 : decode cX9_worked 97 = .ok (.iconst 2, 1) := op_5 (rdSeg sd_06_cX9_worked_3 1 rfl rfl)
theorem dR_worked_98 : decode cX9_worked 98 = .ok (.if_icmp .ne 30, 3) := op_160 (rdSeg sd_06_cX9_worked_3 2 rfl rfl) (rdSeg sd_06_cX9_worked_3 3 rfl rfl) (rdSeg sd_06_cX9_worked_3 4 rfl rfl) (by decide +kernel)
theorem dR_worked_101 : decode cX9_worked 101 = .ok (.aload_n 0, 1) := op_42 (rdSeg sd_06_cX9_worked_3 5 rfl rfl)
theorem dR_worked_102 : decode cX9_worked 102 = .ok (.getfield 28, 3) := op_180 (rdSeg sd_06_cX9_worked_3 6 rfl rfl) (rdSeg sd_06_cX9_worked_3 7 rfl rfl) (rdSeg sd_06_cX9_worked_3 8 rfl rfl) rfl
theorem dR_worked_105 : decode cX9_worked 105 = .ok (.iload_n 3, 1) := op_29 (rdSeg sd_06_cX9_worked_3 9 rfl rfl)
theorem dR_worked_106 : decode cX9_worked 106 = .ok (.iconst 1, 1) := op_4 (rdSeg sd_06_cX9_worked_3 10 rfl rfl)
theorem dR_worked_107 : decode cX9_worked 107 = .ok (.isub, 1) := op_100 (rdSeg sd_06_cX9_worked_3 11 rfl rfl)
theorem dR_worked_108 : decode cX9_worked 108 = .ok (.aload_n 0, 1) := op_42 (rdSeg sd_06_cX9_worked_3 12 rfl rfl)
theorem dR_worked_109 : decode cX9_worked 109 = .ok (.getfield 28, 3) := op_180 (rdSeg sd_06_cX9_worked_3 13 rfl rfl) (rdSeg sd_06_cX9_worked_3 14 rfl rfl) (rdSeg sd_06_cX9_worked_3 15 rfl rfl) rfl
theorem dR_worked_112 : decode cX9_worked 112 = .ok (.iload_n 3, 1) := op_29 (rdSeg sd_06_cX9_worked_3 16 rfl rfl)
theorem dR_worked_113 : decode cX9_worked 113 = .ok (.iconst 1, 1) := op_4 (rdSeg sd_06_cX9_worked_3 17 rfl rfl)
theorem dR_worked_114 : decode cX9_worked 114 = .ok (.isub, 1) := op_100 (rdSeg sd_06_cX9_worked_3 18 rfl rfl)
theorem dR_worked_115 : decode cX9_worked 115 = .ok (.iaload, 1) := op_46 (rdSeg sd_06_cX9_worked_3 19 rfl rfl)
theorem dR_worked_116 : decode cX9_worked 116 = .ok (.ifCond .ne 7, 3) := op_154 (rdSeg sd_06_cX9_worked_3 20 rfl rfl) (rdSeg sd_06_cX9_worked_3 21 rfl rfl) (rdSeg sd_06_cX9_worked_3 22 rfl rfl) (by decide +kernel)
theorem dR_worked_119 : decode cX9_worked 119 = .ok (.iconst 1, 1) := op_4 (rdSeg sd_06_cX9_worked_3 23 rfl rfl)
theorem dR_worked_120 : decode cX9_worked 120 = .ok (.goto 4, 3) := op_167 (rdSeg sd_06_cX9_worked_3 24 rfl rfl) (rdSeg sd_06_cX9_worked_3 25 rfl rfl) (rdSeg sd_06_cX9_worked_3 26 rfl rfl) (by decide +kernel)
theorem dR_worked_123 : decode cX9_worked 123 = .ok (.iconst 0, 1) := op_3 (rdSeg sd_06_cX9_worked_3 27 rfl rfl)
theorem dR_worked_124 : decode cX9_worked 124 = .ok (.iastore, 1) := op_79 (rdSeg sd_06_cX9_worked_3 28 rfl rfl)
theorem dR_worked_125 : decode cX9_worked 125 = .ok (.goto 33, 3) := op_167 (rdSeg sd_06_cX9_worked_3 29 rfl rfl) (rdSeg sd_06_cX9_worked_3 30 rfl rfl) (rdSeg sd_06_cX9_worked_3 31 rfl rfl) (by decide +kernel)
theorem dR_worked_128 : decode cX9_worked 128 = .ok (.iinc 3 (-1), 3) := op_132 (rdSeg sd_06_cX9_worked_4 0 rfl rfl) (rdSeg sd_06_cX9_worked_4 1 rfl rfl) (rdSeg sd_06_cX9_worked_4 2 rfl rfl) (by decide +kernel)
theorem dR_worked_131 : decode cX9_worked 131 = .ok (.aload_n 0, 1) := op_42 (rdSeg sd_06_cX9_worked_4 3 rfl rfl)
theorem dR_worked_132 : decode cX9_worked 132 = .ok (.getfield 28, 3) := op_180 (rdSeg sd_06_cX9_worked_4 4 rfl rfl) (rdSeg sd_06_cX9_worked_4 5 rfl rfl) (rdSeg sd_06_cX9_worked_4 6 rfl rfl) rfl
theorem dR_worked_135 : decode cX9_worked 135 = .ok (.iload_n 3, 1) := op_29 (rdSeg sd_06_cX9_worked_4 7 rfl rfl)
theorem dR_worked_136 : decode cX9_worked 136 = .ok (.iconst 1, 1) := op_4 (rdSeg sd_06_cX9_worked_4 8 rfl rfl)
theorem dR_worked_137 : decode cX9_worked 137 = .ok (.isub, 1) := op_100 (rdSeg sd_06_cX9_worked_4 9 rfl rfl)
theorem dR_worked_138 : decode cX9_worked 138 = .ok (.iload 6, 2) := op_21 (rdSeg sd_06_cX9_worked_4 10 rfl rfl) (rdSeg sd_06_cX9_worked_4 11 rfl rfl)
theorem dR_worked_140 : decode cX9_worked 140 = .ok (.aload_n 0, 1) := op_42 (rdSeg sd_06_cX9_worked_4 12 rfl rfl)
theorem dR_worked_141 : decode cX9_worked 141 = .ok (.getfield 28, 3) := op_180 (rdSeg sd_06_cX9_worked_4 13 rfl rfl) (rdSeg sd_06_cX9_worked_4 14 rfl rfl) (rdSeg sd_06_cX9_worked_4 15 rfl rfl) rfl
theorem dR_worked_144 : decode cX9_worked 144 = .ok (.iload_n 3, 1) := op_29 (rdSeg sd_06_cX9_worked_4 16 rfl rfl)
theorem dR_worked_145 : decode cX9_worked 145 = .ok (.iconst 1, 1) := op_4 (rdSeg sd_06_cX9_worked_4 17 rfl rfl)
theorem dR_worked_146 : decode cX9_worked 146 = .ok (.isub, 1) := op_100 (rdSeg sd_06_cX9_worked_4 18 rfl rfl)
theorem dR_worked_147 : decode cX9_worked 147 = .ok (.iaload, 1) := op_46 (rdSeg sd_06_cX9_worked_4 19 rfl rfl)
theorem dR_worked_148 : decode cX9_worked 148 = .ok (.aload_n 0, 1) := op_42 (rdSeg sd_06_cX9_worked_4 20 rfl rfl)
theorem dR_worked_149 : decode cX9_worked 149 = .ok (.getfield 28, 3) := op_180 (rdSeg sd_06_cX9_worked_4 21 rfl rfl) (rdSeg sd_06_cX9_worked_4 22 rfl rfl) (rdSeg sd_06_cX9_worked_4 23 rfl rfl) rfl
theorem dR_worked_152 : decode cX9_worked 152 = .ok (.iload_n 3, 1) := op_29 (rdSeg sd_06_cX9_worked_4 24 rfl rfl)
theorem dR_worked_153 : decode cX9_worked 153 = .ok (.iaload, 1) := op_46 (rdSeg sd_06_cX9_worked_4 25 rfl rfl)
theorem dR_worked_154 : decode cX9_worked 154 = .ok (.invokestatic 171, 3) := op_184 (rdSeg sd_06_cX9_worked_4 26 rfl rfl) (rdSeg sd_06_cX9_worked_4 27 rfl rfl) (rdSeg sd_06_cX9_worked_4 28 rfl rfl) rfl
theorem dR_worked_157 : decode cX9_worked 157 = .ok (.iastore, 1) := op_79 (rdSeg sd_06_cX9_worked_4 29 rfl rfl)
theorem dR_worked_158 : decode cX9_worked 158 = .ok (.iinc 4 1, 3) := op_132 (rdSeg sd_06_cX9_worked_4 30 rfl rfl) (rdSeg sd_06_cX9_worked_4 31 rfl rfl) (rdSeg sd_06_cX9_worked_5 0 rfl rfl) (by decide +kernel)
theorem dR_worked_161 : decode cX9_worked 161 = .ok (.goto (-147), 3) := op_167 (rdSeg sd_06_cX9_worked_5 1 rfl rfl) (rdSeg sd_06_cX9_worked_5 2 rfl rfl) (rdSeg sd_06_cX9_worked_5 3 rfl rfl) (by decide +kernel)
theorem dR_worked_164 : decode cX9_worked 164 = .ok (.aload_n 0, 1) := op_42 (rdSeg sd_06_cX9_worked_5 4 rfl rfl)
theorem dR_worked_165 : decode cX9_worked 165 = .ok (.getfield 28, 3) := op_180 (rdSeg sd_06_cX9_worked_5 5 rfl rfl) (rdSeg sd_06_cX9_worked_5 6 rfl rfl) (rdSeg sd_06_cX9_worked_5 7 rfl rfl) rfl
theorem dR_worked_168 : decode cX9_worked 168 = .ok (.iconst 0, 1) := op_3 (rdSeg sd_06_cX9_worked_5 8 rfl rfl)
theorem dR_worked_169 : decode cX9_worked 169 = .ok (.iaload, 1) := op_46 (rdSeg sd_06_cX9_worked_5 9 rfl rfl)
theorem dR_worked_170 : decode cX9_worked 170 = .ok (.ireturn, 1) := op_172 (rdSeg sd_06_cX9_worked_5 10 rfl rfl)
def sg_06_cX9_thousandths_0 : List UInt8 := [0x2a, 0x1b, 0x05, 0xb6, 0x00, 0x49, 0x9a, 0x00, 0x07, 0x03, 0xa7, 0x00, 0x15, 0x2a, 0x1b, 0x06, 0xb6, 0x00, 0x49, 0x11, 0x03, 0xe8, 0x2a, 0x1b, 0x05, 0xb6, 0x00, 0x49, 0xb8, 0x00, 0x63, 0xac]
set_option maxRecDepth 100000 in
theorem sd_06_cX9_thousandths_0 : cX9_thousandths.data.toList.drop 0 = sg_06_cX9_thousandths_0 := by decide +kernel
theorem dR_thousandths_0 : decode cX9_thousandths 0 = .ok (.aload_n 0, 1) := op_42 (rdSeg sd_06_cX9_thousandths_0 0 rfl rfl)
theorem dR_thousandths_1 : decode cX9_thousandths 1 = .ok (.iload_n 1, 1) := op_27 (rdSeg sd_06_cX9_thousandths_0 1 rfl rfl)
theorem dR_thousandths_2 : decode cX9_thousandths 2 = .ok (.iconst 2, 1) := op_5 (rdSeg sd_06_cX9_thousandths_0 2 rfl rfl)
theorem dR_thousandths_3 : decode cX9_thousandths 3 = .ok (.invokevirtual 73, 3) := op_182 (rdSeg sd_06_cX9_thousandths_0 3 rfl rfl) (rdSeg sd_06_cX9_thousandths_0 4 rfl rfl) (rdSeg sd_06_cX9_thousandths_0 5 rfl rfl) rfl
theorem dR_thousandths_6 : decode cX9_thousandths 6 = .ok (.ifCond .ne 7, 3) := op_154 (rdSeg sd_06_cX9_thousandths_0 6 rfl rfl) (rdSeg sd_06_cX9_thousandths_0 7 rfl rfl) (rdSeg sd_06_cX9_thousandths_0 8 rfl rfl) (by decide +kernel)
theorem dR_thousandths_9 : decode cX9_thousandths 9 = .ok (.iconst 0, 1) := op_3 (rdSeg sd_06_cX9_thousandths_0 9 rfl rfl)
theorem dR_thousandths_10 : decode cX9_thousandths 10 = .ok (.goto 21, 3) := op_167 (rdSeg sd_06_cX9_thousandths_0 10 rfl rfl) (rdSeg sd_06_cX9_thousandths_0 11 rfl rfl) (rdSeg sd_06_cX9_thousandths_0 12 rfl rfl) (by decide +kernel)
theorem dR_thousandths_13 : decode cX9_thousandths 13 = .ok (.aload_n 0, 1) := op_42 (rdSeg sd_06_cX9_thousandths_0 13 rfl rfl)
theorem dR_thousandths_14 : decode cX9_thousandths 14 = .ok (.iload_n 1, 1) := op_27 (rdSeg sd_06_cX9_thousandths_0 14 rfl rfl)
theorem dR_thousandths_15 : decode cX9_thousandths 15 = .ok (.iconst 3, 1) := op_6 (rdSeg sd_06_cX9_thousandths_0 15 rfl rfl)
theorem dR_thousandths_16 : decode cX9_thousandths 16 = .ok (.invokevirtual 73, 3) := op_182 (rdSeg sd_06_cX9_thousandths_0 16 rfl rfl) (rdSeg sd_06_cX9_thousandths_0 17 rfl rfl) (rdSeg sd_06_cX9_thousandths_0 18 rfl rfl) rfl
theorem dR_thousandths_19 : decode cX9_thousandths 19 = .ok (.sipush 1000, 3) := op_17 (rdSeg sd_06_cX9_thousandths_0 19 rfl rfl) (rdSeg sd_06_cX9_thousandths_0 20 rfl rfl) (rdSeg sd_06_cX9_thousandths_0 21 rfl rfl) (by decide +kernel)
theorem dR_thousandths_22 : decode cX9_thousandths 22 = .ok (.aload_n 0, 1) := op_42 (rdSeg sd_06_cX9_thousandths_0 22 rfl rfl)
theorem dR_thousandths_23 : decode cX9_thousandths 23 = .ok (.iload_n 1, 1) := op_27 (rdSeg sd_06_cX9_thousandths_0 23 rfl rfl)
theorem dR_thousandths_24 : decode cX9_thousandths 24 = .ok (.iconst 2, 1) := op_5 (rdSeg sd_06_cX9_thousandths_0 24 rfl rfl)
theorem dR_thousandths_25 : decode cX9_thousandths 25 = .ok (.invokevirtual 73, 3) := op_182 (rdSeg sd_06_cX9_thousandths_0 25 rfl rfl) (rdSeg sd_06_cX9_thousandths_0 26 rfl rfl) (rdSeg sd_06_cX9_thousandths_0 27 rfl rfl) rfl
theorem dR_thousandths_28 : decode cX9_thousandths 28 = .ok (.invokestatic 99, 3) := op_184 (rdSeg sd_06_cX9_thousandths_0 28 rfl rfl) (rdSeg sd_06_cX9_thousandths_0 29 rfl rfl) (rdSeg sd_06_cX9_thousandths_0 30 rfl rfl) rfl
theorem dR_thousandths_31 : decode cX9_thousandths 31 = .ok (.ireturn, 1) := op_172 (rdSeg sd_06_cX9_thousandths_0 31 rfl rfl)
def sg_06_cX9_rings_2 : List UInt8 := [0xb6, 0x00, 0x49, 0x4f, 0x2a, 0x03, 0xb6, 0x00, 0xb1, 0x03, 0x11, 0x27, 0x0f, 0xb8, 0x00, 0x5c, 0xac]
def sg_06_cX9_rings_1 : List UInt8 := 0x5c :: 0xac :: 0x2a :: 0xb4 :: 0x00 :: 0x19 :: 0x10 :: 0x67 :: 0x2a :: 0x1b :: 0x05 :: 0xb6 :: 0x00 :: 0x49 :: 0x4f :: 0x2a :: 0xb4 :: 0x00 :: 0x19 :: 0x10 :: 0x73 :: 0x1c :: 0x4f :: 0x2a :: 0xb4 :: 0x00 :: 0x19 :: 0x10 :: 0x6d :: 0x2a :: 0x1b :: 0x04 :: sg_06_cX9_rings_2
def sg_06_cX9_rings_0 : List UInt8 := 0x2a :: 0x1b :: 0xb6 :: 0x00 :: 0xae :: 0x3d :: 0x2a :: 0x03 :: 0xb6 :: 0x00 :: 0xa8 :: 0x9a :: 0x00 :: 0x17 :: 0x11 :: 0x03 :: 0xe8 :: 0x1c :: 0x64 :: 0x2a :: 0x1b :: 0x04 :: 0xb6 :: 0x00 :: 0x49 :: 0x60 :: 0x03 :: 0x11 :: 0x27 :: 0x0f :: 0xb8 :: 0x00 :: sg_06_cX9_rings_1
set_option maxRecDepth 100000 in
theorem sd_06_cX9_rings_0 : cX9_rings.data.toList.drop 0 = sg_06_cX9_rings_0 := by decide +kernel
theorem sd_06_cX9_rings_1 : cX9_rings.data.toList.drop 32 = sg_06_cX9_rings_1 := sg_next sd_06_cX9_rings_0 rfl
theorem sd_06_cX9_rings_2 : cX9_rings.data.toList.drop 64 = sg_06_cX9_rings_2 := sg_next sd_06_cX9_rings_1 rfl
theorem dR_rings_0 : decode cX9_rings 0 = .ok (.aload_n 0, 1) := op_42 (rdSeg sd_06_cX9_rings_0 0 rfl rfl)
theorem dR_rings_1 : decode cX9_rings 1 = .ok (.iload_n 1, 1) := op_27 (rdSeg sd_06_cX9_rings_0 1 rfl rfl)
theorem dR_rings_2 : decode cX9_rings 2 = .ok (.invokevirtual 174, 3) := op_182 (rdSeg sd_06_cX9_rings_0 2 rfl rfl) (rdSeg sd_06_cX9_rings_0 3 rfl rfl) (rdSeg sd_06_cX9_rings_0 4 rfl rfl) rfl
theorem dR_rings_5 : decode cX9_rings 5 = .ok (.istore_n 2, 1) := op_61 (rdSeg sd_06_cX9_rings_0 5 rfl rfl)
theorem dR_rings_6 : decode cX9_rings 6 = .ok (.aload_n 0, 1) := op_42 (rdSeg sd_06_cX9_rings_0 6 rfl rfl)
theorem dR_rings_7 : decode cX9_rings 7 = .ok (.iconst 0, 1) := op_3 (rdSeg sd_06_cX9_rings_0 7 rfl rfl)
theorem dR_rings_8 : decode cX9_rings 8 = .ok (.invokevirtual 168, 3) := op_182 (rdSeg sd_06_cX9_rings_0 8 rfl rfl) (rdSeg sd_06_cX9_rings_0 9 rfl rfl) (rdSeg sd_06_cX9_rings_0 10 rfl rfl) rfl
theorem dR_rings_11 : decode cX9_rings 11 = .ok (.ifCond .ne 23, 3) := op_154 (rdSeg sd_06_cX9_rings_0 11 rfl rfl) (rdSeg sd_06_cX9_rings_0 12 rfl rfl) (rdSeg sd_06_cX9_rings_0 13 rfl rfl) (by decide +kernel)
theorem dR_rings_14 : decode cX9_rings 14 = .ok (.sipush 1000, 3) := op_17 (rdSeg sd_06_cX9_rings_0 14 rfl rfl) (rdSeg sd_06_cX9_rings_0 15 rfl rfl) (rdSeg sd_06_cX9_rings_0 16 rfl rfl) (by decide +kernel)
theorem dR_rings_17 : decode cX9_rings 17 = .ok (.iload_n 2, 1) := op_28 (rdSeg sd_06_cX9_rings_0 17 rfl rfl)
theorem dR_rings_18 : decode cX9_rings 18 = .ok (.isub, 1) := op_100 (rdSeg sd_06_cX9_rings_0 18 rfl rfl)
theorem dR_rings_19 : decode cX9_rings 19 = .ok (.aload_n 0, 1) := op_42 (rdSeg sd_06_cX9_rings_0 19 rfl rfl)
theorem dR_rings_20 : decode cX9_rings 20 = .ok (.iload_n 1, 1) := op_27 (rdSeg sd_06_cX9_rings_0 20 rfl rfl)
theorem dR_rings_21 : decode cX9_rings 21 = .ok (.iconst 1, 1) := op_4 (rdSeg sd_06_cX9_rings_0 21 rfl rfl)
theorem dR_rings_22 : decode cX9_rings 22 = .ok (.invokevirtual 73, 3) := op_182 (rdSeg sd_06_cX9_rings_0 22 rfl rfl) (rdSeg sd_06_cX9_rings_0 23 rfl rfl) (rdSeg sd_06_cX9_rings_0 24 rfl rfl) rfl
theorem dR_rings_25 : decode cX9_rings 25 = .ok (.iadd, 1) := op_96 (rdSeg sd_06_cX9_rings_0 25 rfl rfl)
theorem dR_rings_26 : decode cX9_rings 26 = .ok (.iconst 0, 1) := op_3 (rdSeg sd_06_cX9_rings_0 26 rfl rfl)
theorem dR_rings_27 : decode cX9_rings 27 = .ok (.sipush 9999, 3) := op_17 (rdSeg sd_06_cX9_rings_0 27 rfl rfl) (rdSeg sd_06_cX9_rings_0 28 rfl rfl) (rdSeg sd_06_cX9_rings_0 29 rfl rfl) (by decide +kernel)
theorem dR_rings_30 : decode cX9_rings 30 = .ok (.invokestatic 92, 3) := op_184 (rdSeg sd_06_cX9_rings_0 30 rfl rfl) (rdSeg sd_06_cX9_rings_0 31 rfl rfl) (rdSeg sd_06_cX9_rings_1 0 rfl rfl) rfl
theorem dR_rings_33 : decode cX9_rings 33 = .ok (.ireturn, 1) := op_172 (rdSeg sd_06_cX9_rings_1 1 rfl rfl)
theorem dR_rings_34 : decode cX9_rings 34 = .ok (.aload_n 0, 1) := op_42 (rdSeg sd_06_cX9_rings_1 2 rfl rfl)
theorem dR_rings_35 : decode cX9_rings 35 = .ok (.getfield 25, 3) := op_180 (rdSeg sd_06_cX9_rings_1 3 rfl rfl) (rdSeg sd_06_cX9_rings_1 4 rfl rfl) (rdSeg sd_06_cX9_rings_1 5 rfl rfl) rfl
theorem dR_rings_38 : decode cX9_rings 38 = .ok (.bipush 103, 2) := op_16 (rdSeg sd_06_cX9_rings_1 6 rfl rfl) (rdSeg sd_06_cX9_rings_1 7 rfl rfl) (by decide +kernel)
theorem dR_rings_40 : decode cX9_rings 40 = .ok (.aload_n 0, 1) := op_42 (rdSeg sd_06_cX9_rings_1 8 rfl rfl)
theorem dR_rings_41 : decode cX9_rings 41 = .ok (.iload_n 1, 1) := op_27 (rdSeg sd_06_cX9_rings_1 9 rfl rfl)
theorem dR_rings_42 : decode cX9_rings 42 = .ok (.iconst 2, 1) := op_5 (rdSeg sd_06_cX9_rings_1 10 rfl rfl)
theorem dR_rings_43 : decode cX9_rings 43 = .ok (.invokevirtual 73, 3) := op_182 (rdSeg sd_06_cX9_rings_1 11 rfl rfl) (rdSeg sd_06_cX9_rings_1 12 rfl rfl) (rdSeg sd_06_cX9_rings_1 13 rfl rfl) rfl
theorem dR_rings_46 : decode cX9_rings 46 = .ok (.iastore, 1) := op_79 (rdSeg sd_06_cX9_rings_1 14 rfl rfl)
theorem dR_rings_47 : decode cX9_rings 47 = .ok (.aload_n 0, 1) := op_42 (rdSeg sd_06_cX9_rings_1 15 rfl rfl)
theorem dR_rings_48 : decode cX9_rings 48 = .ok (.getfield 25, 3) := op_180 (rdSeg sd_06_cX9_rings_1 16 rfl rfl) (rdSeg sd_06_cX9_rings_1 17 rfl rfl) (rdSeg sd_06_cX9_rings_1 18 rfl rfl) rfl
theorem dR_rings_51 : decode cX9_rings 51 = .ok (.bipush 115, 2) := op_16 (rdSeg sd_06_cX9_rings_1 19 rfl rfl) (rdSeg sd_06_cX9_rings_1 20 rfl rfl) (by decide +kernel)
theorem dR_rings_53 : decode cX9_rings 53 = .ok (.iload_n 2, 1) := op_28 (rdSeg sd_06_cX9_rings_1 21 rfl rfl)
theorem dR_rings_54 : decode cX9_rings 54 = .ok (.iastore, 1) := op_79 (rdSeg sd_06_cX9_rings_1 22 rfl rfl)
theorem dR_rings_55 : decode cX9_rings 55 = .ok (.aload_n 0, 1) := op_42 (rdSeg sd_06_cX9_rings_1 23 rfl rfl)
theorem dR_rings_56 : decode cX9_rings 56 = .ok (.getfield 25, 3) := op_180 (rdSeg sd_06_cX9_rings_1 24 rfl rfl) (rdSeg sd_06_cX9_rings_1 25 rfl rfl) (rdSeg sd_06_cX9_rings_1 26 rfl rfl) rfl
theorem dR_rings_59 : decode cX9_rings 59 = .ok (.bipush 109, 2) := op_16 (rdSeg sd_06_cX9_rings_1 27 rfl rfl) (rdSeg sd_06_cX9_rings_1 28 rfl rfl) (by decide +kernel)
theorem dR_rings_61 : decode cX9_rings 61 = .ok (.aload_n 0, 1) := op_42 (rdSeg sd_06_cX9_rings_1 29 rfl rfl)
theorem dR_rings_62 : decode cX9_rings 62 = .ok (.iload_n 1, 1) := op_27 (rdSeg sd_06_cX9_rings_1 30 rfl rfl)
theorem dR_rings_63 : decode cX9_rings 63 = .ok (.iconst 1, 1) := op_4 (rdSeg sd_06_cX9_rings_1 31 rfl rfl)
theorem dR_rings_64 : decode cX9_rings 64 = .ok (.invokevirtual 73, 3) := op_182 (rdSeg sd_06_cX9_rings_2 0 rfl rfl) (rdSeg sd_06_cX9_rings_2 1 rfl rfl) (rdSeg sd_06_cX9_rings_2 2 rfl rfl) rfl
theorem dR_rings_67 : decode cX9_rings 67 = .ok (.iastore, 1) := op_79 (rdSeg sd_06_cX9_rings_2 3 rfl rfl)
theorem dR_rings_68 : decode cX9_rings 68 = .ok (.aload_n 0, 1) := op_42 (rdSeg sd_06_cX9_rings_2 4 rfl rfl)
theorem dR_rings_69 : decode cX9_rings 69 = .ok (.iconst 0, 1) := op_3 (rdSeg sd_06_cX9_rings_2 5 rfl rfl)
theorem dR_rings_70 : decode cX9_rings 70 = .ok (.invokevirtual 177, 3) := op_182 (rdSeg sd_06_cX9_rings_2 6 rfl rfl) (rdSeg sd_06_cX9_rings_2 7 rfl rfl) (rdSeg sd_06_cX9_rings_2 8 rfl rfl) rfl
theorem dR_rings_73 : decode cX9_rings 73 = .ok (.iconst 0, 1) := op_3 (rdSeg sd_06_cX9_rings_2 9 rfl rfl)
theorem dR_rings_74 : decode cX9_rings 74 = .ok (.sipush 9999, 3) := op_17 (rdSeg sd_06_cX9_rings_2 10 rfl rfl) (rdSeg sd_06_cX9_rings_2 11 rfl rfl) (rdSeg sd_06_cX9_rings_2 12 rfl rfl) (by decide +kernel)
theorem dR_rings_77 : decode cX9_rings 77 = .ok (.invokestatic 92, 3) := op_184 (rdSeg sd_06_cX9_rings_2 13 rfl rfl) (rdSeg sd_06_cX9_rings_2 14 rfl rfl) (rdSeg sd_06_cX9_rings_2 15 rfl rfl) rfl
theorem dR_rings_80 : decode cX9_rings 80 = .ok (.ireturn, 1) := op_172 (rdSeg sd_06_cX9_rings_2 16 rfl rfl)
def sg_06_cX9_tone_3 : List UInt8 := [0xb6, 0x00, 0x49, 0x11, 0x03, 0xe8, 0x6c, 0x60, 0xac, 0x03, 0x1c, 0x05, 0x1d, 0x68, 0x64, 0x64, 0xac, 0x1c, 0xac]
def sg_06_cX9_tone_2 : List UInt8 := 0xb4 :: 0xac :: 0x1c :: 0x05 :: 0x6c :: 0x1d :: 0x60 :: 0xac :: 0x1c :: 0x05 :: 0x1d :: 0x68 :: 0x64 :: 0xac :: 0x2a :: 0x1b :: 0xb6 :: 0x00 :: 0xb4 :: 0x05 :: 0x1d :: 0x68 :: 0x60 :: 0xac :: 0x1c :: 0x05 :: 0x6c :: 0x1d :: 0x60 :: 0x2a :: 0x1b :: 0x05 :: sg_06_cX9_tone_3
def sg_06_cX9_tone_1 : List UInt8 := 0x00 :: 0x00 :: 0x00 :: 0x06 :: 0x00 :: 0x00 :: 0x00 :: 0x25 :: 0x00 :: 0x00 :: 0x00 :: 0x2b :: 0x00 :: 0x00 :: 0x00 :: 0x31 :: 0x00 :: 0x00 :: 0x00 :: 0x37 :: 0x00 :: 0x00 :: 0x00 :: 0x41 :: 0x00 :: 0x00 :: 0x00 :: 0x52 :: 0x2a :: 0x1b :: 0xb6 :: 0x00 :: sg_06_cX9_tone_2
def sg_06_cX9_tone_0 : List UInt8 := 0x11 :: 0x03 :: 0xe8 :: 0x2a :: 0x1b :: 0xb6 :: 0x00 :: 0xae :: 0x64 :: 0x3d :: 0x2a :: 0x1b :: 0x04 :: 0xb6 :: 0x00 :: 0x49 :: 0x3e :: 0x2a :: 0x1b :: 0x03 :: 0xb6 :: 0x00 :: 0x49 :: 0xaa :: 0x00 :: 0x00 :: 0x00 :: 0x5a :: 0x00 :: 0x00 :: 0x00 :: 0x01 :: sg_06_cX9_tone_1
set_option maxRecDepth 100000 in
theorem sd_06_cX9_tone_0 : cX9_tone.data.toList.drop 0 = sg_06_cX9_tone_0 := by decide +kernel
theorem sd_06_cX9_tone_1 : cX9_tone.data.toList.drop 32 = sg_06_cX9_tone_1 := sg_next sd_06_cX9_tone_0 rfl
theorem sd_06_cX9_tone_2 : cX9_tone.data.toList.drop 64 = sg_06_cX9_tone_2 := sg_next sd_06_cX9_tone_1 rfl
theorem sd_06_cX9_tone_3 : cX9_tone.data.toList.drop 96 = sg_06_cX9_tone_3 := sg_next sd_06_cX9_tone_2 rfl
theorem dR_tone_0 : decode cX9_tone 0 = .ok (.sipush 1000, 3) := op_17 (rdSeg sd_06_cX9_tone_0 0 rfl rfl) (rdSeg sd_06_cX9_tone_0 1 rfl rfl) (rdSeg sd_06_cX9_tone_0 2 rfl rfl) (by decide +kernel)
theorem dR_tone_3 : decode cX9_tone 3 = .ok (.aload_n 0, 1) := op_42 (rdSeg sd_06_cX9_tone_0 3 rfl rfl)
theorem dR_tone_4 : decode cX9_tone 4 = .ok (.iload_n 1, 1) := op_27 (rdSeg sd_06_cX9_tone_0 4 rfl rfl)
theorem dR_tone_5 : decode cX9_tone 5 = .ok (.invokevirtual 174, 3) := op_182 (rdSeg sd_06_cX9_tone_0 5 rfl rfl) (rdSeg sd_06_cX9_tone_0 6 rfl rfl) (rdSeg sd_06_cX9_tone_0 7 rfl rfl) rfl
theorem dR_tone_8 : decode cX9_tone 8 = .ok (.isub, 1) := op_100 (rdSeg sd_06_cX9_tone_0 8 rfl rfl)
theorem dR_tone_9 : decode cX9_tone 9 = .ok (.istore_n 2, 1) := op_61 (rdSeg sd_06_cX9_tone_0 9 rfl rfl)
theorem dR_tone_10 : decode cX9_tone 10 = .ok (.aload_n 0, 1) := op_42 (rdSeg sd_06_cX9_tone_0 10 rfl rfl)
theorem dR_tone_11 : decode cX9_tone 11 = .ok (.iload_n 1, 1) := op_27 (rdSeg sd_06_cX9_tone_0 11 rfl rfl)
theorem dR_tone_12 : decode cX9_tone 12 = .ok (.iconst 1, 1) := op_4 (rdSeg sd_06_cX9_tone_0 12 rfl rfl)
theorem dR_tone_13 : decode cX9_tone 13 = .ok (.invokevirtual 73, 3) := op_182 (rdSeg sd_06_cX9_tone_0 13 rfl rfl) (rdSeg sd_06_cX9_tone_0 14 rfl rfl) (rdSeg sd_06_cX9_tone_0 15 rfl rfl) rfl
theorem dR_tone_16 : decode cX9_tone 16 = .ok (.istore_n 3, 1) := op_62 (rdSeg sd_06_cX9_tone_0 16 rfl rfl)
theorem dR_tone_17 : decode cX9_tone 17 = .ok (.aload_n 0, 1) := op_42 (rdSeg sd_06_cX9_tone_0 17 rfl rfl)
theorem dR_tone_18 : decode cX9_tone 18 = .ok (.iload_n 1, 1) := op_27 (rdSeg sd_06_cX9_tone_0 18 rfl rfl)
theorem dR_tone_19 : decode cX9_tone 19 = .ok (.iconst 0, 1) := op_3 (rdSeg sd_06_cX9_tone_0 19 rfl rfl)
theorem dR_tone_20 : decode cX9_tone 20 = .ok (.invokevirtual 73, 3) := op_182 (rdSeg sd_06_cX9_tone_0 20 rfl rfl) (rdSeg sd_06_cX9_tone_0 21 rfl rfl) (rdSeg sd_06_cX9_tone_0 22 rfl rfl) rfl
theorem dR_tone_23 : decode cX9_tone 23 = .ok (.tableswitch 90 1 6 #[37, 43, 49, 55, 65, 82], 37) := by decide +kernel
theorem dR_tone_60 : decode cX9_tone 60 = .ok (.aload_n 0, 1) := op_42 (rdSeg sd_06_cX9_tone_1 28 rfl rfl)
theorem dR_tone_61 : decode cX9_tone 61 = .ok (.iload_n 1, 1) := op_27 (rdSeg sd_06_cX9_tone_1 29 rfl rfl)
theorem dR_tone_62 : decode cX9_tone 62 = .ok (.invokevirtual 180, 3) := op_182 (rdSeg sd_06_cX9_tone_1 30 rfl rfl) (rdSeg sd_06_cX9_tone_1 31 rfl rfl) (rdSeg sd_06_cX9_tone_2 0 rfl rfl) rfl
theorem dR_tone_65 : decode cX9_tone 65 = .ok (.ireturn, 1) := op_172 (rdSeg sd_06_cX9_tone_2 1 rfl rfl)
theorem dR_tone_66 : decode cX9_tone 66 = .ok (.iload_n 2, 1) := op_28 (rdSeg sd_06_cX9_tone_2 2 rfl rfl)
theorem dR_tone_67 : decode cX9_tone 67 = .ok (.iconst 2, 1) := op_5 (rdSeg sd_06_cX9_tone_2 3 rfl rfl)
theorem dR_tone_68 : decode cX9_tone 68 = .ok (.idiv, 1) := op_108 (rdSeg sd_06_cX9_tone_2 4 rfl rfl)
theorem dR_tone_69 : decode cX9_tone 69 = .ok (.iload_n 3, 1) := op_29 (rdSeg sd_06_cX9_tone_2 5 rfl rfl)
theorem dR_tone_70 : decode cX9_tone 70 = .ok (.iadd, 1) := op_96 (rdSeg sd_06_cX9_tone_2 6 rfl rfl)
theorem dR_tone_71 : decode cX9_tone 71 = .ok (.ireturn, 1) := op_172 (rdSeg sd_06_cX9_tone_2 7 rfl rfl)
theorem dR_tone_72 : decode cX9_tone 72 = .ok (.iload_n 2, 1) := op_28 (rdSeg sd_06_cX9_tone_2 8 rfl rfl)
theorem dR_tone_73 : decode cX9_tone 73 = .ok (.iconst 2, 1) := op_5 (rdSeg sd_06_cX9_tone_2 9 rfl rfl)
theorem dR_tone_74 : decode cX9_tone 74 = .ok (.iload_n 3, 1) := op_29 (rdSeg sd_06_cX9_tone_2 10 rfl rfl)
theorem dR_tone_75 : decode cX9_tone 75 = .ok (.imul, 1) := op_104 (rdSeg sd_06_cX9_tone_2 11 rfl rfl)
theorem dR_tone_76 : decode cX9_tone 76 = .ok (.isub, 1) := op_100 (rdSeg sd_06_cX9_tone_2 12 rfl rfl)
theorem dR_tone_77 : decode cX9_tone 77 = .ok (.ireturn, 1) := op_172 (rdSeg sd_06_cX9_tone_2 13 rfl rfl)
theorem dR_tone_78 : decode cX9_tone 78 = .ok (.aload_n 0, 1) := op_42 (rdSeg sd_06_cX9_tone_2 14 rfl rfl)
theorem dR_tone_79 : decode cX9_tone 79 = .ok (.iload_n 1, 1) := op_27 (rdSeg sd_06_cX9_tone_2 15 rfl rfl)
theorem dR_tone_80 : decode cX9_tone 80 = .ok (.invokevirtual 180, 3) := op_182 (rdSeg sd_06_cX9_tone_2 16 rfl rfl) (rdSeg sd_06_cX9_tone_2 17 rfl rfl) (rdSeg sd_06_cX9_tone_2 18 rfl rfl) rfl
theorem dR_tone_83 : decode cX9_tone 83 = .ok (.iconst 2, 1) := op_5 (rdSeg sd_06_cX9_tone_2 19 rfl rfl)
theorem dR_tone_84 : decode cX9_tone 84 = .ok (.iload_n 3, 1) := op_29 (rdSeg sd_06_cX9_tone_2 20 rfl rfl)
theorem dR_tone_85 : decode cX9_tone 85 = .ok (.imul, 1) := op_104 (rdSeg sd_06_cX9_tone_2 21 rfl rfl)
theorem dR_tone_86 : decode cX9_tone 86 = .ok (.iadd, 1) := op_96 (rdSeg sd_06_cX9_tone_2 22 rfl rfl)
theorem dR_tone_87 : decode cX9_tone 87 = .ok (.ireturn, 1) := op_172 (rdSeg sd_06_cX9_tone_2 23 rfl rfl)
theorem dR_tone_88 : decode cX9_tone 88 = .ok (.iload_n 2, 1) := op_28 (rdSeg sd_06_cX9_tone_2 24 rfl rfl)
theorem dR_tone_89 : decode cX9_tone 89 = .ok (.iconst 2, 1) := op_5 (rdSeg sd_06_cX9_tone_2 25 rfl rfl)
theorem dR_tone_90 : decode cX9_tone 90 = .ok (.idiv, 1) := op_108 (rdSeg sd_06_cX9_tone_2 26 rfl rfl)
theorem dR_tone_91 : decode cX9_tone 91 = .ok (.iload_n 3, 1) := op_29 (rdSeg sd_06_cX9_tone_2 27 rfl rfl)
theorem dR_tone_92 : decode cX9_tone 92 = .ok (.iadd, 1) := op_96 (rdSeg sd_06_cX9_tone_2 28 rfl rfl)
theorem dR_tone_93 : decode cX9_tone 93 = .ok (.aload_n 0, 1) := op_42 (rdSeg sd_06_cX9_tone_2 29 rfl rfl)
theorem dR_tone_94 : decode cX9_tone 94 = .ok (.iload_n 1, 1) := op_27 (rdSeg sd_06_cX9_tone_2 30 rfl rfl)
theorem dR_tone_95 : decode cX9_tone 95 = .ok (.iconst 2, 1) := op_5 (rdSeg sd_06_cX9_tone_2 31 rfl rfl)
theorem dR_tone_96 : decode cX9_tone 96 = .ok (.invokevirtual 73, 3) := op_182 (rdSeg sd_06_cX9_tone_3 0 rfl rfl) (rdSeg sd_06_cX9_tone_3 1 rfl rfl) (rdSeg sd_06_cX9_tone_3 2 rfl rfl) rfl
theorem dR_tone_99 : decode cX9_tone 99 = .ok (.sipush 1000, 3) := op_17 (rdSeg sd_06_cX9_tone_3 3 rfl rfl) (rdSeg sd_06_cX9_tone_3 4 rfl rfl) (rdSeg sd_06_cX9_tone_3 5 rfl rfl) (by decide +kernel)
theorem dR_tone_102 : decode cX9_tone 102 = .ok (.idiv, 1) := op_108 (rdSeg sd_06_cX9_tone_3 6 rfl rfl)
theorem dR_tone_103 : decode cX9_tone 103 = .ok (.iadd, 1) := op_96 (rdSeg sd_06_cX9_tone_3 7 rfl rfl)
theorem dR_tone_104 : decode cX9_tone 104 = .ok (.ireturn, 1) := op_172 (rdSeg sd_06_cX9_tone_3 8 rfl rfl)
theorem dR_tone_105 : decode cX9_tone 105 = .ok (.iconst 0, 1) := op_3 (rdSeg sd_06_cX9_tone_3 9 rfl rfl)
theorem dR_tone_106 : decode cX9_tone 106 = .ok (.iload_n 2, 1) := op_28 (rdSeg sd_06_cX9_tone_3 10 rfl rfl)
theorem dR_tone_107 : decode cX9_tone 107 = .ok (.iconst 2, 1) := op_5 (rdSeg sd_06_cX9_tone_3 11 rfl rfl)
theorem dR_tone_108 : decode cX9_tone 108 = .ok (.iload_n 3, 1) := op_29 (rdSeg sd_06_cX9_tone_3 12 rfl rfl)
theorem dR_tone_109 : decode cX9_tone 109 = .ok (.imul, 1) := op_104 (rdSeg sd_06_cX9_tone_3 13 rfl rfl)
theorem dR_tone_110 : decode cX9_tone 110 = .ok (.isub, 1) := op_100 (rdSeg sd_06_cX9_tone_3 14 rfl rfl)
theorem dR_tone_111 : decode cX9_tone 111 = .ok (.isub, 1) := op_100 (rdSeg sd_06_cX9_tone_3 15 rfl rfl)
theorem dR_tone_112 : decode cX9_tone 112 = .ok (.ireturn, 1) := op_172 (rdSeg sd_06_cX9_tone_3 16 rfl rfl)
theorem dR_tone_113 : decode cX9_tone 113 = .ok (.iload_n 2, 1) := op_28 (rdSeg sd_06_cX9_tone_3 17 rfl rfl)
theorem dR_tone_114 : decode cX9_tone 114 = .ok (.ireturn, 1) := op_172 (rdSeg sd_06_cX9_tone_3 18 rfl rfl)
def sg_06_cX9_isClaim_0 : List UInt8 := [0x1b, 0x03, 0x2a, 0xb4, 0x00, 0x07, 0x05, 0x2e, 0x04, 0x64, 0xb8, 0x00, 0x35, 0xac]
set_option maxRecDepth 100000 in
theorem sd_06_cX9_isClaim_0 : cX9_isClaim.data.toList.drop 0 = sg_06_cX9_isClaim_0 := by decide +kernel
theorem dR_isClaim_0 : decode cX9_isClaim 0 = .ok (.iload_n 1, 1) := op_27 (rdSeg sd_06_cX9_isClaim_0 0 rfl rfl)
theorem dR_isClaim_1 : decode cX9_isClaim 1 = .ok (.iconst 0, 1) := op_3 (rdSeg sd_06_cX9_isClaim_0 1 rfl rfl)
theorem dR_isClaim_2 : decode cX9_isClaim 2 = .ok (.aload_n 0, 1) := op_42 (rdSeg sd_06_cX9_isClaim_0 2 rfl rfl)
theorem dR_isClaim_3 : decode cX9_isClaim 3 = .ok (.getfield 7, 3) := op_180 (rdSeg sd_06_cX9_isClaim_0 3 rfl rfl) (rdSeg sd_06_cX9_isClaim_0 4 rfl rfl) (rdSeg sd_06_cX9_isClaim_0 5 rfl rfl) rfl
theorem dR_isClaim_6 : decode cX9_isClaim 6 = .ok (.iconst 2, 1) := op_5 (rdSeg sd_06_cX9_isClaim_0 6 rfl rfl)
theorem dR_isClaim_7 : decode cX9_isClaim 7 = .ok (.iaload, 1) := op_46 (rdSeg sd_06_cX9_isClaim_0 7 rfl rfl)
theorem dR_isClaim_8 : decode cX9_isClaim 8 = .ok (.iconst 1, 1) := op_4 (rdSeg sd_06_cX9_isClaim_0 8 rfl rfl)
theorem dR_isClaim_9 : decode cX9_isClaim 9 = .ok (.isub, 1) := op_100 (rdSeg sd_06_cX9_isClaim_0 9 rfl rfl)
theorem dR_isClaim_10 : decode cX9_isClaim 10 = .ok (.invokestatic 53, 3) := op_184 (rdSeg sd_06_cX9_isClaim_0 10 rfl rfl) (rdSeg sd_06_cX9_isClaim_0 11 rfl rfl) (rdSeg sd_06_cX9_isClaim_0 12 rfl rfl) rfl
theorem dR_isClaim_13 : decode cX9_isClaim 13 = .ok (.ireturn, 1) := op_172 (rdSeg sd_06_cX9_isClaim_0 13 rfl rfl)
def sg_06_cX9_of_0 : List UInt8 := [0x2a, 0xb4, 0x00, 0x07, 0x11, 0x00, 0x8c, 0x05, 0x1b, 0x68, 0x60, 0x1c, 0x60, 0x2e, 0xac]
set_option maxRecDepth 100000 in
theorem sd_06_cX9_of_0 : cX9_of.data.toList.drop 0 = sg_06_cX9_of_0 := by decide +kernel
theorem dR_of_0 : decode cX9_of 0 = .ok (.aload_n 0, 1) := op_42 (rdSeg sd_06_cX9_of_0 0 rfl rfl)
theorem dR_of_1 : decode cX9_of 1 = .ok (.getfield 7, 3) := op_180 (rdSeg sd_06_cX9_of_0 1 rfl rfl) (rdSeg sd_06_cX9_of_0 2 rfl rfl) (rdSeg sd_06_cX9_of_0 3 rfl rfl) rfl
theorem dR_of_4 : decode cX9_of 4 = .ok (.sipush 140, 3) := op_17 (rdSeg sd_06_cX9_of_0 4 rfl rfl) (rdSeg sd_06_cX9_of_0 5 rfl rfl) (rdSeg sd_06_cX9_of_0 6 rfl rfl) (by decide +kernel)
theorem dR_of_7 : decode cX9_of 7 = .ok (.iconst 2, 1) := op_5 (rdSeg sd_06_cX9_of_0 7 rfl rfl)
theorem dR_of_8 : decode cX9_of 8 = .ok (.iload_n 1, 1) := op_27 (rdSeg sd_06_cX9_of_0 8 rfl rfl)
theorem dR_of_9 : decode cX9_of 9 = .ok (.imul, 1) := op_104 (rdSeg sd_06_cX9_of_0 9 rfl rfl)
theorem dR_of_10 : decode cX9_of 10 = .ok (.iadd, 1) := op_96 (rdSeg sd_06_cX9_of_0 10 rfl rfl)
theorem dR_of_11 : decode cX9_of 11 = .ok (.iload_n 2, 1) := op_28 (rdSeg sd_06_cX9_of_0 11 rfl rfl)
theorem dR_of_12 : decode cX9_of 12 = .ok (.iadd, 1) := op_96 (rdSeg sd_06_cX9_of_0 12 rfl rfl)
theorem dR_of_13 : decode cX9_of 13 = .ok (.iaload, 1) := op_46 (rdSeg sd_06_cX9_of_0 13 rfl rfl)
theorem dR_of_14 : decode cX9_of 14 = .ok (.ireturn, 1) := op_172 (rdSeg sd_06_cX9_of_0 14 rfl rfl)
def sg_06_cX9_manyOn_1 : List UInt8 := [0x84, 0x03, 0x01, 0xa7, 0xff, 0xe1, 0x1c, 0xac]
def sg_06_cX9_manyOn_0 : List UInt8 := 0x03 :: 0x3d :: 0x03 :: 0x3e :: 0x1d :: 0x2a :: 0xb4 :: 0x00 :: 0x07 :: 0x05 :: 0x2e :: 0xa2 :: 0x00 :: 0x1b :: 0x1c :: 0x2a :: 0x1d :: 0x03 :: 0xb6 :: 0x00 :: 0xb7 :: 0x1b :: 0xa0 :: 0x00 :: 0x07 :: 0x04 :: 0xa7 :: 0x00 :: 0x04 :: 0x03 :: 0x60 :: 0x3d :: sg_06_cX9_manyOn_1
set_option maxRecDepth 100000 in
theorem sd_06_cX9_manyOn_0 : cX9_manyOn.data.toList.drop 0 = sg_06_cX9_manyOn_0 := by decide +kernel
theorem sd_06_cX9_manyOn_1 : cX9_manyOn.data.toList.drop 32 = sg_06_cX9_manyOn_1 := sg_next sd_06_cX9_manyOn_0 rfl
theorem dR_manyOn_0 : decode cX9_manyOn 0 = .ok (.iconst 0, 1) := op_3 (rdSeg sd_06_cX9_manyOn_0 0 rfl rfl)
theorem dR_manyOn_1 : decode cX9_manyOn 1 = .ok (.istore_n 2, 1) := op_61 (rdSeg sd_06_cX9_manyOn_0 1 rfl rfl)
theorem dR_manyOn_2 : decode cX9_manyOn 2 = .ok (.iconst 0, 1) := op_3 (rdSeg sd_06_cX9_manyOn_0 2 rfl rfl)
theorem dR_manyOn_3 : decode cX9_manyOn 3 = .ok (.istore_n 3, 1) := op_62 (rdSeg sd_06_cX9_manyOn_0 3 rfl rfl)
theorem dR_manyOn_4 : decode cX9_manyOn 4 = .ok (.iload_n 3, 1) := op_29 (rdSeg sd_06_cX9_manyOn_0 4 rfl rfl)
theorem dR_manyOn_5 : decode cX9_manyOn 5 = .ok (.aload_n 0, 1) := op_42 (rdSeg sd_06_cX9_manyOn_0 5 rfl rfl)
theorem dR_manyOn_6 : decode cX9_manyOn 6 = .ok (.getfield 7, 3) := op_180 (rdSeg sd_06_cX9_manyOn_0 6 rfl rfl) (rdSeg sd_06_cX9_manyOn_0 7 rfl rfl) (rdSeg sd_06_cX9_manyOn_0 8 rfl rfl) rfl
theorem dR_manyOn_9 : decode cX9_manyOn 9 = .ok (.iconst 2, 1) := op_5 (rdSeg sd_06_cX9_manyOn_0 9 rfl rfl)
theorem dR_manyOn_10 : decode cX9_manyOn 10 = .ok (.iaload, 1) := op_46 (rdSeg sd_06_cX9_manyOn_0 10 rfl rfl)
theorem dR_manyOn_11 : decode cX9_manyOn 11 = .ok (.if_icmp .ge 27, 3) := op_162 (rdSeg sd_06_cX9_manyOn_0 11 rfl rfl) (rdSeg sd_06_cX9_manyOn_0 12 rfl rfl) (rdSeg sd_06_cX9_manyOn_0 13 rfl rfl) (by decide +kernel)
theorem dR_manyOn_14 : decode cX9_manyOn 14 = .ok (.iload_n 2, 1) := op_28 (rdSeg sd_06_cX9_manyOn_0 14 rfl rfl)
theorem dR_manyOn_15 : decode cX9_manyOn 15 = .ok (.aload_n 0, 1) := op_42 (rdSeg sd_06_cX9_manyOn_0 15 rfl rfl)
theorem dR_manyOn_16 : decode cX9_manyOn 16 = .ok (.iload_n 3, 1) := op_29 (rdSeg sd_06_cX9_manyOn_0 16 rfl rfl)
theorem dR_manyOn_17 : decode cX9_manyOn 17 = .ok (.iconst 0, 1) := op_3 (rdSeg sd_06_cX9_manyOn_0 17 rfl rfl)
theorem dR_manyOn_18 : decode cX9_manyOn 18 = .ok (.invokevirtual 183, 3) := op_182 (rdSeg sd_06_cX9_manyOn_0 18 rfl rfl) (rdSeg sd_06_cX9_manyOn_0 19 rfl rfl) (rdSeg sd_06_cX9_manyOn_0 20 rfl rfl) rfl
theorem dR_manyOn_21 : decode cX9_manyOn 21 = .ok (.iload_n 1, 1) := op_27 (rdSeg sd_06_cX9_manyOn_0 21 rfl rfl)
theorem dR_manyOn_22 : decode cX9_manyOn 22 = .ok (.if_icmp .ne 7, 3) := op_160 (rdSeg sd_06_cX9_manyOn_0 22 rfl rfl) (rdSeg sd_06_cX9_manyOn_0 23 rfl rfl) (rdSeg sd_06_cX9_manyOn_0 24 rfl rfl) (by decide +kernel)
theorem dR_manyOn_25 : decode cX9_manyOn 25 = .ok (.iconst 1, 1) := op_4 (rdSeg sd_06_cX9_manyOn_0 25 rfl rfl)
theorem dR_manyOn_26 : decode cX9_manyOn 26 = .ok (.goto 4, 3) := op_167 (rdSeg sd_06_cX9_manyOn_0 26 rfl rfl) (rdSeg sd_06_cX9_manyOn_0 27 rfl rfl) (rdSeg sd_06_cX9_manyOn_0 28 rfl rfl) (by decide +kernel)
theorem dR_manyOn_29 : decode cX9_manyOn 29 = .ok (.iconst 0, 1) := op_3 (rdSeg sd_06_cX9_manyOn_0 29 rfl rfl)
theorem dR_manyOn_30 : decode cX9_manyOn 30 = .ok (.iadd, 1) := op_96 (rdSeg sd_06_cX9_manyOn_0 30 rfl rfl)
theorem dR_manyOn_31 : decode cX9_manyOn 31 = .ok (.istore_n 2, 1) := op_61 (rdSeg sd_06_cX9_manyOn_0 31 rfl rfl)
theorem dR_manyOn_32 : decode cX9_manyOn 32 = .ok (.iinc 3 1, 3) := op_132 (rdSeg sd_06_cX9_manyOn_1 0 rfl rfl) (rdSeg sd_06_cX9_manyOn_1 1 rfl rfl) (rdSeg sd_06_cX9_manyOn_1 2 rfl rfl) (by decide +kernel)
theorem dR_manyOn_35 : decode cX9_manyOn 35 = .ok (.goto (-31), 3) := op_167 (rdSeg sd_06_cX9_manyOn_1 3 rfl rfl) (rdSeg sd_06_cX9_manyOn_1 4 rfl rfl) (rdSeg sd_06_cX9_manyOn_1 5 rfl rfl) (by decide +kernel)
theorem dR_manyOn_38 : decode cX9_manyOn 38 = .ok (.iload_n 2, 1) := op_28 (rdSeg sd_06_cX9_manyOn_1 6 rfl rfl)
theorem dR_manyOn_39 : decode cX9_manyOn 39 = .ok (.ireturn, 1) := op_172 (rdSeg sd_06_cX9_manyOn_1 7 rfl rfl)
def sg_06_cX9_counts_2 : List UInt8 := [0xb1, 0x03, 0x1c, 0xb8, 0x00, 0x5c, 0xac]
def sg_06_cX9_counts_1 : List UInt8 := 0x2a :: 0x1b :: 0x03 :: 0xb6 :: 0x00 :: 0xb7 :: 0x05 :: 0xb6 :: 0x00 :: 0x49 :: 0x4f :: 0x2a :: 0xb4 :: 0x00 :: 0x19 :: 0x10 :: 0x6e :: 0x2a :: 0x2a :: 0x1b :: 0x03 :: 0xb6 :: 0x00 :: 0xb7 :: 0xb6 :: 0x00 :: 0xba :: 0x4f :: 0x2a :: 0x04 :: 0xb6 :: 0x00 :: sg_06_cX9_counts_2
def sg_06_cX9_counts_0 : List UInt8 := 0x2a :: 0x1b :: 0x04 :: 0xb6 :: 0x00 :: 0xb7 :: 0x3d :: 0x2a :: 0x04 :: 0xb6 :: 0x00 :: 0xa8 :: 0x9a :: 0x00 :: 0x05 :: 0x1c :: 0xac :: 0x2a :: 0xb4 :: 0x00 :: 0x19 :: 0x10 :: 0x63 :: 0x1c :: 0x4f :: 0x2a :: 0xb4 :: 0x00 :: 0x19 :: 0x10 :: 0x67 :: 0x2a :: sg_06_cX9_counts_1
set_option maxRecDepth 100000 in
theorem sd_06_cX9_counts_0 : cX9_counts.data.toList.drop 0 = sg_06_cX9_counts_0 := by decide +kernel
theorem sd_06_cX9_counts_1 : cX9_counts.data.toList.drop 32 = sg_06_cX9_counts_1 := sg_next sd_06_cX9_counts_0 rfl
theorem sd_06_cX9_counts_2 : cX9_counts.data.toList.drop 64 = sg_06_cX9_counts_2 := sg_next sd_06_cX9_counts_1 rfl
theorem dR_counts_0 : decode cX9_counts 0 = .ok (.aload_n 0, 1) := op_42 (rdSeg sd_06_cX9_counts_0 0 rfl rfl)
theorem dR_counts_1 : decode cX9_counts 1 = .ok (.iload_n 1, 1) := op_27 (rdSeg sd_06_cX9_counts_0 1 rfl rfl)
theorem dR_counts_2 : decode cX9_counts 2 = .ok (.iconst 1, 1) := op_4 (rdSeg sd_06_cX9_counts_0 2 rfl rfl)
theorem dR_counts_3 : decode cX9_counts 3 = .ok (.invokevirtual 183, 3) := op_182 (rdSeg sd_06_cX9_counts_0 3 rfl rfl) (rdSeg sd_06_cX9_counts_0 4 rfl rfl) (rdSeg sd_06_cX9_counts_0 5 rfl rfl) rfl
theorem dR_counts_6 : decode cX9_counts 6 = .ok (.istore_n 2, 1) := op_61 (rdSeg sd_06_cX9_counts_0 6 rfl rfl)
theorem dR_counts_7 : decode cX9_counts 7 = .ok (.aload_n 0, 1) := op_42 (rdSeg sd_06_cX9_counts_0 7 rfl rfl)
theorem dR_counts_8 : decode cX9_counts 8 = .ok (.iconst 1, 1) := op_4 (rdSeg sd_06_cX9_counts_0 8 rfl rfl)
theorem dR_counts_9 : decode cX9_counts 9 = .ok (.invokevirtual 168, 3) := op_182 (rdSeg sd_06_cX9_counts_0 9 rfl rfl) (rdSeg sd_06_cX9_counts_0 10 rfl rfl) (rdSeg sd_06_cX9_counts_0 11 rfl rfl) rfl
theorem dR_counts_12 : decode cX9_counts 12 = .ok (.ifCond .ne 5, 3) := op_154 (rdSeg sd_06_cX9_counts_0 12 rfl rfl) (rdSeg sd_06_cX9_counts_0 13 rfl rfl) (rdSeg sd_06_cX9_counts_0 14 rfl rfl) (by decide +kernel)
theorem dR_counts_15 : decode cX9_counts 15 = .ok (.iload_n 2, 1) := op_28 (rdSeg sd_06_cX9_counts_0 15 rfl rfl)
theorem dR_counts_16 : decode cX9_counts 16 = .ok (.ireturn, 1) := op_172 (rdSeg sd_06_cX9_counts_0 16 rfl rfl)
theorem dR_counts_17 : decode cX9_counts 17 = .ok (.aload_n 0, 1) := op_42 (rdSeg sd_06_cX9_counts_0 17 rfl rfl)
theorem dR_counts_18 : decode cX9_counts 18 = .ok (.getfield 25, 3) := op_180 (rdSeg sd_06_cX9_counts_0 18 rfl rfl) (rdSeg sd_06_cX9_counts_0 19 rfl rfl) (rdSeg sd_06_cX9_counts_0 20 rfl rfl) rfl
theorem dR_counts_21 : decode cX9_counts 21 = .ok (.bipush 99, 2) := op_16 (rdSeg sd_06_cX9_counts_0 21 rfl rfl) (rdSeg sd_06_cX9_counts_0 22 rfl rfl) (by decide +kernel)
theorem dR_counts_23 : decode cX9_counts 23 = .ok (.iload_n 2, 1) := op_28 (rdSeg sd_06_cX9_counts_0 23 rfl rfl)
theorem dR_counts_24 : decode cX9_counts 24 = .ok (.iastore, 1) := op_79 (rdSeg sd_06_cX9_counts_0 24 rfl rfl)
theorem dR_counts_25 : decode cX9_counts 25 = .ok (.aload_n 0, 1) := op_42 (rdSeg sd_06_cX9_counts_0 25 rfl rfl)
theorem dR_counts_26 : decode cX9_counts 26 = .ok (.getfield 25, 3) := op_180 (rdSeg sd_06_cX9_counts_0 26 rfl rfl) (rdSeg sd_06_cX9_counts_0 27 rfl rfl) (rdSeg sd_06_cX9_counts_0 28 rfl rfl) rfl
theorem dR_counts_29 : decode cX9_counts 29 = .ok (.bipush 103, 2) := op_16 (rdSeg sd_06_cX9_counts_0 29 rfl rfl) (rdSeg sd_06_cX9_counts_0 30 rfl rfl) (by decide +kernel)
theorem dR_counts_31 : decode cX9_counts 31 = .ok (.aload_n 0, 1) := op_42 (rdSeg sd_06_cX9_counts_0 31 rfl rfl)
theorem dR_counts_32 : decode cX9_counts 32 = .ok (.aload_n 0, 1) := op_42 (rdSeg sd_06_cX9_counts_1 0 rfl rfl)
theorem dR_counts_33 : decode cX9_counts 33 = .ok (.iload_n 1, 1) := op_27 (rdSeg sd_06_cX9_counts_1 1 rfl rfl)
theorem dR_counts_34 : decode cX9_counts 34 = .ok (.iconst 0, 1) := op_3 (rdSeg sd_06_cX9_counts_1 2 rfl rfl)
theorem dR_counts_35 : decode cX9_counts 35 = .ok (.invokevirtual 183, 3) := op_182 (rdSeg sd_06_cX9_counts_1 3 rfl rfl) (rdSeg sd_06_cX9_counts_1 4 rfl rfl) (rdSeg sd_06_cX9_counts_1 5 rfl rfl) rfl
theorem dR_counts_38 : decode cX9_counts 38 = .ok (.iconst 2, 1) := op_5 (rdSeg sd_06_cX9_counts_1 6 rfl rfl)
theorem dR_counts_39 : decode cX9_counts 39 = .ok (.invokevirtual 73, 3) := op_182 (rdSeg sd_06_cX9_counts_1 7 rfl rfl) (rdSeg sd_06_cX9_counts_1 8 rfl rfl) (rdSeg sd_06_cX9_counts_1 9 rfl rfl) rfl
theorem dR_counts_42 : decode cX9_counts 42 = .ok (.iastore, 1) := op_79 (rdSeg sd_06_cX9_counts_1 10 rfl rfl)
theorem dR_counts_43 : decode cX9_counts 43 = .ok (.aload_n 0, 1) := op_42 (rdSeg sd_06_cX9_counts_1 11 rfl rfl)
theorem dR_counts_44 : decode cX9_counts 44 = .ok (.getfield 25, 3) := op_180 (rdSeg sd_06_cX9_counts_1 12 rfl rfl) (rdSeg sd_06_cX9_counts_1 13 rfl rfl) (rdSeg sd_06_cX9_counts_1 14 rfl rfl) rfl
theorem dR_counts_47 : decode cX9_counts 47 = .ok (.bipush 110, 2) := op_16 (rdSeg sd_06_cX9_counts_1 15 rfl rfl) (rdSeg sd_06_cX9_counts_1 16 rfl rfl) (by decide +kernel)
theorem dR_counts_49 : decode cX9_counts 49 = .ok (.aload_n 0, 1) := op_42 (rdSeg sd_06_cX9_counts_1 17 rfl rfl)
theorem dR_counts_50 : decode cX9_counts 50 = .ok (.aload_n 0, 1) := op_42 (rdSeg sd_06_cX9_counts_1 18 rfl rfl)
theorem dR_counts_51 : decode cX9_counts 51 = .ok (.iload_n 1, 1) := op_27 (rdSeg sd_06_cX9_counts_1 19 rfl rfl)
theorem dR_counts_52 : decode cX9_counts 52 = .ok (.iconst 0, 1) := op_3 (rdSeg sd_06_cX9_counts_1 20 rfl rfl)
theorem dR_counts_53 : decode cX9_counts 53 = .ok (.invokevirtual 183, 3) := op_182 (rdSeg sd_06_cX9_counts_1 21 rfl rfl) (rdSeg sd_06_cX9_counts_1 22 rfl rfl) (rdSeg sd_06_cX9_counts_1 23 rfl rfl) rfl
theorem dR_counts_56 : decode cX9_counts 56 = .ok (.invokevirtual 186, 3) := op_182 (rdSeg sd_06_cX9_counts_1 24 rfl rfl) (rdSeg sd_06_cX9_counts_1 25 rfl rfl) (rdSeg sd_06_cX9_counts_1 26 rfl rfl) rfl
theorem dR_counts_59 : decode cX9_counts 59 = .ok (.iastore, 1) := op_79 (rdSeg sd_06_cX9_counts_1 27 rfl rfl)
theorem dR_counts_60 : decode cX9_counts 60 = .ok (.aload_n 0, 1) := op_42 (rdSeg sd_06_cX9_counts_1 28 rfl rfl)
theorem dR_counts_61 : decode cX9_counts 61 = .ok (.iconst 1, 1) := op_4 (rdSeg sd_06_cX9_counts_1 29 rfl rfl)
theorem dR_counts_62 : decode cX9_counts 62 = .ok (.invokevirtual 177, 3) := op_182 (rdSeg sd_06_cX9_counts_1 30 rfl rfl) (rdSeg sd_06_cX9_counts_1 31 rfl rfl) (rdSeg sd_06_cX9_counts_2 0 rfl rfl) rfl
theorem dR_counts_65 : decode cX9_counts 65 = .ok (.iconst 0, 1) := op_3 (rdSeg sd_06_cX9_counts_2 1 rfl rfl)
theorem dR_counts_66 : decode cX9_counts 66 = .ok (.iload_n 2, 1) := op_28 (rdSeg sd_06_cX9_counts_2 2 rfl rfl)
theorem dR_counts_67 : decode cX9_counts 67 = .ok (.invokestatic 92, 3) := op_184 (rdSeg sd_06_cX9_counts_2 3 rfl rfl) (rdSeg sd_06_cX9_counts_2 4 rfl rfl) (rdSeg sd_06_cX9_counts_2 5 rfl rfl) rfl
theorem dR_counts_70 : decode cX9_counts 70 = .ok (.ireturn, 1) := op_172 (rdSeg sd_06_cX9_counts_2 6 rfl rfl)
def sg_06_cX9_claim_3 : List UInt8 := [0x64, 0xac]
def sg_06_cX9_claim_2 : List UInt8 := 0x00 :: 0x8c :: 0x05 :: 0x2a :: 0xb4 :: 0x00 :: 0x07 :: 0x05 :: 0x2e :: 0x68 :: 0x60 :: 0x04 :: 0x60 :: 0x1c :: 0x4f :: 0x2a :: 0xb4 :: 0x00 :: 0x07 :: 0x05 :: 0x5c :: 0x2e :: 0x04 :: 0x60 :: 0x4f :: 0x2a :: 0xb4 :: 0x00 :: 0x07 :: 0x05 :: 0x2e :: 0x04 :: sg_06_cX9_claim_3
def sg_06_cX9_claim_1 : List UInt8 := 0xa0 :: 0x00 :: 0x09 :: 0x2a :: 0x07 :: 0xb6 :: 0x00 :: 0x3e :: 0xac :: 0x2a :: 0xb4 :: 0x00 :: 0x07 :: 0x11 :: 0x00 :: 0x8c :: 0x05 :: 0x2a :: 0xb4 :: 0x00 :: 0x07 :: 0x05 :: 0x2e :: 0x68 :: 0x60 :: 0x1b :: 0x4f :: 0x2a :: 0xb4 :: 0x00 :: 0x07 :: 0x11 :: sg_06_cX9_claim_2
def sg_06_cX9_claim_0 : List UInt8 := 0x2a :: 0x1b :: 0xb6 :: 0x00 :: 0x4d :: 0x99 :: 0x00 :: 0x0d :: 0x1c :: 0x04 :: 0x12 :: 0xbd :: 0xb8 :: 0x00 :: 0x35 :: 0x9a :: 0x00 :: 0x09 :: 0x2a :: 0x04 :: 0xb6 :: 0x00 :: 0x3e :: 0xac :: 0x2a :: 0xb4 :: 0x00 :: 0x07 :: 0x05 :: 0x2e :: 0x10 :: 0x0a :: sg_06_cX9_claim_1
set_option maxRecDepth 100000 in
theorem sd_06_cX9_claim_0 : cX9_claim.data.toList.drop 0 = sg_06_cX9_claim_0 := by decide +kernel
theorem sd_06_cX9_claim_1 : cX9_claim.data.toList.drop 32 = sg_06_cX9_claim_1 := sg_next sd_06_cX9_claim_0 rfl
theorem sd_06_cX9_claim_2 : cX9_claim.data.toList.drop 64 = sg_06_cX9_claim_2 := sg_next sd_06_cX9_claim_1 rfl
theorem sd_06_cX9_claim_3 : cX9_claim.data.toList.drop 96 = sg_06_cX9_claim_3 := sg_next sd_06_cX9_claim_2 rfl
theorem dR_claim_0 : decode cX9_claim 0 = .ok (.aload_n 0, 1) := op_42 (rdSeg sd_06_cX9_claim_0 0 rfl rfl)
theorem dR_claim_1 : decode cX9_claim 1 = .ok (.iload_n 1, 1) := op_27 (rdSeg sd_06_cX9_claim_0 1 rfl rfl)
theorem dR_claim_2 : decode cX9_claim 2 = .ok (.invokevirtual 77, 3) := op_182 (rdSeg sd_06_cX9_claim_0 2 rfl rfl) (rdSeg sd_06_cX9_claim_0 3 rfl rfl) (rdSeg sd_06_cX9_claim_0 4 rfl rfl) rfl
theorem dR_claim_5 : decode cX9_claim 5 = .ok (.ifCond .eq 13, 3) := op_153 (rdSeg sd_06_cX9_claim_0 5 rfl rfl) (rdSeg sd_06_cX9_claim_0 6 rfl rfl) (rdSeg sd_06_cX9_claim_0 7 rfl rfl) (by decide +kernel)
theorem dR_claim_8 : decode cX9_claim 8 = .ok (.iload_n 2, 1) := op_28 (rdSeg sd_06_cX9_claim_0 8 rfl rfl)
theorem dR_claim_9 : decode cX9_claim 9 = .ok (.iconst 1, 1) := op_4 (rdSeg sd_06_cX9_claim_0 9 rfl rfl)
theorem dR_claim_10 : decode cX9_claim 10 = .ok (.ldc 189, 2) := op_18 (rdSeg sd_06_cX9_claim_0 10 rfl rfl) (rdSeg sd_06_cX9_claim_0 11 rfl rfl)
theorem dR_claim_12 : decode cX9_claim 12 = .ok (.invokestatic 53, 3) := op_184 (rdSeg sd_06_cX9_claim_0 12 rfl rfl) (rdSeg sd_06_cX9_claim_0 13 rfl rfl) (rdSeg sd_06_cX9_claim_0 14 rfl rfl) rfl
theorem dR_claim_15 : decode cX9_claim 15 = .ok (.ifCond .ne 9, 3) := op_154 (rdSeg sd_06_cX9_claim_0 15 rfl rfl) (rdSeg sd_06_cX9_claim_0 16 rfl rfl) (rdSeg sd_06_cX9_claim_0 17 rfl rfl) (by decide +kernel)
theorem dR_claim_18 : decode cX9_claim 18 = .ok (.aload_n 0, 1) := op_42 (rdSeg sd_06_cX9_claim_0 18 rfl rfl)
theorem dR_claim_19 : decode cX9_claim 19 = .ok (.iconst 1, 1) := op_4 (rdSeg sd_06_cX9_claim_0 19 rfl rfl)
theorem dR_claim_20 : decode cX9_claim 20 = .ok (.invokevirtual 62, 3) := op_182 (rdSeg sd_06_cX9_claim_0 20 rfl rfl) (rdSeg sd_06_cX9_claim_0 21 rfl rfl) (rdSeg sd_06_cX9_claim_0 22 rfl rfl) rfl
theorem dR_claim_23 : decode cX9_claim 23 = .ok (.ireturn, 1) := op_172 (rdSeg sd_06_cX9_claim_0 23 rfl rfl)
theorem dR_claim_24 : decode cX9_claim 24 = .ok (.aload_n 0, 1) := op_42 (rdSeg sd_06_cX9_claim_0 24 rfl rfl)
theorem dR_claim_25 : decode cX9_claim 25 = .ok (.getfield 7, 3) := op_180 (rdSeg sd_06_cX9_claim_0 25 rfl rfl) (rdSeg sd_06_cX9_claim_0 26 rfl rfl) (rdSeg sd_06_cX9_claim_0 27 rfl rfl) rfl
theorem dR_claim_28 : decode cX9_claim 28 = .ok (.iconst 2, 1) := op_5 (rdSeg sd_06_cX9_claim_0 28 rfl rfl)
theorem dR_claim_29 : decode cX9_claim 29 = .ok (.iaload, 1) := op_46 (rdSeg sd_06_cX9_claim_0 29 rfl rfl)
theorem dR_claim_30 : decode cX9_claim 30 = .ok (.bipush 10, 2) := op_16 (rdSeg sd_06_cX9_claim_0 30 rfl rfl) (rdSeg sd_06_cX9_claim_0 31 rfl rfl) (by decide +kernel)
theorem dR_claim_32 : decode cX9_claim 32 = .ok (.if_icmp .ne 9, 3) := op_160 (rdSeg sd_06_cX9_claim_1 0 rfl rfl) (rdSeg sd_06_cX9_claim_1 1 rfl rfl) (rdSeg sd_06_cX9_claim_1 2 rfl rfl) (by decide +kernel)
theorem dR_claim_35 : decode cX9_claim 35 = .ok (.aload_n 0, 1) := op_42 (rdSeg sd_06_cX9_claim_1 3 rfl rfl)
theorem dR_claim_36 : decode cX9_claim 36 = .ok (.iconst 4, 1) := op_7 (rdSeg sd_06_cX9_claim_1 4 rfl rfl)
theorem dR_claim_37 : decode cX9_claim 37 = .ok (.invokevirtual 62, 3) := op_182 (rdSeg sd_06_cX9_claim_1 5 rfl rfl) (rdSeg sd_06_cX9_claim_1 6 rfl rfl) (rdSeg sd_06_cX9_claim_1 7 rfl rfl) rfl
theorem dR_claim_40 : decode cX9_claim 40 = .ok (.ireturn, 1) := op_172 (rdSeg sd_06_cX9_claim_1 8 rfl rfl)
theorem dR_claim_41 : decode cX9_claim 41 = .ok (.aload_n 0, 1) := op_42 (rdSeg sd_06_cX9_claim_1 9 rfl rfl)
theorem dR_claim_42 : decode cX9_claim 42 = .ok (.getfield 7, 3) := op_180 (rdSeg sd_06_cX9_claim_1 10 rfl rfl) (rdSeg sd_06_cX9_claim_1 11 rfl rfl) (rdSeg sd_06_cX9_claim_1 12 rfl rfl) rfl
theorem dR_claim_45 : decode cX9_claim 45 = .ok (.sipush 140, 3) := op_17 (rdSeg sd_06_cX9_claim_1 13 rfl rfl) (rdSeg sd_06_cX9_claim_1 14 rfl rfl) (rdSeg sd_06_cX9_claim_1 15 rfl rfl) (by decide +kernel)
theorem dR_claim_48 : decode cX9_claim 48 = .ok (.iconst 2, 1) := op_5 (rdSeg sd_06_cX9_claim_1 16 rfl rfl)
theorem dR_claim_49 : decode cX9_claim 49 = .ok (.aload_n 0, 1) := op_42 (rdSeg sd_06_cX9_claim_1 17 rfl rfl)
theorem dR_claim_50 : decode cX9_claim 50 = .ok (.getfield 7, 3) := op_180 (rdSeg sd_06_cX9_claim_1 18 rfl rfl) (rdSeg sd_06_cX9_claim_1 19 rfl rfl) (rdSeg sd_06_cX9_claim_1 20 rfl rfl) rfl
theorem dR_claim_53 : decode cX9_claim 53 = .ok (.iconst 2, 1) := op_5 (rdSeg sd_06_cX9_claim_1 21 rfl rfl)
theorem dR_claim_54 : decode cX9_claim 54 = .ok (.iaload, 1) := op_46 (rdSeg sd_06_cX9_claim_1 22 rfl rfl)
theorem dR_claim_55 : decode cX9_claim 55 = .ok (.imul, 1) := op_104 (rdSeg sd_06_cX9_claim_1 23 rfl rfl)
theorem dR_claim_56 : decode cX9_claim 56 = .ok (.iadd, 1) := op_96 (rdSeg sd_06_cX9_claim_1 24 rfl rfl)
theorem dR_claim_57 : decode cX9_claim 57 = .ok (.iload_n 1, 1) := op_27 (rdSeg sd_06_cX9_claim_1 25 rfl rfl)
theorem dR_claim_58 : decode cX9_claim 58 = .ok (.iastore, 1) := op_79 (rdSeg sd_06_cX9_claim_1 26 rfl rfl)
theorem dR_claim_59 : decode cX9_claim 59 = .ok (.aload_n 0, 1) := op_42 (rdSeg sd_06_cX9_claim_1 27 rfl rfl)
theorem dR_claim_60 : decode cX9_claim 60 = .ok (.getfield 7, 3) := op_180 (rdSeg sd_06_cX9_claim_1 28 rfl rfl) (rdSeg sd_06_cX9_claim_1 29 rfl rfl) (rdSeg sd_06_cX9_claim_1 30 rfl rfl) rfl
theorem dR_claim_63 : decode cX9_claim 63 = .ok (.sipush 140, 3) := op_17 (rdSeg sd_06_cX9_claim_1 31 rfl rfl) (rdSeg sd_06_cX9_claim_2 0 rfl rfl) (rdSeg sd_06_cX9_claim_2 1 rfl rfl) (by decide +kernel)
theorem dR_claim_66 : decode cX9_claim 66 = .ok (.iconst 2, 1) := op_5 (rdSeg sd_06_cX9_claim_2 2 rfl rfl)
theorem dR_claim_67 : decode cX9_claim 67 = .ok (.aload_n 0, 1) := op_42 (rdSeg sd_06_cX9_claim_2 3 rfl rfl)
theorem dR_claim_68 : decode cX9_claim 68 = .ok (.getfield 7, 3) := op_180 (rdSeg sd_06_cX9_claim_2 4 rfl rfl) (rdSeg sd_06_cX9_claim_2 5 rfl rfl) (rdSeg sd_06_cX9_claim_2 6 rfl rfl) rfl
theorem dR_claim_71 : decode cX9_claim 71 = .ok (.iconst 2, 1) := op_5 (rdSeg sd_06_cX9_claim_2 7 rfl rfl)
theorem dR_claim_72 : decode cX9_claim 72 = .ok (.iaload, 1) := op_46 (rdSeg sd_06_cX9_claim_2 8 rfl rfl)
theorem dR_claim_73 : decode cX9_claim 73 = .ok (.imul, 1) := op_104 (rdSeg sd_06_cX9_claim_2 9 rfl rfl)
theorem dR_claim_74 : decode cX9_claim 74 = .ok (.iadd, 1) := op_96 (rdSeg sd_06_cX9_claim_2 10 rfl rfl)
theorem dR_claim_75 : decode cX9_claim 75 = .ok (.iconst 1, 1) := op_4 (rdSeg sd_06_cX9_claim_2 11 rfl rfl)
theorem dR_claim_76 : decode cX9_claim 76 = .ok (.iadd, 1) := op_96 (rdSeg sd_06_cX9_claim_2 12 rfl rfl)
theorem dR_claim_77 : decode cX9_claim 77 = .ok (.iload_n 2, 1) := op_28 (rdSeg sd_06_cX9_claim_2 13 rfl rfl)
theorem dR_claim_78 : decode cX9_claim 78 = .ok (.iastore, 1) := op_79 (rdSeg sd_06_cX9_claim_2 14 rfl rfl)
theorem dR_claim_79 : decode cX9_claim 79 = .ok (.aload_n 0, 1) := op_42 (rdSeg sd_06_cX9_claim_2 15 rfl rfl)
theorem dR_claim_80 : decode cX9_claim 80 = .ok (.getfield 7, 3) := op_180 (rdSeg sd_06_cX9_claim_2 16 rfl rfl) (rdSeg sd_06_cX9_claim_2 17 rfl rfl) (rdSeg sd_06_cX9_claim_2 18 rfl rfl) rfl
theorem dR_claim_83 : decode cX9_claim 83 = .ok (.iconst 2, 1) := op_5 (rdSeg sd_06_cX9_claim_2 19 rfl rfl)
theorem dR_claim_84 : decode cX9_claim 84 = .ok (.dup2, 1) := op_92 (rdSeg sd_06_cX9_claim_2 20 rfl rfl)
theorem dR_claim_85 : decode cX9_claim 85 = .ok (.iaload, 1) := op_46 (rdSeg sd_06_cX9_claim_2 21 rfl rfl)
theorem dR_claim_86 : decode cX9_claim 86 = .ok (.iconst 1, 1) := op_4 (rdSeg sd_06_cX9_claim_2 22 rfl rfl)
theorem dR_claim_87 : decode cX9_claim 87 = .ok (.iadd, 1) := op_96 (rdSeg sd_06_cX9_claim_2 23 rfl rfl)
theorem dR_claim_88 : decode cX9_claim 88 = .ok (.iastore, 1) := op_79 (rdSeg sd_06_cX9_claim_2 24 rfl rfl)
theorem dR_claim_89 : decode cX9_claim 89 = .ok (.aload_n 0, 1) := op_42 (rdSeg sd_06_cX9_claim_2 25 rfl rfl)
theorem dR_claim_90 : decode cX9_claim 90 = .ok (.getfield 7, 3) := op_180 (rdSeg sd_06_cX9_claim_2 26 rfl rfl) (rdSeg sd_06_cX9_claim_2 27 rfl rfl) (rdSeg sd_06_cX9_claim_2 28 rfl rfl) rfl
theorem dR_claim_93 : decode cX9_claim 93 = .ok (.iconst 2, 1) := op_5 (rdSeg sd_06_cX9_claim_2 29 rfl rfl)
theorem dR_claim_94 : decode cX9_claim 94 = .ok (.iaload, 1) := op_46 (rdSeg sd_06_cX9_claim_2 30 rfl rfl)
theorem dR_claim_95 : decode cX9_claim 95 = .ok (.iconst 1, 1) := op_4 (rdSeg sd_06_cX9_claim_2 31 rfl rfl)
theorem dR_claim_96 : decode cX9_claim 96 = .ok (.isub, 1) := op_100 (rdSeg sd_06_cX9_claim_3 0 rfl rfl)
theorem dR_claim_97 : decode cX9_claim 97 = .ok (.ireturn, 1) := op_172 (rdSeg sd_06_cX9_claim_3 1 rfl rfl)
def sg_06_cX9_claimIs_1 : List UInt8 := [0xc1, 0xa7, 0x00, 0x09, 0x2a, 0x1b, 0x1c, 0xb6, 0x00, 0xb7, 0xac]
def sg_06_cX9_claimIs_0 : List UInt8 := 0x2a :: 0x1b :: 0xb6 :: 0x00 :: 0xbe :: 0x99 :: 0x00 :: 0x0c :: 0x1c :: 0x03 :: 0x05 :: 0xb8 :: 0x00 :: 0x35 :: 0x9a :: 0x00 :: 0x09 :: 0x2a :: 0x04 :: 0xb6 :: 0x00 :: 0x3e :: 0xac :: 0x1c :: 0x05 :: 0xa0 :: 0x00 :: 0x0b :: 0x2a :: 0x1b :: 0xb6 :: 0x00 :: sg_06_cX9_claimIs_1
set_option maxRecDepth 100000 in
theorem sd_06_cX9_claimIs_0 : cX9_claimIs.data.toList.drop 0 = sg_06_cX9_claimIs_0 := by decide +kernel
theorem sd_06_cX9_claimIs_1 : cX9_claimIs.data.toList.drop 32 = sg_06_cX9_claimIs_1 := sg_next sd_06_cX9_claimIs_0 rfl
theorem dR_claimIs_0 : decode cX9_claimIs 0 = .ok (.aload_n 0, 1) := op_42 (rdSeg sd_06_cX9_claimIs_0 0 rfl rfl)
theorem dR_claimIs_1 : decode cX9_claimIs 1 = .ok (.iload_n 1, 1) := op_27 (rdSeg sd_06_cX9_claimIs_0 1 rfl rfl)
theorem dR_claimIs_2 : decode cX9_claimIs 2 = .ok (.invokevirtual 190, 3) := op_182 (rdSeg sd_06_cX9_claimIs_0 2 rfl rfl) (rdSeg sd_06_cX9_claimIs_0 3 rfl rfl) (rdSeg sd_06_cX9_claimIs_0 4 rfl rfl) rfl
theorem dR_claimIs_5 : decode cX9_claimIs 5 = .ok (.ifCond .eq 12, 3) := op_153 (rdSeg sd_06_cX9_claimIs_0 5 rfl rfl) (rdSeg sd_06_cX9_claimIs_0 6 rfl rfl) (rdSeg sd_06_cX9_claimIs_0 7 rfl rfl) (by decide +kernel)
theorem dR_claimIs_8 : decode cX9_claimIs 8 = .ok (.iload_n 2, 1) := op_28 (rdSeg sd_06_cX9_claimIs_0 8 rfl rfl)
theorem dR_claimIs_9 : decode cX9_claimIs 9 = .ok (.iconst 0, 1) := op_3 (rdSeg sd_06_cX9_claimIs_0 9 rfl rfl)
theorem dR_claimIs_10 : decode cX9_claimIs 10 = .ok (.iconst 2, 1) := op_5 (rdSeg sd_06_cX9_claimIs_0 10 rfl rfl)
theorem dR_claimIs_11 : decode cX9_claimIs 11 = .ok (.invokestatic 53, 3) := op_184 (rdSeg sd_06_cX9_claimIs_0 11 rfl rfl) (rdSeg sd_06_cX9_claimIs_0 12 rfl rfl) (rdSeg sd_06_cX9_claimIs_0 13 rfl rfl) rfl
theorem dR_claimIs_14 : decode cX9_claimIs 14 = .ok (.ifCond .ne 9, 3) := op_154 (rdSeg sd_06_cX9_claimIs_0 14 rfl rfl) (rdSeg sd_06_cX9_claimIs_0 15 rfl rfl) (rdSeg sd_06_cX9_claimIs_0 16 rfl rfl) (by decide +kernel)
theorem dR_claimIs_17 : decode cX9_claimIs 17 = .ok (.aload_n 0, 1) := op_42 (rdSeg sd_06_cX9_claimIs_0 17 rfl rfl)
theorem dR_claimIs_18 : decode cX9_claimIs 18 = .ok (.iconst 1, 1) := op_4 (rdSeg sd_06_cX9_claimIs_0 18 rfl rfl)
theorem dR_claimIs_19 : decode cX9_claimIs 19 = .ok (.invokevirtual 62, 3) := op_182 (rdSeg sd_06_cX9_claimIs_0 19 rfl rfl) (rdSeg sd_06_cX9_claimIs_0 20 rfl rfl) (rdSeg sd_06_cX9_claimIs_0 21 rfl rfl) rfl
theorem dR_claimIs_22 : decode cX9_claimIs 22 = .ok (.ireturn, 1) := op_172 (rdSeg sd_06_cX9_claimIs_0 22 rfl rfl)
theorem dR_claimIs_23 : decode cX9_claimIs 23 = .ok (.iload_n 2, 1) := op_28 (rdSeg sd_06_cX9_claimIs_0 23 rfl rfl)
theorem dR_claimIs_24 : decode cX9_claimIs 24 = .ok (.iconst 2, 1) := op_5 (rdSeg sd_06_cX9_claimIs_0 24 rfl rfl)
theorem dR_claimIs_25 : decode cX9_claimIs 25 = .ok (.if_icmp .ne 11, 3) := op_160 (rdSeg sd_06_cX9_claimIs_0 25 rfl rfl) (rdSeg sd_06_cX9_claimIs_0 26 rfl rfl) (rdSeg sd_06_cX9_claimIs_0 27 rfl rfl) (by decide +kernel)
theorem dR_claimIs_28 : decode cX9_claimIs 28 = .ok (.aload_n 0, 1) := op_42 (rdSeg sd_06_cX9_claimIs_0 28 rfl rfl)
theorem dR_claimIs_29 : decode cX9_claimIs 29 = .ok (.iload_n 1, 1) := op_27 (rdSeg sd_06_cX9_claimIs_0 29 rfl rfl)
theorem dR_claimIs_30 : decode cX9_claimIs 30 = .ok (.invokevirtual 193, 3) := op_182 (rdSeg sd_06_cX9_claimIs_0 30 rfl rfl) (rdSeg sd_06_cX9_claimIs_0 31 rfl rfl) (rdSeg sd_06_cX9_claimIs_1 0 rfl rfl) rfl
theorem dR_claimIs_33 : decode cX9_claimIs 33 = .ok (.goto 9, 3) := op_167 (rdSeg sd_06_cX9_claimIs_1 1 rfl rfl) (rdSeg sd_06_cX9_claimIs_1 2 rfl rfl) (rdSeg sd_06_cX9_claimIs_1 3 rfl rfl) (by decide +kernel)
theorem dR_claimIs_36 : decode cX9_claimIs 36 = .ok (.aload_n 0, 1) := op_42 (rdSeg sd_06_cX9_claimIs_1 4 rfl rfl)
theorem dR_claimIs_37 : decode cX9_claimIs 37 = .ok (.iload_n 1, 1) := op_27 (rdSeg sd_06_cX9_claimIs_1 5 rfl rfl)
theorem dR_claimIs_38 : decode cX9_claimIs 38 = .ok (.iload_n 2, 1) := op_28 (rdSeg sd_06_cX9_claimIs_1 6 rfl rfl)
theorem dR_claimIs_39 : decode cX9_claimIs 39 = .ok (.invokevirtual 183, 3) := op_182 (rdSeg sd_06_cX9_claimIs_1 7 rfl rfl) (rdSeg sd_06_cX9_claimIs_1 8 rfl rfl) (rdSeg sd_06_cX9_claimIs_1 9 rfl rfl) rfl
theorem dR_claimIs_42 : decode cX9_claimIs 42 = .ok (.ireturn, 1) := op_172 (rdSeg sd_06_cX9_claimIs_1 10 rfl rfl)
def sg_06_cX9_countsBelow_1 : List UInt8 := [0x03, 0x60, 0x3e, 0x84, 0x04, 0x01, 0xa7, 0xff, 0xdf, 0x1d, 0xac]
def sg_06_cX9_countsBelow_0 : List UInt8 := 0x03 :: 0x3e :: 0x03 :: 0x36 :: 0x04 :: 0x15 :: 0x04 :: 0x1c :: 0xa2 :: 0x00 :: 0x21 :: 0x1d :: 0x2a :: 0x15 :: 0x04 :: 0x03 :: 0xb6 :: 0x00 :: 0xb7 :: 0x1b :: 0xa0 :: 0x00 :: 0x0c :: 0x2a :: 0x15 :: 0x04 :: 0xb6 :: 0x00 :: 0xc1 :: 0xa7 :: 0x00 :: 0x04 :: sg_06_cX9_countsBelow_1
set_option maxRecDepth 100000 in
theorem sd_06_cX9_countsBelow_0 : cX9_countsBelow.data.toList.drop 0 = sg_06_cX9_countsBelow_0 := by decide +kernel
theorem sd_06_cX9_countsBelow_1 : cX9_countsBelow.data.toList.drop 32 = sg_06_cX9_countsBelow_1 := sg_next sd_06_cX9_countsBelow_0 rfl
theorem dR_countsBelow_0 : decode cX9_countsBelow 0 = .ok (.iconst 0, 1) := op_3 (rdSeg sd_06_cX9_countsBelow_0 0 rfl rfl)
theorem dR_countsBelow_1 : decode cX9_countsBelow 1 = .ok (.istore_n 3, 1) := op_62 (rdSeg sd_06_cX9_countsBelow_0 1 rfl rfl)
theorem dR_countsBelow_2 : decode cX9_countsBelow 2 = .ok (.iconst 0, 1) := op_3 (rdSeg sd_06_cX9_countsBelow_0 2 rfl rfl)
theorem dR_countsBelow_3 : decode cX9_countsBelow 3 = .ok (.istore 4, 2) := op_54 (rdSeg sd_06_cX9_countsBelow_0 3 rfl rfl) (rdSeg sd_06_cX9_countsBelow_0 4 rfl rfl)
theorem dR_countsBelow_5 : decode cX9_countsBelow 5 = .ok (.iload 4, 2) := op_21 (rdSeg sd_06_cX9_countsBelow_0 5 rfl rfl) (rdSeg sd_06_cX9_countsBelow_0 6 rfl rfl)
theorem dR_countsBelow_7 : decode cX9_countsBelow 7 = .ok (.iload_n 2, 1) := op_28 (rdSeg sd_06_cX9_countsBelow_0 7 rfl rfl)
theorem dR_countsBelow_8 : decode cX9_countsBelow 8 = .ok (.if_icmp .ge 33, 3) := op_162 (rdSeg sd_06_cX9_countsBelow_0 8 rfl rfl) (rdSeg sd_06_cX9_countsBelow_0 9 rfl rfl) (rdSeg sd_06_cX9_countsBelow_0 10 rfl rfl) (by decide +kernel)
theorem dR_countsBelow_11 : decode cX9_countsBelow 11 = .ok (.iload_n 3, 1) := op_29 (rdSeg sd_06_cX9_countsBelow_0 11 rfl rfl)
theorem dR_countsBelow_12 : decode cX9_countsBelow 12 = .ok (.aload_n 0, 1) := op_42 (rdSeg sd_06_cX9_countsBelow_0 12 rfl rfl)
theorem dR_countsBelow_13 : decode cX9_countsBelow 13 = .ok (.iload 4, 2) := op_21 (rdSeg sd_06_cX9_countsBelow_0 13 rfl rfl) (rdSeg sd_06_cX9_countsBelow_0 14 rfl rfl)
theorem dR_countsBelow_15 : decode cX9_countsBelow 15 = .ok (.iconst 0, 1) := op_3 (rdSeg sd_06_cX9_countsBelow_0 15 rfl rfl)
theorem dR_countsBelow_16 : decode cX9_countsBelow 16 = .ok (.invokevirtual 183, 3) := op_182 (rdSeg sd_06_cX9_countsBelow_0 16 rfl rfl) (rdSeg sd_06_cX9_countsBelow_0 17 rfl rfl) (rdSeg sd_06_cX9_countsBelow_0 18 rfl rfl) rfl
theorem dR_countsBelow_19 : decode cX9_countsBelow 19 = .ok (.iload_n 1, 1) := op_27 (rdSeg sd_06_cX9_countsBelow_0 19 rfl rfl)
theorem dR_countsBelow_20 : decode cX9_countsBelow 20 = .ok (.if_icmp .ne 12, 3) := op_160 (rdSeg sd_06_cX9_countsBelow_0 20 rfl rfl) (rdSeg sd_06_cX9_countsBelow_0 21 rfl rfl) (rdSeg sd_06_cX9_countsBelow_0 22 rfl rfl) (by decide +kernel)
theorem dR_countsBelow_23 : decode cX9_countsBelow 23 = .ok (.aload_n 0, 1) := op_42 (rdSeg sd_06_cX9_countsBelow_0 23 rfl rfl)
theorem dR_countsBelow_24 : decode cX9_countsBelow 24 = .ok (.iload 4, 2) := op_21 (rdSeg sd_06_cX9_countsBelow_0 24 rfl rfl) (rdSeg sd_06_cX9_countsBelow_0 25 rfl rfl)
theorem dR_countsBelow_26 : decode cX9_countsBelow 26 = .ok (.invokevirtual 193, 3) := op_182 (rdSeg sd_06_cX9_countsBelow_0 26 rfl rfl) (rdSeg sd_06_cX9_countsBelow_0 27 rfl rfl) (rdSeg sd_06_cX9_countsBelow_0 28 rfl rfl) rfl
theorem dR_countsBelow_29 : decode cX9_countsBelow 29 = .ok (.goto 4, 3) := op_167 (rdSeg sd_06_cX9_countsBelow_0 29 rfl rfl) (rdSeg sd_06_cX9_countsBelow_0 30 rfl rfl) (rdSeg sd_06_cX9_countsBelow_0 31 rfl rfl) (by decide +kernel)
theorem dR_countsBelow_32 : decode cX9_countsBelow 32 = .ok (.iconst 0, 1) := op_3 (rdSeg sd_06_cX9_countsBelow_1 0 rfl rfl)
theorem dR_countsBelow_33 : decode cX9_countsBelow 33 = .ok (.iadd, 1) := op_96 (rdSeg sd_06_cX9_countsBelow_1 1 rfl rfl)
theorem dR_countsBelow_34 : decode cX9_countsBelow 34 = .ok (.istore_n 3, 1) := op_62 (rdSeg sd_06_cX9_countsBelow_1 2 rfl rfl)
theorem dR_countsBelow_35 : decode cX9_countsBelow 35 = .ok (.iinc 4 1, 3) := op_132 (rdSeg sd_06_cX9_countsBelow_1 3 rfl rfl) (rdSeg sd_06_cX9_countsBelow_1 4 rfl rfl) (rdSeg sd_06_cX9_countsBelow_1 5 rfl rfl) (by decide +kernel)
theorem dR_countsBelow_38 : decode cX9_countsBelow 38 = .ok (.goto (-33), 3) := op_167 (rdSeg sd_06_cX9_countsBelow_1 6 rfl rfl) (rdSeg sd_06_cX9_countsBelow_1 7 rfl rfl) (rdSeg sd_06_cX9_countsBelow_1 8 rfl rfl) (by decide +kernel)
theorem dR_countsBelow_41 : decode cX9_countsBelow 41 = .ok (.iload_n 3, 1) := op_29 (rdSeg sd_06_cX9_countsBelow_1 9 rfl rfl)
theorem dR_countsBelow_42 : decode cX9_countsBelow 42 = .ok (.ireturn, 1) := op_172 (rdSeg sd_06_cX9_countsBelow_1 10 rfl rfl)
def sg_06_cX9_shareOf_3 : List UInt8 := [0xb8, 0x00, 0x5c, 0xb8, 0x00, 0x5c, 0xac]
def sg_06_cX9_shareOf_2 : List UInt8 := 0x00 :: 0x08 :: 0x15 :: 0x05 :: 0xa7 :: 0x00 :: 0x0c :: 0x15 :: 0x05 :: 0x15 :: 0x04 :: 0x15 :: 0x06 :: 0xb8 :: 0x00 :: 0x63 :: 0xac :: 0x15 :: 0x05 :: 0x03 :: 0x15 :: 0x04 :: 0x2a :: 0x1d :: 0x1b :: 0xb6 :: 0x00 :: 0xc4 :: 0x64 :: 0x03 :: 0x12 :: 0x3d :: sg_06_cX9_shareOf_3
def sg_06_cX9_shareOf_1 : List UInt8 := 0x1d :: 0xb6 :: 0x00 :: 0xba :: 0x6c :: 0xb8 :: 0x00 :: 0x5c :: 0xac :: 0x1c :: 0x04 :: 0xa0 :: 0x00 :: 0x26 :: 0x2a :: 0x1d :: 0x2a :: 0xb4 :: 0x00 :: 0x07 :: 0x05 :: 0x2e :: 0xb6 :: 0x00 :: 0xc4 :: 0x36 :: 0x06 :: 0x15 :: 0x06 :: 0x15 :: 0x04 :: 0xa3 :: sg_06_cX9_shareOf_2
def sg_06_cX9_shareOf_0 : List UInt8 := 0x2a :: 0x1b :: 0x03 :: 0xb6 :: 0x00 :: 0xb7 :: 0x3e :: 0x2a :: 0x1d :: 0x05 :: 0xb6 :: 0x00 :: 0x49 :: 0x36 :: 0x04 :: 0x2a :: 0x1b :: 0xb6 :: 0x00 :: 0xc1 :: 0x36 :: 0x05 :: 0x1c :: 0x9a :: 0x00 :: 0x12 :: 0x15 :: 0x05 :: 0x03 :: 0x15 :: 0x04 :: 0x2a :: sg_06_cX9_shareOf_1
set_option maxRecDepth 100000 in
theorem sd_06_cX9_shareOf_0 : cX9_shareOf.data.toList.drop 0 = sg_06_cX9_shareOf_0 := by decide +kernel
theorem sd_06_cX9_shareOf_1 : cX9_shareOf.data.toList.drop 32 = sg_06_cX9_shareOf_1 := sg_next sd_06_cX9_shareOf_0 rfl
theorem sd_06_cX9_shareOf_2 : cX9_shareOf.data.toList.drop 64 = sg_06_cX9_shareOf_2 := sg_next sd_06_cX9_shareOf_1 rfl
theorem sd_06_cX9_shareOf_3 : cX9_shareOf.data.toList.drop 96 = sg_06_cX9_shareOf_3 := sg_next sd_06_cX9_shareOf_2 rfl
theorem dR_shareOf_0 : decode cX9_shareOf 0 = .ok (.aload_n 0, 1) := op_42 (rdSeg sd_06_cX9_shareOf_0 0 rfl rfl)
theorem dR_shareOf_1 : decode cX9_shareOf 1 = .ok (.iload_n 1, 1) := op_27 (rdSeg sd_06_cX9_shareOf_0 1 rfl rfl)
theorem dR_shareOf_2 : decode cX9_shareOf 2 = .ok (.iconst 0, 1) := op_3 (rdSeg sd_06_cX9_shareOf_0 2 rfl rfl)
theorem dR_shareOf_3 : decode cX9_shareOf 3 = .ok (.invokevirtual 183, 3) := op_182 (rdSeg sd_06_cX9_shareOf_0 3 rfl rfl) (rdSeg sd_06_cX9_shareOf_0 4 rfl rfl) (rdSeg sd_06_cX9_shareOf_0 5 rfl rfl) rfl
theorem dR_shareOf_6 : decode cX9_shareOf 6 = .ok (.istore_n 3, 1) := op_62 (rdSeg sd_06_cX9_shareOf_0 6 rfl rfl)
theorem dR_shareOf_7 : decode cX9_shareOf 7 = .ok (.aload_n 0, 1) := op_42 (rdSeg sd_06_cX9_shareOf_0 7 rfl rfl)
theorem dR_shareOf_8 : decode cX9_shareOf 8 = .ok (.iload_n 3, 1) := op_29 (rdSeg sd_06_cX9_shareOf_0 8 rfl rfl)
theorem dR_shareOf_9 : decode cX9_shareOf 9 = .ok (.iconst 2, 1) := op_5 (rdSeg sd_06_cX9_shareOf_0 9 rfl rfl)
theorem dR_shareOf_10 : decode cX9_shareOf 10 = .ok (.invokevirtual 73, 3) := op_182 (rdSeg sd_06_cX9_shareOf_0 10 rfl rfl) (rdSeg sd_06_cX9_shareOf_0 11 rfl rfl) (rdSeg sd_06_cX9_shareOf_0 12 rfl rfl) rfl
theorem dR_shareOf_13 : decode cX9_shareOf 13 = .ok (.istore 4, 2) := op_54 (rdSeg sd_06_cX9_shareOf_0 13 rfl rfl) (rdSeg sd_06_cX9_shareOf_0 14 rfl rfl)
theorem dR_shareOf_15 : decode cX9_shareOf 15 = .ok (.aload_n 0, 1) := op_42 (rdSeg sd_06_cX9_shareOf_0 15 rfl rfl)
theorem dR_shareOf_16 : decode cX9_shareOf 16 = .ok (.iload_n 1, 1) := op_27 (rdSeg sd_06_cX9_shareOf_0 16 rfl rfl)
end
section
-- decode rows of the reference
def sg_07_cX9_shareOf_3 : List UInt8 := [0xb8, 0x00, 0x5c, 0xb8, 0x00, 0x5c, 0xac]
def sg_07_cX9_shareOf_2 : List UInt8 := 0x00 :: 0x08 :: 0x15 :: 0x05 :: 0xa7 :: 0x00 :: 0x0c :: 0x15 :: 0x05 :: 0x15 :: 0x04 :: 0x15 :: 0x06 :: 0xb8 :: 0x00 :: 0x63 :: 0xac :: 0x15 :: 0x05 :: 0x03 :: 0x15 :: 0x04 :: 0x2a :: 0x1d :: 0x1b :: 0xb6 :: 0x00 :: 0xc4 :: 0x64 :: 0x03 :: 0x12 :: 0x3d :: sg_07_cX9_shareOf_3
def sg_07_cX9_shareOf_1 : List UInt8 := 0x1d :: 0xb6 :: 0x00 :: 0xba :: 0x6c :: 0xb8 :: 0x00 :: 0x5c :: 0xac :: 0x1c :: 0x04 :: 0xa0 :: 0x00 :: 0x26 :: 0x2a :: 0x1d :: 0x2a :: 0xb4 :: 0x00 :: 0x07 :: 0x05 :: 0x2e :: 0xb6 :: 0x00 :: 0xc4 :: 0x36 :: 0x06 :: 0x15 :: 0x06 :: 0x15 :: 0x04 :: 0xa3 :: sg_07_cX9_shareOf_2
def sg_07_cX9_shareOf_0 : List UInt8 := 0x2a :: 0x1b :: 0x03 :: 0xb6 :: 0x00 :: 0xb7 :: 0x3e :: 0x2a :: 0x1d :: 0x05 :: 0xb6 :: 0x00 :: 0x49 :: 0x36 :: 0x04 :: 0x2a :: 0x1b :: 0xb6 :: 0x00 :: 0xc1 :: 0x36 :: 0x05 :: 0x1c :: 0x9a :: 0x00 :: 0x12 :: 0x15 :: 0x05 :: 0x03 :: 0x15 :: 0x04 :: 0x2a :: sg_07_cX9_shareOf_1
set_option maxRecDepth 100000 in
theorem sd_07_cX9_shareOf_0 : cX9_shareOf.data.toList.drop 0 = sg_07_cX9_shareOf_0 := by decide +kernel
theorem sd_07_cX9_shareOf_1 : cX9_shareOf.data.toList.drop 32 = sg_07_cX9_shareOf_1 := sg_next sd_07_cX9_shareOf_0 rfl
theorem sd_07_cX9_shareOf_2 : cX9_shareOf.data.toList.drop 64 = sg_07_cX9_shareOf_2 := sg_next sd_07_cX9_shareOf_1 rfl
theorem sd_07_cX9_shareOf_3 : cX9_shareOf.data.toList.drop 96 = sg_07_cX9_shareOf_3 := sg_next sd_07_cX9_shareOf_2 rfl
theorem dR_shareOf_17 : decode cX9_shareOf 17 = .ok (.invokevirtual 193, 3) := op_182 (rdSeg sd_07_cX9_shareOf_0 17 rfl rfl) (rdSeg sd_07_cX9_shareOf_0 18 rfl rfl) (rdSeg sd_07_cX9_shareOf_0 19 rfl rfl) rfl
theorem dR_shareOf_20 : decode cX9_shareOf 20 = .ok (.istore 5, 2) := op_54 (rdSeg sd_07_cX9_shareOf_0 20 rfl rfl) (rdSeg sd_07_cX9_shareOf_0 21 rfl rfl)
theorem dR_shareOf_22 : decode cX9_shareOf 22 = .ok (.iload_n 2, 1) := op_28 (rdSeg sd_07_cX9_shareOf_0 22 rfl rfl)
theorem dR_shareOf_23 : decode cX9_shareOf 23 = .ok (.ifCond .ne 18, 3) := op_154 (rdSeg sd_07_cX9_shareOf_0 23 rfl rfl) (rdSeg sd_07_cX9_shareOf_0 24 rfl rfl) (rdSeg sd_07_cX9_shareOf_0 25 rfl rfl) (by decide +kernel)
theorem dR_shareOf_26 : decode cX9_shareOf 26 = .ok (.iload 5, 2) := op_21 (rdSeg sd_07_cX9_shareOf_0 26 rfl rfl) (rdSeg sd_07_cX9_shareOf_0 27 rfl rfl)
theorem dR_shareOf_28 : decode cX9_shareOf 28 = .ok (.iconst 0, 1) := op_3 (rdSeg sd_07_cX9_shareOf_0 28 rfl rfl)
theorem dR_shareOf_29 : decode cX9_shareOf 29 = .ok (.iload 4, 2) := op_21 (rdSeg sd_07_cX9_shareOf_0 29 rfl rfl) (rdSeg sd_07_cX9_shareOf_0 30 rfl rfl)
theorem dR_shareOf_31 : decode cX9_shareOf 31 = .ok (.aload_n 0, 1) := op_42 (rdSeg sd_07_cX9_shareOf_0 31 rfl rfl)
theorem dR_shareOf_32 : decode cX9_shareOf 32 = .ok (.iload_n 3, 1) := op_29 (rdSeg sd_07_cX9_shareOf_1 0 rfl rfl)
theorem dR_shareOf_33 : decode cX9_shareOf 33 = .ok (.invokevirtual 186, 3) := op_182 (rdSeg sd_07_cX9_shareOf_1 1 rfl rfl) (rdSeg sd_07_cX9_shareOf_1 2 rfl rfl) (rdSeg sd_07_cX9_shareOf_1 3 rfl rfl) rfl
theorem dR_shareOf_36 : decode cX9_shareOf 36 = .ok (.idiv, 1) := op_108 (rdSeg sd_07_cX9_shareOf_1 4 rfl rfl)
theorem dR_shareOf_37 : decode cX9_shareOf 37 = .ok (.invokestatic 92, 3) := op_184 (rdSeg sd_07_cX9_shareOf_1 5 rfl rfl) (rdSeg sd_07_cX9_shareOf_1 6 rfl rfl) (rdSeg sd_07_cX9_shareOf_1 7 rfl rfl) rfl
theorem dR_shareOf_40 : decode cX9_shareOf 40 = .ok (.ireturn, 1) := op_172 (rdSeg sd_07_cX9_shareOf_1 8 rfl rfl)
theorem dR_shareOf_41 : decode cX9_shareOf 41 = .ok (.iload_n 2, 1) := op_28 (rdSeg sd_07_cX9_shareOf_1 9 rfl rfl)
theorem dR_shareOf_42 : decode cX9_shareOf 42 = .ok (.iconst 1, 1) := op_4 (rdSeg sd_07_cX9_shareOf_1 10 rfl rfl)
theorem dR_shareOf_43 : decode cX9_shareOf 43 = .ok (.if_icmp .ne 38, 3) := op_160 (rdSeg sd_07_cX9_shareOf_1 11 rfl rfl) (rdSeg sd_07_cX9_shareOf_1 12 rfl rfl) (rdSeg sd_07_cX9_shareOf_1 13 rfl rfl) (by decide +kernel)
theorem dR_shareOf_46 : decode cX9_shareOf 46 = .ok (.aload_n 0, 1) := op_42 (rdSeg sd_07_cX9_shareOf_1 14 rfl rfl)
theorem dR_shareOf_47 : decode cX9_shareOf 47 = .ok (.iload_n 3, 1) := op_29 (rdSeg sd_07_cX9_shareOf_1 15 rfl rfl)
theorem dR_shareOf_48 : decode cX9_shareOf 48 = .ok (.aload_n 0, 1) := op_42 (rdSeg sd_07_cX9_shareOf_1 16 rfl rfl)
theorem dR_shareOf_49 : decode cX9_shareOf 49 = .ok (.getfield 7, 3) := op_180 (rdSeg sd_07_cX9_shareOf_1 17 rfl rfl) (rdSeg sd_07_cX9_shareOf_1 18 rfl rfl) (rdSeg sd_07_cX9_shareOf_1 19 rfl rfl) rfl
theorem dR_shareOf_52 : decode cX9_shareOf 52 = .ok (.iconst 2, 1) := op_5 (rdSeg sd_07_cX9_shareOf_1 20 rfl rfl)
theorem dR_shareOf_53 : decode cX9_shareOf 53 = .ok (.iaload, 1) := op_46 (rdSeg sd_07_cX9_shareOf_1 21 rfl rfl)
theorem dR_shareOf_54 : decode cX9_shareOf 54 = .ok (.invokevirtual 196, 3) := op_182 (rdSeg sd_07_cX9_shareOf_1 22 rfl rfl) (rdSeg sd_07_cX9_shareOf_1 23 rfl rfl) (rdSeg sd_07_cX9_shareOf_1 24 rfl rfl) rfl
theorem dR_shareOf_57 : decode cX9_shareOf 57 = .ok (.istore 6, 2) := op_54 (rdSeg sd_07_cX9_shareOf_1 25 rfl rfl) (rdSeg sd_07_cX9_shareOf_1 26 rfl rfl)
theorem dR_shareOf_59 : decode cX9_shareOf 59 = .ok (.iload 6, 2) := op_21 (rdSeg sd_07_cX9_shareOf_1 27 rfl rfl) (rdSeg sd_07_cX9_shareOf_1 28 rfl rfl)
theorem dR_shareOf_61 : decode cX9_shareOf 61 = .ok (.iload 4, 2) := op_21 (rdSeg sd_07_cX9_shareOf_1 29 rfl rfl) (rdSeg sd_07_cX9_shareOf_1 30 rfl rfl)
theorem dR_shareOf_63 : decode cX9_shareOf 63 = .ok (.if_icmp .gt 8, 3) := op_163 (rdSeg sd_07_cX9_shareOf_1 31 rfl rfl) (rdSeg sd_07_cX9_shareOf_2 0 rfl rfl) (rdSeg sd_07_cX9_shareOf_2 1 rfl rfl) (by decide +kernel)
theorem dR_shareOf_66 : decode cX9_shareOf 66 = .ok (.iload 5, 2) := op_21 (rdSeg sd_07_cX9_shareOf_2 2 rfl rfl) (rdSeg sd_07_cX9_shareOf_2 3 rfl rfl)
theorem dR_shareOf_68 : decode cX9_shareOf 68 = .ok (.goto 12, 3) := op_167 (rdSeg sd_07_cX9_shareOf_2 4 rfl rfl) (rdSeg sd_07_cX9_shareOf_2 5 rfl rfl) (rdSeg sd_07_cX9_shareOf_2 6 rfl rfl) (by decide +kernel)
theorem dR_shareOf_71 : decode cX9_shareOf 71 = .ok (.iload 5, 2) := op_21 (rdSeg sd_07_cX9_shareOf_2 7 rfl rfl) (rdSeg sd_07_cX9_shareOf_2 8 rfl rfl)
theorem dR_shareOf_73 : decode cX9_shareOf 73 = .ok (.iload 4, 2) := op_21 (rdSeg sd_07_cX9_shareOf_2 9 rfl rfl) (rdSeg sd_07_cX9_shareOf_2 10 rfl rfl)
theorem dR_shareOf_75 : decode cX9_shareOf 75 = .ok (.iload 6, 2) := op_21 (rdSeg sd_07_cX9_shareOf_2 11 rfl rfl) (rdSeg sd_07_cX9_shareOf_2 12 rfl rfl)
theorem dR_shareOf_77 : decode cX9_shareOf 77 = .ok (.invokestatic 99, 3) := op_184 (rdSeg sd_07_cX9_shareOf_2 13 rfl rfl) (rdSeg sd_07_cX9_shareOf_2 14 rfl rfl) (rdSeg sd_07_cX9_shareOf_2 15 rfl rfl) rfl
theorem dR_shareOf_80 : decode cX9_shareOf 80 = .ok (.ireturn, 1) := op_172 (rdSeg sd_07_cX9_shareOf_2 16 rfl rfl)
theorem dR_shareOf_81 : decode cX9_shareOf 81 = .ok (.iload 5, 2) := op_21 (rdSeg sd_07_cX9_shareOf_2 17 rfl rfl) (rdSeg sd_07_cX9_shareOf_2 18 rfl rfl)
theorem dR_shareOf_83 : decode cX9_shareOf 83 = .ok (.iconst 0, 1) := op_3 (rdSeg sd_07_cX9_shareOf_2 19 rfl rfl)
theorem dR_shareOf_84 : decode cX9_shareOf 84 = .ok (.iload 4, 2) := op_21 (rdSeg sd_07_cX9_shareOf_2 20 rfl rfl) (rdSeg sd_07_cX9_shareOf_2 21 rfl rfl)
theorem dR_shareOf_86 : decode cX9_shareOf 86 = .ok (.aload_n 0, 1) := op_42 (rdSeg sd_07_cX9_shareOf_2 22 rfl rfl)
theorem dR_shareOf_87 : decode cX9_shareOf 87 = .ok (.iload_n 3, 1) := op_29 (rdSeg sd_07_cX9_shareOf_2 23 rfl rfl)
theorem dR_shareOf_88 : decode cX9_shareOf 88 = .ok (.iload_n 1, 1) := op_27 (rdSeg sd_07_cX9_shareOf_2 24 rfl rfl)
theorem dR_shareOf_89 : decode cX9_shareOf 89 = .ok (.invokevirtual 196, 3) := op_182 (rdSeg sd_07_cX9_shareOf_2 25 rfl rfl) (rdSeg sd_07_cX9_shareOf_2 26 rfl rfl) (rdSeg sd_07_cX9_shareOf_2 27 rfl rfl) rfl
theorem dR_shareOf_92 : decode cX9_shareOf 92 = .ok (.isub, 1) := op_100 (rdSeg sd_07_cX9_shareOf_2 28 rfl rfl)
theorem dR_shareOf_93 : decode cX9_shareOf 93 = .ok (.iconst 0, 1) := op_3 (rdSeg sd_07_cX9_shareOf_2 29 rfl rfl)
theorem dR_shareOf_94 : decode cX9_shareOf 94 = .ok (.ldc 61, 2) := op_18 (rdSeg sd_07_cX9_shareOf_2 30 rfl rfl) (rdSeg sd_07_cX9_shareOf_2 31 rfl rfl)
theorem dR_shareOf_96 : decode cX9_shareOf 96 = .ok (.invokestatic 92, 3) := op_184 (rdSeg sd_07_cX9_shareOf_3 0 rfl rfl) (rdSeg sd_07_cX9_shareOf_3 1 rfl rfl) (rdSeg sd_07_cX9_shareOf_3 2 rfl rfl) rfl
theorem dR_shareOf_99 : decode cX9_shareOf 99 = .ok (.invokestatic 92, 3) := op_184 (rdSeg sd_07_cX9_shareOf_3 3 rfl rfl) (rdSeg sd_07_cX9_shareOf_3 4 rfl rfl) (rdSeg sd_07_cX9_shareOf_3 5 rfl rfl) rfl
theorem dR_shareOf_102 : decode cX9_shareOf 102 = .ok (.ireturn, 1) := op_172 (rdSeg sd_07_cX9_shareOf_3 6 rfl rfl)
def sg_07_cX9_isLaw_0 : List UInt8 := [0x1a, 0x03, 0x05, 0xb8, 0x00, 0x35, 0xac]
set_option maxRecDepth 100000 in
theorem sd_07_cX9_isLaw_0 : cX9_isLaw.data.toList.drop 0 = sg_07_cX9_isLaw_0 := by decide +kernel
theorem dR_isLaw_0 : decode cX9_isLaw 0 = .ok (.iload_n 0, 1) := op_26 (rdSeg sd_07_cX9_isLaw_0 0 rfl rfl)
theorem dR_isLaw_1 : decode cX9_isLaw 1 = .ok (.iconst 0, 1) := op_3 (rdSeg sd_07_cX9_isLaw_0 1 rfl rfl)
theorem dR_isLaw_2 : decode cX9_isLaw 2 = .ok (.iconst 2, 1) := op_5 (rdSeg sd_07_cX9_isLaw_0 2 rfl rfl)
theorem dR_isLaw_3 : decode cX9_isLaw 3 = .ok (.invokestatic 53, 3) := op_184 (rdSeg sd_07_cX9_isLaw_0 3 rfl rfl) (rdSeg sd_07_cX9_isLaw_0 4 rfl rfl) (rdSeg sd_07_cX9_isLaw_0 5 rfl rfl) rfl
theorem dR_isLaw_6 : decode cX9_isLaw 6 = .ok (.ireturn, 1) := op_172 (rdSeg sd_07_cX9_isLaw_0 6 rfl rfl)
def sg_07_cX9_share_0 : List UInt8 := [0x2a, 0x1b, 0xb6, 0x00, 0xbe, 0x99, 0x00, 0x13, 0x1c, 0xb8, 0x00, 0xc7, 0x99, 0x00, 0x0c, 0x2a, 0x1b, 0x1c, 0xb6, 0x00, 0xca, 0xa7, 0x00, 0x08, 0x2a, 0x04, 0xb6, 0x00, 0x3e, 0xac]
set_option maxRecDepth 100000 in
theorem sd_07_cX9_share_0 : cX9_share.data.toList.drop 0 = sg_07_cX9_share_0 := by decide +kernel
theorem dR_share_0 : decode cX9_share 0 = .ok (.aload_n 0, 1) := op_42 (rdSeg sd_07_cX9_share_0 0 rfl rfl)
theorem dR_share_1 : decode cX9_share 1 = .ok (.iload_n 1, 1) := op_27 (rdSeg sd_07_cX9_share_0 1 rfl rfl)
theorem dR_share_2 : decode cX9_share 2 = .ok (.invokevirtual 190, 3) := op_182 (rdSeg sd_07_cX9_share_0 2 rfl rfl) (rdSeg sd_07_cX9_share_0 3 rfl rfl) (rdSeg sd_07_cX9_share_0 4 rfl rfl) rfl
theorem dR_share_5 : decode cX9_share 5 = .ok (.ifCond .eq 19, 3) := op_153 (rdSeg sd_07_cX9_share_0 5 rfl rfl) (rdSeg sd_07_cX9_share_0 6 rfl rfl) (rdSeg sd_07_cX9_share_0 7 rfl rfl) (by decide +kernel)
theorem dR_share_8 : decode cX9_share 8 = .ok (.iload_n 2, 1) := op_28 (rdSeg sd_07_cX9_share_0 8 rfl rfl)
theorem dR_share_9 : decode cX9_share 9 = .ok (.invokestatic 199, 3) := op_184 (rdSeg sd_07_cX9_share_0 9 rfl rfl) (rdSeg sd_07_cX9_share_0 10 rfl rfl) (rdSeg sd_07_cX9_share_0 11 rfl rfl) rfl
theorem dR_share_12 : decode cX9_share 12 = .ok (.ifCond .eq 12, 3) := op_153 (rdSeg sd_07_cX9_share_0 12 rfl rfl) (rdSeg sd_07_cX9_share_0 13 rfl rfl) (rdSeg sd_07_cX9_share_0 14 rfl rfl) (by decide +kernel)
theorem dR_share_15 : decode cX9_share 15 = .ok (.aload_n 0, 1) := op_42 (rdSeg sd_07_cX9_share_0 15 rfl rfl)
theorem dR_share_16 : decode cX9_share 16 = .ok (.iload_n 1, 1) := op_27 (rdSeg sd_07_cX9_share_0 16 rfl rfl)
theorem dR_share_17 : decode cX9_share 17 = .ok (.iload_n 2, 1) := op_28 (rdSeg sd_07_cX9_share_0 17 rfl rfl)
theorem dR_share_18 : decode cX9_share 18 = .ok (.invokevirtual 202, 3) := op_182 (rdSeg sd_07_cX9_share_0 18 rfl rfl) (rdSeg sd_07_cX9_share_0 19 rfl rfl) (rdSeg sd_07_cX9_share_0 20 rfl rfl) rfl
theorem dR_share_21 : decode cX9_share 21 = .ok (.goto 8, 3) := op_167 (rdSeg sd_07_cX9_share_0 21 rfl rfl) (rdSeg sd_07_cX9_share_0 22 rfl rfl) (rdSeg sd_07_cX9_share_0 23 rfl rfl) (by decide +kernel)
theorem dR_share_24 : decode cX9_share 24 = .ok (.aload_n 0, 1) := op_42 (rdSeg sd_07_cX9_share_0 24 rfl rfl)
theorem dR_share_25 : decode cX9_share 25 = .ok (.iconst 1, 1) := op_4 (rdSeg sd_07_cX9_share_0 25 rfl rfl)
theorem dR_share_26 : decode cX9_share 26 = .ok (.invokevirtual 62, 3) := op_182 (rdSeg sd_07_cX9_share_0 26 rfl rfl) (rdSeg sd_07_cX9_share_0 27 rfl rfl) (rdSeg sd_07_cX9_share_0 28 rfl rfl) rfl
theorem dR_share_29 : decode cX9_share 29 = .ok (.ireturn, 1) := op_172 (rdSeg sd_07_cX9_share_0 29 rfl rfl)
def sg_07_cX9_left_2 : List UInt8 := [0x03, 0x64, 0x3e, 0x84, 0x04, 0x01, 0xa7, 0xff, 0xd9, 0x1d, 0xac]
def sg_07_cX9_left_1 : List UInt8 := 0x04 :: 0x2a :: 0xb4 :: 0x00 :: 0x07 :: 0x05 :: 0x2e :: 0xa2 :: 0x00 :: 0x22 :: 0x1d :: 0x2a :: 0x15 :: 0x04 :: 0x03 :: 0xb6 :: 0x00 :: 0xb7 :: 0x1b :: 0xa0 :: 0x00 :: 0x0d :: 0x2a :: 0x15 :: 0x04 :: 0x1c :: 0xb6 :: 0x00 :: 0xca :: 0xa7 :: 0x00 :: 0x04 :: sg_07_cX9_left_2
def sg_07_cX9_left_0 : List UInt8 := 0x2a :: 0x1b :: 0xb6 :: 0x00 :: 0x4d :: 0x99 :: 0x00 :: 0x0a :: 0x1c :: 0xb8 :: 0x00 :: 0xc7 :: 0x9a :: 0x00 :: 0x09 :: 0x2a :: 0x04 :: 0xb6 :: 0x00 :: 0x3e :: 0xac :: 0x2a :: 0x1b :: 0x05 :: 0xb6 :: 0x00 :: 0x49 :: 0x3e :: 0x03 :: 0x36 :: 0x04 :: 0x15 :: sg_07_cX9_left_1
set_option maxRecDepth 100000 in
theorem sd_07_cX9_left_0 : cX9_left.data.toList.drop 0 = sg_07_cX9_left_0 := by decide +kernel
theorem sd_07_cX9_left_1 : cX9_left.data.toList.drop 32 = sg_07_cX9_left_1 := sg_next sd_07_cX9_left_0 rfl
theorem sd_07_cX9_left_2 : cX9_left.data.toList.drop 64 = sg_07_cX9_left_2 := sg_next sd_07_cX9_left_1 rfl
theorem dR_left_0 : decode cX9_left 0 = .ok (.aload_n 0, 1) := op_42 (rdSeg sd_07_cX9_left_0 0 rfl rfl)
theorem dR_left_1 : decode cX9_left 1 = .ok (.iload_n 1, 1) := op_27 (rdSeg sd_07_cX9_left_0 1 rfl rfl)
theorem dR_left_2 : decode cX9_left 2 = .ok (.invokevirtual 77, 3) := op_182 (rdSeg sd_07_cX9_left_0 2 rfl rfl) (rdSeg sd_07_cX9_left_0 3 rfl rfl) (rdSeg sd_07_cX9_left_0 4 rfl rfl) rfl
theorem dR_left_5 : decode cX9_left 5 = .ok (.ifCond .eq 10, 3) := op_153 (rdSeg sd_07_cX9_left_0 5 rfl rfl) (rdSeg sd_07_cX9_left_0 6 rfl rfl) (rdSeg sd_07_cX9_left_0 7 rfl rfl) (by decide +kernel)
theorem dR_left_8 : decode cX9_left 8 = .ok (.iload_n 2, 1) := op_28 (rdSeg sd_07_cX9_left_0 8 rfl rfl)
theorem dR_left_9 : decode cX9_left 9 = .ok (.invokestatic 199, 3) := op_184 (rdSeg sd_07_cX9_left_0 9 rfl rfl) (rdSeg sd_07_cX9_left_0 10 rfl rfl) (rdSeg sd_07_cX9_left_0 11 rfl rfl) rfl
theorem dR_left_12 : decode cX9_left 12 = .ok (.ifCond .ne 9, 3) := op_154 (rdSeg sd_07_cX9_left_0 12 rfl rfl) (rdSeg sd_07_cX9_left_0 13 rfl rfl) (rdSeg sd_07_cX9_left_0 14 rfl rfl) (by decide +kernel)
theorem dR_left_15 : decode cX9_left 15 = .ok (.aload_n 0, 1) := op_42 (rdSeg sd_07_cX9_left_0 15 rfl rfl)
theorem dR_left_16 : decode cX9_left 16 = .ok (.iconst 1, 1) := op_4 (rdSeg sd_07_cX9_left_0 16 rfl rfl)
theorem dR_left_17 : decode cX9_left 17 = .ok (.invokevirtual 62, 3) := op_182 (rdSeg sd_07_cX9_left_0 17 rfl rfl) (rdSeg sd_07_cX9_left_0 18 rfl rfl) (rdSeg sd_07_cX9_left_0 19 rfl rfl) rfl
theorem dR_left_20 : decode cX9_left 20 = .ok (.ireturn, 1) := op_172 (rdSeg sd_07_cX9_left_0 20 rfl rfl)
theorem dR_left_21 : decode cX9_left 21 = .ok (.aload_n 0, 1) := op_42 (rdSeg sd_07_cX9_left_0 21 rfl rfl)
theorem dR_left_22 : decode cX9_left 22 = .ok (.iload_n 1, 1) := op_27 (rdSeg sd_07_cX9_left_0 22 rfl rfl)
theorem dR_left_23 : decode cX9_left 23 = .ok (.iconst 2, 1) := op_5 (rdSeg sd_07_cX9_left_0 23 rfl rfl)
theorem dR_left_24 : decode cX9_left 24 = .ok (.invokevirtual 73, 3) := op_182 (rdSeg sd_07_cX9_left_0 24 rfl rfl) (rdSeg sd_07_cX9_left_0 25 rfl rfl) (rdSeg sd_07_cX9_left_0 26 rfl rfl) rfl
theorem dR_left_27 : decode cX9_left 27 = .ok (.istore_n 3, 1) := op_62 (rdSeg sd_07_cX9_left_0 27 rfl rfl)
theorem dR_left_28 : decode cX9_left 28 = .ok (.iconst 0, 1) := op_3 (rdSeg sd_07_cX9_left_0 28 rfl rfl)
theorem dR_left_29 : decode cX9_left 29 = .ok (.istore 4, 2) := op_54 (rdSeg sd_07_cX9_left_0 29 rfl rfl) (rdSeg sd_07_cX9_left_0 30 rfl rfl)
theorem dR_left_31 : decode cX9_left 31 = .ok (.iload 4, 2) := op_21 (rdSeg sd_07_cX9_left_0 31 rfl rfl) (rdSeg sd_07_cX9_left_1 0 rfl rfl)
theorem dR_left_33 : decode cX9_left 33 = .ok (.aload_n 0, 1) := op_42 (rdSeg sd_07_cX9_left_1 1 rfl rfl)
theorem dR_left_34 : decode cX9_left 34 = .ok (.getfield 7, 3) := op_180 (rdSeg sd_07_cX9_left_1 2 rfl rfl) (rdSeg sd_07_cX9_left_1 3 rfl rfl) (rdSeg sd_07_cX9_left_1 4 rfl rfl) rfl
theorem dR_left_37 : decode cX9_left 37 = .ok (.iconst 2, 1) := op_5 (rdSeg sd_07_cX9_left_1 5 rfl rfl)
theorem dR_left_38 : decode cX9_left 38 = .ok (.iaload, 1) := op_46 (rdSeg sd_07_cX9_left_1 6 rfl rfl)
theorem dR_left_39 : decode cX9_left 39 = .ok (.if_icmp .ge 34, 3) := op_162 (rdSeg sd_07_cX9_left_1 7 rfl rfl) (rdSeg sd_07_cX9_left_1 8 rfl rfl) (rdSeg sd_07_cX9_left_1 9 rfl rfl) (by decide +kernel)
theorem dR_left_42 : decode cX9_left 42 = .ok (.iload_n 3, 1) := op_29 (rdSeg sd_07_cX9_left_1 10 rfl rfl)
theorem dR_left_43 : decode cX9_left 43 = .ok (.aload_n 0, 1) := op_42 (rdSeg sd_07_cX9_left_1 11 rfl rfl)
theorem dR_left_44 : decode cX9_left 44 = .ok (.iload 4, 2) := op_21 (rdSeg sd_07_cX9_left_1 12 rfl rfl) (rdSeg sd_07_cX9_left_1 13 rfl rfl)
theorem dR_left_46 : decode cX9_left 46 = .ok (.iconst 0, 1) := op_3 (rdSeg sd_07_cX9_left_1 14 rfl rfl)
theorem dR_left_47 : decode cX9_left 47 = .ok (.invokevirtual 183, 3) := op_182 (rdSeg sd_07_cX9_left_1 15 rfl rfl) (rdSeg sd_07_cX9_left_1 16 rfl rfl) (rdSeg sd_07_cX9_left_1 17 rfl rfl) rfl
theorem dR_left_50 : decode cX9_left 50 = .ok (.iload_n 1, 1) := op_27 (rdSeg sd_07_cX9_left_1 18 rfl rfl)
theorem dR_left_51 : decode cX9_left 51 = .ok (.if_icmp .ne 13, 3) := op_160 (rdSeg sd_07_cX9_left_1 19 rfl rfl) (rdSeg sd_07_cX9_left_1 20 rfl rfl) (rdSeg sd_07_cX9_left_1 21 rfl rfl) (by decide +kernel)
theorem dR_left_54 : decode cX9_left 54 = .ok (.aload_n 0, 1) := op_42 (rdSeg sd_07_cX9_left_1 22 rfl rfl)
theorem dR_left_55 : decode cX9_left 55 = .ok (.iload 4, 2) := op_21 (rdSeg sd_07_cX9_left_1 23 rfl rfl) (rdSeg sd_07_cX9_left_1 24 rfl rfl)
theorem dR_left_57 : decode cX9_left 57 = .ok (.iload_n 2, 1) := op_28 (rdSeg sd_07_cX9_left_1 25 rfl rfl)
theorem dR_left_58 : decode cX9_left 58 = .ok (.invokevirtual 202, 3) := op_182 (rdSeg sd_07_cX9_left_1 26 rfl rfl) (rdSeg sd_07_cX9_left_1 27 rfl rfl) (rdSeg sd_07_cX9_left_1 28 rfl rfl) rfl
theorem dR_left_61 : decode cX9_left 61 = .ok (.goto 4, 3) := op_167 (rdSeg sd_07_cX9_left_1 29 rfl rfl) (rdSeg sd_07_cX9_left_1 30 rfl rfl) (rdSeg sd_07_cX9_left_1 31 rfl rfl) (by decide +kernel)
theorem dR_left_64 : decode cX9_left 64 = .ok (.iconst 0, 1) := op_3 (rdSeg sd_07_cX9_left_2 0 rfl rfl)
theorem dR_left_65 : decode cX9_left 65 = .ok (.isub, 1) := op_100 (rdSeg sd_07_cX9_left_2 1 rfl rfl)
theorem dR_left_66 : decode cX9_left 66 = .ok (.istore_n 3, 1) := op_62 (rdSeg sd_07_cX9_left_2 2 rfl rfl)
theorem dR_left_67 : decode cX9_left 67 = .ok (.iinc 4 1, 3) := op_132 (rdSeg sd_07_cX9_left_2 3 rfl rfl) (rdSeg sd_07_cX9_left_2 4 rfl rfl) (rdSeg sd_07_cX9_left_2 5 rfl rfl) (by decide +kernel)
theorem dR_left_70 : decode cX9_left 70 = .ok (.goto (-39), 3) := op_167 (rdSeg sd_07_cX9_left_2 6 rfl rfl) (rdSeg sd_07_cX9_left_2 7 rfl rfl) (rdSeg sd_07_cX9_left_2 8 rfl rfl) (by decide +kernel)
theorem dR_left_73 : decode cX9_left 73 = .ok (.iload_n 3, 1) := op_29 (rdSeg sd_07_cX9_left_2 9 rfl rfl)
theorem dR_left_74 : decode cX9_left 74 = .ok (.ireturn, 1) := op_172 (rdSeg sd_07_cX9_left_2 10 rfl rfl)
def sg_07_cX9_isPaper_1 : List UInt8 := [0xa7, 0x00, 0x04, 0x03, 0xac]
def sg_07_cX9_isPaper_0 : List UInt8 := 0x2a :: 0x1b :: 0xb6 :: 0x00 :: 0x4d :: 0x99 :: 0x00 :: 0x1e :: 0x2a :: 0x1c :: 0xb6 :: 0x00 :: 0x4d :: 0x99 :: 0x00 :: 0x16 :: 0x1b :: 0x1c :: 0x9f :: 0x00 :: 0x11 :: 0x1d :: 0x04 :: 0x10 :: 0x08 :: 0xb8 :: 0x00 :: 0x35 :: 0x99 :: 0x00 :: 0x07 :: 0x04 :: sg_07_cX9_isPaper_1
set_option maxRecDepth 100000 in
theorem sd_07_cX9_isPaper_0 : cX9_isPaper.data.toList.drop 0 = sg_07_cX9_isPaper_0 := by decide +kernel
theorem sd_07_cX9_isPaper_1 : cX9_isPaper.data.toList.drop 32 = sg_07_cX9_isPaper_1 := sg_next sd_07_cX9_isPaper_0 rfl
theorem dR_isPaper_0 : decode cX9_isPaper 0 = .ok (.aload_n 0, 1) := op_42 (rdSeg sd_07_cX9_isPaper_0 0 rfl rfl)
theorem dR_isPaper_1 : decode cX9_isPaper 1 = .ok (.iload_n 1, 1) := op_27 (rdSeg sd_07_cX9_isPaper_0 1 rfl rfl)
theorem dR_isPaper_2 : decode cX9_isPaper 2 = .ok (.invokevirtual 77, 3) := op_182 (rdSeg sd_07_cX9_isPaper_0 2 rfl rfl) (rdSeg sd_07_cX9_isPaper_0 3 rfl rfl) (rdSeg sd_07_cX9_isPaper_0 4 rfl rfl) rfl
theorem dR_isPaper_5 : decode cX9_isPaper 5 = .ok (.ifCond .eq 30, 3) := op_153 (rdSeg sd_07_cX9_isPaper_0 5 rfl rfl) (rdSeg sd_07_cX9_isPaper_0 6 rfl rfl) (rdSeg sd_07_cX9_isPaper_0 7 rfl rfl) (by decide +kernel)
theorem dR_isPaper_8 : decode cX9_isPaper 8 = .ok (.aload_n 0, 1) := op_42 (rdSeg sd_07_cX9_isPaper_0 8 rfl rfl)
theorem dR_isPaper_9 : decode cX9_isPaper 9 = .ok (.iload_n 2, 1) := op_28 (rdSeg sd_07_cX9_isPaper_0 9 rfl rfl)
theorem dR_isPaper_10 : decode cX9_isPaper 10 = .ok (.invokevirtual 77, 3) := op_182 (rdSeg sd_07_cX9_isPaper_0 10 rfl rfl) (rdSeg sd_07_cX9_isPaper_0 11 rfl rfl) (rdSeg sd_07_cX9_isPaper_0 12 rfl rfl) rfl
theorem dR_isPaper_13 : decode cX9_isPaper 13 = .ok (.ifCond .eq 22, 3) := op_153 (rdSeg sd_07_cX9_isPaper_0 13 rfl rfl) (rdSeg sd_07_cX9_isPaper_0 14 rfl rfl) (rdSeg sd_07_cX9_isPaper_0 15 rfl rfl) (by decide +kernel)
theorem dR_isPaper_16 : decode cX9_isPaper 16 = .ok (.iload_n 1, 1) := op_27 (rdSeg sd_07_cX9_isPaper_0 16 rfl rfl)
theorem dR_isPaper_17 : decode cX9_isPaper 17 = .ok (.iload_n 2, 1) := op_28 (rdSeg sd_07_cX9_isPaper_0 17 rfl rfl)
theorem dR_isPaper_18 : decode cX9_isPaper 18 = .ok (.if_icmp .eq 17, 3) := op_159 (rdSeg sd_07_cX9_isPaper_0 18 rfl rfl) (rdSeg sd_07_cX9_isPaper_0 19 rfl rfl) (rdSeg sd_07_cX9_isPaper_0 20 rfl rfl) (by decide +kernel)
theorem dR_isPaper_21 : decode cX9_isPaper 21 = .ok (.iload_n 3, 1) := op_29 (rdSeg sd_07_cX9_isPaper_0 21 rfl rfl)
theorem dR_isPaper_22 : decode cX9_isPaper 22 = .ok (.iconst 1, 1) := op_4 (rdSeg sd_07_cX9_isPaper_0 22 rfl rfl)
theorem dR_isPaper_23 : decode cX9_isPaper 23 = .ok (.bipush 8, 2) := op_16 (rdSeg sd_07_cX9_isPaper_0 23 rfl rfl) (rdSeg sd_07_cX9_isPaper_0 24 rfl rfl) (by decide +kernel)
theorem dR_isPaper_25 : decode cX9_isPaper 25 = .ok (.invokestatic 53, 3) := op_184 (rdSeg sd_07_cX9_isPaper_0 25 rfl rfl) (rdSeg sd_07_cX9_isPaper_0 26 rfl rfl) (rdSeg sd_07_cX9_isPaper_0 27 rfl rfl) rfl
theorem dR_isPaper_28 : decode cX9_isPaper 28 = .ok (.ifCond .eq 7, 3) := op_153 (rdSeg sd_07_cX9_isPaper_0 28 rfl rfl) (rdSeg sd_07_cX9_isPaper_0 29 rfl rfl) (rdSeg sd_07_cX9_isPaper_0 30 rfl rfl) (by decide +kernel)
theorem dR_isPaper_31 : decode cX9_isPaper 31 = .ok (.iconst 1, 1) := op_4 (rdSeg sd_07_cX9_isPaper_0 31 rfl rfl)
theorem dR_isPaper_32 : decode cX9_isPaper 32 = .ok (.goto 4, 3) := op_167 (rdSeg sd_07_cX9_isPaper_1 0 rfl rfl) (rdSeg sd_07_cX9_isPaper_1 1 rfl rfl) (rdSeg sd_07_cX9_isPaper_1 2 rfl rfl) (by decide +kernel)
theorem dR_isPaper_35 : decode cX9_isPaper 35 = .ok (.iconst 0, 1) := op_3 (rdSeg sd_07_cX9_isPaper_1 3 rfl rfl)
theorem dR_isPaper_36 : decode cX9_isPaper 36 = .ok (.ireturn, 1) := op_172 (rdSeg sd_07_cX9_isPaper_1 4 rfl rfl)
def sg_07_cX9_addPaper_1 : List UInt8 := [0x2a, 0xb4, 0x00, 0x07, 0x15, 0x04, 0x05, 0x60, 0x1d, 0x4f, 0x2a, 0xb4, 0x00, 0x07, 0x06, 0x5c, 0x2e, 0x04, 0x60, 0x4f, 0xb1]
def sg_07_cX9_addPaper_0 : List UInt8 := 0x11 :: 0x00 :: 0xa0 :: 0x06 :: 0x2a :: 0xb4 :: 0x00 :: 0x07 :: 0x06 :: 0x2e :: 0x68 :: 0x60 :: 0x36 :: 0x04 :: 0x2a :: 0xb4 :: 0x00 :: 0x07 :: 0x15 :: 0x04 :: 0x1b :: 0x4f :: 0x2a :: 0xb4 :: 0x00 :: 0x07 :: 0x15 :: 0x04 :: 0x04 :: 0x60 :: 0x1c :: 0x4f :: sg_07_cX9_addPaper_1
set_option maxRecDepth 100000 in
theorem sd_07_cX9_addPaper_0 : cX9_addPaper.data.toList.drop 0 = sg_07_cX9_addPaper_0 := by decide +kernel
theorem sd_07_cX9_addPaper_1 : cX9_addPaper.data.toList.drop 32 = sg_07_cX9_addPaper_1 := sg_next sd_07_cX9_addPaper_0 rfl
theorem dR_addPaper_0 : decode cX9_addPaper 0 = .ok (.sipush 160, 3) := op_17 (rdSeg sd_07_cX9_addPaper_0 0 rfl rfl) (rdSeg sd_07_cX9_addPaper_0 1 rfl rfl) (rdSeg sd_07_cX9_addPaper_0 2 rfl rfl) (by decide +kernel)
theorem dR_addPaper_3 : decode cX9_addPaper 3 = .ok (.iconst 3, 1) := op_6 (rdSeg sd_07_cX9_addPaper_0 3 rfl rfl)
theorem dR_addPaper_4 : decode cX9_addPaper 4 = .ok (.aload_n 0, 1) := op_42 (rdSeg sd_07_cX9_addPaper_0 4 rfl rfl)
theorem dR_addPaper_5 : decode cX9_addPaper 5 = .ok (.getfield 7, 3) := op_180 (rdSeg sd_07_cX9_addPaper_0 5 rfl rfl) (rdSeg sd_07_cX9_addPaper_0 6 rfl rfl) (rdSeg sd_07_cX9_addPaper_0 7 rfl rfl) rfl
theorem dR_addPaper_8 : decode cX9_addPaper 8 = .ok (.iconst 3, 1) := op_6 (rdSeg sd_07_cX9_addPaper_0 8 rfl rfl)
theorem dR_addPaper_9 : decode cX9_addPaper 9 = .ok (.iaload, 1) := op_46 (rdSeg sd_07_cX9_addPaper_0 9 rfl rfl)
theorem dR_addPaper_10 : decode cX9_addPaper 10 = .ok (.imul, 1) := op_104 (rdSeg sd_07_cX9_addPaper_0 10 rfl rfl)
theorem dR_addPaper_11 : decode cX9_addPaper 11 = .ok (.iadd, 1) := op_96 (rdSeg sd_07_cX9_addPaper_0 11 rfl rfl)
theorem dR_addPaper_12 : decode cX9_addPaper 12 = .ok (.istore 4, 2) := op_54 (rdSeg sd_07_cX9_addPaper_0 12 rfl rfl) (rdSeg sd_07_cX9_addPaper_0 13 rfl rfl)
theorem dR_addPaper_14 : decode cX9_addPaper 14 = .ok (.aload_n 0, 1) := op_42 (rdSeg sd_07_cX9_addPaper_0 14 rfl rfl)
theorem dR_addPaper_15 : decode cX9_addPaper 15 = .ok (.getfield 7, 3) := op_180 (rdSeg sd_07_cX9_addPaper_0 15 rfl rfl) (rdSeg sd_07_cX9_addPaper_0 16 rfl rfl) (rdSeg sd_07_cX9_addPaper_0 17 rfl rfl) rfl
theorem dR_addPaper_18 : decode cX9_addPaper 18 = .ok (.iload 4, 2) := op_21 (rdSeg sd_07_cX9_addPaper_0 18 rfl rfl) (rdSeg sd_07_cX9_addPaper_0 19 rfl rfl)
theorem dR_addPaper_20 : decode cX9_addPaper 20 = .ok (.iload_n 1, 1) := op_27 (rdSeg sd_07_cX9_addPaper_0 20 rfl rfl)
theorem dR_addPaper_21 : decode cX9_addPaper 21 = .ok (.iastore, 1) := op_79 (rdSeg sd_07_cX9_addPaper_0 21 rfl rfl)
theorem dR_addPaper_22 : decode cX9_addPaper 22 = .ok (.aload_n 0, 1) := op_42 (rdSeg sd_07_cX9_addPaper_0 22 rfl rfl)
theorem dR_addPaper_23 : decode cX9_addPaper 23 = .ok (.getfield 7, 3) := op_180 (rdSeg sd_07_cX9_addPaper_0 23 rfl rfl) (rdSeg sd_07_cX9_addPaper_0 24 rfl rfl) (rdSeg sd_07_cX9_addPaper_0 25 rfl rfl) rfl
theorem dR_addPaper_26 : decode cX9_addPaper 26 = .ok (.iload 4, 2) := op_21 (rdSeg sd_07_cX9_addPaper_0 26 rfl rfl) (rdSeg sd_07_cX9_addPaper_0 27 rfl rfl)
theorem dR_addPaper_28 : decode cX9_addPaper 28 = .ok (.iconst 1, 1) := op_4 (rdSeg sd_07_cX9_addPaper_0 28 rfl rfl)
theorem dR_addPaper_29 : decode cX9_addPaper 29 = .ok (.iadd, 1) := op_96 (rdSeg sd_07_cX9_addPaper_0 29 rfl rfl)
theorem dR_addPaper_30 : decode cX9_addPaper 30 = .ok (.iload_n 2, 1) := op_28 (rdSeg sd_07_cX9_addPaper_0 30 rfl rfl)
theorem dR_addPaper_31 : decode cX9_addPaper 31 = .ok (.iastore, 1) := op_79 (rdSeg sd_07_cX9_addPaper_0 31 rfl rfl)
theorem dR_addPaper_32 : decode cX9_addPaper 32 = .ok (.aload_n 0, 1) := op_42 (rdSeg sd_07_cX9_addPaper_1 0 rfl rfl)
theorem dR_addPaper_33 : decode cX9_addPaper 33 = .ok (.getfield 7, 3) := op_180 (rdSeg sd_07_cX9_addPaper_1 1 rfl rfl) (rdSeg sd_07_cX9_addPaper_1 2 rfl rfl) (rdSeg sd_07_cX9_addPaper_1 3 rfl rfl) rfl
theorem dR_addPaper_36 : decode cX9_addPaper 36 = .ok (.iload 4, 2) := op_21 (rdSeg sd_07_cX9_addPaper_1 4 rfl rfl) (rdSeg sd_07_cX9_addPaper_1 5 rfl rfl)
theorem dR_addPaper_38 : decode cX9_addPaper 38 = .ok (.iconst 2, 1) := op_5 (rdSeg sd_07_cX9_addPaper_1 6 rfl rfl)
theorem dR_addPaper_39 : decode cX9_addPaper 39 = .ok (.iadd, 1) := op_96 (rdSeg sd_07_cX9_addPaper_1 7 rfl rfl)
theorem dR_addPaper_40 : decode cX9_addPaper 40 = .ok (.iload_n 3, 1) := op_29 (rdSeg sd_07_cX9_addPaper_1 8 rfl rfl)
theorem dR_addPaper_41 : decode cX9_addPaper 41 = .ok (.iastore, 1) := op_79 (rdSeg sd_07_cX9_addPaper_1 9 rfl rfl)
theorem dR_addPaper_42 : decode cX9_addPaper 42 = .ok (.aload_n 0, 1) := op_42 (rdSeg sd_07_cX9_addPaper_1 10 rfl rfl)
theorem dR_addPaper_43 : decode cX9_addPaper 43 = .ok (.getfield 7, 3) := op_180 (rdSeg sd_07_cX9_addPaper_1 11 rfl rfl) (rdSeg sd_07_cX9_addPaper_1 12 rfl rfl) (rdSeg sd_07_cX9_addPaper_1 13 rfl rfl) rfl
theorem dR_addPaper_46 : decode cX9_addPaper 46 = .ok (.iconst 3, 1) := op_6 (rdSeg sd_07_cX9_addPaper_1 14 rfl rfl)
theorem dR_addPaper_47 : decode cX9_addPaper 47 = .ok (.dup2, 1) := op_92 (rdSeg sd_07_cX9_addPaper_1 15 rfl rfl)
theorem dR_addPaper_48 : decode cX9_addPaper 48 = .ok (.iaload, 1) := op_46 (rdSeg sd_07_cX9_addPaper_1 16 rfl rfl)
theorem dR_addPaper_49 : decode cX9_addPaper 49 = .ok (.iconst 1, 1) := op_4 (rdSeg sd_07_cX9_addPaper_1 17 rfl rfl)
theorem dR_addPaper_50 : decode cX9_addPaper 50 = .ok (.iadd, 1) := op_96 (rdSeg sd_07_cX9_addPaper_1 18 rfl rfl)
theorem dR_addPaper_51 : decode cX9_addPaper 51 = .ok (.iastore, 1) := op_79 (rdSeg sd_07_cX9_addPaper_1 19 rfl rfl)
theorem dR_addPaper_52 : decode cX9_addPaper 52 = .ok (.return_, 1) := op_177 (rdSeg sd_07_cX9_addPaper_1 20 rfl rfl)
def sg_07_cX9_paper_1 : List UInt8 := [0xac, 0x2a, 0x1b, 0x1c, 0x1d, 0xb6, 0x00, 0xd0, 0x2a, 0xb4, 0x00, 0x07, 0x06, 0x2e, 0x04, 0x64, 0xac]
def sg_07_cX9_paper_0 : List UInt8 := 0x2a :: 0x1b :: 0x1c :: 0x1d :: 0xb6 :: 0x00 :: 0xcd :: 0x9a :: 0x00 :: 0x09 :: 0x2a :: 0x04 :: 0xb6 :: 0x00 :: 0x3e :: 0xac :: 0x2a :: 0xb4 :: 0x00 :: 0x07 :: 0x06 :: 0x2e :: 0x10 :: 0x06 :: 0xa0 :: 0x00 :: 0x09 :: 0x2a :: 0x07 :: 0xb6 :: 0x00 :: 0x3e :: sg_07_cX9_paper_1
set_option maxRecDepth 100000 in
theorem sd_07_cX9_paper_0 : cX9_paper.data.toList.drop 0 = sg_07_cX9_paper_0 := by decide +kernel
theorem sd_07_cX9_paper_1 : cX9_paper.data.toList.drop 32 = sg_07_cX9_paper_1 := sg_next sd_07_cX9_paper_0 rfl
theorem dR_paper_0 : decode cX9_paper 0 = .ok (.aload_n 0, 1) := op_42 (rdSeg sd_07_cX9_paper_0 0 rfl rfl)
theorem dR_paper_1 : decode cX9_paper 1 = .ok (.iload_n 1, 1) := op_27 (rdSeg sd_07_cX9_paper_0 1 rfl rfl)
theorem dR_paper_2 : decode cX9_paper 2 = .ok (.iload_n 2, 1) := op_28 (rdSeg sd_07_cX9_paper_0 2 rfl rfl)
theorem dR_paper_3 : decode cX9_paper 3 = .ok (.iload_n 3, 1) := op_29 (rdSeg sd_07_cX9_paper_0 3 rfl rfl)
theorem dR_paper_4 : decode cX9_paper 4 = .ok (.invokevirtual 205, 3) := op_182 (rdSeg sd_07_cX9_paper_0 4 rfl rfl) (rdSeg sd_07_cX9_paper_0 5 rfl rfl) (rdSeg sd_07_cX9_paper_0 6 rfl rfl) rfl
theorem dR_paper_7 : decode cX9_paper 7 = .ok (.ifCond .ne 9, 3) := op_154 (rdSeg sd_07_cX9_paper_0 7 rfl rfl) (rdSeg sd_07_cX9_paper_0 8 rfl rfl) (rdSeg sd_07_cX9_paper_0 9 rfl rfl) (by decide +kernel)
theorem dR_paper_10 : decode cX9_paper 10 = .ok (.aload_n 0, 1) := op_42 (rdSeg sd_07_cX9_paper_0 10 rfl rfl)
theorem dR_paper_11 : decode cX9_paper 11 = .ok (.iconst 1, 1) := op_4 (rdSeg sd_07_cX9_paper_0 11 rfl rfl)
theorem dR_paper_12 : decode cX9_paper 12 = .ok (.invokevirtual 62, 3) := op_182 (rdSeg sd_07_cX9_paper_0 12 rfl rfl) (rdSeg sd_07_cX9_paper_0 13 rfl rfl) (rdSeg sd_07_cX9_paper_0 14 rfl rfl) rfl
theorem dR_paper_15 : decode cX9_paper 15 = .ok (.ireturn, 1) := op_172 (rdSeg sd_07_cX9_paper_0 15 rfl rfl)
theorem dR_paper_16 : decode cX9_paper 16 = .ok (.aload_n 0, 1) := op_42 (rdSeg sd_07_cX9_paper_0 16 rfl rfl)
theorem dR_paper_17 : decode cX9_paper 17 = .ok (.getfield 7, 3) := op_180 (rdSeg sd_07_cX9_paper_0 17 rfl rfl) (rdSeg sd_07_cX9_paper_0 18 rfl rfl) (rdSeg sd_07_cX9_paper_0 19 rfl rfl) rfl
theorem dR_paper_20 : decode cX9_paper 20 = .ok (.iconst 3, 1) := op_6 (rdSeg sd_07_cX9_paper_0 20 rfl rfl)
theorem dR_paper_21 : decode cX9_paper 21 = .ok (.iaload, 1) := op_46 (rdSeg sd_07_cX9_paper_0 21 rfl rfl)
theorem dR_paper_22 : decode cX9_paper 22 = .ok (.bipush 6, 2) := op_16 (rdSeg sd_07_cX9_paper_0 22 rfl rfl) (rdSeg sd_07_cX9_paper_0 23 rfl rfl) (by decide +kernel)
theorem dR_paper_24 : decode cX9_paper 24 = .ok (.if_icmp .ne 9, 3) := op_160 (rdSeg sd_07_cX9_paper_0 24 rfl rfl) (rdSeg sd_07_cX9_paper_0 25 rfl rfl) (rdSeg sd_07_cX9_paper_0 26 rfl rfl) (by decide +kernel)
theorem dR_paper_27 : decode cX9_paper 27 = .ok (.aload_n 0, 1) := op_42 (rdSeg sd_07_cX9_paper_0 27 rfl rfl)
theorem dR_paper_28 : decode cX9_paper 28 = .ok (.iconst 4, 1) := op_7 (rdSeg sd_07_cX9_paper_0 28 rfl rfl)
theorem dR_paper_29 : decode cX9_paper 29 = .ok (.invokevirtual 62, 3) := op_182 (rdSeg sd_07_cX9_paper_0 29 rfl rfl) (rdSeg sd_07_cX9_paper_0 30 rfl rfl) (rdSeg sd_07_cX9_paper_0 31 rfl rfl) rfl
theorem dR_paper_32 : decode cX9_paper 32 = .ok (.ireturn, 1) := op_172 (rdSeg sd_07_cX9_paper_1 0 rfl rfl)
theorem dR_paper_33 : decode cX9_paper 33 = .ok (.aload_n 0, 1) := op_42 (rdSeg sd_07_cX9_paper_1 1 rfl rfl)
theorem dR_paper_34 : decode cX9_paper 34 = .ok (.iload_n 1, 1) := op_27 (rdSeg sd_07_cX9_paper_1 2 rfl rfl)
theorem dR_paper_35 : decode cX9_paper 35 = .ok (.iload_n 2, 1) := op_28 (rdSeg sd_07_cX9_paper_1 3 rfl rfl)
theorem dR_paper_36 : decode cX9_paper 36 = .ok (.iload_n 3, 1) := op_29 (rdSeg sd_07_cX9_paper_1 4 rfl rfl)
theorem dR_paper_37 : decode cX9_paper 37 = .ok (.invokevirtual 208, 3) := op_182 (rdSeg sd_07_cX9_paper_1 5 rfl rfl) (rdSeg sd_07_cX9_paper_1 6 rfl rfl) (rdSeg sd_07_cX9_paper_1 7 rfl rfl) rfl
theorem dR_paper_40 : decode cX9_paper 40 = .ok (.aload_n 0, 1) := op_42 (rdSeg sd_07_cX9_paper_1 8 rfl rfl)
theorem dR_paper_41 : decode cX9_paper 41 = .ok (.getfield 7, 3) := op_180 (rdSeg sd_07_cX9_paper_1 9 rfl rfl) (rdSeg sd_07_cX9_paper_1 10 rfl rfl) (rdSeg sd_07_cX9_paper_1 11 rfl rfl) rfl
theorem dR_paper_44 : decode cX9_paper 44 = .ok (.iconst 3, 1) := op_6 (rdSeg sd_07_cX9_paper_1 12 rfl rfl)
theorem dR_paper_45 : decode cX9_paper 45 = .ok (.iaload, 1) := op_46 (rdSeg sd_07_cX9_paper_1 13 rfl rfl)
theorem dR_paper_46 : decode cX9_paper 46 = .ok (.iconst 1, 1) := op_4 (rdSeg sd_07_cX9_paper_1 14 rfl rfl)
theorem dR_paper_47 : decode cX9_paper 47 = .ok (.isub, 1) := op_100 (rdSeg sd_07_cX9_paper_1 15 rfl rfl)
theorem dR_paper_48 : decode cX9_paper 48 = .ok (.ireturn, 1) := op_172 (rdSeg sd_07_cX9_paper_1 16 rfl rfl)
def sg_07_cX9_weigh_3 : List UInt8 := [0x07, 0x07, 0x5c, 0x2e, 0x04, 0x60, 0x4f, 0x2a, 0xb4, 0x00, 0x07, 0x07, 0x2e, 0x04, 0x64, 0xac]
def sg_07_cX9_weigh_2 : List UInt8 := 0x04 :: 0x2a :: 0xb4 :: 0x00 :: 0x07 :: 0x15 :: 0x04 :: 0x1b :: 0x4f :: 0x2a :: 0xb4 :: 0x00 :: 0x07 :: 0x15 :: 0x04 :: 0x04 :: 0x60 :: 0x1c :: 0x4f :: 0x2a :: 0xb4 :: 0x00 :: 0x07 :: 0x15 :: 0x04 :: 0x05 :: 0x60 :: 0x1d :: 0x4f :: 0x2a :: 0xb4 :: 0x00 :: sg_07_cX9_weigh_3
def sg_07_cX9_weigh_1 : List UInt8 := 0x3e :: 0xac :: 0x2a :: 0xb4 :: 0x00 :: 0x07 :: 0x07 :: 0x2e :: 0x10 :: 0x08 :: 0xa0 :: 0x00 :: 0x09 :: 0x2a :: 0x07 :: 0xb6 :: 0x00 :: 0x3e :: 0xac :: 0x11 :: 0x00 :: 0xb2 :: 0x06 :: 0x2a :: 0xb4 :: 0x00 :: 0x07 :: 0x07 :: 0x2e :: 0x68 :: 0x60 :: 0x36 :: sg_07_cX9_weigh_2
def sg_07_cX9_weigh_0 : List UInt8 := 0x2a :: 0x1b :: 0xb6 :: 0x00 :: 0x4d :: 0x99 :: 0x00 :: 0x17 :: 0x1c :: 0x03 :: 0x12 :: 0x3d :: 0xb8 :: 0x00 :: 0x35 :: 0x99 :: 0x00 :: 0x0d :: 0x1d :: 0x03 :: 0x10 :: 0x63 :: 0xb8 :: 0x00 :: 0x35 :: 0x9a :: 0x00 :: 0x09 :: 0x2a :: 0x04 :: 0xb6 :: 0x00 :: sg_07_cX9_weigh_1
set_option maxRecDepth 100000 in
theorem sd_07_cX9_weigh_0 : cX9_weigh.data.toList.drop 0 = sg_07_cX9_weigh_0 := by decide +kernel
theorem sd_07_cX9_weigh_1 : cX9_weigh.data.toList.drop 32 = sg_07_cX9_weigh_1 := sg_next sd_07_cX9_weigh_0 rfl
theorem sd_07_cX9_weigh_2 : cX9_weigh.data.toList.drop 64 = sg_07_cX9_weigh_2 := sg_next sd_07_cX9_weigh_1 rfl
theorem sd_07_cX9_weigh_3 : cX9_weigh.data.toList.drop 96 = sg_07_cX9_weigh_3 := sg_next sd_07_cX9_weigh_2 rfl
theorem dR_weigh_0 : decode cX9_weigh 0 = .ok (.aload_n 0, 1) := op_42 (rdSeg sd_07_cX9_weigh_0 0 rfl rfl)
theorem dR_weigh_1 : decode cX9_weigh 1 = .ok (.iload_n 1, 1) := op_27 (rdSeg sd_07_cX9_weigh_0 1 rfl rfl)
theorem dR_weigh_2 : decode cX9_weigh 2 = .ok (.invokevirtual 77, 3) := op_182 (rdSeg sd_07_cX9_weigh_0 2 rfl rfl) (rdSeg sd_07_cX9_weigh_0 3 rfl rfl) (rdSeg sd_07_cX9_weigh_0 4 rfl rfl) rfl
theorem dR_weigh_5 : decode cX9_weigh 5 = .ok (.ifCond .eq 23, 3) := op_153 (rdSeg sd_07_cX9_weigh_0 5 rfl rfl) (rdSeg sd_07_cX9_weigh_0 6 rfl rfl) (rdSeg sd_07_cX9_weigh_0 7 rfl rfl) (by decide +kernel)
theorem dR_weigh_8 : decode cX9_weigh 8 = .ok (.iload_n 2, 1) := op_28 (rdSeg sd_07_cX9_weigh_0 8 rfl rfl)
theorem dR_weigh_9 : decode cX9_weigh 9 = .ok (.iconst 0, 1) := op_3 (rdSeg sd_07_cX9_weigh_0 9 rfl rfl)
theorem dR_weigh_10 : decode cX9_weigh 10 = .ok (.ldc 61, 2) := op_18 (rdSeg sd_07_cX9_weigh_0 10 rfl rfl) (rdSeg sd_07_cX9_weigh_0 11 rfl rfl)
theorem dR_weigh_12 : decode cX9_weigh 12 = .ok (.invokestatic 53, 3) := op_184 (rdSeg sd_07_cX9_weigh_0 12 rfl rfl) (rdSeg sd_07_cX9_weigh_0 13 rfl rfl) (rdSeg sd_07_cX9_weigh_0 14 rfl rfl) rfl
theorem dR_weigh_15 : decode cX9_weigh 15 = .ok (.ifCond .eq 13, 3) := op_153 (rdSeg sd_07_cX9_weigh_0 15 rfl rfl) (rdSeg sd_07_cX9_weigh_0 16 rfl rfl) (rdSeg sd_07_cX9_weigh_0 17 rfl rfl) (by decide +kernel)
theorem dR_weigh_18 : decode cX9_weigh 18 = .ok (.iload_n 3, 1) := op_29 (rdSeg sd_07_cX9_weigh_0 18 rfl rfl)
theorem dR_weigh_19 : decode cX9_weigh 19 = .ok (.iconst 0, 1) := op_3 (rdSeg sd_07_cX9_weigh_0 19 rfl rfl)
theorem dR_weigh_20 : decode cX9_weigh 20 = .ok (.bipush 99, 2) := op_16 (rdSeg sd_07_cX9_weigh_0 20 rfl rfl) (rdSeg sd_07_cX9_weigh_0 21 rfl rfl) (by decide +kernel)
theorem dR_weigh_22 : decode cX9_weigh 22 = .ok (.invokestatic 53, 3) := op_184 (rdSeg sd_07_cX9_weigh_0 22 rfl rfl) (rdSeg sd_07_cX9_weigh_0 23 rfl rfl) (rdSeg sd_07_cX9_weigh_0 24 rfl rfl) rfl
theorem dR_weigh_25 : decode cX9_weigh 25 = .ok (.ifCond .ne 9, 3) := op_154 (rdSeg sd_07_cX9_weigh_0 25 rfl rfl) (rdSeg sd_07_cX9_weigh_0 26 rfl rfl) (rdSeg sd_07_cX9_weigh_0 27 rfl rfl) (by decide +kernel)
theorem dR_weigh_28 : decode cX9_weigh 28 = .ok (.aload_n 0, 1) := op_42 (rdSeg sd_07_cX9_weigh_0 28 rfl rfl)
theorem dR_weigh_29 : decode cX9_weigh 29 = .ok (.iconst 1, 1) := op_4 (rdSeg sd_07_cX9_weigh_0 29 rfl rfl)
theorem dR_weigh_30 : decode cX9_weigh 30 = .ok (.invokevirtual 62, 3) := op_182 (rdSeg sd_07_cX9_weigh_0 30 rfl rfl) (rdSeg sd_07_cX9_weigh_0 31 rfl rfl) (rdSeg sd_07_cX9_weigh_1 0 rfl rfl) rfl
theorem dR_weigh_33 : decode cX9_weigh 33 = .ok (.ireturn, 1) := op_172 (rdSeg sd_07_cX9_weigh_1 1 rfl rfl)
theorem dR_weigh_34 : decode cX9_weigh 34 = .ok (.aload_n 0, 1) := op_42 (rdSeg sd_07_cX9_weigh_1 2 rfl rfl)
theorem dR_weigh_35 : decode cX9_weigh 35 = .ok (.getfield 7, 3) := op_180 (rdSeg sd_07_cX9_weigh_1 3 rfl rfl) (rdSeg sd_07_cX9_weigh_1 4 rfl rfl) (rdSeg sd_07_cX9_weigh_1 5 rfl rfl) rfl
theorem dR_weigh_38 : decode cX9_weigh 38 = .ok (.iconst 4, 1) := op_7 (rdSeg sd_07_cX9_weigh_1 6 rfl rfl)
theorem dR_weigh_39 : decode cX9_weigh 39 = .ok (.iaload, 1) := op_46 (rdSeg sd_07_cX9_weigh_1 7 rfl rfl)
theorem dR_weigh_40 : decode cX9_weigh 40 = .ok (.bipush 8, 2) := op_16 (rdSeg sd_07_cX9_weigh_1 8 rfl rfl) (rdSeg sd_07_cX9_weigh_1 9 rfl rfl) (by decide +kernel)
theorem dR_weigh_42 : decode cX9_weigh 42 = .ok (.if_icmp .ne 9, 3) := op_160 (rdSeg sd_07_cX9_weigh_1 10 rfl rfl) (rdSeg sd_07_cX9_weigh_1 11 rfl rfl) (rdSeg sd_07_cX9_weigh_1 12 rfl rfl) (by decide +kernel)
theorem dR_weigh_45 : decode cX9_weigh 45 = .ok (.aload_n 0, 1) := op_42 (rdSeg sd_07_cX9_weigh_1 13 rfl rfl)
theorem dR_weigh_46 : decode cX9_weigh 46 = .ok (.iconst 4, 1) := op_7 (rdSeg sd_07_cX9_weigh_1 14 rfl rfl)
theorem dR_weigh_47 : decode cX9_weigh 47 = .ok (.invokevirtual 62, 3) := op_182 (rdSeg sd_07_cX9_weigh_1 15 rfl rfl) (rdSeg sd_07_cX9_weigh_1 16 rfl rfl) (rdSeg sd_07_cX9_weigh_1 17 rfl rfl) rfl
theorem dR_weigh_50 : decode cX9_weigh 50 = .ok (.ireturn, 1) := op_172 (rdSeg sd_07_cX9_weigh_1 18 rfl rfl)
theorem dR_weigh_51 : decode cX9_weigh 51 = .ok (.sipush 178, 3) := op_17 (rdSeg sd_07_cX9_weigh_1 19 rfl rfl) (rdSeg sd_07_cX9_weigh_1 20 rfl rfl) (rdSeg sd_07_cX9_weigh_1 21 rfl rfl) (by decide +kernel)
theorem dR_weigh_54 : decode cX9_weigh 54 = .ok (.iconst 3, 1) := op_6 (rdSeg sd_07_cX9_weigh_1 22 rfl rfl)
theorem dR_weigh_55 : decode cX9_weigh 55 = .ok (.aload_n 0, 1) := op_42 (rdSeg sd_07_cX9_weigh_1 23 rfl rfl)
theorem dR_weigh_56 : decode cX9_weigh 56 = .ok (.getfield 7, 3) := op_180 (rdSeg sd_07_cX9_weigh_1 24 rfl rfl) (rdSeg sd_07_cX9_weigh_1 25 rfl rfl) (rdSeg sd_07_cX9_weigh_1 26 rfl rfl) rfl
theorem dR_weigh_59 : decode cX9_weigh 59 = .ok (.iconst 4, 1) := op_7 (rdSeg sd_07_cX9_weigh_1 27 rfl rfl)
theorem dR_weigh_60 : decode cX9_weigh 60 = .ok (.iaload, 1) := op_46 (rdSeg sd_07_cX9_weigh_1 28 rfl rfl)
theorem dR_weigh_61 : decode cX9_weigh 61 = .ok (.imul, 1) := op_104 (rdSeg sd_07_cX9_weigh_1 29 rfl rfl)
theorem dR_weigh_62 : decode cX9_weigh 62 = .ok (.iadd, 1) := op_96 (rdSeg sd_07_cX9_weigh_1 30 rfl rfl)
theorem dR_weigh_63 : decode cX9_weigh 63 = .ok (.istore 4, 2) := op_54 (rdSeg sd_07_cX9_weigh_1 31 rfl rfl) (rdSeg sd_07_cX9_weigh_2 0 rfl rfl)
theorem dR_weigh_65 : decode cX9_weigh 65 = .ok (.aload_n 0, 1) := op_42 (rdSeg sd_07_cX9_weigh_2 1 rfl rfl)
theorem dR_weigh_66 : decode cX9_weigh 66 = .ok (.getfield 7, 3) := op_180 (rdSeg sd_07_cX9_weigh_2 2 rfl rfl) (rdSeg sd_07_cX9_weigh_2 3 rfl rfl) (rdSeg sd_07_cX9_weigh_2 4 rfl rfl) rfl
theorem dR_weigh_69 : decode cX9_weigh 69 = .ok (.iload 4, 2) := op_21 (rdSeg sd_07_cX9_weigh_2 5 rfl rfl) (rdSeg sd_07_cX9_weigh_2 6 rfl rfl)
theorem dR_weigh_71 : decode cX9_weigh 71 = .ok (.iload_n 1, 1) := op_27 (rdSeg sd_07_cX9_weigh_2 7 rfl rfl)
theorem dR_weigh_72 : decode cX9_weigh 72 = .ok (.iastore, 1) := op_79 (rdSeg sd_07_cX9_weigh_2 8 rfl rfl)
theorem dR_weigh_73 : decode cX9_weigh 73 = .ok (.aload_n 0, 1) := op_42 (rdSeg sd_07_cX9_weigh_2 9 rfl rfl)
theorem dR_weigh_74 : decode cX9_weigh 74 = .ok (.getfield 7, 3) := op_180 (rdSeg sd_07_cX9_weigh_2 10 rfl rfl) (rdSeg sd_07_cX9_weigh_2 11 rfl rfl) (rdSeg sd_07_cX9_weigh_2 12 rfl rfl) rfl
theorem dR_weigh_77 : decode cX9_weigh 77 = .ok (.iload 4, 2) := op_21 (rdSeg sd_07_cX9_weigh_2 13 rfl rfl) (rdSeg sd_07_cX9_weigh_2 14 rfl rfl)
theorem dR_weigh_79 : decode cX9_weigh 79 = .ok (.iconst 1, 1) := op_4 (rdSeg sd_07_cX9_weigh_2 15 rfl rfl)
theorem dR_weigh_80 : decode cX9_weigh 80 = .ok (.iadd, 1) := op_96 (rdSeg sd_07_cX9_weigh_2 16 rfl rfl)
theorem dR_weigh_81 : decode cX9_weigh 81 = .ok (.iload_n 2, 1) := op_28 (rdSeg sd_07_cX9_weigh_2 17 rfl rfl)
theorem dR_weigh_82 : decode cX9_weigh 82 = .ok (.iastore, 1) := op_79 (rdSeg sd_07_cX9_weigh_2 18 rfl rfl)
theorem dR_weigh_83 : decode cX9_weigh 83 = .ok (.aload_n 0, 1) := op_42 (rdSeg sd_07_cX9_weigh_2 19 rfl rfl)
theorem dR_weigh_84 : decode cX9_weigh 84 = .ok (.getfield 7, 3) := op_180 (rdSeg sd_07_cX9_weigh_2 20 rfl rfl) (rdSeg sd_07_cX9_weigh_2 21 rfl rfl) (rdSeg sd_07_cX9_weigh_2 22 rfl rfl) rfl
theorem dR_weigh_87 : decode cX9_weigh 87 = .ok (.iload 4, 2) := op_21 (rdSeg sd_07_cX9_weigh_2 23 rfl rfl) (rdSeg sd_07_cX9_weigh_2 24 rfl rfl)
theorem dR_weigh_89 : decode cX9_weigh 89 = .ok (.iconst 2, 1) := op_5 (rdSeg sd_07_cX9_weigh_2 25 rfl rfl)
theorem dR_weigh_90 : decode cX9_weigh 90 = .ok (.iadd, 1) := op_96 (rdSeg sd_07_cX9_weigh_2 26 rfl rfl)
theorem dR_weigh_91 : decode cX9_weigh 91 = .ok (.iload_n 3, 1) := op_29 (rdSeg sd_07_cX9_weigh_2 27 rfl rfl)
theorem dR_weigh_92 : decode cX9_weigh 92 = .ok (.iastore, 1) := op_79 (rdSeg sd_07_cX9_weigh_2 28 rfl rfl)
theorem dR_weigh_93 : decode cX9_weigh 93 = .ok (.aload_n 0, 1) := op_42 (rdSeg sd_07_cX9_weigh_2 29 rfl rfl)
theorem dR_weigh_94 : decode cX9_weigh 94 = .ok (.getfield 7, 3) := op_180 (rdSeg sd_07_cX9_weigh_2 30 rfl rfl) (rdSeg sd_07_cX9_weigh_2 31 rfl rfl) (rdSeg sd_07_cX9_weigh_3 0 rfl rfl) rfl
theorem dR_weigh_97 : decode cX9_weigh 97 = .ok (.iconst 4, 1) := op_7 (rdSeg sd_07_cX9_weigh_3 1 rfl rfl)
theorem dR_weigh_98 : decode cX9_weigh 98 = .ok (.dup2, 1) := op_92 (rdSeg sd_07_cX9_weigh_3 2 rfl rfl)
theorem dR_weigh_99 : decode cX9_weigh 99 = .ok (.iaload, 1) := op_46 (rdSeg sd_07_cX9_weigh_3 3 rfl rfl)
theorem dR_weigh_100 : decode cX9_weigh 100 = .ok (.iconst 1, 1) := op_4 (rdSeg sd_07_cX9_weigh_3 4 rfl rfl)
theorem dR_weigh_101 : decode cX9_weigh 101 = .ok (.iadd, 1) := op_96 (rdSeg sd_07_cX9_weigh_3 5 rfl rfl)
theorem dR_weigh_102 : decode cX9_weigh 102 = .ok (.iastore, 1) := op_79 (rdSeg sd_07_cX9_weigh_3 6 rfl rfl)
theorem dR_weigh_103 : decode cX9_weigh 103 = .ok (.aload_n 0, 1) := op_42 (rdSeg sd_07_cX9_weigh_3 7 rfl rfl)
theorem dR_weigh_104 : decode cX9_weigh 104 = .ok (.getfield 7, 3) := op_180 (rdSeg sd_07_cX9_weigh_3 8 rfl rfl) (rdSeg sd_07_cX9_weigh_3 9 rfl rfl) (rdSeg sd_07_cX9_weigh_3 10 rfl rfl) rfl
theorem dR_weigh_107 : decode cX9_weigh 107 = .ok (.iconst 4, 1) := op_7 (rdSeg sd_07_cX9_weigh_3 11 rfl rfl)
theorem dR_weigh_108 : decode cX9_weigh 108 = .ok (.iaload, 1) := op_46 (rdSeg sd_07_cX9_weigh_3 12 rfl rfl)
theorem dR_weigh_109 : decode cX9_weigh 109 = .ok (.iconst 1, 1) := op_4 (rdSeg sd_07_cX9_weigh_3 13 rfl rfl)
theorem dR_weigh_110 : decode cX9_weigh 110 = .ok (.isub, 1) := op_100 (rdSeg sd_07_cX9_weigh_3 14 rfl rfl)
theorem dR_weigh_111 : decode cX9_weigh 111 = .ok (.ireturn, 1) := op_172 (rdSeg sd_07_cX9_weigh_3 15 rfl rfl)
def sg_07_cX9_forget_1 : List UInt8 := [0x4f, 0x1c, 0xac]
def sg_07_cX9_forget_0 : List UInt8 := 0x1b :: 0x03 :: 0x04 :: 0xb8 :: 0x00 :: 0x35 :: 0x9a :: 0x00 :: 0x09 :: 0x2a :: 0x04 :: 0xb6 :: 0x00 :: 0x3e :: 0xac :: 0x2a :: 0xb4 :: 0x00 :: 0x07 :: 0x06 :: 0x1b :: 0x60 :: 0x2e :: 0x3d :: 0x2a :: 0xb4 :: 0x00 :: 0x07 :: 0x06 :: 0x1b :: 0x60 :: 0x03 :: sg_07_cX9_forget_1
set_option maxRecDepth 100000 in
theorem sd_07_cX9_forget_0 : cX9_forget.data.toList.drop 0 = sg_07_cX9_forget_0 := by decide +kernel
theorem sd_07_cX9_forget_1 : cX9_forget.data.toList.drop 32 = sg_07_cX9_forget_1 := sg_next sd_07_cX9_forget_0 rfl
theorem dR_forget_0 : decode cX9_forget 0 = .ok (.iload_n 1, 1) := op_27 (rdSeg sd_07_cX9_forget_0 0 rfl rfl)
theorem dR_forget_1 : decode cX9_forget 1 = .ok (.iconst 0, 1) := op_3 (rdSeg sd_07_cX9_forget_0 1 rfl rfl)
theorem dR_forget_2 : decode cX9_forget 2 = .ok (.iconst 1, 1) := op_4 (rdSeg sd_07_cX9_forget_0 2 rfl rfl)
theorem dR_forget_3 : decode cX9_forget 3 = .ok (.invokestatic 53, 3) := op_184 (rdSeg sd_07_cX9_forget_0 3 rfl rfl) (rdSeg sd_07_cX9_forget_0 4 rfl rfl) (rdSeg sd_07_cX9_forget_0 5 rfl rfl) rfl
theorem dR_forget_6 : decode cX9_forget 6 = .ok (.ifCond .ne 9, 3) := op_154 (rdSeg sd_07_cX9_forget_0 6 rfl rfl) (rdSeg sd_07_cX9_forget_0 7 rfl rfl) (rdSeg sd_07_cX9_forget_0 8 rfl rfl) (by decide +kernel)
theorem dR_forget_9 : decode cX9_forget 9 = .ok (.aload_n 0, 1) := op_42 (rdSeg sd_07_cX9_forget_0 9 rfl rfl)
theorem dR_forget_10 : decode cX9_forget 10 = .ok (.iconst 1, 1) := op_4 (rdSeg sd_07_cX9_forget_0 10 rfl rfl)
theorem dR_forget_11 : decode cX9_forget 11 = .ok (.invokevirtual 62, 3) := op_182 (rdSeg sd_07_cX9_forget_0 11 rfl rfl) (rdSeg sd_07_cX9_forget_0 12 rfl rfl) (rdSeg sd_07_cX9_forget_0 13 rfl rfl) rfl
theorem dR_forget_14 : decode cX9_forget 14 = .ok (.ireturn, 1) := op_172 (rdSeg sd_07_cX9_forget_0 14 rfl rfl)
theorem dR_forget_15 : decode cX9_forget 15 = .ok (.aload_n 0, 1) := op_42 (rdSeg sd_07_cX9_forget_0 15 rfl rfl)
theorem dR_forget_16 : decode cX9_forget 16 = .ok (.getfield 7, 3) := op_180 (rdSeg sd_07_cX9_forget_0 16 rfl rfl) (rdSeg sd_07_cX9_forget_0 17 rfl rfl) (rdSeg sd_07_cX9_forget_0 18 rfl rfl) rfl
theorem dR_forget_19 : decode cX9_forget 19 = .ok (.iconst 3, 1) := op_6 (rdSeg sd_07_cX9_forget_0 19 rfl rfl)
theorem dR_forget_20 : decode cX9_forget 20 = .ok (.iload_n 1, 1) := op_27 (rdSeg sd_07_cX9_forget_0 20 rfl rfl)
theorem dR_forget_21 : decode cX9_forget 21 = .ok (.iadd, 1) := op_96 (rdSeg sd_07_cX9_forget_0 21 rfl rfl)
theorem dR_forget_22 : decode cX9_forget 22 = .ok (.iaload, 1) := op_46 (rdSeg sd_07_cX9_forget_0 22 rfl rfl)
theorem dR_forget_23 : decode cX9_forget 23 = .ok (.istore_n 2, 1) := op_61 (rdSeg sd_07_cX9_forget_0 23 rfl rfl)
theorem dR_forget_24 : decode cX9_forget 24 = .ok (.aload_n 0, 1) := op_42 (rdSeg sd_07_cX9_forget_0 24 rfl rfl)
theorem dR_forget_25 : decode cX9_forget 25 = .ok (.getfield 7, 3) := op_180 (rdSeg sd_07_cX9_forget_0 25 rfl rfl) (rdSeg sd_07_cX9_forget_0 26 rfl rfl) (rdSeg sd_07_cX9_forget_0 27 rfl rfl) rfl
theorem dR_forget_28 : decode cX9_forget 28 = .ok (.iconst 3, 1) := op_6 (rdSeg sd_07_cX9_forget_0 28 rfl rfl)
theorem dR_forget_29 : decode cX9_forget 29 = .ok (.iload_n 1, 1) := op_27 (rdSeg sd_07_cX9_forget_0 29 rfl rfl)
theorem dR_forget_30 : decode cX9_forget 30 = .ok (.iadd, 1) := op_96 (rdSeg sd_07_cX9_forget_0 30 rfl rfl)
theorem dR_forget_31 : decode cX9_forget 31 = .ok (.iconst 0, 1) := op_3 (rdSeg sd_07_cX9_forget_0 31 rfl rfl)
theorem dR_forget_32 : decode cX9_forget 32 = .ok (.iastore, 1) := op_79 (rdSeg sd_07_cX9_forget_1 0 rfl rfl)
theorem dR_forget_33 : decode cX9_forget 33 = .ok (.iload_n 2, 1) := op_28 (rdSeg sd_07_cX9_forget_1 1 rfl rfl)
theorem dR_forget_34 : decode cX9_forget 34 = .ok (.ireturn, 1) := op_172 (rdSeg sd_07_cX9_forget_1 2 rfl rfl)
def sg_07_cX9_allPapers_0 : List UInt8 := [0x04, 0x2a, 0xb4, 0x00, 0x07, 0x06, 0x2e, 0x78, 0x04, 0x64, 0xac]
set_option maxRecDepth 100000 in
theorem sd_07_cX9_allPapers_0 : cX9_allPapers.data.toList.drop 0 = sg_07_cX9_allPapers_0 := by decide +kernel
theorem dR_allPapers_0 : decode cX9_allPapers 0 = .ok (.iconst 1, 1) := op_4 (rdSeg sd_07_cX9_allPapers_0 0 rfl rfl)
theorem dR_allPapers_1 : decode cX9_allPapers 1 = .ok (.aload_n 0, 1) := op_42 (rdSeg sd_07_cX9_allPapers_0 1 rfl rfl)
theorem dR_allPapers_2 : decode cX9_allPapers 2 = .ok (.getfield 7, 3) := op_180 (rdSeg sd_07_cX9_allPapers_0 2 rfl rfl) (rdSeg sd_07_cX9_allPapers_0 3 rfl rfl) (rdSeg sd_07_cX9_allPapers_0 4 rfl rfl) rfl
theorem dR_allPapers_5 : decode cX9_allPapers 5 = .ok (.iconst 3, 1) := op_6 (rdSeg sd_07_cX9_allPapers_0 5 rfl rfl)
theorem dR_allPapers_6 : decode cX9_allPapers 6 = .ok (.iaload, 1) := op_46 (rdSeg sd_07_cX9_allPapers_0 6 rfl rfl)
theorem dR_allPapers_7 : decode cX9_allPapers 7 = .ok (.ishl, 1) := op_120 (rdSeg sd_07_cX9_allPapers_0 7 rfl rfl)
theorem dR_allPapers_8 : decode cX9_allPapers 8 = .ok (.iconst 1, 1) := op_4 (rdSeg sd_07_cX9_allPapers_0 8 rfl rfl)
theorem dR_allPapers_9 : decode cX9_allPapers 9 = .ok (.isub, 1) := op_100 (rdSeg sd_07_cX9_allPapers_0 9 rfl rfl)
theorem dR_allPapers_10 : decode cX9_allPapers 10 = .ok (.ireturn, 1) := op_172 (rdSeg sd_07_cX9_allPapers_0 10 rfl rfl)
def sg_07_cX9_isHistory_0 : List UInt8 := [0x1b, 0x03, 0x2a, 0xb6, 0x00, 0xd3, 0xb8, 0x00, 0x35, 0xac]
set_option maxRecDepth 100000 in
theorem sd_07_cX9_isHistory_0 : cX9_isHistory.data.toList.drop 0 = sg_07_cX9_isHistory_0 := by decide +kernel
theorem dR_isHistory_0 : decode cX9_isHistory 0 = .ok (.iload_n 1, 1) := op_27 (rdSeg sd_07_cX9_isHistory_0 0 rfl rfl)
theorem dR_isHistory_1 : decode cX9_isHistory 1 = .ok (.iconst 0, 1) := op_3 (rdSeg sd_07_cX9_isHistory_0 1 rfl rfl)
theorem dR_isHistory_2 : decode cX9_isHistory 2 = .ok (.aload_n 0, 1) := op_42 (rdSeg sd_07_cX9_isHistory_0 2 rfl rfl)
theorem dR_isHistory_3 : decode cX9_isHistory 3 = .ok (.invokevirtual 211, 3) := op_182 (rdSeg sd_07_cX9_isHistory_0 3 rfl rfl) (rdSeg sd_07_cX9_isHistory_0 4 rfl rfl) (rdSeg sd_07_cX9_isHistory_0 5 rfl rfl) rfl
theorem dR_isHistory_6 : decode cX9_isHistory 6 = .ok (.invokestatic 53, 3) := op_184 (rdSeg sd_07_cX9_isHistory_0 6 rfl rfl) (rdSeg sd_07_cX9_isHistory_0 7 rfl rfl) (rdSeg sd_07_cX9_isHistory_0 8 rfl rfl) rfl
theorem dR_isHistory_9 : decode cX9_isHistory 9 = .ok (.ireturn, 1) := op_172 (rdSeg sd_07_cX9_isHistory_0 9 rfl rfl)
def sg_07_cX9_goesBy_2 : List UInt8 := [0x60, 0x84, 0x02, 0x01, 0xa7, 0xff, 0xbe, 0xb1]
def sg_07_cX9_goesBy_1 : List UInt8 := 0x60 :: 0x2e :: 0x2a :: 0xb4 :: 0x00 :: 0x07 :: 0x11 :: 0x00 :: 0xa0 :: 0x06 :: 0x1c :: 0x68 :: 0x60 :: 0x04 :: 0x60 :: 0x2e :: 0x2a :: 0xb4 :: 0x00 :: 0x07 :: 0x11 :: 0x00 :: 0xa0 :: 0x06 :: 0x1c :: 0x68 :: 0x60 :: 0x05 :: 0x60 :: 0x2e :: 0xb6 :: 0x00 :: sg_07_cX9_goesBy_2
def sg_07_cX9_goesBy_0 : List UInt8 := 0x03 :: 0x3d :: 0x1c :: 0x2a :: 0xb4 :: 0x00 :: 0x07 :: 0x06 :: 0x2e :: 0xa2 :: 0x00 :: 0x3e :: 0x1b :: 0x1c :: 0x7a :: 0x04 :: 0x7e :: 0x04 :: 0xa0 :: 0x00 :: 0x2f :: 0x2a :: 0x2a :: 0xb4 :: 0x00 :: 0x07 :: 0x11 :: 0x00 :: 0xa0 :: 0x06 :: 0x1c :: 0x68 :: sg_07_cX9_goesBy_1
set_option maxRecDepth 100000 in
theorem sd_07_cX9_goesBy_0 : cX9_goesBy.data.toList.drop 0 = sg_07_cX9_goesBy_0 := by decide +kernel
theorem sd_07_cX9_goesBy_1 : cX9_goesBy.data.toList.drop 32 = sg_07_cX9_goesBy_1 := sg_next sd_07_cX9_goesBy_0 rfl
theorem sd_07_cX9_goesBy_2 : cX9_goesBy.data.toList.drop 64 = sg_07_cX9_goesBy_2 := sg_next sd_07_cX9_goesBy_1 rfl
theorem dR_goesBy_0 : decode cX9_goesBy 0 = .ok (.iconst 0, 1) := op_3 (rdSeg sd_07_cX9_goesBy_0 0 rfl rfl)
theorem dR_goesBy_1 : decode cX9_goesBy 1 = .ok (.istore_n 2, 1) := op_61 (rdSeg sd_07_cX9_goesBy_0 1 rfl rfl)
theorem dR_goesBy_2 : decode cX9_goesBy 2 = .ok (.iload_n 2, 1) := op_28 (rdSeg sd_07_cX9_goesBy_0 2 rfl rfl)
theorem dR_goesBy_3 : decode cX9_goesBy 3 = .ok (.aload_n 0, 1) := op_42 (rdSeg sd_07_cX9_goesBy_0 3 rfl rfl)
theorem dR_goesBy_4 : decode cX9_goesBy 4 = .ok (.getfield 7, 3) := op_180 (rdSeg sd_07_cX9_goesBy_0 4 rfl rfl) (rdSeg sd_07_cX9_goesBy_0 5 rfl rfl) (rdSeg sd_07_cX9_goesBy_0 6 rfl rfl) rfl
theorem dR_goesBy_7 : decode cX9_goesBy 7 = .ok (.iconst 3, 1) := op_6 (rdSeg sd_07_cX9_goesBy_0 7 rfl rfl)
theorem dR_goesBy_8 : decode cX9_goesBy 8 = .ok (.iaload, 1) := op_46 (rdSeg sd_07_cX9_goesBy_0 8 rfl rfl)
theorem dR_goesBy_9 : decode cX9_goesBy 9 = .ok (.if_icmp .ge 62, 3) := op_162 (rdSeg sd_07_cX9_goesBy_0 9 rfl rfl) (rdSeg sd_07_cX9_goesBy_0 10 rfl rfl) (rdSeg sd_07_cX9_goesBy_0 11 rfl rfl) (by decide +kernel)
theorem dR_goesBy_12 : decode cX9_goesBy 12 = .ok (.iload_n 1, 1) := op_27 (rdSeg sd_07_cX9_goesBy_0 12 rfl rfl)
theorem dR_goesBy_13 : decode cX9_goesBy 13 = .ok (.iload_n 2, 1) := op_28 (rdSeg sd_07_cX9_goesBy_0 13 rfl rfl)
theorem dR_goesBy_14 : decode cX9_goesBy 14 = .ok (.ishr, 1) := op_122 (rdSeg sd_07_cX9_goesBy_0 14 rfl rfl)
theorem dR_goesBy_15 : decode cX9_goesBy 15 = .ok (.iconst 1, 1) := op_4 (rdSeg sd_07_cX9_goesBy_0 15 rfl rfl)
theorem dR_goesBy_16 : decode cX9_goesBy 16 = .ok (.iand, 1) := op_126 (rdSeg sd_07_cX9_goesBy_0 16 rfl rfl)
theorem dR_goesBy_17 : decode cX9_goesBy 17 = .ok (.iconst 1, 1) := op_4 (rdSeg sd_07_cX9_goesBy_0 17 rfl rfl)
theorem dR_goesBy_18 : decode cX9_goesBy 18 = .ok (.if_icmp .ne 47, 3) := op_160 (rdSeg sd_07_cX9_goesBy_0 18 rfl rfl) (rdSeg sd_07_cX9_goesBy_0 19 rfl rfl) (rdSeg sd_07_cX9_goesBy_0 20 rfl rfl) (by decide +kernel)
theorem dR_goesBy_21 : decode cX9_goesBy 21 = .ok (.aload_n 0, 1) := op_42 (rdSeg sd_07_cX9_goesBy_0 21 rfl rfl)
theorem dR_goesBy_22 : decode cX9_goesBy 22 = .ok (.aload_n 0, 1) := op_42 (rdSeg sd_07_cX9_goesBy_0 22 rfl rfl)
theorem dR_goesBy_23 : decode cX9_goesBy 23 = .ok (.getfield 7, 3) := op_180 (rdSeg sd_07_cX9_goesBy_0 23 rfl rfl) (rdSeg sd_07_cX9_goesBy_0 24 rfl rfl) (rdSeg sd_07_cX9_goesBy_0 25 rfl rfl) rfl
theorem dR_goesBy_26 : decode cX9_goesBy 26 = .ok (.sipush 160, 3) := op_17 (rdSeg sd_07_cX9_goesBy_0 26 rfl rfl) (rdSeg sd_07_cX9_goesBy_0 27 rfl rfl) (rdSeg sd_07_cX9_goesBy_0 28 rfl rfl) (by decide +kernel)
theorem dR_goesBy_29 : decode cX9_goesBy 29 = .ok (.iconst 3, 1) := op_6 (rdSeg sd_07_cX9_goesBy_0 29 rfl rfl)
theorem dR_goesBy_30 : decode cX9_goesBy 30 = .ok (.iload_n 2, 1) := op_28 (rdSeg sd_07_cX9_goesBy_0 30 rfl rfl)
theorem dR_goesBy_31 : decode cX9_goesBy 31 = .ok (.imul, 1) := op_104 (rdSeg sd_07_cX9_goesBy_0 31 rfl rfl)
theorem dR_goesBy_32 : decode cX9_goesBy 32 = .ok (.iadd, 1) := op_96 (rdSeg sd_07_cX9_goesBy_1 0 rfl rfl)
theorem dR_goesBy_33 : decode cX9_goesBy 33 = .ok (.iaload, 1) := op_46 (rdSeg sd_07_cX9_goesBy_1 1 rfl rfl)
theorem dR_goesBy_34 : decode cX9_goesBy 34 = .ok (.aload_n 0, 1) := op_42 (rdSeg sd_07_cX9_goesBy_1 2 rfl rfl)
theorem dR_goesBy_35 : decode cX9_goesBy 35 = .ok (.getfield 7, 3) := op_180 (rdSeg sd_07_cX9_goesBy_1 3 rfl rfl) (rdSeg sd_07_cX9_goesBy_1 4 rfl rfl) (rdSeg sd_07_cX9_goesBy_1 5 rfl rfl) rfl
theorem dR_goesBy_38 : decode cX9_goesBy 38 = .ok (.sipush 160, 3) := op_17 (rdSeg sd_07_cX9_goesBy_1 6 rfl rfl) (rdSeg sd_07_cX9_goesBy_1 7 rfl rfl) (rdSeg sd_07_cX9_goesBy_1 8 rfl rfl) (by decide +kernel)
theorem dR_goesBy_41 : decode cX9_goesBy 41 = .ok (.iconst 3, 1) := op_6 (rdSeg sd_07_cX9_goesBy_1 9 rfl rfl)
theorem dR_goesBy_42 : decode cX9_goesBy 42 = .ok (.iload_n 2, 1) := op_28 (rdSeg sd_07_cX9_goesBy_1 10 rfl rfl)
theorem dR_goesBy_43 : decode cX9_goesBy 43 = .ok (.imul, 1) := op_104 (rdSeg sd_07_cX9_goesBy_1 11 rfl rfl)
theorem dR_goesBy_44 : decode cX9_goesBy 44 = .ok (.iadd, 1) := op_96 (rdSeg sd_07_cX9_goesBy_1 12 rfl rfl)
theorem dR_goesBy_45 : decode cX9_goesBy 45 = .ok (.iconst 1, 1) := op_4 (rdSeg sd_07_cX9_goesBy_1 13 rfl rfl)
theorem dR_goesBy_46 : decode cX9_goesBy 46 = .ok (.iadd, 1) := op_96 (rdSeg sd_07_cX9_goesBy_1 14 rfl rfl)
theorem dR_goesBy_47 : decode cX9_goesBy 47 = .ok (.iaload, 1) := op_46 (rdSeg sd_07_cX9_goesBy_1 15 rfl rfl)
theorem dR_goesBy_48 : decode cX9_goesBy 48 = .ok (.aload_n 0, 1) := op_42 (rdSeg sd_07_cX9_goesBy_1 16 rfl rfl)
theorem dR_goesBy_49 : decode cX9_goesBy 49 = .ok (.getfield 7, 3) := op_180 (rdSeg sd_07_cX9_goesBy_1 17 rfl rfl) (rdSeg sd_07_cX9_goesBy_1 18 rfl rfl) (rdSeg sd_07_cX9_goesBy_1 19 rfl rfl) rfl
theorem dR_goesBy_52 : decode cX9_goesBy 52 = .ok (.sipush 160, 3) := op_17 (rdSeg sd_07_cX9_goesBy_1 20 rfl rfl) (rdSeg sd_07_cX9_goesBy_1 21 rfl rfl) (rdSeg sd_07_cX9_goesBy_1 22 rfl rfl) (by decide +kernel)
theorem dR_goesBy_55 : decode cX9_goesBy 55 = .ok (.iconst 3, 1) := op_6 (rdSeg sd_07_cX9_goesBy_1 23 rfl rfl)
theorem dR_goesBy_56 : decode cX9_goesBy 56 = .ok (.iload_n 2, 1) := op_28 (rdSeg sd_07_cX9_goesBy_1 24 rfl rfl)
theorem dR_goesBy_57 : decode cX9_goesBy 57 = .ok (.imul, 1) := op_104 (rdSeg sd_07_cX9_goesBy_1 25 rfl rfl)
theorem dR_goesBy_58 : decode cX9_goesBy 58 = .ok (.iadd, 1) := op_96 (rdSeg sd_07_cX9_goesBy_1 26 rfl rfl)
theorem dR_goesBy_59 : decode cX9_goesBy 59 = .ok (.iconst 2, 1) := op_5 (rdSeg sd_07_cX9_goesBy_1 27 rfl rfl)
theorem dR_goesBy_60 : decode cX9_goesBy 60 = .ok (.iadd, 1) := op_96 (rdSeg sd_07_cX9_goesBy_1 28 rfl rfl)
theorem dR_goesBy_61 : decode cX9_goesBy 61 = .ok (.iaload, 1) := op_46 (rdSeg sd_07_cX9_goesBy_1 29 rfl rfl)
theorem dR_goesBy_62 : decode cX9_goesBy 62 = .ok (.invokevirtual 96, 3) := op_182 (rdSeg sd_07_cX9_goesBy_1 30 rfl rfl) (rdSeg sd_07_cX9_goesBy_1 31 rfl rfl) (rdSeg sd_07_cX9_goesBy_2 0 rfl rfl) rfl
theorem dR_goesBy_65 : decode cX9_goesBy 65 = .ok (.iinc 2 1, 3) := op_132 (rdSeg sd_07_cX9_goesBy_2 1 rfl rfl) (rdSeg sd_07_cX9_goesBy_2 2 rfl rfl) (rdSeg sd_07_cX9_goesBy_2 3 rfl rfl) (by decide +kernel)
theorem dR_goesBy_68 : decode cX9_goesBy 68 = .ok (.goto (-66), 3) := op_167 (rdSeg sd_07_cX9_goesBy_2 4 rfl rfl) (rdSeg sd_07_cX9_goesBy_2 5 rfl rfl) (rdSeg sd_07_cX9_goesBy_2 6 rfl rfl) (by decide +kernel)
theorem dR_goesBy_71 : decode cX9_goesBy 71 = .ok (.return_, 1) := op_177 (rdSeg sd_07_cX9_goesBy_2 7 rfl rfl)
def sg_07_cX9_after_1 : List UInt8 := [0xb8, 0x00, 0x75, 0x15, 0x04, 0xac]
def sg_07_cX9_after_0 : List UInt8 := 0x2a :: 0xb4 :: 0x00 :: 0x07 :: 0x2a :: 0xb4 :: 0x00 :: 0x10 :: 0xb8 :: 0x00 :: 0x75 :: 0x2a :: 0x1b :: 0xb6 :: 0x00 :: 0xd6 :: 0x2a :: 0x1c :: 0x1d :: 0xb6 :: 0x00 :: 0x49 :: 0x36 :: 0x04 :: 0x2a :: 0xb4 :: 0x00 :: 0x10 :: 0x2a :: 0xb4 :: 0x00 :: 0x07 :: sg_07_cX9_after_1
set_option maxRecDepth 100000 in
theorem sd_07_cX9_after_0 : cX9_after.data.toList.drop 0 = sg_07_cX9_after_0 := by decide +kernel
theorem sd_07_cX9_after_1 : cX9_after.data.toList.drop 32 = sg_07_cX9_after_1 := sg_next sd_07_cX9_after_0 rfl
theorem dR_after_0 : decode cX9_after 0 = .ok (.aload_n 0, 1) := op_42 (rdSeg sd_07_cX9_after_0 0 rfl rfl)
theorem dR_after_1 : decode cX9_after 1 = .ok (.getfield 7, 3) := op_180 (rdSeg sd_07_cX9_after_0 1 rfl rfl) (rdSeg sd_07_cX9_after_0 2 rfl rfl) (rdSeg sd_07_cX9_after_0 3 rfl rfl) rfl
theorem dR_after_4 : decode cX9_after 4 = .ok (.aload_n 0, 1) := op_42 (rdSeg sd_07_cX9_after_0 4 rfl rfl)
theorem dR_after_5 : decode cX9_after 5 = .ok (.getfield 16, 3) := op_180 (rdSeg sd_07_cX9_after_0 5 rfl rfl) (rdSeg sd_07_cX9_after_0 6 rfl rfl) (rdSeg sd_07_cX9_after_0 7 rfl rfl) rfl
theorem dR_after_8 : decode cX9_after 8 = .ok (.invokestatic 117, 3) := op_184 (rdSeg sd_07_cX9_after_0 8 rfl rfl) (rdSeg sd_07_cX9_after_0 9 rfl rfl) (rdSeg sd_07_cX9_after_0 10 rfl rfl) rfl
theorem dR_after_11 : decode cX9_after 11 = .ok (.aload_n 0, 1) := op_42 (rdSeg sd_07_cX9_after_0 11 rfl rfl)
theorem dR_after_12 : decode cX9_after 12 = .ok (.iload_n 1, 1) := op_27 (rdSeg sd_07_cX9_after_0 12 rfl rfl)
theorem dR_after_13 : decode cX9_after 13 = .ok (.invokevirtual 214, 3) := op_182 (rdSeg sd_07_cX9_after_0 13 rfl rfl) (rdSeg sd_07_cX9_after_0 14 rfl rfl) (rdSeg sd_07_cX9_after_0 15 rfl rfl) rfl
theorem dR_after_16 : decode cX9_after 16 = .ok (.aload_n 0, 1) := op_42 (rdSeg sd_07_cX9_after_0 16 rfl rfl)
theorem dR_after_17 : decode cX9_after 17 = .ok (.iload_n 2, 1) := op_28 (rdSeg sd_07_cX9_after_0 17 rfl rfl)
theorem dR_after_18 : decode cX9_after 18 = .ok (.iload_n 3, 1) := op_29 (rdSeg sd_07_cX9_after_0 18 rfl rfl)
theorem dR_after_19 : decode cX9_after 19 = .ok (.invokevirtual 73, 3) := op_182 (rdSeg sd_07_cX9_after_0 19 rfl rfl) (rdSeg sd_07_cX9_after_0 20 rfl rfl) (rdSeg sd_07_cX9_after_0 21 rfl rfl) rfl
theorem dR_after_22 : decode cX9_after 22 = .ok (.istore 4, 2) := op_54 (rdSeg sd_07_cX9_after_0 22 rfl rfl) (rdSeg sd_07_cX9_after_0 23 rfl rfl)
theorem dR_after_24 : decode cX9_after 24 = .ok (.aload_n 0, 1) := op_42 (rdSeg sd_07_cX9_after_0 24 rfl rfl)
theorem dR_after_25 : decode cX9_after 25 = .ok (.getfield 16, 3) := op_180 (rdSeg sd_07_cX9_after_0 25 rfl rfl) (rdSeg sd_07_cX9_after_0 26 rfl rfl) (rdSeg sd_07_cX9_after_0 27 rfl rfl) rfl
theorem dR_after_28 : decode cX9_after 28 = .ok (.aload_n 0, 1) := op_42 (rdSeg sd_07_cX9_after_0 28 rfl rfl)
theorem dR_after_29 : decode cX9_after 29 = .ok (.getfield 7, 3) := op_180 (rdSeg sd_07_cX9_after_0 29 rfl rfl) (rdSeg sd_07_cX9_after_0 30 rfl rfl) (rdSeg sd_07_cX9_after_0 31 rfl rfl) rfl
theorem dR_after_32 : decode cX9_after 32 = .ok (.invokestatic 117, 3) := op_184 (rdSeg sd_07_cX9_after_1 0 rfl rfl) (rdSeg sd_07_cX9_after_1 1 rfl rfl) (rdSeg sd_07_cX9_after_1 2 rfl rfl) rfl
theorem dR_after_35 : decode cX9_after 35 = .ok (.iload 4, 2) := op_21 (rdSeg sd_07_cX9_after_1 3 rfl rfl) (rdSeg sd_07_cX9_after_1 4 rfl rfl)
theorem dR_after_37 : decode cX9_after 37 = .ok (.ireturn, 1) := op_172 (rdSeg sd_07_cX9_after_1 5 rfl rfl)
def sg_07_cX9_by_1 : List UInt8 := [0x2a, 0x1b, 0x1c, 0x1d, 0xb6, 0x00, 0xdc, 0xac]
def sg_07_cX9_by_0 : List UInt8 := 0x2a :: 0x1b :: 0xb6 :: 0x00 :: 0xd9 :: 0x99 :: 0x00 :: 0x15 :: 0x2a :: 0x1c :: 0xb6 :: 0x00 :: 0x4d :: 0x99 :: 0x00 :: 0x0d :: 0x1d :: 0x05 :: 0x10 :: 0x09 :: 0xb8 :: 0x00 :: 0x35 :: 0x9a :: 0x00 :: 0x09 :: 0x2a :: 0x04 :: 0xb6 :: 0x00 :: 0x3e :: 0xac :: sg_07_cX9_by_1
set_option maxRecDepth 100000 in
theorem sd_07_cX9_by_0 : cX9_by.data.toList.drop 0 = sg_07_cX9_by_0 := by decide +kernel
theorem sd_07_cX9_by_1 : cX9_by.data.toList.drop 32 = sg_07_cX9_by_1 := sg_next sd_07_cX9_by_0 rfl
theorem dR_by_0 : decode cX9_by 0 = .ok (.aload_n 0, 1) := op_42 (rdSeg sd_07_cX9_by_0 0 rfl rfl)
theorem dR_by_1 : decode cX9_by 1 = .ok (.iload_n 1, 1) := op_27 (rdSeg sd_07_cX9_by_0 1 rfl rfl)
theorem dR_by_2 : decode cX9_by 2 = .ok (.invokevirtual 217, 3) := op_182 (rdSeg sd_07_cX9_by_0 2 rfl rfl) (rdSeg sd_07_cX9_by_0 3 rfl rfl) (rdSeg sd_07_cX9_by_0 4 rfl rfl) rfl
theorem dR_by_5 : decode cX9_by 5 = .ok (.ifCond .eq 21, 3) := op_153 (rdSeg sd_07_cX9_by_0 5 rfl rfl) (rdSeg sd_07_cX9_by_0 6 rfl rfl) (rdSeg sd_07_cX9_by_0 7 rfl rfl) (by decide +kernel)
theorem dR_by_8 : decode cX9_by 8 = .ok (.aload_n 0, 1) := op_42 (rdSeg sd_07_cX9_by_0 8 rfl rfl)
theorem dR_by_9 : decode cX9_by 9 = .ok (.iload_n 2, 1) := op_28 (rdSeg sd_07_cX9_by_0 9 rfl rfl)
theorem dR_by_10 : decode cX9_by 10 = .ok (.invokevirtual 77, 3) := op_182 (rdSeg sd_07_cX9_by_0 10 rfl rfl) (rdSeg sd_07_cX9_by_0 11 rfl rfl) (rdSeg sd_07_cX9_by_0 12 rfl rfl) rfl
theorem dR_by_13 : decode cX9_by 13 = .ok (.ifCond .eq 13, 3) := op_153 (rdSeg sd_07_cX9_by_0 13 rfl rfl) (rdSeg sd_07_cX9_by_0 14 rfl rfl) (rdSeg sd_07_cX9_by_0 15 rfl rfl) (by decide +kernel)
theorem dR_by_16 : decode cX9_by 16 = .ok (.iload_n 3, 1) := op_29 (rdSeg sd_07_cX9_by_0 16 rfl rfl)
theorem dR_by_17 : decode cX9_by 17 = .ok (.iconst 2, 1) := op_5 (rdSeg sd_07_cX9_by_0 17 rfl rfl)
theorem dR_by_18 : decode cX9_by 18 = .ok (.bipush 9, 2) := op_16 (rdSeg sd_07_cX9_by_0 18 rfl rfl) (rdSeg sd_07_cX9_by_0 19 rfl rfl) (by decide +kernel)
theorem dR_by_20 : decode cX9_by 20 = .ok (.invokestatic 53, 3) := op_184 (rdSeg sd_07_cX9_by_0 20 rfl rfl) (rdSeg sd_07_cX9_by_0 21 rfl rfl) (rdSeg sd_07_cX9_by_0 22 rfl rfl) rfl
theorem dR_by_23 : decode cX9_by 23 = .ok (.ifCond .ne 9, 3) := op_154 (rdSeg sd_07_cX9_by_0 23 rfl rfl) (rdSeg sd_07_cX9_by_0 24 rfl rfl) (rdSeg sd_07_cX9_by_0 25 rfl rfl) (by decide +kernel)
theorem dR_by_26 : decode cX9_by 26 = .ok (.aload_n 0, 1) := op_42 (rdSeg sd_07_cX9_by_0 26 rfl rfl)
theorem dR_by_27 : decode cX9_by 27 = .ok (.iconst 1, 1) := op_4 (rdSeg sd_07_cX9_by_0 27 rfl rfl)
theorem dR_by_28 : decode cX9_by 28 = .ok (.invokevirtual 62, 3) := op_182 (rdSeg sd_07_cX9_by_0 28 rfl rfl) (rdSeg sd_07_cX9_by_0 29 rfl rfl) (rdSeg sd_07_cX9_by_0 30 rfl rfl) rfl
theorem dR_by_31 : decode cX9_by 31 = .ok (.ireturn, 1) := op_172 (rdSeg sd_07_cX9_by_0 31 rfl rfl)
theorem dR_by_32 : decode cX9_by 32 = .ok (.aload_n 0, 1) := op_42 (rdSeg sd_07_cX9_by_1 0 rfl rfl)
theorem dR_by_33 : decode cX9_by 33 = .ok (.iload_n 1, 1) := op_27 (rdSeg sd_07_cX9_by_1 1 rfl rfl)
theorem dR_by_34 : decode cX9_by 34 = .ok (.iload_n 2, 1) := op_28 (rdSeg sd_07_cX9_by_1 2 rfl rfl)
theorem dR_by_35 : decode cX9_by 35 = .ok (.iload_n 3, 1) := op_29 (rdSeg sd_07_cX9_by_1 3 rfl rfl)
theorem dR_by_36 : decode cX9_by 36 = .ok (.invokevirtual 220, 3) := op_182 (rdSeg sd_07_cX9_by_1 4 rfl rfl) (rdSeg sd_07_cX9_by_1 5 rfl rfl) (rdSeg sd_07_cX9_by_1 6 rfl rfl) rfl
theorem dR_by_39 : decode cX9_by 39 = .ok (.ireturn, 1) := op_172 (rdSeg sd_07_cX9_by_1 7 rfl rfl)
def sg_07_cX9_doesFit_3 : List UInt8 := [0x03, 0x01, 0xa7, 0xff, 0xb2, 0x2a, 0xb4, 0x00, 0x10, 0x2a, 0xb4, 0x00, 0x07, 0xb8, 0x00, 0x75, 0x1c, 0xac]
def sg_07_cX9_doesFit_2 : List UInt8 := 0x2e :: 0x64 :: 0x36 :: 0x04 :: 0x2a :: 0xb4 :: 0x00 :: 0x07 :: 0x11 :: 0x00 :: 0xb2 :: 0x06 :: 0x1d :: 0x68 :: 0x60 :: 0x05 :: 0x60 :: 0x2e :: 0x36 :: 0x05 :: 0x15 :: 0x04 :: 0x15 :: 0x05 :: 0x74 :: 0x15 :: 0x05 :: 0xb8 :: 0x00 :: 0x35 :: 0x3d :: 0x84 :: sg_07_cX9_doesFit_3
def sg_07_cX9_doesFit_1 : List UInt8 := 0x00 :: 0x46 :: 0x2a :: 0x2a :: 0xb4 :: 0x00 :: 0x07 :: 0x11 :: 0x00 :: 0xb2 :: 0x06 :: 0x1d :: 0x68 :: 0x60 :: 0x2e :: 0x05 :: 0xb6 :: 0x00 :: 0x49 :: 0x2a :: 0xb4 :: 0x00 :: 0x07 :: 0x11 :: 0x00 :: 0xb2 :: 0x06 :: 0x1d :: 0x68 :: 0x60 :: 0x04 :: 0x60 :: sg_07_cX9_doesFit_2
def sg_07_cX9_doesFit_0 : List UInt8 := 0x2a :: 0xb4 :: 0x00 :: 0x07 :: 0x2a :: 0xb4 :: 0x00 :: 0x10 :: 0xb8 :: 0x00 :: 0x75 :: 0x2a :: 0x1b :: 0xb6 :: 0x00 :: 0xd6 :: 0x04 :: 0x3d :: 0x03 :: 0x3e :: 0x1d :: 0x2a :: 0xb4 :: 0x00 :: 0x07 :: 0x07 :: 0x2e :: 0xa2 :: 0x00 :: 0x4a :: 0x1c :: 0x99 :: sg_07_cX9_doesFit_1
set_option maxRecDepth 100000 in
theorem sd_07_cX9_doesFit_0 : cX9_doesFit.data.toList.drop 0 = sg_07_cX9_doesFit_0 := by decide +kernel
theorem sd_07_cX9_doesFit_1 : cX9_doesFit.data.toList.drop 32 = sg_07_cX9_doesFit_1 := sg_next sd_07_cX9_doesFit_0 rfl
theorem sd_07_cX9_doesFit_2 : cX9_doesFit.data.toList.drop 64 = sg_07_cX9_doesFit_2 := sg_next sd_07_cX9_doesFit_1 rfl
theorem sd_07_cX9_doesFit_3 : cX9_doesFit.data.toList.drop 96 = sg_07_cX9_doesFit_3 := sg_next sd_07_cX9_doesFit_2 rfl
theorem dR_doesFit_0 : decode cX9_doesFit 0 = .ok (.aload_n 0, 1) := op_42 (rdSeg sd_07_cX9_doesFit_0 0 rfl rfl)
theorem dR_doesFit_1 : decode cX9_doesFit 1 = .ok (.getfield 7, 3) := op_180 (rdSeg sd_07_cX9_doesFit_0 1 rfl rfl) (rdSeg sd_07_cX9_doesFit_0 2 rfl rfl) (rdSeg sd_07_cX9_doesFit_0 3 rfl rfl) rfl
theorem dR_doesFit_4 : decode cX9_doesFit 4 = .ok (.aload_n 0, 1) := op_42 (rdSeg sd_07_cX9_doesFit_0 4 rfl rfl)
theorem dR_doesFit_5 : decode cX9_doesFit 5 = .ok (.getfield 16, 3) := op_180 (rdSeg sd_07_cX9_doesFit_0 5 rfl rfl) (rdSeg sd_07_cX9_doesFit_0 6 rfl rfl) (rdSeg sd_07_cX9_doesFit_0 7 rfl rfl) rfl
theorem dR_doesFit_8 : decode cX9_doesFit 8 = .ok (.invokestatic 117, 3) := op_184 (rdSeg sd_07_cX9_doesFit_0 8 rfl rfl) (rdSeg sd_07_cX9_doesFit_0 9 rfl rfl) (rdSeg sd_07_cX9_doesFit_0 10 rfl rfl) rfl
theorem dR_doesFit_11 : decode cX9_doesFit 11 = .ok (.aload_n 0, 1) := op_42 (rdSeg sd_07_cX9_doesFit_0 11 rfl rfl)
theorem dR_doesFit_12 : decode cX9_doesFit 12 = .ok (.iload_n 1, 1) := op_27 (rdSeg sd_07_cX9_doesFit_0 12 rfl rfl)
theorem dR_doesFit_13 : decode cX9_doesFit 13 = .ok (.invokevirtual 214, 3) := op_182 (rdSeg sd_07_cX9_doesFit_0 13 rfl rfl) (rdSeg sd_07_cX9_doesFit_0 14 rfl rfl) (rdSeg sd_07_cX9_doesFit_0 15 rfl rfl) rfl
theorem dR_doesFit_16 : decode cX9_doesFit 16 = .ok (.iconst 1, 1) := op_4 (rdSeg sd_07_cX9_doesFit_0 16 rfl rfl)
theorem dR_doesFit_17 : decode cX9_doesFit 17 = .ok (.istore_n 2, 1) := op_61 (rdSeg sd_07_cX9_doesFit_0 17 rfl rfl)
theorem dR_doesFit_18 : decode cX9_doesFit 18 = .ok (.iconst 0, 1) := op_3 (rdSeg sd_07_cX9_doesFit_0 18 rfl rfl)
theorem dR_doesFit_19 : decode cX9_doesFit 19 = .ok (.istore_n 3, 1) := op_62 (rdSeg sd_07_cX9_doesFit_0 19 rfl rfl)
theorem dR_doesFit_20 : decode cX9_doesFit 20 = .ok (.iload_n 3, 1) := op_29 (rdSeg sd_07_cX9_doesFit_0 20 rfl rfl)
theorem dR_doesFit_21 : decode cX9_doesFit 21 = .ok (.aload_n 0, 1) := op_42 (rdSeg sd_07_cX9_doesFit_0 21 rfl rfl)
theorem dR_doesFit_22 : decode cX9_doesFit 22 = .ok (.getfield 7, 3) := op_180 (rdSeg sd_07_cX9_doesFit_0 22 rfl rfl) (rdSeg sd_07_cX9_doesFit_0 23 rfl rfl) (rdSeg sd_07_cX9_doesFit_0 24 rfl rfl) rfl
theorem dR_doesFit_25 : decode cX9_doesFit 25 = .ok (.iconst 4, 1) := op_7 (rdSeg sd_07_cX9_doesFit_0 25 rfl rfl)
theorem dR_doesFit_26 : decode cX9_doesFit 26 = .ok (.iaload, 1) := op_46 (rdSeg sd_07_cX9_doesFit_0 26 rfl rfl)
theorem dR_doesFit_27 : decode cX9_doesFit 27 = .ok (.if_icmp .ge 74, 3) := op_162 (rdSeg sd_07_cX9_doesFit_0 27 rfl rfl) (rdSeg sd_07_cX9_doesFit_0 28 rfl rfl) (rdSeg sd_07_cX9_doesFit_0 29 rfl rfl) (by decide +kernel)
theorem dR_doesFit_30 : decode cX9_doesFit 30 = .ok (.iload_n 2, 1) := op_28 (rdSeg sd_07_cX9_doesFit_0 30 rfl rfl)
theorem dR_doesFit_31 : decode cX9_doesFit 31 = .ok (.ifCond .eq 70, 3) := op_153 (rdSeg sd_07_cX9_doesFit_0 31 rfl rfl) (rdSeg sd_07_cX9_doesFit_1 0 rfl rfl) (rdSeg sd_07_cX9_doesFit_1 1 rfl rfl) (by decide +kernel)
theorem dR_doesFit_34 : decode cX9_doesFit 34 = .ok (.aload_n 0, 1) := op_42 (rdSeg sd_07_cX9_doesFit_1 2 rfl rfl)
theorem dR_doesFit_35 : decode cX9_doesFit 35 = .ok (.aload_n 0, 1) := op_42 (rdSeg sd_07_cX9_doesFit_1 3 rfl rfl)
theorem dR_doesFit_36 : decode cX9_doesFit 36 = .ok (.getfield 7, 3) := op_180 (rdSeg sd_07_cX9_doesFit_1 4 rfl rfl) (rdSeg sd_07_cX9_doesFit_1 5 rfl rfl) (rdSeg sd_07_cX9_doesFit_1 6 rfl rfl) rfl
theorem dR_doesFit_39 : decode cX9_doesFit 39 = .ok (.sipush 178, 3) := op_17 (rdSeg sd_07_cX9_doesFit_1 7 rfl rfl) (rdSeg sd_07_cX9_doesFit_1 8 rfl rfl) (rdSeg sd_07_cX9_doesFit_1 9 rfl rfl) (by decide +kernel)
theorem dR_doesFit_42 : decode cX9_doesFit 42 = .ok (.iconst 3, 1) := op_6 (rdSeg sd_07_cX9_doesFit_1 10 rfl rfl)
theorem dR_doesFit_43 : decode cX9_doesFit 43 = .ok (.iload_n 3, 1) := op_29 (rdSeg sd_07_cX9_doesFit_1 11 rfl rfl)
theorem dR_doesFit_44 : decode cX9_doesFit 44 = .ok (.imul, 1) := op_104 (rdSeg sd_07_cX9_doesFit_1 12 rfl rfl)
theorem dR_doesFit_45 : decode cX9_doesFit 45 = .ok (.iadd, 1) := op_96 (rdSeg sd_07_cX9_doesFit_1 13 rfl rfl)
theorem dR_doesFit_46 : decode cX9_doesFit 46 = .ok (.iaload, 1) := op_46 (rdSeg sd_07_cX9_doesFit_1 14 rfl rfl)
theorem dR_doesFit_47 : decode cX9_doesFit 47 = .ok (.iconst 2, 1) := op_5 (rdSeg sd_07_cX9_doesFit_1 15 rfl rfl)
theorem dR_doesFit_48 : decode cX9_doesFit 48 = .ok (.invokevirtual 73, 3) := op_182 (rdSeg sd_07_cX9_doesFit_1 16 rfl rfl) (rdSeg sd_07_cX9_doesFit_1 17 rfl rfl) (rdSeg sd_07_cX9_doesFit_1 18 rfl rfl) rfl
theorem dR_doesFit_51 : decode cX9_doesFit 51 = .ok (.aload_n 0, 1) := op_42 (rdSeg sd_07_cX9_doesFit_1 19 rfl rfl)
theorem dR_doesFit_52 : decode cX9_doesFit 52 = .ok (.getfield 7, 3) := op_180 (rdSeg sd_07_cX9_doesFit_1 20 rfl rfl) (rdSeg sd_07_cX9_doesFit_1 21 rfl rfl) (rdSeg sd_07_cX9_doesFit_1 22 rfl rfl) rfl
theorem dR_doesFit_55 : decode cX9_doesFit 55 = .ok (.sipush 178, 3) := op_17 (rdSeg sd_07_cX9_doesFit_1 23 rfl rfl) (rdSeg sd_07_cX9_doesFit_1 24 rfl rfl) (rdSeg sd_07_cX9_doesFit_1 25 rfl rfl) (by decide +kernel)
theorem dR_doesFit_58 : decode cX9_doesFit 58 = .ok (.iconst 3, 1) := op_6 (rdSeg sd_07_cX9_doesFit_1 26 rfl rfl)
theorem dR_doesFit_59 : decode cX9_doesFit 59 = .ok (.iload_n 3, 1) := op_29 (rdSeg sd_07_cX9_doesFit_1 27 rfl rfl)
theorem dR_doesFit_60 : decode cX9_doesFit 60 = .ok (.imul, 1) := op_104 (rdSeg sd_07_cX9_doesFit_1 28 rfl rfl)
theorem dR_doesFit_61 : decode cX9_doesFit 61 = .ok (.iadd, 1) := op_96 (rdSeg sd_07_cX9_doesFit_1 29 rfl rfl)
theorem dR_doesFit_62 : decode cX9_doesFit 62 = .ok (.iconst 1, 1) := op_4 (rdSeg sd_07_cX9_doesFit_1 30 rfl rfl)
theorem dR_doesFit_63 : decode cX9_doesFit 63 = .ok (.iadd, 1) := op_96 (rdSeg sd_07_cX9_doesFit_1 31 rfl rfl)
theorem dR_doesFit_64 : decode cX9_doesFit 64 = .ok (.iaload, 1) := op_46 (rdSeg sd_07_cX9_doesFit_2 0 rfl rfl)
theorem dR_doesFit_65 : decode cX9_doesFit 65 = .ok (.isub, 1) := op_100 (rdSeg sd_07_cX9_doesFit_2 1 rfl rfl)
theorem dR_doesFit_66 : decode cX9_doesFit 66 = .ok (.istore 4, 2) := op_54 (rdSeg sd_07_cX9_doesFit_2 2 rfl rfl) (rdSeg sd_07_cX9_doesFit_2 3 rfl rfl)
theorem dR_doesFit_68 : decode cX9_doesFit 68 = .ok (.aload_n 0, 1) := op_42 (rdSeg sd_07_cX9_doesFit_2 4 rfl rfl)
theorem dR_doesFit_69 : decode cX9_doesFit 69 = .ok (.getfield 7, 3) := op_180 (rdSeg sd_07_cX9_doesFit_2 5 rfl rfl) (rdSeg sd_07_cX9_doesFit_2 6 rfl rfl) (rdSeg sd_07_cX9_doesFit_2 7 rfl rfl) rfl
theorem dR_doesFit_72 : decode cX9_doesFit 72 = .ok (.sipush 178, 3) := op_17 (rdSeg sd_07_cX9_doesFit_2 8 rfl rfl) (rdSeg sd_07_cX9_doesFit_2 9 rfl rfl) (rdSeg sd_07_cX9_doesFit_2 10 rfl rfl) (by decide +kernel)
theorem dR_doesFit_75 : decode cX9_doesFit 75 = .ok (.iconst 3, 1) := op_6 (rdSeg sd_07_cX9_doesFit_2 11 rfl rfl)
theorem dR_doesFit_76 : decode cX9_doesFit 76 = .ok (.iload_n 3, 1) := op_29 (rdSeg sd_07_cX9_doesFit_2 12 rfl rfl)
theorem dR_doesFit_77 : decode cX9_doesFit 77 = .ok (.imul, 1) := op_104 (rdSeg sd_07_cX9_doesFit_2 13 rfl rfl)
theorem dR_doesFit_78 : decode cX9_doesFit 78 = .ok (.iadd, 1) := op_96 (rdSeg sd_07_cX9_doesFit_2 14 rfl rfl)
theorem dR_doesFit_79 : decode cX9_doesFit 79 = .ok (.iconst 2, 1) := op_5 (rdSeg sd_07_cX9_doesFit_2 15 rfl rfl)
theorem dR_doesFit_80 : decode cX9_doesFit 80 = .ok (.iadd, 1) := op_96 (rdSeg sd_07_cX9_doesFit_2 16 rfl rfl)
theorem dR_doesFit_81 : decode cX9_doesFit 81 = .ok (.iaload, 1) := op_46 (rdSeg sd_07_cX9_doesFit_2 17 rfl rfl)
theorem dR_doesFit_82 : decode cX9_doesFit 82 = .ok (.istore 5, 2) := op_54 (rdSeg sd_07_cX9_doesFit_2 18 rfl rfl) (rdSeg sd_07_cX9_doesFit_2 19 rfl rfl)
theorem dR_doesFit_84 : decode cX9_doesFit 84 = .ok (.iload 4, 2) := op_21 (rdSeg sd_07_cX9_doesFit_2 20 rfl rfl) (rdSeg sd_07_cX9_doesFit_2 21 rfl rfl)
theorem dR_doesFit_86 : decode cX9_doesFit 86 = .ok (.iload 5, 2) := op_21 (rdSeg sd_07_cX9_doesFit_2 22 rfl rfl) (rdSeg sd_07_cX9_doesFit_2 23 rfl rfl)
theorem dR_doesFit_88 : decode cX9_doesFit 88 = .ok (.ineg, 1) := op_116 (rdSeg sd_07_cX9_doesFit_2 24 rfl rfl)
theorem dR_doesFit_89 : decode cX9_doesFit 89 = .ok (.iload 5, 2) := op_21 (rdSeg sd_07_cX9_doesFit_2 25 rfl rfl) (rdSeg sd_07_cX9_doesFit_2 26 rfl rfl)
theorem dR_doesFit_91 : decode cX9_doesFit 91 = .ok (.invokestatic 53, 3) := op_184 (rdSeg sd_07_cX9_doesFit_2 27 rfl rfl) (rdSeg sd_07_cX9_doesFit_2 28 rfl rfl) (rdSeg sd_07_cX9_doesFit_2 29 rfl rfl) rfl
theorem dR_doesFit_94 : decode cX9_doesFit 94 = .ok (.istore_n 2, 1) := op_61 (rdSeg sd_07_cX9_doesFit_2 30 rfl rfl)
theorem dR_doesFit_95 : decode cX9_doesFit 95 = .ok (.iinc 3 1, 3) := op_132 (rdSeg sd_07_cX9_doesFit_2 31 rfl rfl) (rdSeg sd_07_cX9_doesFit_3 0 rfl rfl) (rdSeg sd_07_cX9_doesFit_3 1 rfl rfl) (by decide +kernel)
theorem dR_doesFit_98 : decode cX9_doesFit 98 = .ok (.goto (-78), 3) := op_167 (rdSeg sd_07_cX9_doesFit_3 2 rfl rfl) (rdSeg sd_07_cX9_doesFit_3 3 rfl rfl) (rdSeg sd_07_cX9_doesFit_3 4 rfl rfl) (by decide +kernel)
theorem dR_doesFit_101 : decode cX9_doesFit 101 = .ok (.aload_n 0, 1) := op_42 (rdSeg sd_07_cX9_doesFit_3 5 rfl rfl)
theorem dR_doesFit_102 : decode cX9_doesFit 102 = .ok (.getfield 16, 3) := op_180 (rdSeg sd_07_cX9_doesFit_3 6 rfl rfl) (rdSeg sd_07_cX9_doesFit_3 7 rfl rfl) (rdSeg sd_07_cX9_doesFit_3 8 rfl rfl) rfl
theorem dR_doesFit_105 : decode cX9_doesFit 105 = .ok (.aload_n 0, 1) := op_42 (rdSeg sd_07_cX9_doesFit_3 9 rfl rfl)
theorem dR_doesFit_106 : decode cX9_doesFit 106 = .ok (.getfield 7, 3) := op_180 (rdSeg sd_07_cX9_doesFit_3 10 rfl rfl) (rdSeg sd_07_cX9_doesFit_3 11 rfl rfl) (rdSeg sd_07_cX9_doesFit_3 12 rfl rfl) rfl
theorem dR_doesFit_109 : decode cX9_doesFit 109 = .ok (.invokestatic 117, 3) := op_184 (rdSeg sd_07_cX9_doesFit_3 13 rfl rfl) (rdSeg sd_07_cX9_doesFit_3 14 rfl rfl) (rdSeg sd_07_cX9_doesFit_3 15 rfl rfl) rfl
theorem dR_doesFit_112 : decode cX9_doesFit 112 = .ok (.iload_n 2, 1) := op_28 (rdSeg sd_07_cX9_doesFit_3 16 rfl rfl)
theorem dR_doesFit_113 : decode cX9_doesFit 113 = .ok (.ireturn, 1) := op_172 (rdSeg sd_07_cX9_doesFit_3 17 rfl rfl)
def sg_07_cX9_findFits_1 : List UInt8 := [0x4f, 0x2a, 0x59, 0xb4, 0x00, 0xdf, 0x04, 0x60, 0xb5, 0x00, 0xdf, 0x84, 0x01, 0x01, 0xa7, 0xff, 0xd9, 0xb1]
def sg_07_cX9_findFits_0 : List UInt8 := 0x2a :: 0x03 :: 0xb5 :: 0x00 :: 0xdf :: 0x03 :: 0x3c :: 0x1b :: 0x2a :: 0xb6 :: 0x00 :: 0xd3 :: 0xa3 :: 0x00 :: 0x25 :: 0x2a :: 0x1b :: 0xb6 :: 0x00 :: 0xe2 :: 0x99 :: 0x00 :: 0x17 :: 0x2a :: 0xb4 :: 0x00 :: 0x1f :: 0x2a :: 0xb4 :: 0x00 :: 0xdf :: 0x1b :: sg_07_cX9_findFits_1
set_option maxRecDepth 100000 in
theorem sd_07_cX9_findFits_0 : cX9_findFits.data.toList.drop 0 = sg_07_cX9_findFits_0 := by decide +kernel
theorem sd_07_cX9_findFits_1 : cX9_findFits.data.toList.drop 32 = sg_07_cX9_findFits_1 := sg_next sd_07_cX9_findFits_0 rfl
theorem dR_findFits_0 : decode cX9_findFits 0 = .ok (.aload_n 0, 1) := op_42 (rdSeg sd_07_cX9_findFits_0 0 rfl rfl)
theorem dR_findFits_1 : decode cX9_findFits 1 = .ok (.iconst 0, 1) := op_3 (rdSeg sd_07_cX9_findFits_0 1 rfl rfl)
theorem dR_findFits_2 : decode cX9_findFits 2 = .ok (.putfield 223, 3) := op_181 (rdSeg sd_07_cX9_findFits_0 2 rfl rfl) (rdSeg sd_07_cX9_findFits_0 3 rfl rfl) (rdSeg sd_07_cX9_findFits_0 4 rfl rfl) rfl
theorem dR_findFits_5 : decode cX9_findFits 5 = .ok (.iconst 0, 1) := op_3 (rdSeg sd_07_cX9_findFits_0 5 rfl rfl)
theorem dR_findFits_6 : decode cX9_findFits 6 = .ok (.istore_n 1, 1) := op_60 (rdSeg sd_07_cX9_findFits_0 6 rfl rfl)
theorem dR_findFits_7 : decode cX9_findFits 7 = .ok (.iload_n 1, 1) := op_27 (rdSeg sd_07_cX9_findFits_0 7 rfl rfl)
theorem dR_findFits_8 : decode cX9_findFits 8 = .ok (.aload_n 0, 1) := op_42 (rdSeg sd_07_cX9_findFits_0 8 rfl rfl)
theorem dR_findFits_9 : decode cX9_findFits 9 = .ok (.invokevirtual 211, 3) := op_182 (rdSeg sd_07_cX9_findFits_0 9 rfl rfl) (rdSeg sd_07_cX9_findFits_0 10 rfl rfl) (rdSeg sd_07_cX9_findFits_0 11 rfl rfl) rfl
theorem dR_findFits_12 : decode cX9_findFits 12 = .ok (.if_icmp .gt 37, 3) := op_163 (rdSeg sd_07_cX9_findFits_0 12 rfl rfl) (rdSeg sd_07_cX9_findFits_0 13 rfl rfl) (rdSeg sd_07_cX9_findFits_0 14 rfl rfl) (by decide +kernel)
theorem dR_findFits_15 : decode cX9_findFits 15 = .ok (.aload_n 0, 1) := op_42 (rdSeg sd_07_cX9_findFits_0 15 rfl rfl)
theorem dR_findFits_16 : decode cX9_findFits 16 = .ok (.iload_n 1, 1) := op_27 (rdSeg sd_07_cX9_findFits_0 16 rfl rfl)
theorem dR_findFits_17 : decode cX9_findFits 17 = .ok (.invokevirtual 226, 3) := op_182 (rdSeg sd_07_cX9_findFits_0 17 rfl rfl) (rdSeg sd_07_cX9_findFits_0 18 rfl rfl) (rdSeg sd_07_cX9_findFits_0 19 rfl rfl) rfl
theorem dR_findFits_20 : decode cX9_findFits 20 = .ok (.ifCond .eq 23, 3) := op_153 (rdSeg sd_07_cX9_findFits_0 20 rfl rfl) (rdSeg sd_07_cX9_findFits_0 21 rfl rfl) (rdSeg sd_07_cX9_findFits_0 22 rfl rfl) (by decide +kernel)
theorem dR_findFits_23 : decode cX9_findFits 23 = .ok (.aload_n 0, 1) := op_42 (rdSeg sd_07_cX9_findFits_0 23 rfl rfl)
theorem dR_findFits_24 : decode cX9_findFits 24 = .ok (.getfield 31, 3) := op_180 (rdSeg sd_07_cX9_findFits_0 24 rfl rfl) (rdSeg sd_07_cX9_findFits_0 25 rfl rfl) (rdSeg sd_07_cX9_findFits_0 26 rfl rfl) rfl
theorem dR_findFits_27 : decode cX9_findFits 27 = .ok (.aload_n 0, 1) := op_42 (rdSeg sd_07_cX9_findFits_0 27 rfl rfl)
theorem dR_findFits_28 : decode cX9_findFits 28 = .ok (.getfield 223, 3) := op_180 (rdSeg sd_07_cX9_findFits_0 28 rfl rfl) (rdSeg sd_07_cX9_findFits_0 29 rfl rfl) (rdSeg sd_07_cX9_findFits_0 30 rfl rfl) rfl
theorem dR_findFits_31 : decode cX9_findFits 31 = .ok (.iload_n 1, 1) := op_27 (rdSeg sd_07_cX9_findFits_0 31 rfl rfl)
theorem dR_findFits_32 : decode cX9_findFits 32 = .ok (.iastore, 1) := op_79 (rdSeg sd_07_cX9_findFits_1 0 rfl rfl)
theorem dR_findFits_33 : decode cX9_findFits 33 = .ok (.aload_n 0, 1) := op_42 (rdSeg sd_07_cX9_findFits_1 1 rfl rfl)
theorem dR_findFits_34 : decode cX9_findFits 34 = .ok (.dup, 1) := op_89 (rdSeg sd_07_cX9_findFits_1 2 rfl rfl)
theorem dR_findFits_35 : decode cX9_findFits 35 = .ok (.getfield 223, 3) := op_180 (rdSeg sd_07_cX9_findFits_1 3 rfl rfl) (rdSeg sd_07_cX9_findFits_1 4 rfl rfl) (rdSeg sd_07_cX9_findFits_1 5 rfl rfl) rfl
theorem dR_findFits_38 : decode cX9_findFits 38 = .ok (.iconst 1, 1) := op_4 (rdSeg sd_07_cX9_findFits_1 6 rfl rfl)
theorem dR_findFits_39 : decode cX9_findFits 39 = .ok (.iadd, 1) := op_96 (rdSeg sd_07_cX9_findFits_1 7 rfl rfl)
theorem dR_findFits_40 : decode cX9_findFits 40 = .ok (.putfield 223, 3) := op_181 (rdSeg sd_07_cX9_findFits_1 8 rfl rfl) (rdSeg sd_07_cX9_findFits_1 9 rfl rfl) (rdSeg sd_07_cX9_findFits_1 10 rfl rfl) rfl
theorem dR_findFits_43 : decode cX9_findFits 43 = .ok (.iinc 1 1, 3) := op_132 (rdSeg sd_07_cX9_findFits_1 11 rfl rfl) (rdSeg sd_07_cX9_findFits_1 12 rfl rfl) (rdSeg sd_07_cX9_findFits_1 13 rfl rfl) (by decide +kernel)
theorem dR_findFits_46 : decode cX9_findFits 46 = .ok (.goto (-39), 3) := op_167 (rdSeg sd_07_cX9_findFits_1 14 rfl rfl) (rdSeg sd_07_cX9_findFits_1 15 rfl rfl) (rdSeg sd_07_cX9_findFits_1 16 rfl rfl) (by decide +kernel)
theorem dR_findFits_49 : decode cX9_findFits 49 = .ok (.return_, 1) := op_177 (rdSeg sd_07_cX9_findFits_1 17 rfl rfl)
def sg_07_cX9_bitsOf_0 : List UInt8 := [0x03, 0x3c, 0x1a, 0x3d, 0x1c, 0x99, 0x00, 0x0f, 0x84, 0x01, 0x01, 0x1c, 0x1c, 0x04, 0x64, 0x7e, 0x3d, 0xa7, 0xff, 0xf3, 0x1b, 0xac]
set_option maxRecDepth 100000 in
theorem sd_07_cX9_bitsOf_0 : cX9_bitsOf.data.toList.drop 0 = sg_07_cX9_bitsOf_0 := by decide +kernel
theorem dR_bitsOf_0 : decode cX9_bitsOf 0 = .ok (.iconst 0, 1) := op_3 (rdSeg sd_07_cX9_bitsOf_0 0 rfl rfl)
theorem dR_bitsOf_1 : decode cX9_bitsOf 1 = .ok (.istore_n 1, 1) := op_60 (rdSeg sd_07_cX9_bitsOf_0 1 rfl rfl)
theorem dR_bitsOf_2 : decode cX9_bitsOf 2 = .ok (.iload_n 0, 1) := op_26 (rdSeg sd_07_cX9_bitsOf_0 2 rfl rfl)
theorem dR_bitsOf_3 : decode cX9_bitsOf 3 = .ok (.istore_n 2, 1) := op_61 (rdSeg sd_07_cX9_bitsOf_0 3 rfl rfl)
theorem dR_bitsOf_4 : decode cX9_bitsOf 4 = .ok (.iload_n 2, 1) := op_28 (rdSeg sd_07_cX9_bitsOf_0 4 rfl rfl)
theorem dR_bitsOf_5 : decode cX9_bitsOf 5 = .ok (.ifCond .eq 15, 3) := op_153 (rdSeg sd_07_cX9_bitsOf_0 5 rfl rfl) (rdSeg sd_07_cX9_bitsOf_0 6 rfl rfl) (rdSeg sd_07_cX9_bitsOf_0 7 rfl rfl) (by decide +kernel)
theorem dR_bitsOf_8 : decode cX9_bitsOf 8 = .ok (.iinc 1 1, 3) := op_132 (rdSeg sd_07_cX9_bitsOf_0 8 rfl rfl) (rdSeg sd_07_cX9_bitsOf_0 9 rfl rfl) (rdSeg sd_07_cX9_bitsOf_0 10 rfl rfl) (by decide +kernel)
theorem dR_bitsOf_11 : decode cX9_bitsOf 11 = .ok (.iload_n 2, 1) := op_28 (rdSeg sd_07_cX9_bitsOf_0 11 rfl rfl)
theorem dR_bitsOf_12 : decode cX9_bitsOf 12 = .ok (.iload_n 2, 1) := op_28 (rdSeg sd_07_cX9_bitsOf_0 12 rfl rfl)
theorem dR_bitsOf_13 : decode cX9_bitsOf 13 = .ok (.iconst 1, 1) := op_4 (rdSeg sd_07_cX9_bitsOf_0 13 rfl rfl)
theorem dR_bitsOf_14 : decode cX9_bitsOf 14 = .ok (.isub, 1) := op_100 (rdSeg sd_07_cX9_bitsOf_0 14 rfl rfl)
theorem dR_bitsOf_15 : decode cX9_bitsOf 15 = .ok (.iand, 1) := op_126 (rdSeg sd_07_cX9_bitsOf_0 15 rfl rfl)
theorem dR_bitsOf_16 : decode cX9_bitsOf 16 = .ok (.istore_n 2, 1) := op_61 (rdSeg sd_07_cX9_bitsOf_0 16 rfl rfl)
theorem dR_bitsOf_17 : decode cX9_bitsOf 17 = .ok (.goto (-13), 3) := op_167 (rdSeg sd_07_cX9_bitsOf_0 17 rfl rfl) (rdSeg sd_07_cX9_bitsOf_0 18 rfl rfl) (rdSeg sd_07_cX9_bitsOf_0 19 rfl rfl) (by decide +kernel)
theorem dR_bitsOf_20 : decode cX9_bitsOf 20 = .ok (.iload_n 1, 1) := op_27 (rdSeg sd_07_cX9_bitsOf_0 20 rfl rfl)
theorem dR_bitsOf_21 : decode cX9_bitsOf 21 = .ok (.ireturn, 1) := op_172 (rdSeg sd_07_cX9_bitsOf_0 21 rfl rfl)
def sg_07_cX9_fits_5 : List UInt8 := [0x07, 0x1d, 0xa7, 0x00, 0x0c, 0x2a, 0xb4, 0x00, 0x07, 0x06, 0x2e, 0x15, 0x04, 0x64, 0xac]
def sg_07_cX9_fits_4 : List UInt8 := 0x00 :: 0xdf :: 0xa7 :: 0x00 :: 0x2c :: 0x1b :: 0x04 :: 0xa0 :: 0x00 :: 0x0c :: 0x2a :: 0xb4 :: 0x00 :: 0x1f :: 0x03 :: 0x2e :: 0xa7 :: 0x00 :: 0x1e :: 0x1b :: 0x05 :: 0xa0 :: 0x00 :: 0x07 :: 0x1c :: 0xa7 :: 0x00 :: 0x15 :: 0x1b :: 0x06 :: 0xa0 :: 0x00 :: sg_07_cX9_fits_5
def sg_07_cX9_fits_3 : List UInt8 := 0xa7 :: 0xff :: 0xc0 :: 0x1b :: 0x04 :: 0x9f :: 0x00 :: 0x08 :: 0x1b :: 0x07 :: 0xa0 :: 0x00 :: 0x10 :: 0x2a :: 0xb4 :: 0x00 :: 0xdf :: 0x9a :: 0x00 :: 0x09 :: 0x2a :: 0x05 :: 0xb6 :: 0x00 :: 0x3e :: 0xac :: 0x1b :: 0x9a :: 0x00 :: 0x0a :: 0x2a :: 0xb4 :: sg_07_cX9_fits_4
def sg_07_cX9_fits_2 : List UInt8 := 0x1f :: 0x15 :: 0x05 :: 0x2e :: 0xb8 :: 0x00 :: 0xe8 :: 0x15 :: 0x04 :: 0xa4 :: 0x00 :: 0x10 :: 0x2a :: 0xb4 :: 0x00 :: 0x1f :: 0x15 :: 0x05 :: 0x2e :: 0xb8 :: 0x00 :: 0xe8 :: 0xa7 :: 0x00 :: 0x05 :: 0x15 :: 0x04 :: 0x36 :: 0x04 :: 0x84 :: 0x05 :: 0x01 :: sg_07_cX9_fits_3
def sg_07_cX9_fits_1 : List UInt8 := 0x15 :: 0x05 :: 0x2a :: 0xb4 :: 0x00 :: 0xdf :: 0xa2 :: 0x00 :: 0x3d :: 0x1c :: 0x2a :: 0xb4 :: 0x00 :: 0x1f :: 0x15 :: 0x05 :: 0x2e :: 0x7e :: 0x3d :: 0x1d :: 0x2a :: 0xb4 :: 0x00 :: 0x1f :: 0x15 :: 0x05 :: 0x2e :: 0x80 :: 0x3e :: 0x2a :: 0xb4 :: 0x00 :: sg_07_cX9_fits_2
def sg_07_cX9_fits_0 : List UInt8 := 0x1b :: 0x03 :: 0x07 :: 0xb8 :: 0x00 :: 0x35 :: 0x9a :: 0x00 :: 0x09 :: 0x2a :: 0x04 :: 0xb6 :: 0x00 :: 0x3e :: 0xac :: 0x2a :: 0xb6 :: 0x00 :: 0xe5 :: 0x2a :: 0xb6 :: 0x00 :: 0xd3 :: 0x3d :: 0x03 :: 0x3e :: 0x03 :: 0x36 :: 0x04 :: 0x03 :: 0x36 :: 0x05 :: sg_07_cX9_fits_1
set_option maxRecDepth 100000 in
theorem sd_07_cX9_fits_0 : cX9_fits.data.toList.drop 0 = sg_07_cX9_fits_0 := by decide +kernel
theorem sd_07_cX9_fits_1 : cX9_fits.data.toList.drop 32 = sg_07_cX9_fits_1 := sg_next sd_07_cX9_fits_0 rfl
theorem sd_07_cX9_fits_2 : cX9_fits.data.toList.drop 64 = sg_07_cX9_fits_2 := sg_next sd_07_cX9_fits_1 rfl
theorem sd_07_cX9_fits_3 : cX9_fits.data.toList.drop 96 = sg_07_cX9_fits_3 := sg_next sd_07_cX9_fits_2 rfl
theorem sd_07_cX9_fits_4 : cX9_fits.data.toList.drop 128 = sg_07_cX9_fits_4 := sg_next sd_07_cX9_fits_3 rfl
theorem sd_07_cX9_fits_5 : cX9_fits.data.toList.drop 160 = sg_07_cX9_fits_5 := sg_next sd_07_cX9_fits_4 rfl
theorem dR_fits_0 : decode cX9_fits 0 = .ok (.iload_n 1, 1) := op_27 (rdSeg sd_07_cX9_fits_0 0 rfl rfl)
theorem dR_fits_1 : decode cX9_fits 1 = .ok (.iconst 0, 1) := op_3 (rdSeg sd_07_cX9_fits_0 1 rfl rfl)
theorem dR_fits_2 : decode cX9_fits 2 = .ok (.iconst 4, 1) := op_7 (rdSeg sd_07_cX9_fits_0 2 rfl rfl)
theorem dR_fits_3 : decode cX9_fits 3 = .ok (.invokestatic 53, 3) := op_184 (rdSeg sd_07_cX9_fits_0 3 rfl rfl) (rdSeg sd_07_cX9_fits_0 4 rfl rfl) (rdSeg sd_07_cX9_fits_0 5 rfl rfl) rfl
theorem dR_fits_6 : decode cX9_fits 6 = .ok (.ifCond .ne 9, 3) := op_154 (rdSeg sd_07_cX9_fits_0 6 rfl rfl) (rdSeg sd_07_cX9_fits_0 7 rfl rfl) (rdSeg sd_07_cX9_fits_0 8 rfl rfl) (by decide +kernel)
theorem dR_fits_9 : decode cX9_fits 9 = .ok (.aload_n 0, 1) := op_42 (rdSeg sd_07_cX9_fits_0 9 rfl rfl)
theorem dR_fits_10 : decode cX9_fits 10 = .ok (.iconst 1, 1) := op_4 (rdSeg sd_07_cX9_fits_0 10 rfl rfl)
theorem dR_fits_11 : decode cX9_fits 11 = .ok (.invokevirtual 62, 3) := op_182 (rdSeg sd_07_cX9_fits_0 11 rfl rfl) (rdSeg sd_07_cX9_fits_0 12 rfl rfl) (rdSeg sd_07_cX9_fits_0 13 rfl rfl) rfl
theorem dR_fits_14 : decode cX9_fits 14 = .ok (.ireturn, 1) := op_172 (rdSeg sd_07_cX9_fits_0 14 rfl rfl)
theorem dR_fits_15 : decode cX9_fits 15 = .ok (.aload_n 0, 1) := op_42 (rdSeg sd_07_cX9_fits_0 15 rfl rfl)
theorem dR_fits_16 : decode cX9_fits 16 = .ok (.invokevirtual 229, 3) := op_182 (rdSeg sd_07_cX9_fits_0 16 rfl rfl) (rdSeg sd_07_cX9_fits_0 17 rfl rfl) (rdSeg sd_07_cX9_fits_0 18 rfl rfl) rfl
theorem dR_fits_19 : decode cX9_fits 19 = .ok (.aload_n 0, 1) := op_42 (rdSeg sd_07_cX9_fits_0 19 rfl rfl)
theorem dR_fits_20 : decode cX9_fits 20 = .ok (.invokevirtual 211, 3) := op_182 (rdSeg sd_07_cX9_fits_0 20 rfl rfl) (rdSeg sd_07_cX9_fits_0 21 rfl rfl) (rdSeg sd_07_cX9_fits_0 22 rfl rfl) rfl
theorem dR_fits_23 : decode cX9_fits 23 = .ok (.istore_n 2, 1) := op_61 (rdSeg sd_07_cX9_fits_0 23 rfl rfl)
theorem dR_fits_24 : decode cX9_fits 24 = .ok (.iconst 0, 1) := op_3 (rdSeg sd_07_cX9_fits_0 24 rfl rfl)
theorem dR_fits_25 : decode cX9_fits 25 = .ok (.istore_n 3, 1) := op_62 (rdSeg sd_07_cX9_fits_0 25 rfl rfl)
theorem dR_fits_26 : decode cX9_fits 26 = .ok (.iconst 0, 1) := op_3 (rdSeg sd_07_cX9_fits_0 26 rfl rfl)
theorem dR_fits_27 : decode cX9_fits 27 = .ok (.istore 4, 2) := op_54 (rdSeg sd_07_cX9_fits_0 27 rfl rfl) (rdSeg sd_07_cX9_fits_0 28 rfl rfl)
theorem dR_fits_29 : decode cX9_fits 29 = .ok (.iconst 0, 1) := op_3 (rdSeg sd_07_cX9_fits_0 29 rfl rfl)
theorem dR_fits_30 : decode cX9_fits 30 = .ok (.istore 5, 2) := op_54 (rdSeg sd_07_cX9_fits_0 30 rfl rfl) (rdSeg sd_07_cX9_fits_0 31 rfl rfl)
theorem dR_fits_32 : decode cX9_fits 32 = .ok (.iload 5, 2) := op_21 (rdSeg sd_07_cX9_fits_1 0 rfl rfl) (rdSeg sd_07_cX9_fits_1 1 rfl rfl)
theorem dR_fits_34 : decode cX9_fits 34 = .ok (.aload_n 0, 1) := op_42 (rdSeg sd_07_cX9_fits_1 2 rfl rfl)
theorem dR_fits_35 : decode cX9_fits 35 = .ok (.getfield 223, 3) := op_180 (rdSeg sd_07_cX9_fits_1 3 rfl rfl) (rdSeg sd_07_cX9_fits_1 4 rfl rfl) (rdSeg sd_07_cX9_fits_1 5 rfl rfl) rfl
theorem dR_fits_38 : decode cX9_fits 38 = .ok (.if_icmp .ge 61, 3) := op_162 (rdSeg sd_07_cX9_fits_1 6 rfl rfl) (rdSeg sd_07_cX9_fits_1 7 rfl rfl) (rdSeg sd_07_cX9_fits_1 8 rfl rfl) (by decide +kernel)
theorem dR_fits_41 : decode cX9_fits 41 = .ok (.iload_n 2, 1) := op_28 (rdSeg sd_07_cX9_fits_1 9 rfl rfl)
theorem dR_fits_42 : decode cX9_fits 42 = .ok (.aload_n 0, 1) := op_42 (rdSeg sd_07_cX9_fits_1 10 rfl rfl)
theorem dR_fits_43 : decode cX9_fits 43 = .ok (.getfield 31, 3) := op_180 (rdSeg sd_07_cX9_fits_1 11 rfl rfl) (rdSeg sd_07_cX9_fits_1 12 rfl rfl) (rdSeg sd_07_cX9_fits_1 13 rfl rfl) rfl
theorem dR_fits_46 : decode cX9_fits 46 = .ok (.iload 5, 2) := op_21 (rdSeg sd_07_cX9_fits_1 14 rfl rfl) (rdSeg sd_07_cX9_fits_1 15 rfl rfl)
theorem dR_fits_48 : decode cX9_fits 48 = .ok (.iaload, 1) := op_46 (rdSeg sd_07_cX9_fits_1 16 rfl rfl)
theorem dR_fits_49 : decode cX9_fits 49 = .ok (.iand, 1) := op_126 (rdSeg sd_07_cX9_fits_1 17 rfl rfl)
theorem dR_fits_50 : decode cX9_fits 50 = .ok (.istore_n 2, 1) := op_61 (rdSeg sd_07_cX9_fits_1 18 rfl rfl)
theorem dR_fits_51 : decode cX9_fits 51 = .ok (.iload_n 3, 1) := op_29 (rdSeg sd_07_cX9_fits_1 19 rfl rfl)
theorem dR_fits_52 : decode cX9_fits 52 = .ok (.aload_n 0, 1) := op_42 (rdSeg sd_07_cX9_fits_1 20 rfl rfl)
theorem dR_fits_53 : decode cX9_fits 53 = .ok (.getfield 31, 3) := op_180 (rdSeg sd_07_cX9_fits_1 21 rfl rfl) (rdSeg sd_07_cX9_fits_1 22 rfl rfl) (rdSeg sd_07_cX9_fits_1 23 rfl rfl) rfl
theorem dR_fits_56 : decode cX9_fits 56 = .ok (.iload 5, 2) := op_21 (rdSeg sd_07_cX9_fits_1 24 rfl rfl) (rdSeg sd_07_cX9_fits_1 25 rfl rfl)
theorem dR_fits_58 : decode cX9_fits 58 = .ok (.iaload, 1) := op_46 (rdSeg sd_07_cX9_fits_1 26 rfl rfl)
theorem dR_fits_59 : decode cX9_fits 59 = .ok (.ior, 1) := op_128 (rdSeg sd_07_cX9_fits_1 27 rfl rfl)
theorem dR_fits_60 : decode cX9_fits 60 = .ok (.istore_n 3, 1) := op_62 (rdSeg sd_07_cX9_fits_1 28 rfl rfl)
theorem dR_fits_61 : decode cX9_fits 61 = .ok (.aload_n 0, 1) := op_42 (rdSeg sd_07_cX9_fits_1 29 rfl rfl)
theorem dR_fits_62 : decode cX9_fits 62 = .ok (.getfield 31, 3) := op_180 (rdSeg sd_07_cX9_fits_1 30 rfl rfl) (rdSeg sd_07_cX9_fits_1 31 rfl rfl) (rdSeg sd_07_cX9_fits_2 0 rfl rfl) rfl
theorem dR_fits_65 : decode cX9_fits 65 = .ok (.iload 5, 2) := op_21 (rdSeg sd_07_cX9_fits_2 1 rfl rfl) (rdSeg sd_07_cX9_fits_2 2 rfl rfl)
theorem dR_fits_67 : decode cX9_fits 67 = .ok (.iaload, 1) := op_46 (rdSeg sd_07_cX9_fits_2 3 rfl rfl)
theorem dR_fits_68 : decode cX9_fits 68 = .ok (.invokestatic 232, 3) := op_184 (rdSeg sd_07_cX9_fits_2 4 rfl rfl) (rdSeg sd_07_cX9_fits_2 5 rfl rfl) (rdSeg sd_07_cX9_fits_2 6 rfl rfl) rfl
theorem dR_fits_71 : decode cX9_fits 71 = .ok (.iload 4, 2) := op_21 (rdSeg sd_07_cX9_fits_2 7 rfl rfl) (rdSeg sd_07_cX9_fits_2 8 rfl rfl)
theorem dR_fits_73 : decode cX9_fits 73 = .ok (.if_icmp .le 16, 3) := op_164 (rdSeg sd_07_cX9_fits_2 9 rfl rfl) (rdSeg sd_07_cX9_fits_2 10 rfl rfl) (rdSeg sd_07_cX9_fits_2 11 rfl rfl) (by decide +kernel)
theorem dR_fits_76 : decode cX9_fits 76 = .ok (.aload_n 0, 1) := op_42 (rdSeg sd_07_cX9_fits_2 12 rfl rfl)
theorem dR_fits_77 : decode cX9_fits 77 = .ok (.getfield 31, 3) := op_180 (rdSeg sd_07_cX9_fits_2 13 rfl rfl) (rdSeg sd_07_cX9_fits_2 14 rfl rfl) (rdSeg sd_07_cX9_fits_2 15 rfl rfl) rfl
theorem dR_fits_80 : decode cX9_fits 80 = .ok (.iload 5, 2) := op_21 (rdSeg sd_07_cX9_fits_2 16 rfl rfl) (rdSeg sd_07_cX9_fits_2 17 rfl rfl)
theorem dR_fits_82 : decode cX9_fits 82 = .ok (.iaload, 1) := op_46 (rdSeg sd_07_cX9_fits_2 18 rfl rfl)
theorem dR_fits_83 : decode cX9_fits 83 = .ok (.invokestatic 232, 3) := op_184 (rdSeg sd_07_cX9_fits_2 19 rfl rfl) (rdSeg sd_07_cX9_fits_2 20 rfl rfl) (rdSeg sd_07_cX9_fits_2 21 rfl rfl) rfl
theorem dR_fits_86 : decode cX9_fits 86 = .ok (.goto 5, 3) := op_167 (rdSeg sd_07_cX9_fits_2 22 rfl rfl) (rdSeg sd_07_cX9_fits_2 23 rfl rfl) (rdSeg sd_07_cX9_fits_2 24 rfl rfl) (by decide +kernel)
theorem dR_fits_89 : decode cX9_fits 89 = .ok (.iload 4, 2) := op_21 (rdSeg sd_07_cX9_fits_2 25 rfl rfl) (rdSeg sd_07_cX9_fits_2 26 rfl rfl)
theorem dR_fits_91 : decode cX9_fits 91 = .ok (.istore 4, 2) := op_54 (rdSeg sd_07_cX9_fits_2 27 rfl rfl) (rdSeg sd_07_cX9_fits_2 28 rfl rfl)
theorem dR_fits_93 : decode cX9_fits 93 = .ok (.iinc 5 1, 3) := op_132 (rdSeg sd_07_cX9_fits_2 29 rfl rfl) (rdSeg sd_07_cX9_fits_2 30 rfl rfl) (rdSeg sd_07_cX9_fits_2 31 rfl rfl) (by decide +kernel)
theorem dR_fits_96 : decode cX9_fits 96 = .ok (.goto (-64), 3) := op_167 (rdSeg sd_07_cX9_fits_3 0 rfl rfl) (rdSeg sd_07_cX9_fits_3 1 rfl rfl) (rdSeg sd_07_cX9_fits_3 2 rfl rfl) (by decide +kernel)
theorem dR_fits_99 : decode cX9_fits 99 = .ok (.iload_n 1, 1) := op_27 (rdSeg sd_07_cX9_fits_3 3 rfl rfl)
theorem dR_fits_100 : decode cX9_fits 100 = .ok (.iconst 1, 1) := op_4 (rdSeg sd_07_cX9_fits_3 4 rfl rfl)
theorem dR_fits_101 : decode cX9_fits 101 = .ok (.if_icmp .eq 8, 3) := op_159 (rdSeg sd_07_cX9_fits_3 5 rfl rfl) (rdSeg sd_07_cX9_fits_3 6 rfl rfl) (rdSeg sd_07_cX9_fits_3 7 rfl rfl) (by decide +kernel)
theorem dR_fits_104 : decode cX9_fits 104 = .ok (.iload_n 1, 1) := op_27 (rdSeg sd_07_cX9_fits_3 8 rfl rfl)
theorem dR_fits_105 : decode cX9_fits 105 = .ok (.iconst 4, 1) := op_7 (rdSeg sd_07_cX9_fits_3 9 rfl rfl)
theorem dR_fits_106 : decode cX9_fits 106 = .ok (.if_icmp .ne 16, 3) := op_160 (rdSeg sd_07_cX9_fits_3 10 rfl rfl) (rdSeg sd_07_cX9_fits_3 11 rfl rfl) (rdSeg sd_07_cX9_fits_3 12 rfl rfl) (by decide +kernel)
theorem dR_fits_109 : decode cX9_fits 109 = .ok (.aload_n 0, 1) := op_42 (rdSeg sd_07_cX9_fits_3 13 rfl rfl)
theorem dR_fits_110 : decode cX9_fits 110 = .ok (.getfield 223, 3) := op_180 (rdSeg sd_07_cX9_fits_3 14 rfl rfl) (rdSeg sd_07_cX9_fits_3 15 rfl rfl) (rdSeg sd_07_cX9_fits_3 16 rfl rfl) rfl
theorem dR_fits_113 : decode cX9_fits 113 = .ok (.ifCond .ne 9, 3) := op_154 (rdSeg sd_07_cX9_fits_3 17 rfl rfl) (rdSeg sd_07_cX9_fits_3 18 rfl rfl) (rdSeg sd_07_cX9_fits_3 19 rfl rfl) (by decide +kernel)
theorem dR_fits_116 : decode cX9_fits 116 = .ok (.aload_n 0, 1) := op_42 (rdSeg sd_07_cX9_fits_3 20 rfl rfl)
theorem dR_fits_117 : decode cX9_fits 117 = .ok (.iconst 2, 1) := op_5 (rdSeg sd_07_cX9_fits_3 21 rfl rfl)
theorem dR_fits_118 : decode cX9_fits 118 = .ok (.invokevirtual 62, 3) := op_182 (rdSeg sd_07_cX9_fits_3 22 rfl rfl) (rdSeg sd_07_cX9_fits_3 23 rfl rfl) (rdSeg sd_07_cX9_fits_3 24 rfl rfl) rfl
theorem dR_fits_121 : decode cX9_fits 121 = .ok (.ireturn, 1) := op_172 (rdSeg sd_07_cX9_fits_3 25 rfl rfl)
theorem dR_fits_122 : decode cX9_fits 122 = .ok (.iload_n 1, 1) := op_27 (rdSeg sd_07_cX9_fits_3 26 rfl rfl)
theorem dR_fits_123 : decode cX9_fits 123 = .ok (.ifCond .ne 10, 3) := op_154 (rdSeg sd_07_cX9_fits_3 27 rfl rfl) (rdSeg sd_07_cX9_fits_3 28 rfl rfl) (rdSeg sd_07_cX9_fits_3 29 rfl rfl) (by decide +kernel)
theorem dR_fits_126 : decode cX9_fits 126 = .ok (.aload_n 0, 1) := op_42 (rdSeg sd_07_cX9_fits_3 30 rfl rfl)
theorem dR_fits_127 : decode cX9_fits 127 = .ok (.getfield 223, 3) := op_180 (rdSeg sd_07_cX9_fits_3 31 rfl rfl) (rdSeg sd_07_cX9_fits_4 0 rfl rfl) (rdSeg sd_07_cX9_fits_4 1 rfl rfl) rfl
theorem dR_fits_130 : decode cX9_fits 130 = .ok (.goto 44, 3) := op_167 (rdSeg sd_07_cX9_fits_4 2 rfl rfl) (rdSeg sd_07_cX9_fits_4 3 rfl rfl) (rdSeg sd_07_cX9_fits_4 4 rfl rfl) (by decide +kernel)
theorem dR_fits_133 : decode cX9_fits 133 = .ok (.iload_n 1, 1) := op_27 (rdSeg sd_07_cX9_fits_4 5 rfl rfl)
theorem dR_fits_134 : decode cX9_fits 134 = .ok (.iconst 1, 1) := op_4 (rdSeg sd_07_cX9_fits_4 6 rfl rfl)
theorem dR_fits_135 : decode cX9_fits 135 = .ok (.if_icmp .ne 12, 3) := op_160 (rdSeg sd_07_cX9_fits_4 7 rfl rfl) (rdSeg sd_07_cX9_fits_4 8 rfl rfl) (rdSeg sd_07_cX9_fits_4 9 rfl rfl) (by decide +kernel)
theorem dR_fits_138 : decode cX9_fits 138 = .ok (.aload_n 0, 1) := op_42 (rdSeg sd_07_cX9_fits_4 10 rfl rfl)
theorem dR_fits_139 : decode cX9_fits 139 = .ok (.getfield 31, 3) := op_180 (rdSeg sd_07_cX9_fits_4 11 rfl rfl) (rdSeg sd_07_cX9_fits_4 12 rfl rfl) (rdSeg sd_07_cX9_fits_4 13 rfl rfl) rfl
theorem dR_fits_142 : decode cX9_fits 142 = .ok (.iconst 0, 1) := op_3 (rdSeg sd_07_cX9_fits_4 14 rfl rfl)
theorem dR_fits_143 : decode cX9_fits 143 = .ok (.iaload, 1) := op_46 (rdSeg sd_07_cX9_fits_4 15 rfl rfl)
theorem dR_fits_144 : decode cX9_fits 144 = .ok (.goto 30, 3) := op_167 (rdSeg sd_07_cX9_fits_4 16 rfl rfl) (rdSeg sd_07_cX9_fits_4 17 rfl rfl) (rdSeg sd_07_cX9_fits_4 18 rfl rfl) (by decide +kernel)
theorem dR_fits_147 : decode cX9_fits 147 = .ok (.iload_n 1, 1) := op_27 (rdSeg sd_07_cX9_fits_4 19 rfl rfl)
theorem dR_fits_148 : decode cX9_fits 148 = .ok (.iconst 2, 1) := op_5 (rdSeg sd_07_cX9_fits_4 20 rfl rfl)
theorem dR_fits_149 : decode cX9_fits 149 = .ok (.if_icmp .ne 7, 3) := op_160 (rdSeg sd_07_cX9_fits_4 21 rfl rfl) (rdSeg sd_07_cX9_fits_4 22 rfl rfl) (rdSeg sd_07_cX9_fits_4 23 rfl rfl) (by decide +kernel)
theorem dR_fits_152 : decode cX9_fits 152 = .ok (.iload_n 2, 1) := op_28 (rdSeg sd_07_cX9_fits_4 24 rfl rfl)
theorem dR_fits_153 : decode cX9_fits 153 = .ok (.goto 21, 3) := op_167 (rdSeg sd_07_cX9_fits_4 25 rfl rfl) (rdSeg sd_07_cX9_fits_4 26 rfl rfl) (rdSeg sd_07_cX9_fits_4 27 rfl rfl) (by decide +kernel)
theorem dR_fits_156 : decode cX9_fits 156 = .ok (.iload_n 1, 1) := op_27 (rdSeg sd_07_cX9_fits_4 28 rfl rfl)
theorem dR_fits_157 : decode cX9_fits 157 = .ok (.iconst 3, 1) := op_6 (rdSeg sd_07_cX9_fits_4 29 rfl rfl)
theorem dR_fits_158 : decode cX9_fits 158 = .ok (.if_icmp .ne 7, 3) := op_160 (rdSeg sd_07_cX9_fits_4 30 rfl rfl) (rdSeg sd_07_cX9_fits_4 31 rfl rfl) (rdSeg sd_07_cX9_fits_5 0 rfl rfl) (by decide +kernel)
theorem dR_fits_161 : decode cX9_fits 161 = .ok (.iload_n 3, 1) := op_29 (rdSeg sd_07_cX9_fits_5 1 rfl rfl)
theorem dR_fits_162 : decode cX9_fits 162 = .ok (.goto 12, 3) := op_167 (rdSeg sd_07_cX9_fits_5 2 rfl rfl) (rdSeg sd_07_cX9_fits_5 3 rfl rfl) (rdSeg sd_07_cX9_fits_5 4 rfl rfl) (by decide +kernel)
theorem dR_fits_165 : decode cX9_fits 165 = .ok (.aload_n 0, 1) := op_42 (rdSeg sd_07_cX9_fits_5 5 rfl rfl)
theorem dR_fits_166 : decode cX9_fits 166 = .ok (.getfield 7, 3) := op_180 (rdSeg sd_07_cX9_fits_5 6 rfl rfl) (rdSeg sd_07_cX9_fits_5 7 rfl rfl) (rdSeg sd_07_cX9_fits_5 8 rfl rfl) rfl
theorem dR_fits_169 : decode cX9_fits 169 = .ok (.iconst 3, 1) := op_6 (rdSeg sd_07_cX9_fits_5 9 rfl rfl)
theorem dR_fits_170 : decode cX9_fits 170 = .ok (.iaload, 1) := op_46 (rdSeg sd_07_cX9_fits_5 10 rfl rfl)
theorem dR_fits_171 : decode cX9_fits 171 = .ok (.iload 4, 2) := op_21 (rdSeg sd_07_cX9_fits_5 11 rfl rfl) (rdSeg sd_07_cX9_fits_5 12 rfl rfl)
theorem dR_fits_173 : decode cX9_fits 173 = .ok (.isub, 1) := op_100 (rdSeg sd_07_cX9_fits_5 13 rfl rfl)
theorem dR_fits_174 : decode cX9_fits 174 = .ok (.ireturn, 1) := op_172 (rdSeg sd_07_cX9_fits_5 14 rfl rfl)
def sg_07_cX9_span_4 : List UInt8 := [0x00, 0x05, 0x15, 0x04, 0x36, 0x04, 0x84, 0x05, 0x01, 0xa7, 0xff, 0xbc, 0x15, 0x04, 0xac]
def sg_07_cX9_span_3 : List UInt8 := 0x1d :: 0x04 :: 0xa0 :: 0x00 :: 0x14 :: 0x15 :: 0x06 :: 0x15 :: 0x04 :: 0xa4 :: 0x00 :: 0x08 :: 0x15 :: 0x06 :: 0xa7 :: 0x00 :: 0x16 :: 0x15 :: 0x04 :: 0xa7 :: 0x00 :: 0x11 :: 0x15 :: 0x06 :: 0x15 :: 0x04 :: 0xa2 :: 0x00 :: 0x08 :: 0x15 :: 0x06 :: 0xa7 :: sg_07_cX9_span_4
def sg_07_cX9_span_2 : List UInt8 := 0x36 :: 0x04 :: 0x04 :: 0x36 :: 0x05 :: 0x15 :: 0x05 :: 0x2a :: 0xb4 :: 0x00 :: 0xdf :: 0xa2 :: 0x00 :: 0x41 :: 0x2a :: 0x2a :: 0xb4 :: 0x00 :: 0x1f :: 0x15 :: 0x05 :: 0x2e :: 0x1b :: 0x10 :: 0x06 :: 0x1c :: 0x60 :: 0xb6 :: 0x00 :: 0xdc :: 0x36 :: 0x06 :: sg_07_cX9_span_3
def sg_07_cX9_span_1 : List UInt8 := 0x2a :: 0xb6 :: 0x00 :: 0xe5 :: 0x2a :: 0xb4 :: 0x00 :: 0xdf :: 0x9a :: 0x00 :: 0x09 :: 0x2a :: 0x05 :: 0xb6 :: 0x00 :: 0x3e :: 0xac :: 0x2a :: 0x2a :: 0xb4 :: 0x00 :: 0x1f :: 0x03 :: 0x2e :: 0x1b :: 0x10 :: 0x06 :: 0x1c :: 0x60 :: 0xb6 :: 0x00 :: 0xdc :: sg_07_cX9_span_2
def sg_07_cX9_span_0 : List UInt8 := 0x2a :: 0x1b :: 0xb6 :: 0x00 :: 0x4d :: 0x99 :: 0x00 :: 0x15 :: 0x1c :: 0x03 :: 0x06 :: 0xb8 :: 0x00 :: 0x35 :: 0x99 :: 0x00 :: 0x0c :: 0x1d :: 0x03 :: 0x04 :: 0xb8 :: 0x00 :: 0x35 :: 0x9a :: 0x00 :: 0x09 :: 0x2a :: 0x04 :: 0xb6 :: 0x00 :: 0x3e :: 0xac :: sg_07_cX9_span_1
set_option maxRecDepth 100000 in
theorem sd_07_cX9_span_0 : cX9_span.data.toList.drop 0 = sg_07_cX9_span_0 := by decide +kernel
theorem sd_07_cX9_span_1 : cX9_span.data.toList.drop 32 = sg_07_cX9_span_1 := sg_next sd_07_cX9_span_0 rfl
theorem sd_07_cX9_span_2 : cX9_span.data.toList.drop 64 = sg_07_cX9_span_2 := sg_next sd_07_cX9_span_1 rfl
theorem sd_07_cX9_span_3 : cX9_span.data.toList.drop 96 = sg_07_cX9_span_3 := sg_next sd_07_cX9_span_2 rfl
theorem sd_07_cX9_span_4 : cX9_span.data.toList.drop 128 = sg_07_cX9_span_4 := sg_next sd_07_cX9_span_3 rfl
theorem dR_span_0 : decode cX9_span 0 = .ok (.aload_n 0, 1) := op_42 (rdSeg sd_07_cX9_span_0 0 rfl rfl)
theorem dR_span_1 : decode cX9_span 1 = .ok (.iload_n 1, 1) := op_27 (rdSeg sd_07_cX9_span_0 1 rfl rfl)
theorem dR_span_2 : decode cX9_span 2 = .ok (.invokevirtual 77, 3) := op_182 (rdSeg sd_07_cX9_span_0 2 rfl rfl) (rdSeg sd_07_cX9_span_0 3 rfl rfl) (rdSeg sd_07_cX9_span_0 4 rfl rfl) rfl
theorem dR_span_5 : decode cX9_span 5 = .ok (.ifCond .eq 21, 3) := op_153 (rdSeg sd_07_cX9_span_0 5 rfl rfl) (rdSeg sd_07_cX9_span_0 6 rfl rfl) (rdSeg sd_07_cX9_span_0 7 rfl rfl) (by decide +kernel)
theorem dR_span_8 : decode cX9_span 8 = .ok (.iload_n 2, 1) := op_28 (rdSeg sd_07_cX9_span_0 8 rfl rfl)
theorem dR_span_9 : decode cX9_span 9 = .ok (.iconst 0, 1) := op_3 (rdSeg sd_07_cX9_span_0 9 rfl rfl)
theorem dR_span_10 : decode cX9_span 10 = .ok (.iconst 3, 1) := op_6 (rdSeg sd_07_cX9_span_0 10 rfl rfl)
theorem dR_span_11 : decode cX9_span 11 = .ok (.invokestatic 53, 3) := op_184 (rdSeg sd_07_cX9_span_0 11 rfl rfl) (rdSeg sd_07_cX9_span_0 12 rfl rfl) (rdSeg sd_07_cX9_span_0 13 rfl rfl) rfl
theorem dR_span_14 : decode cX9_span 14 = .ok (.ifCond .eq 12, 3) := op_153 (rdSeg sd_07_cX9_span_0 14 rfl rfl) (rdSeg sd_07_cX9_span_0 15 rfl rfl) (rdSeg sd_07_cX9_span_0 16 rfl rfl) (by decide +kernel)
theorem dR_span_17 : decode cX9_span 17 = .ok (.iload_n 3, 1) := op_29 (rdSeg sd_07_cX9_span_0 17 rfl rfl)
theorem dR_span_18 : decode cX9_span 18 = .ok (.iconst 0, 1) := op_3 (rdSeg sd_07_cX9_span_0 18 rfl rfl)
theorem dR_span_19 : decode cX9_span 19 = .ok (.iconst 1, 1) := op_4 (rdSeg sd_07_cX9_span_0 19 rfl rfl)
theorem dR_span_20 : decode cX9_span 20 = .ok (.invokestatic 53, 3) := op_184 (rdSeg sd_07_cX9_span_0 20 rfl rfl) (rdSeg sd_07_cX9_span_0 21 rfl rfl) (rdSeg sd_07_cX9_span_0 22 rfl rfl) rfl
theorem dR_span_23 : decode cX9_span 23 = .ok (.ifCond .ne 9, 3) := op_154 (rdSeg sd_07_cX9_span_0 23 rfl rfl) (rdSeg sd_07_cX9_span_0 24 rfl rfl) (rdSeg sd_07_cX9_span_0 25 rfl rfl) (by decide +kernel)
theorem dR_span_26 : decode cX9_span 26 = .ok (.aload_n 0, 1) := op_42 (rdSeg sd_07_cX9_span_0 26 rfl rfl)
theorem dR_span_27 : decode cX9_span 27 = .ok (.iconst 1, 1) := op_4 (rdSeg sd_07_cX9_span_0 27 rfl rfl)
theorem dR_span_28 : decode cX9_span 28 = .ok (.invokevirtual 62, 3) := op_182 (rdSeg sd_07_cX9_span_0 28 rfl rfl) (rdSeg sd_07_cX9_span_0 29 rfl rfl) (rdSeg sd_07_cX9_span_0 30 rfl rfl) rfl
theorem dR_span_31 : decode cX9_span 31 = .ok (.ireturn, 1) := op_172 (rdSeg sd_07_cX9_span_0 31 rfl rfl)
theorem dR_span_32 : decode cX9_span 32 = .ok (.aload_n 0, 1) := op_42 (rdSeg sd_07_cX9_span_1 0 rfl rfl)
theorem dR_span_33 : decode cX9_span 33 = .ok (.invokevirtual 229, 3) := op_182 (rdSeg sd_07_cX9_span_1 1 rfl rfl) (rdSeg sd_07_cX9_span_1 2 rfl rfl) (rdSeg sd_07_cX9_span_1 3 rfl rfl) rfl
theorem dR_span_36 : decode cX9_span 36 = .ok (.aload_n 0, 1) := op_42 (rdSeg sd_07_cX9_span_1 4 rfl rfl)
theorem dR_span_37 : decode cX9_span 37 = .ok (.getfield 223, 3) := op_180 (rdSeg sd_07_cX9_span_1 5 rfl rfl) (rdSeg sd_07_cX9_span_1 6 rfl rfl) (rdSeg sd_07_cX9_span_1 7 rfl rfl) rfl
theorem dR_span_40 : decode cX9_span 40 = .ok (.ifCond .ne 9, 3) := op_154 (rdSeg sd_07_cX9_span_1 8 rfl rfl) (rdSeg sd_07_cX9_span_1 9 rfl rfl) (rdSeg sd_07_cX9_span_1 10 rfl rfl) (by decide +kernel)
theorem dR_span_43 : decode cX9_span 43 = .ok (.aload_n 0, 1) := op_42 (rdSeg sd_07_cX9_span_1 11 rfl rfl)
theorem dR_span_44 : decode cX9_span 44 = .ok (.iconst 2, 1) := op_5 (rdSeg sd_07_cX9_span_1 12 rfl rfl)
theorem dR_span_45 : decode cX9_span 45 = .ok (.invokevirtual 62, 3) := op_182 (rdSeg sd_07_cX9_span_1 13 rfl rfl) (rdSeg sd_07_cX9_span_1 14 rfl rfl) (rdSeg sd_07_cX9_span_1 15 rfl rfl) rfl
theorem dR_span_48 : decode cX9_span 48 = .ok (.ireturn, 1) := op_172 (rdSeg sd_07_cX9_span_1 16 rfl rfl)
theorem dR_span_49 : decode cX9_span 49 = .ok (.aload_n 0, 1) := op_42 (rdSeg sd_07_cX9_span_1 17 rfl rfl)
theorem dR_span_50 : decode cX9_span 50 = .ok (.aload_n 0, 1) := op_42 (rdSeg sd_07_cX9_span_1 18 rfl rfl)
theorem dR_span_51 : decode cX9_span 51 = .ok (.getfield 31, 3) := op_180 (rdSeg sd_07_cX9_span_1 19 rfl rfl) (rdSeg sd_07_cX9_span_1 20 rfl rfl) (rdSeg sd_07_cX9_span_1 21 rfl rfl) rfl
theorem dR_span_54 : decode cX9_span 54 = .ok (.iconst 0, 1) := op_3 (rdSeg sd_07_cX9_span_1 22 rfl rfl)
theorem dR_span_55 : decode cX9_span 55 = .ok (.iaload, 1) := op_46 (rdSeg sd_07_cX9_span_1 23 rfl rfl)
theorem dR_span_56 : decode cX9_span 56 = .ok (.iload_n 1, 1) := op_27 (rdSeg sd_07_cX9_span_1 24 rfl rfl)
theorem dR_span_57 : decode cX9_span 57 = .ok (.bipush 6, 2) := op_16 (rdSeg sd_07_cX9_span_1 25 rfl rfl) (rdSeg sd_07_cX9_span_1 26 rfl rfl) (by decide +kernel)
theorem dR_span_59 : decode cX9_span 59 = .ok (.iload_n 2, 1) := op_28 (rdSeg sd_07_cX9_span_1 27 rfl rfl)
theorem dR_span_60 : decode cX9_span 60 = .ok (.iadd, 1) := op_96 (rdSeg sd_07_cX9_span_1 28 rfl rfl)
theorem dR_span_61 : decode cX9_span 61 = .ok (.invokevirtual 220, 3) := op_182 (rdSeg sd_07_cX9_span_1 29 rfl rfl) (rdSeg sd_07_cX9_span_1 30 rfl rfl) (rdSeg sd_07_cX9_span_1 31 rfl rfl) rfl
theorem dR_span_64 : decode cX9_span 64 = .ok (.istore 4, 2) := op_54 (rdSeg sd_07_cX9_span_2 0 rfl rfl) (rdSeg sd_07_cX9_span_2 1 rfl rfl)
theorem dR_span_66 : decode cX9_span 66 = .ok (.iconst 1, 1) := op_4 (rdSeg sd_07_cX9_span_2 2 rfl rfl)
theorem dR_span_67 : decode cX9_span 67 = .ok (.istore 5, 2) := op_54 (rdSeg sd_07_cX9_span_2 3 rfl rfl) (rdSeg sd_07_cX9_span_2 4 rfl rfl)
theorem dR_span_69 : decode cX9_span 69 = .ok (.iload 5, 2) := op_21 (rdSeg sd_07_cX9_span_2 5 rfl rfl) (rdSeg sd_07_cX9_span_2 6 rfl rfl)
theorem dR_span_71 : decode cX9_span 71 = .ok (.aload_n 0, 1) := op_42 (rdSeg sd_07_cX9_span_2 7 rfl rfl)
theorem dR_span_72 : decode cX9_span 72 = .ok (.getfield 223, 3) := op_180 (rdSeg sd_07_cX9_span_2 8 rfl rfl) (rdSeg sd_07_cX9_span_2 9 rfl rfl) (rdSeg sd_07_cX9_span_2 10 rfl rfl) rfl
theorem dR_span_75 : decode cX9_span 75 = .ok (.if_icmp .ge 65, 3) := op_162 (rdSeg sd_07_cX9_span_2 11 rfl rfl) (rdSeg sd_07_cX9_span_2 12 rfl rfl) (rdSeg sd_07_cX9_span_2 13 rfl rfl) (by decide +kernel)
theorem dR_span_78 : decode cX9_span 78 = .ok (.aload_n 0, 1) := op_42 (rdSeg sd_07_cX9_span_2 14 rfl rfl)
theorem dR_span_79 : decode cX9_span 79 = .ok (.aload_n 0, 1) := op_42 (rdSeg sd_07_cX9_span_2 15 rfl rfl)
theorem dR_span_80 : decode cX9_span 80 = .ok (.getfield 31, 3) := op_180 (rdSeg sd_07_cX9_span_2 16 rfl rfl) (rdSeg sd_07_cX9_span_2 17 rfl rfl) (rdSeg sd_07_cX9_span_2 18 rfl rfl) rfl
theorem dR_span_83 : decode cX9_span 83 = .ok (.iload 5, 2) := op_21 (rdSeg sd_07_cX9_span_2 19 rfl rfl) (rdSeg sd_07_cX9_span_2 20 rfl rfl)
theorem dR_span_85 : decode cX9_span 85 = .ok (.iaload, 1) := op_46 (rdSeg sd_07_cX9_span_2 21 rfl rfl)
theorem dR_span_86 : decode cX9_span 86 = .ok (.iload_n 1, 1) := op_27 (rdSeg sd_07_cX9_span_2 22 rfl rfl)
theorem dR_span_87 : decode cX9_span 87 = .ok (.bipush 6, 2) := op_16 (rdSeg sd_07_cX9_span_2 23 rfl rfl) (rdSeg sd_07_cX9_span_2 24 rfl rfl) (by decide +kernel)
theorem dR_span_89 : decode cX9_span 89 = .ok (.iload_n 2, 1) := op_28 (rdSeg sd_07_cX9_span_2 25 rfl rfl)
theorem dR_span_90 : decode cX9_span 90 = .ok (.iadd, 1) := op_96 (rdSeg sd_07_cX9_span_2 26 rfl rfl)
theorem dR_span_91 : decode cX9_span 91 = .ok (.invokevirtual 220, 3) := op_182 (rdSeg sd_07_cX9_span_2 27 rfl rfl) (rdSeg sd_07_cX9_span_2 28 rfl rfl) (rdSeg sd_07_cX9_span_2 29 rfl rfl) rfl
theorem dR_span_94 : decode cX9_span 94 = .ok (.istore 6, 2) := op_54 (rdSeg sd_07_cX9_span_2 30 rfl rfl) (rdSeg sd_07_cX9_span_2 31 rfl rfl)
theorem dR_span_96 : decode cX9_span 96 = .ok (.iload_n 3, 1) := op_29 (rdSeg sd_07_cX9_span_3 0 rfl rfl)
theorem dR_span_97 : decode cX9_span 97 = .ok (.iconst 1, 1) := op_4 (rdSeg sd_07_cX9_span_3 1 rfl rfl)
theorem dR_span_98 : decode cX9_span 98 = .ok (.if_icmp .ne 20, 3) := op_160 (rdSeg sd_07_cX9_span_3 2 rfl rfl) (rdSeg sd_07_cX9_span_3 3 rfl rfl) (rdSeg sd_07_cX9_span_3 4 rfl rfl) (by decide +kernel)
theorem dR_span_101 : decode cX9_span 101 = .ok (.iload 6, 2) := op_21 (rdSeg sd_07_cX9_span_3 5 rfl rfl) (rdSeg sd_07_cX9_span_3 6 rfl rfl)
theorem dR_span_103 : decode cX9_span 103 = .ok (.iload 4, 2) := op_21 (rdSeg sd_07_cX9_span_3 7 rfl rfl) (rdSeg sd_07_cX9_span_3 8 rfl rfl)
theorem dR_span_105 : decode cX9_span 105 = .ok (.if_icmp .le 8, 3) := op_164 (rdSeg sd_07_cX9_span_3 9 rfl rfl) (rdSeg sd_07_cX9_span_3 10 rfl rfl) (rdSeg sd_07_cX9_span_3 11 rfl rfl) (by decide +kernel)
theorem dR_span_108 : decode cX9_span 108 = .ok (.iload 6, 2) := op_21 (rdSeg sd_07_cX9_span_3 12 rfl rfl) (rdSeg sd_07_cX9_span_3 13 rfl rfl)
theorem dR_span_110 : decode cX9_span 110 = .ok (.goto 22, 3) := op_167 (rdSeg sd_07_cX9_span_3 14 rfl rfl) (rdSeg sd_07_cX9_span_3 15 rfl rfl) (rdSeg sd_07_cX9_span_3 16 rfl rfl) (by decide +kernel)
theorem dR_span_113 : decode cX9_span 113 = .ok (.iload 4, 2) := op_21 (rdSeg sd_07_cX9_span_3 17 rfl rfl) (rdSeg sd_07_cX9_span_3 18 rfl rfl)
theorem dR_span_115 : decode cX9_span 115 = .ok (.goto 17, 3) := op_167 (rdSeg sd_07_cX9_span_3 19 rfl rfl) (rdSeg sd_07_cX9_span_3 20 rfl rfl) (rdSeg sd_07_cX9_span_3 21 rfl rfl) (by decide +kernel)
theorem dR_span_118 : decode cX9_span 118 = .ok (.iload 6, 2) := op_21 (rdSeg sd_07_cX9_span_3 22 rfl rfl) (rdSeg sd_07_cX9_span_3 23 rfl rfl)
theorem dR_span_120 : decode cX9_span 120 = .ok (.iload 4, 2) := op_21 (rdSeg sd_07_cX9_span_3 24 rfl rfl) (rdSeg sd_07_cX9_span_3 25 rfl rfl)
theorem dR_span_122 : decode cX9_span 122 = .ok (.if_icmp .ge 8, 3) := op_162 (rdSeg sd_07_cX9_span_3 26 rfl rfl) (rdSeg sd_07_cX9_span_3 27 rfl rfl) (rdSeg sd_07_cX9_span_3 28 rfl rfl) (by decide +kernel)
theorem dR_span_125 : decode cX9_span 125 = .ok (.iload 6, 2) := op_21 (rdSeg sd_07_cX9_span_3 29 rfl rfl) (rdSeg sd_07_cX9_span_3 30 rfl rfl)
theorem dR_span_127 : decode cX9_span 127 = .ok (.goto 5, 3) := op_167 (rdSeg sd_07_cX9_span_3 31 rfl rfl) (rdSeg sd_07_cX9_span_4 0 rfl rfl) (rdSeg sd_07_cX9_span_4 1 rfl rfl) (by decide +kernel)
theorem dR_span_130 : decode cX9_span 130 = .ok (.iload 4, 2) := op_21 (rdSeg sd_07_cX9_span_4 2 rfl rfl) (rdSeg sd_07_cX9_span_4 3 rfl rfl)
theorem dR_span_132 : decode cX9_span 132 = .ok (.istore 4, 2) := op_54 (rdSeg sd_07_cX9_span_4 4 rfl rfl) (rdSeg sd_07_cX9_span_4 5 rfl rfl)
theorem dR_span_134 : decode cX9_span 134 = .ok (.iinc 5 1, 3) := op_132 (rdSeg sd_07_cX9_span_4 6 rfl rfl) (rdSeg sd_07_cX9_span_4 7 rfl rfl) (rdSeg sd_07_cX9_span_4 8 rfl rfl) (by decide +kernel)
theorem dR_span_137 : decode cX9_span 137 = .ok (.goto (-68), 3) := op_167 (rdSeg sd_07_cX9_span_4 9 rfl rfl) (rdSeg sd_07_cX9_span_4 10 rfl rfl) (rdSeg sd_07_cX9_span_4 11 rfl rfl) (by decide +kernel)
theorem dR_span_140 : decode cX9_span 140 = .ok (.iload 4, 2) := op_21 (rdSeg sd_07_cX9_span_4 12 rfl rfl) (rdSeg sd_07_cX9_span_4 13 rfl rfl)
theorem dR_span_142 : decode cX9_span 142 = .ok (.ireturn, 1) := op_172 (rdSeg sd_07_cX9_span_4 14 rfl rfl)
def sg_07_cX9_heap_3 : List UInt8 := [0xa4, 0x00, 0x08, 0x15, 0x04, 0xa7, 0x00, 0x04, 0x1c, 0x3d, 0x84, 0x03, 0x01, 0xa7, 0xff, 0xb9, 0x1c, 0xac]
def sg_07_cX9_heap_2 : List UInt8 := 0xb4 :: 0x00 :: 0x22 :: 0x15 :: 0x05 :: 0x2e :: 0x2a :: 0xb4 :: 0x00 :: 0x22 :: 0x1d :: 0x2e :: 0xa0 :: 0x00 :: 0x07 :: 0x04 :: 0xa7 :: 0x00 :: 0x04 :: 0x03 :: 0x60 :: 0x36 :: 0x04 :: 0x84 :: 0x05 :: 0x01 :: 0xa7 :: 0xff :: 0xda :: 0x15 :: 0x04 :: 0x1c :: sg_07_cX9_heap_3
def sg_07_cX9_heap_1 : List UInt8 := 0xff :: 0xe3 :: 0x03 :: 0x3d :: 0x03 :: 0x3e :: 0x1d :: 0x2a :: 0xb4 :: 0x00 :: 0xdf :: 0xa2 :: 0x00 :: 0x45 :: 0x03 :: 0x36 :: 0x04 :: 0x03 :: 0x36 :: 0x05 :: 0x15 :: 0x05 :: 0x2a :: 0xb4 :: 0x00 :: 0xdf :: 0xa2 :: 0x00 :: 0x23 :: 0x15 :: 0x04 :: 0x2a :: sg_07_cX9_heap_2
def sg_07_cX9_heap_0 : List UInt8 := 0x03 :: 0x3d :: 0x1c :: 0x2a :: 0xb4 :: 0x00 :: 0xdf :: 0xa2 :: 0x00 :: 0x1b :: 0x2a :: 0xb4 :: 0x00 :: 0x22 :: 0x1c :: 0x2a :: 0x2a :: 0xb4 :: 0x00 :: 0x1f :: 0x1c :: 0x2e :: 0x1b :: 0x05 :: 0xb6 :: 0x00 :: 0xdc :: 0x4f :: 0x84 :: 0x02 :: 0x01 :: 0xa7 :: sg_07_cX9_heap_1
set_option maxRecDepth 100000 in
theorem sd_07_cX9_heap_0 : cX9_heap.data.toList.drop 0 = sg_07_cX9_heap_0 := by decide +kernel
theorem sd_07_cX9_heap_1 : cX9_heap.data.toList.drop 32 = sg_07_cX9_heap_1 := sg_next sd_07_cX9_heap_0 rfl
theorem sd_07_cX9_heap_2 : cX9_heap.data.toList.drop 64 = sg_07_cX9_heap_2 := sg_next sd_07_cX9_heap_1 rfl
theorem sd_07_cX9_heap_3 : cX9_heap.data.toList.drop 96 = sg_07_cX9_heap_3 := sg_next sd_07_cX9_heap_2 rfl
theorem dR_heap_0 : decode cX9_heap 0 = .ok (.iconst 0, 1) := op_3 (rdSeg sd_07_cX9_heap_0 0 rfl rfl)
theorem dR_heap_1 : decode cX9_heap 1 = .ok (.istore_n 2, 1) := op_61 (rdSeg sd_07_cX9_heap_0 1 rfl rfl)
theorem dR_heap_2 : decode cX9_heap 2 = .ok (.iload_n 2, 1) := op_28 (rdSeg sd_07_cX9_heap_0 2 rfl rfl)
theorem dR_heap_3 : decode cX9_heap 3 = .ok (.aload_n 0, 1) := op_42 (rdSeg sd_07_cX9_heap_0 3 rfl rfl)
theorem dR_heap_4 : decode cX9_heap 4 = .ok (.getfield 223, 3) := op_180 (rdSeg sd_07_cX9_heap_0 4 rfl rfl) (rdSeg sd_07_cX9_heap_0 5 rfl rfl) (rdSeg sd_07_cX9_heap_0 6 rfl rfl) rfl
theorem dR_heap_7 : decode cX9_heap 7 = .ok (.if_icmp .ge 27, 3) := op_162 (rdSeg sd_07_cX9_heap_0 7 rfl rfl) (rdSeg sd_07_cX9_heap_0 8 rfl rfl) (rdSeg sd_07_cX9_heap_0 9 rfl rfl) (by decide +kernel)
theorem dR_heap_10 : decode cX9_heap 10 = .ok (.aload_n 0, 1) := op_42 (rdSeg sd_07_cX9_heap_0 10 rfl rfl)
theorem dR_heap_11 : decode cX9_heap 11 = .ok (.getfield 34, 3) := op_180 (rdSeg sd_07_cX9_heap_0 11 rfl rfl) (rdSeg sd_07_cX9_heap_0 12 rfl rfl) (rdSeg sd_07_cX9_heap_0 13 rfl rfl) rfl
theorem dR_heap_14 : decode cX9_heap 14 = .ok (.iload_n 2, 1) := op_28 (rdSeg sd_07_cX9_heap_0 14 rfl rfl)
theorem dR_heap_15 : decode cX9_heap 15 = .ok (.aload_n 0, 1) := op_42 (rdSeg sd_07_cX9_heap_0 15 rfl rfl)
theorem dR_heap_16 : decode cX9_heap 16 = .ok (.aload_n 0, 1) := op_42 (rdSeg sd_07_cX9_heap_0 16 rfl rfl)
theorem dR_heap_17 : decode cX9_heap 17 = .ok (.getfield 31, 3) := op_180 (rdSeg sd_07_cX9_heap_0 17 rfl rfl) (rdSeg sd_07_cX9_heap_0 18 rfl rfl) (rdSeg sd_07_cX9_heap_0 19 rfl rfl) rfl
theorem dR_heap_20 : decode cX9_heap 20 = .ok (.iload_n 2, 1) := op_28 (rdSeg sd_07_cX9_heap_0 20 rfl rfl)
theorem dR_heap_21 : decode cX9_heap 21 = .ok (.iaload, 1) := op_46 (rdSeg sd_07_cX9_heap_0 21 rfl rfl)
theorem dR_heap_22 : decode cX9_heap 22 = .ok (.iload_n 1, 1) := op_27 (rdSeg sd_07_cX9_heap_0 22 rfl rfl)
theorem dR_heap_23 : decode cX9_heap 23 = .ok (.iconst 2, 1) := op_5 (rdSeg sd_07_cX9_heap_0 23 rfl rfl)
theorem dR_heap_24 : decode cX9_heap 24 = .ok (.invokevirtual 220, 3) := op_182 (rdSeg sd_07_cX9_heap_0 24 rfl rfl) (rdSeg sd_07_cX9_heap_0 25 rfl rfl) (rdSeg sd_07_cX9_heap_0 26 rfl rfl) rfl
theorem dR_heap_27 : decode cX9_heap 27 = .ok (.iastore, 1) := op_79 (rdSeg sd_07_cX9_heap_0 27 rfl rfl)
theorem dR_heap_28 : decode cX9_heap 28 = .ok (.iinc 2 1, 3) := op_132 (rdSeg sd_07_cX9_heap_0 28 rfl rfl) (rdSeg sd_07_cX9_heap_0 29 rfl rfl) (rdSeg sd_07_cX9_heap_0 30 rfl rfl) (by decide +kernel)
theorem dR_heap_31 : decode cX9_heap 31 = .ok (.goto (-29), 3) := op_167 (rdSeg sd_07_cX9_heap_0 31 rfl rfl) (rdSeg sd_07_cX9_heap_1 0 rfl rfl) (rdSeg sd_07_cX9_heap_1 1 rfl rfl) (by decide +kernel)
theorem dR_heap_34 : decode cX9_heap 34 = .ok (.iconst 0, 1) := op_3 (rdSeg sd_07_cX9_heap_1 2 rfl rfl)
theorem dR_heap_35 : decode cX9_heap 35 = .ok (.istore_n 2, 1) := op_61 (rdSeg sd_07_cX9_heap_1 3 rfl rfl)
theorem dR_heap_36 : decode cX9_heap 36 = .ok (.iconst 0, 1) := op_3 (rdSeg sd_07_cX9_heap_1 4 rfl rfl)
theorem dR_heap_37 : decode cX9_heap 37 = .ok (.istore_n 3, 1) := op_62 (rdSeg sd_07_cX9_heap_1 5 rfl rfl)
theorem dR_heap_38 : decode cX9_heap 38 = .ok (.iload_n 3, 1) := op_29 (rdSeg sd_07_cX9_heap_1 6 rfl rfl)
theorem dR_heap_39 : decode cX9_heap 39 = .ok (.aload_n 0, 1) := op_42 (rdSeg sd_07_cX9_heap_1 7 rfl rfl)
theorem dR_heap_40 : decode cX9_heap 40 = .ok (.getfield 223, 3) := op_180 (rdSeg sd_07_cX9_heap_1 8 rfl rfl) (rdSeg sd_07_cX9_heap_1 9 rfl rfl) (rdSeg sd_07_cX9_heap_1 10 rfl rfl) rfl
theorem dR_heap_43 : decode cX9_heap 43 = .ok (.if_icmp .ge 69, 3) := op_162 (rdSeg sd_07_cX9_heap_1 11 rfl rfl) (rdSeg sd_07_cX9_heap_1 12 rfl rfl) (rdSeg sd_07_cX9_heap_1 13 rfl rfl) (by decide +kernel)
theorem dR_heap_46 : decode cX9_heap 46 = .ok (.iconst 0, 1) := op_3 (rdSeg sd_07_cX9_heap_1 14 rfl rfl)
theorem dR_heap_47 : decode cX9_heap 47 = .ok (.istore 4, 2) := op_54 (rdSeg sd_07_cX9_heap_1 15 rfl rfl) (rdSeg sd_07_cX9_heap_1 16 rfl rfl)
theorem dR_heap_49 : decode cX9_heap 49 = .ok (.iconst 0, 1) := op_3 (rdSeg sd_07_cX9_heap_1 17 rfl rfl)
theorem dR_heap_50 : decode cX9_heap 50 = .ok (.istore 5, 2) := op_54 (rdSeg sd_07_cX9_heap_1 18 rfl rfl) (rdSeg sd_07_cX9_heap_1 19 rfl rfl)
theorem dR_heap_52 : decode cX9_heap 52 = .ok (.iload 5, 2) := op_21 (rdSeg sd_07_cX9_heap_1 20 rfl rfl) (rdSeg sd_07_cX9_heap_1 21 rfl rfl)
theorem dR_heap_54 : decode cX9_heap 54 = .ok (.aload_n 0, 1) := op_42 (rdSeg sd_07_cX9_heap_1 22 rfl rfl)
theorem dR_heap_55 : decode cX9_heap 55 = .ok (.getfield 223, 3) := op_180 (rdSeg sd_07_cX9_heap_1 23 rfl rfl) (rdSeg sd_07_cX9_heap_1 24 rfl rfl) (rdSeg sd_07_cX9_heap_1 25 rfl rfl) rfl
theorem dR_heap_58 : decode cX9_heap 58 = .ok (.if_icmp .ge 35, 3) := op_162 (rdSeg sd_07_cX9_heap_1 26 rfl rfl) (rdSeg sd_07_cX9_heap_1 27 rfl rfl) (rdSeg sd_07_cX9_heap_1 28 rfl rfl) (by decide +kernel)
theorem dR_heap_61 : decode cX9_heap 61 = .ok (.iload 4, 2) := op_21 (rdSeg sd_07_cX9_heap_1 29 rfl rfl) (rdSeg sd_07_cX9_heap_1 30 rfl rfl)
theorem dR_heap_63 : decode cX9_heap 63 = .ok (.aload_n 0, 1) := op_42 (rdSeg sd_07_cX9_heap_1 31 rfl rfl)
theorem dR_heap_64 : decode cX9_heap 64 = .ok (.getfield 34, 3) := op_180 (rdSeg sd_07_cX9_heap_2 0 rfl rfl) (rdSeg sd_07_cX9_heap_2 1 rfl rfl) (rdSeg sd_07_cX9_heap_2 2 rfl rfl) rfl
theorem dR_heap_67 : decode cX9_heap 67 = .ok (.iload 5, 2) := op_21 (rdSeg sd_07_cX9_heap_2 3 rfl rfl) (rdSeg sd_07_cX9_heap_2 4 rfl rfl)
theorem dR_heap_69 : decode cX9_heap 69 = .ok (.iaload, 1) := op_46 (rdSeg sd_07_cX9_heap_2 5 rfl rfl)
theorem dR_heap_70 : decode cX9_heap 70 = .ok (.aload_n 0, 1) := op_42 (rdSeg sd_07_cX9_heap_2 6 rfl rfl)
theorem dR_heap_71 : decode cX9_heap 71 = .ok (.getfield 34, 3) := op_180 (rdSeg sd_07_cX9_heap_2 7 rfl rfl) (rdSeg sd_07_cX9_heap_2 8 rfl rfl) (rdSeg sd_07_cX9_heap_2 9 rfl rfl) rfl
theorem dR_heap_74 : decode cX9_heap 74 = .ok (.iload_n 3, 1) := op_29 (rdSeg sd_07_cX9_heap_2 10 rfl rfl)
theorem dR_heap_75 : decode cX9_heap 75 = .ok (.iaload, 1) := op_46 (rdSeg sd_07_cX9_heap_2 11 rfl rfl)
theorem dR_heap_76 : decode cX9_heap 76 = .ok (.if_icmp .ne 7, 3) := op_160 (rdSeg sd_07_cX9_heap_2 12 rfl rfl) (rdSeg sd_07_cX9_heap_2 13 rfl rfl) (rdSeg sd_07_cX9_heap_2 14 rfl rfl) (by decide +kernel)
theorem dR_heap_79 : decode cX9_heap 79 = .ok (.iconst 1, 1) := op_4 (rdSeg sd_07_cX9_heap_2 15 rfl rfl)
theorem dR_heap_80 : decode cX9_heap 80 = .ok (.goto 4, 3) := op_167 (rdSeg sd_07_cX9_heap_2 16 rfl rfl) (rdSeg sd_07_cX9_heap_2 17 rfl rfl) (rdSeg sd_07_cX9_heap_2 18 rfl rfl) (by decide +kernel)
theorem dR_heap_83 : decode cX9_heap 83 = .ok (.iconst 0, 1) := op_3 (rdSeg sd_07_cX9_heap_2 19 rfl rfl)
theorem dR_heap_84 : decode cX9_heap 84 = .ok (.iadd, 1) := op_96 (rdSeg sd_07_cX9_heap_2 20 rfl rfl)
theorem dR_heap_85 : decode cX9_heap 85 = .ok (.istore 4, 2) := op_54 (rdSeg sd_07_cX9_heap_2 21 rfl rfl) (rdSeg sd_07_cX9_heap_2 22 rfl rfl)
theorem dR_heap_87 : decode cX9_heap 87 = .ok (.iinc 5 1, 3) := op_132 (rdSeg sd_07_cX9_heap_2 23 rfl rfl) (rdSeg sd_07_cX9_heap_2 24 rfl rfl) (rdSeg sd_07_cX9_heap_2 25 rfl rfl) (by decide +kernel)
theorem dR_heap_90 : decode cX9_heap 90 = .ok (.goto (-38), 3) := op_167 (rdSeg sd_07_cX9_heap_2 26 rfl rfl) (rdSeg sd_07_cX9_heap_2 27 rfl rfl) (rdSeg sd_07_cX9_heap_2 28 rfl rfl) (by decide +kernel)
theorem dR_heap_93 : decode cX9_heap 93 = .ok (.iload 4, 2) := op_21 (rdSeg sd_07_cX9_heap_2 29 rfl rfl) (rdSeg sd_07_cX9_heap_2 30 rfl rfl)
theorem dR_heap_95 : decode cX9_heap 95 = .ok (.iload_n 2, 1) := op_28 (rdSeg sd_07_cX9_heap_2 31 rfl rfl)
theorem dR_heap_96 : decode cX9_heap 96 = .ok (.if_icmp .le 8, 3) := op_164 (rdSeg sd_07_cX9_heap_3 0 rfl rfl) (rdSeg sd_07_cX9_heap_3 1 rfl rfl) (rdSeg sd_07_cX9_heap_3 2 rfl rfl) (by decide +kernel)
theorem dR_heap_99 : decode cX9_heap 99 = .ok (.iload 4, 2) := op_21 (rdSeg sd_07_cX9_heap_3 3 rfl rfl) (rdSeg sd_07_cX9_heap_3 4 rfl rfl)
theorem dR_heap_101 : decode cX9_heap 101 = .ok (.goto 4, 3) := op_167 (rdSeg sd_07_cX9_heap_3 5 rfl rfl) (rdSeg sd_07_cX9_heap_3 6 rfl rfl) (rdSeg sd_07_cX9_heap_3 7 rfl rfl) (by decide +kernel)
theorem dR_heap_104 : decode cX9_heap 104 = .ok (.iload_n 2, 1) := op_28 (rdSeg sd_07_cX9_heap_3 8 rfl rfl)
theorem dR_heap_105 : decode cX9_heap 105 = .ok (.istore_n 2, 1) := op_61 (rdSeg sd_07_cX9_heap_3 9 rfl rfl)
theorem dR_heap_106 : decode cX9_heap 106 = .ok (.iinc 3 1, 3) := op_132 (rdSeg sd_07_cX9_heap_3 10 rfl rfl) (rdSeg sd_07_cX9_heap_3 11 rfl rfl) (rdSeg sd_07_cX9_heap_3 12 rfl rfl) (by decide +kernel)
theorem dR_heap_109 : decode cX9_heap 109 = .ok (.goto (-71), 3) := op_167 (rdSeg sd_07_cX9_heap_3 13 rfl rfl) (rdSeg sd_07_cX9_heap_3 14 rfl rfl) (rdSeg sd_07_cX9_heap_3 15 rfl rfl) (by decide +kernel)
theorem dR_heap_112 : decode cX9_heap 112 = .ok (.iload_n 2, 1) := op_28 (rdSeg sd_07_cX9_heap_3 16 rfl rfl)
theorem dR_heap_113 : decode cX9_heap 113 = .ok (.ireturn, 1) := op_172 (rdSeg sd_07_cX9_heap_3 17 rfl rfl)
def sg_07_cX9_next_2 : List UInt8 := [0xe0, 0x1b, 0xac]
def sg_07_cX9_next_1 : List UInt8 := 0xb4 :: 0x00 :: 0x07 :: 0x03 :: 0x2e :: 0xa2 :: 0x00 :: 0x1c :: 0x2a :: 0x1c :: 0xb6 :: 0x00 :: 0xeb :: 0x2a :: 0x1b :: 0xb6 :: 0x00 :: 0xeb :: 0xa2 :: 0x00 :: 0x07 :: 0x1c :: 0xa7 :: 0x00 :: 0x04 :: 0x1b :: 0x3c :: 0x84 :: 0x02 :: 0x01 :: 0xa7 :: 0xff :: sg_07_cX9_next_2
def sg_07_cX9_next_0 : List UInt8 := 0x2a :: 0xb6 :: 0x00 :: 0xe5 :: 0x2a :: 0xb4 :: 0x00 :: 0xdf :: 0x99 :: 0x00 :: 0x0c :: 0x2a :: 0xb4 :: 0x00 :: 0x07 :: 0x03 :: 0x2e :: 0x9a :: 0x00 :: 0x09 :: 0x2a :: 0x05 :: 0xb6 :: 0x00 :: 0x3e :: 0xac :: 0x03 :: 0x3c :: 0x04 :: 0x3d :: 0x1c :: 0x2a :: sg_07_cX9_next_1
set_option maxRecDepth 100000 in
theorem sd_07_cX9_next_0 : cX9_next.data.toList.drop 0 = sg_07_cX9_next_0 := by decide +kernel
theorem sd_07_cX9_next_1 : cX9_next.data.toList.drop 32 = sg_07_cX9_next_1 := sg_next sd_07_cX9_next_0 rfl
theorem sd_07_cX9_next_2 : cX9_next.data.toList.drop 64 = sg_07_cX9_next_2 := sg_next sd_07_cX9_next_1 rfl
theorem dR_next_0 : decode cX9_next 0 = .ok (.aload_n 0, 1) := op_42 (rdSeg sd_07_cX9_next_0 0 rfl rfl)
theorem dR_next_1 : decode cX9_next 1 = .ok (.invokevirtual 229, 3) := op_182 (rdSeg sd_07_cX9_next_0 1 rfl rfl) (rdSeg sd_07_cX9_next_0 2 rfl rfl) (rdSeg sd_07_cX9_next_0 3 rfl rfl) rfl
theorem dR_next_4 : decode cX9_next 4 = .ok (.aload_n 0, 1) := op_42 (rdSeg sd_07_cX9_next_0 4 rfl rfl)
theorem dR_next_5 : decode cX9_next 5 = .ok (.getfield 223, 3) := op_180 (rdSeg sd_07_cX9_next_0 5 rfl rfl) (rdSeg sd_07_cX9_next_0 6 rfl rfl) (rdSeg sd_07_cX9_next_0 7 rfl rfl) rfl
theorem dR_next_8 : decode cX9_next 8 = .ok (.ifCond .eq 12, 3) := op_153 (rdSeg sd_07_cX9_next_0 8 rfl rfl) (rdSeg sd_07_cX9_next_0 9 rfl rfl) (rdSeg sd_07_cX9_next_0 10 rfl rfl) (by decide +kernel)
theorem dR_next_11 : decode cX9_next 11 = .ok (.aload_n 0, 1) := op_42 (rdSeg sd_07_cX9_next_0 11 rfl rfl)
theorem dR_next_12 : decode cX9_next 12 = .ok (.getfield 7, 3) := op_180 (rdSeg sd_07_cX9_next_0 12 rfl rfl) (rdSeg sd_07_cX9_next_0 13 rfl rfl) (rdSeg sd_07_cX9_next_0 14 rfl rfl) rfl
theorem dR_next_15 : decode cX9_next 15 = .ok (.iconst 0, 1) := op_3 (rdSeg sd_07_cX9_next_0 15 rfl rfl)
theorem dR_next_16 : decode cX9_next 16 = .ok (.iaload, 1) := op_46 (rdSeg sd_07_cX9_next_0 16 rfl rfl)
theorem dR_next_17 : decode cX9_next 17 = .ok (.ifCond .ne 9, 3) := op_154 (rdSeg sd_07_cX9_next_0 17 rfl rfl) (rdSeg sd_07_cX9_next_0 18 rfl rfl) (rdSeg sd_07_cX9_next_0 19 rfl rfl) (by decide +kernel)
theorem dR_next_20 : decode cX9_next 20 = .ok (.aload_n 0, 1) := op_42 (rdSeg sd_07_cX9_next_0 20 rfl rfl)
theorem dR_next_21 : decode cX9_next 21 = .ok (.iconst 2, 1) := op_5 (rdSeg sd_07_cX9_next_0 21 rfl rfl)
theorem dR_next_22 : decode cX9_next 22 = .ok (.invokevirtual 62, 3) := op_182 (rdSeg sd_07_cX9_next_0 22 rfl rfl) (rdSeg sd_07_cX9_next_0 23 rfl rfl) (rdSeg sd_07_cX9_next_0 24 rfl rfl) rfl
theorem dR_next_25 : decode cX9_next 25 = .ok (.ireturn, 1) := op_172 (rdSeg sd_07_cX9_next_0 25 rfl rfl)
theorem dR_next_26 : decode cX9_next 26 = .ok (.iconst 0, 1) := op_3 (rdSeg sd_07_cX9_next_0 26 rfl rfl)
theorem dR_next_27 : decode cX9_next 27 = .ok (.istore_n 1, 1) := op_60 (rdSeg sd_07_cX9_next_0 27 rfl rfl)
theorem dR_next_28 : decode cX9_next 28 = .ok (.iconst 1, 1) := op_4 (rdSeg sd_07_cX9_next_0 28 rfl rfl)
theorem dR_next_29 : decode cX9_next 29 = .ok (.istore_n 2, 1) := op_61 (rdSeg sd_07_cX9_next_0 29 rfl rfl)
theorem dR_next_30 : decode cX9_next 30 = .ok (.iload_n 2, 1) := op_28 (rdSeg sd_07_cX9_next_0 30 rfl rfl)
theorem dR_next_31 : decode cX9_next 31 = .ok (.aload_n 0, 1) := op_42 (rdSeg sd_07_cX9_next_0 31 rfl rfl)
theorem dR_next_32 : decode cX9_next 32 = .ok (.getfield 7, 3) := op_180 (rdSeg sd_07_cX9_next_1 0 rfl rfl) (rdSeg sd_07_cX9_next_1 1 rfl rfl) (rdSeg sd_07_cX9_next_1 2 rfl rfl) rfl
theorem dR_next_35 : decode cX9_next 35 = .ok (.iconst 0, 1) := op_3 (rdSeg sd_07_cX9_next_1 3 rfl rfl)
theorem dR_next_36 : decode cX9_next 36 = .ok (.iaload, 1) := op_46 (rdSeg sd_07_cX9_next_1 4 rfl rfl)
theorem dR_next_37 : decode cX9_next 37 = .ok (.if_icmp .ge 28, 3) := op_162 (rdSeg sd_07_cX9_next_1 5 rfl rfl) (rdSeg sd_07_cX9_next_1 6 rfl rfl) (rdSeg sd_07_cX9_next_1 7 rfl rfl) (by decide +kernel)
theorem dR_next_40 : decode cX9_next 40 = .ok (.aload_n 0, 1) := op_42 (rdSeg sd_07_cX9_next_1 8 rfl rfl)
theorem dR_next_41 : decode cX9_next 41 = .ok (.iload_n 2, 1) := op_28 (rdSeg sd_07_cX9_next_1 9 rfl rfl)
theorem dR_next_42 : decode cX9_next 42 = .ok (.invokevirtual 235, 3) := op_182 (rdSeg sd_07_cX9_next_1 10 rfl rfl) (rdSeg sd_07_cX9_next_1 11 rfl rfl) (rdSeg sd_07_cX9_next_1 12 rfl rfl) rfl
theorem dR_next_45 : decode cX9_next 45 = .ok (.aload_n 0, 1) := op_42 (rdSeg sd_07_cX9_next_1 13 rfl rfl)
theorem dR_next_46 : decode cX9_next 46 = .ok (.iload_n 1, 1) := op_27 (rdSeg sd_07_cX9_next_1 14 rfl rfl)
theorem dR_next_47 : decode cX9_next 47 = .ok (.invokevirtual 235, 3) := op_182 (rdSeg sd_07_cX9_next_1 15 rfl rfl) (rdSeg sd_07_cX9_next_1 16 rfl rfl) (rdSeg sd_07_cX9_next_1 17 rfl rfl) rfl
theorem dR_next_50 : decode cX9_next 50 = .ok (.if_icmp .ge 7, 3) := op_162 (rdSeg sd_07_cX9_next_1 18 rfl rfl) (rdSeg sd_07_cX9_next_1 19 rfl rfl) (rdSeg sd_07_cX9_next_1 20 rfl rfl) (by decide +kernel)
theorem dR_next_53 : decode cX9_next 53 = .ok (.iload_n 2, 1) := op_28 (rdSeg sd_07_cX9_next_1 21 rfl rfl)
theorem dR_next_54 : decode cX9_next 54 = .ok (.goto 4, 3) := op_167 (rdSeg sd_07_cX9_next_1 22 rfl rfl) (rdSeg sd_07_cX9_next_1 23 rfl rfl) (rdSeg sd_07_cX9_next_1 24 rfl rfl) (by decide +kernel)
theorem dR_next_57 : decode cX9_next 57 = .ok (.iload_n 1, 1) := op_27 (rdSeg sd_07_cX9_next_1 25 rfl rfl)
theorem dR_next_58 : decode cX9_next 58 = .ok (.istore_n 1, 1) := op_60 (rdSeg sd_07_cX9_next_1 26 rfl rfl)
theorem dR_next_59 : decode cX9_next 59 = .ok (.iinc 2 1, 3) := op_132 (rdSeg sd_07_cX9_next_1 27 rfl rfl) (rdSeg sd_07_cX9_next_1 28 rfl rfl) (rdSeg sd_07_cX9_next_1 29 rfl rfl) (by decide +kernel)
theorem dR_next_62 : decode cX9_next 62 = .ok (.goto (-32), 3) := op_167 (rdSeg sd_07_cX9_next_1 30 rfl rfl) (rdSeg sd_07_cX9_next_1 31 rfl rfl) (rdSeg sd_07_cX9_next_2 0 rfl rfl) (by decide +kernel)
theorem dR_next_65 : decode cX9_next 65 = .ok (.iload_n 1, 1) := op_27 (rdSeg sd_07_cX9_next_2 1 rfl rfl)
theorem dR_next_66 : decode cX9_next 66 = .ok (.ireturn, 1) := op_172 (rdSeg sd_07_cX9_next_2 2 rfl rfl)
def sg_07_cX9_together_2 : List UInt8 := [0x05, 0x84, 0x07, 0x01, 0xa7, 0xff, 0xc4, 0x21, 0x09, 0x94, 0x9a, 0x00, 0x07, 0x03, 0xa7, 0x00, 0x08, 0x16, 0x05, 0x21, 0x6d, 0x88, 0xac]
def sg_07_cX9_together_1 : List UInt8 := 0x07 :: 0x05 :: 0xb6 :: 0x00 :: 0x49 :: 0x85 :: 0x61 :: 0x42 :: 0x16 :: 0x05 :: 0x2a :: 0x15 :: 0x07 :: 0x05 :: 0xb6 :: 0x00 :: 0x49 :: 0x85 :: 0x2a :: 0x15 :: 0x07 :: 0x10 :: 0x06 :: 0x1b :: 0x60 :: 0xb6 :: 0x00 :: 0x49 :: 0x85 :: 0x69 :: 0x61 :: 0x37 :: sg_07_cX9_together_2
def sg_07_cX9_together_0 : List UInt8 := 0x09 :: 0x42 :: 0x09 :: 0x37 :: 0x05 :: 0x03 :: 0x36 :: 0x07 :: 0x15 :: 0x07 :: 0x2a :: 0xb4 :: 0x00 :: 0x07 :: 0x03 :: 0x2e :: 0xa2 :: 0x00 :: 0x37 :: 0x1c :: 0x15 :: 0x07 :: 0x7a :: 0x04 :: 0x7e :: 0x04 :: 0xa0 :: 0x00 :: 0x27 :: 0x21 :: 0x2a :: 0x15 :: sg_07_cX9_together_1
set_option maxRecDepth 100000 in
theorem sd_07_cX9_together_0 : cX9_together.data.toList.drop 0 = sg_07_cX9_together_0 := by decide +kernel
theorem sd_07_cX9_together_1 : cX9_together.data.toList.drop 32 = sg_07_cX9_together_1 := sg_next sd_07_cX9_together_0 rfl
theorem sd_07_cX9_together_2 : cX9_together.data.toList.drop 64 = sg_07_cX9_together_2 := sg_next sd_07_cX9_together_1 rfl
theorem dR_together_0 : decode cX9_together 0 = .ok (.lconst 0, 1) := op_9 (rdSeg sd_07_cX9_together_0 0 rfl rfl)
theorem dR_together_1 : decode cX9_together 1 = .ok (.lstore_n 3, 1) := op_66 (rdSeg sd_07_cX9_together_0 1 rfl rfl)
theorem dR_together_2 : decode cX9_together 2 = .ok (.lconst 0, 1) := op_9 (rdSeg sd_07_cX9_together_0 2 rfl rfl)
theorem dR_together_3 : decode cX9_together 3 = .ok (.lstore 5, 2) := op_55 (rdSeg sd_07_cX9_together_0 3 rfl rfl) (rdSeg sd_07_cX9_together_0 4 rfl rfl)
theorem dR_together_5 : decode cX9_together 5 = .ok (.iconst 0, 1) := op_3 (rdSeg sd_07_cX9_together_0 5 rfl rfl)
theorem dR_together_6 : decode cX9_together 6 = .ok (.istore 7, 2) := op_54 (rdSeg sd_07_cX9_together_0 6 rfl rfl) (rdSeg sd_07_cX9_together_0 7 rfl rfl)
theorem dR_together_8 : decode cX9_together 8 = .ok (.iload 7, 2) := op_21 (rdSeg sd_07_cX9_together_0 8 rfl rfl) (rdSeg sd_07_cX9_together_0 9 rfl rfl)
theorem dR_together_10 : decode cX9_together 10 = .ok (.aload_n 0, 1) := op_42 (rdSeg sd_07_cX9_together_0 10 rfl rfl)
theorem dR_together_11 : decode cX9_together 11 = .ok (.getfield 7, 3) := op_180 (rdSeg sd_07_cX9_together_0 11 rfl rfl) (rdSeg sd_07_cX9_together_0 12 rfl rfl) (rdSeg sd_07_cX9_together_0 13 rfl rfl) rfl
theorem dR_together_14 : decode cX9_together 14 = .ok (.iconst 0, 1) := op_3 (rdSeg sd_07_cX9_together_0 14 rfl rfl)
theorem dR_together_15 : decode cX9_together 15 = .ok (.iaload, 1) := op_46 (rdSeg sd_07_cX9_together_0 15 rfl rfl)
theorem dR_together_16 : decode cX9_together 16 = .ok (.if_icmp .ge 55, 3) := op_162 (rdSeg sd_07_cX9_together_0 16 rfl rfl) (rdSeg sd_07_cX9_together_0 17 rfl rfl) (rdSeg sd_07_cX9_together_0 18 rfl rfl) (by decide +kernel)
theorem dR_together_19 : decode cX9_together 19 = .ok (.iload_n 2, 1) := op_28 (rdSeg sd_07_cX9_together_0 19 rfl rfl)
theorem dR_together_20 : decode cX9_together 20 = .ok (.iload 7, 2) := op_21 (rdSeg sd_07_cX9_together_0 20 rfl rfl) (rdSeg sd_07_cX9_together_0 21 rfl rfl)
theorem dR_together_22 : decode cX9_together 22 = .ok (.ishr, 1) := op_122 (rdSeg sd_07_cX9_together_0 22 rfl rfl)
theorem dR_together_23 : decode cX9_together 23 = .ok (.iconst 1, 1) := op_4 (rdSeg sd_07_cX9_together_0 23 rfl rfl)
theorem dR_together_24 : decode cX9_together 24 = .ok (.iand, 1) := op_126 (rdSeg sd_07_cX9_together_0 24 rfl rfl)
theorem dR_together_25 : decode cX9_together 25 = .ok (.iconst 1, 1) := op_4 (rdSeg sd_07_cX9_together_0 25 rfl rfl)
theorem dR_together_26 : decode cX9_together 26 = .ok (.if_icmp .ne 39, 3) := op_160 (rdSeg sd_07_cX9_together_0 26 rfl rfl) (rdSeg sd_07_cX9_together_0 27 rfl rfl) (rdSeg sd_07_cX9_together_0 28 rfl rfl) (by decide +kernel)
theorem dR_together_29 : decode cX9_together 29 = .ok (.lload_n 3, 1) := op_33 (rdSeg sd_07_cX9_together_0 29 rfl rfl)
theorem dR_together_30 : decode cX9_together 30 = .ok (.aload_n 0, 1) := op_42 (rdSeg sd_07_cX9_together_0 30 rfl rfl)
theorem dR_together_31 : decode cX9_together 31 = .ok (.iload 7, 2) := op_21 (rdSeg sd_07_cX9_together_0 31 rfl rfl) (rdSeg sd_07_cX9_together_1 0 rfl rfl)
theorem dR_together_33 : decode cX9_together 33 = .ok (.iconst 2, 1) := op_5 (rdSeg sd_07_cX9_together_1 1 rfl rfl)
theorem dR_together_34 : decode cX9_together 34 = .ok (.invokevirtual 73, 3) := op_182 (rdSeg sd_07_cX9_together_1 2 rfl rfl) (rdSeg sd_07_cX9_together_1 3 rfl rfl) (rdSeg sd_07_cX9_together_1 4 rfl rfl) rfl
theorem dR_together_37 : decode cX9_together 37 = .ok (.i2l, 1) := op_133 (rdSeg sd_07_cX9_together_1 5 rfl rfl)
theorem dR_together_38 : decode cX9_together 38 = .ok (.ladd, 1) := op_97 (rdSeg sd_07_cX9_together_1 6 rfl rfl)
theorem dR_together_39 : decode cX9_together 39 = .ok (.lstore_n 3, 1) := op_66 (rdSeg sd_07_cX9_together_1 7 rfl rfl)
theorem dR_together_40 : decode cX9_together 40 = .ok (.lload 5, 2) := op_22 (rdSeg sd_07_cX9_together_1 8 rfl rfl) (rdSeg sd_07_cX9_together_1 9 rfl rfl)
theorem dR_together_42 : decode cX9_together 42 = .ok (.aload_n 0, 1) := op_42 (rdSeg sd_07_cX9_together_1 10 rfl rfl)
theorem dR_together_43 : decode cX9_together 43 = .ok (.iload 7, 2) := op_21 (rdSeg sd_07_cX9_together_1 11 rfl rfl) (rdSeg sd_07_cX9_together_1 12 rfl rfl)
theorem dR_together_45 : decode cX9_together 45 = .ok (.iconst 2, 1) := op_5 (rdSeg sd_07_cX9_together_1 13 rfl rfl)
theorem dR_together_46 : decode cX9_together 46 = .ok (.invokevirtual 73, 3) := op_182 (rdSeg sd_07_cX9_together_1 14 rfl rfl) (rdSeg sd_07_cX9_together_1 15 rfl rfl) (rdSeg sd_07_cX9_together_1 16 rfl rfl) rfl
theorem dR_together_49 : decode cX9_together 49 = .ok (.i2l, 1) := op_133 (rdSeg sd_07_cX9_together_1 17 rfl rfl)
theorem dR_together_50 : decode cX9_together 50 = .ok (.aload_n 0, 1) := op_42 (rdSeg sd_07_cX9_together_1 18 rfl rfl)
theorem dR_together_51 : decode cX9_together 51 = .ok (.iload 7, 2) := op_21 (rdSeg sd_07_cX9_together_1 19 rfl rfl) (rdSeg sd_07_cX9_together_1 20 rfl rfl)
theorem dR_together_53 : decode cX9_together 53 = .ok (.bipush 6, 2) := op_16 (rdSeg sd_07_cX9_together_1 21 rfl rfl) (rdSeg sd_07_cX9_together_1 22 rfl rfl) (by decide +kernel)
theorem dR_together_55 : decode cX9_together 55 = .ok (.iload_n 1, 1) := op_27 (rdSeg sd_07_cX9_together_1 23 rfl rfl)
theorem dR_together_56 : decode cX9_together 56 = .ok (.iadd, 1) := op_96 (rdSeg sd_07_cX9_together_1 24 rfl rfl)
theorem dR_together_57 : decode cX9_together 57 = .ok (.invokevirtual 73, 3) := op_182 (rdSeg sd_07_cX9_together_1 25 rfl rfl) (rdSeg sd_07_cX9_together_1 26 rfl rfl) (rdSeg sd_07_cX9_together_1 27 rfl rfl) rfl
theorem dR_together_60 : decode cX9_together 60 = .ok (.i2l, 1) := op_133 (rdSeg sd_07_cX9_together_1 28 rfl rfl)
theorem dR_together_61 : decode cX9_together 61 = .ok (.lmul, 1) := op_105 (rdSeg sd_07_cX9_together_1 29 rfl rfl)
theorem dR_together_62 : decode cX9_together 62 = .ok (.ladd, 1) := op_97 (rdSeg sd_07_cX9_together_1 30 rfl rfl)
theorem dR_together_63 : decode cX9_together 63 = .ok (.lstore 5, 2) := op_55 (rdSeg sd_07_cX9_together_1 31 rfl rfl) (rdSeg sd_07_cX9_together_2 0 rfl rfl)
theorem dR_together_65 : decode cX9_together 65 = .ok (.iinc 7 1, 3) := op_132 (rdSeg sd_07_cX9_together_2 1 rfl rfl) (rdSeg sd_07_cX9_together_2 2 rfl rfl) (rdSeg sd_07_cX9_together_2 3 rfl rfl) (by decide +kernel)
theorem dR_together_68 : decode cX9_together 68 = .ok (.goto (-60), 3) := op_167 (rdSeg sd_07_cX9_together_2 4 rfl rfl) (rdSeg sd_07_cX9_together_2 5 rfl rfl) (rdSeg sd_07_cX9_together_2 6 rfl rfl) (by decide +kernel)
theorem dR_together_71 : decode cX9_together 71 = .ok (.lload_n 3, 1) := op_33 (rdSeg sd_07_cX9_together_2 7 rfl rfl)
theorem dR_together_72 : decode cX9_together 72 = .ok (.lconst 0, 1) := op_9 (rdSeg sd_07_cX9_together_2 8 rfl rfl)
theorem dR_together_73 : decode cX9_together 73 = .ok (.lcmp, 1) := op_148 (rdSeg sd_07_cX9_together_2 9 rfl rfl)
theorem dR_together_74 : decode cX9_together 74 = .ok (.ifCond .ne 7, 3) := op_154 (rdSeg sd_07_cX9_together_2 10 rfl rfl) (rdSeg sd_07_cX9_together_2 11 rfl rfl) (rdSeg sd_07_cX9_together_2 12 rfl rfl) (by decide +kernel)
theorem dR_together_77 : decode cX9_together 77 = .ok (.iconst 0, 1) := op_3 (rdSeg sd_07_cX9_together_2 13 rfl rfl)
theorem dR_together_78 : decode cX9_together 78 = .ok (.goto 8, 3) := op_167 (rdSeg sd_07_cX9_together_2 14 rfl rfl) (rdSeg sd_07_cX9_together_2 15 rfl rfl) (rdSeg sd_07_cX9_together_2 16 rfl rfl) (by decide +kernel)
theorem dR_together_81 : decode cX9_together 81 = .ok (.lload 5, 2) := op_22 (rdSeg sd_07_cX9_together_2 17 rfl rfl) (rdSeg sd_07_cX9_together_2 18 rfl rfl)
theorem dR_together_83 : decode cX9_together 83 = .ok (.lload_n 3, 1) := op_33 (rdSeg sd_07_cX9_together_2 19 rfl rfl)
theorem dR_together_84 : decode cX9_together 84 = .ok (.ldiv, 1) := op_109 (rdSeg sd_07_cX9_together_2 20 rfl rfl)
theorem dR_together_85 : decode cX9_together 85 = .ok (.l2i, 1) := op_136 (rdSeg sd_07_cX9_together_2 21 rfl rfl)
theorem dR_together_86 : decode cX9_together 86 = .ok (.ireturn, 1) := op_172 (rdSeg sd_07_cX9_together_2 22 rfl rfl)
def sg_07_cX9_haveGrams_1 : List UInt8 := [0x9e, 0x00, 0x07, 0x04, 0xa7, 0x00, 0x04, 0x03, 0x3d, 0x84, 0x03, 0x01, 0xa7, 0xff, 0xd8, 0x1c, 0xac]
def sg_07_cX9_haveGrams_0 : List UInt8 := 0x04 :: 0x3d :: 0x03 :: 0x3e :: 0x1d :: 0x2a :: 0xb4 :: 0x00 :: 0x07 :: 0x03 :: 0x2e :: 0xa2 :: 0x00 :: 0x24 :: 0x1c :: 0x99 :: 0x00 :: 0x18 :: 0x1b :: 0x1d :: 0x7a :: 0x04 :: 0x7e :: 0x99 :: 0x00 :: 0x0c :: 0x2a :: 0x1d :: 0x05 :: 0xb6 :: 0x00 :: 0x49 :: sg_07_cX9_haveGrams_1
set_option maxRecDepth 100000 in
theorem sd_07_cX9_haveGrams_0 : cX9_haveGrams.data.toList.drop 0 = sg_07_cX9_haveGrams_0 := by decide +kernel
theorem sd_07_cX9_haveGrams_1 : cX9_haveGrams.data.toList.drop 32 = sg_07_cX9_haveGrams_1 := sg_next sd_07_cX9_haveGrams_0 rfl
theorem dR_haveGrams_0 : decode cX9_haveGrams 0 = .ok (.iconst 1, 1) := op_4 (rdSeg sd_07_cX9_haveGrams_0 0 rfl rfl)
theorem dR_haveGrams_1 : decode cX9_haveGrams 1 = .ok (.istore_n 2, 1) := op_61 (rdSeg sd_07_cX9_haveGrams_0 1 rfl rfl)
theorem dR_haveGrams_2 : decode cX9_haveGrams 2 = .ok (.iconst 0, 1) := op_3 (rdSeg sd_07_cX9_haveGrams_0 2 rfl rfl)
theorem dR_haveGrams_3 : decode cX9_haveGrams 3 = .ok (.istore_n 3, 1) := op_62 (rdSeg sd_07_cX9_haveGrams_0 3 rfl rfl)
theorem dR_haveGrams_4 : decode cX9_haveGrams 4 = .ok (.iload_n 3, 1) := op_29 (rdSeg sd_07_cX9_haveGrams_0 4 rfl rfl)
theorem dR_haveGrams_5 : decode cX9_haveGrams 5 = .ok (.aload_n 0, 1) := op_42 (rdSeg sd_07_cX9_haveGrams_0 5 rfl rfl)
theorem dR_haveGrams_6 : decode cX9_haveGrams 6 = .ok (.getfield 7, 3) := op_180 (rdSeg sd_07_cX9_haveGrams_0 6 rfl rfl) (rdSeg sd_07_cX9_haveGrams_0 7 rfl rfl) (rdSeg sd_07_cX9_haveGrams_0 8 rfl rfl) rfl
theorem dR_haveGrams_9 : decode cX9_haveGrams 9 = .ok (.iconst 0, 1) := op_3 (rdSeg sd_07_cX9_haveGrams_0 9 rfl rfl)
theorem dR_haveGrams_10 : decode cX9_haveGrams 10 = .ok (.iaload, 1) := op_46 (rdSeg sd_07_cX9_haveGrams_0 10 rfl rfl)
theorem dR_haveGrams_11 : decode cX9_haveGrams 11 = .ok (.if_icmp .ge 36, 3) := op_162 (rdSeg sd_07_cX9_haveGrams_0 11 rfl rfl) (rdSeg sd_07_cX9_haveGrams_0 12 rfl rfl) (rdSeg sd_07_cX9_haveGrams_0 13 rfl rfl) (by decide +kernel)
theorem dR_haveGrams_14 : decode cX9_haveGrams 14 = .ok (.iload_n 2, 1) := op_28 (rdSeg sd_07_cX9_haveGrams_0 14 rfl rfl)
theorem dR_haveGrams_15 : decode cX9_haveGrams 15 = .ok (.ifCond .eq 24, 3) := op_153 (rdSeg sd_07_cX9_haveGrams_0 15 rfl rfl) (rdSeg sd_07_cX9_haveGrams_0 16 rfl rfl) (rdSeg sd_07_cX9_haveGrams_0 17 rfl rfl) (by decide +kernel)
theorem dR_haveGrams_18 : decode cX9_haveGrams 18 = .ok (.iload_n 1, 1) := op_27 (rdSeg sd_07_cX9_haveGrams_0 18 rfl rfl)
theorem dR_haveGrams_19 : decode cX9_haveGrams 19 = .ok (.iload_n 3, 1) := op_29 (rdSeg sd_07_cX9_haveGrams_0 19 rfl rfl)
theorem dR_haveGrams_20 : decode cX9_haveGrams 20 = .ok (.ishr, 1) := op_122 (rdSeg sd_07_cX9_haveGrams_0 20 rfl rfl)
theorem dR_haveGrams_21 : decode cX9_haveGrams 21 = .ok (.iconst 1, 1) := op_4 (rdSeg sd_07_cX9_haveGrams_0 21 rfl rfl)
theorem dR_haveGrams_22 : decode cX9_haveGrams 22 = .ok (.iand, 1) := op_126 (rdSeg sd_07_cX9_haveGrams_0 22 rfl rfl)
theorem dR_haveGrams_23 : decode cX9_haveGrams 23 = .ok (.ifCond .eq 12, 3) := op_153 (rdSeg sd_07_cX9_haveGrams_0 23 rfl rfl) (rdSeg sd_07_cX9_haveGrams_0 24 rfl rfl) (rdSeg sd_07_cX9_haveGrams_0 25 rfl rfl) (by decide +kernel)
theorem dR_haveGrams_26 : decode cX9_haveGrams 26 = .ok (.aload_n 0, 1) := op_42 (rdSeg sd_07_cX9_haveGrams_0 26 rfl rfl)
theorem dR_haveGrams_27 : decode cX9_haveGrams 27 = .ok (.iload_n 3, 1) := op_29 (rdSeg sd_07_cX9_haveGrams_0 27 rfl rfl)
theorem dR_haveGrams_28 : decode cX9_haveGrams 28 = .ok (.iconst 2, 1) := op_5 (rdSeg sd_07_cX9_haveGrams_0 28 rfl rfl)
theorem dR_haveGrams_29 : decode cX9_haveGrams 29 = .ok (.invokevirtual 73, 3) := op_182 (rdSeg sd_07_cX9_haveGrams_0 29 rfl rfl) (rdSeg sd_07_cX9_haveGrams_0 30 rfl rfl) (rdSeg sd_07_cX9_haveGrams_0 31 rfl rfl) rfl
theorem dR_haveGrams_32 : decode cX9_haveGrams 32 = .ok (.ifCond .le 7, 3) := op_158 (rdSeg sd_07_cX9_haveGrams_1 0 rfl rfl) (rdSeg sd_07_cX9_haveGrams_1 1 rfl rfl) (rdSeg sd_07_cX9_haveGrams_1 2 rfl rfl) (by decide +kernel)
theorem dR_haveGrams_35 : decode cX9_haveGrams 35 = .ok (.iconst 1, 1) := op_4 (rdSeg sd_07_cX9_haveGrams_1 3 rfl rfl)
theorem dR_haveGrams_36 : decode cX9_haveGrams 36 = .ok (.goto 4, 3) := op_167 (rdSeg sd_07_cX9_haveGrams_1 4 rfl rfl) (rdSeg sd_07_cX9_haveGrams_1 5 rfl rfl) (rdSeg sd_07_cX9_haveGrams_1 6 rfl rfl) (by decide +kernel)
theorem dR_haveGrams_39 : decode cX9_haveGrams 39 = .ok (.iconst 0, 1) := op_3 (rdSeg sd_07_cX9_haveGrams_1 7 rfl rfl)
theorem dR_haveGrams_40 : decode cX9_haveGrams 40 = .ok (.istore_n 2, 1) := op_61 (rdSeg sd_07_cX9_haveGrams_1 8 rfl rfl)
theorem dR_haveGrams_41 : decode cX9_haveGrams 41 = .ok (.iinc 3 1, 3) := op_132 (rdSeg sd_07_cX9_haveGrams_1 9 rfl rfl) (rdSeg sd_07_cX9_haveGrams_1 10 rfl rfl) (rdSeg sd_07_cX9_haveGrams_1 11 rfl rfl) (by decide +kernel)
theorem dR_haveGrams_44 : decode cX9_haveGrams 44 = .ok (.goto (-40), 3) := op_167 (rdSeg sd_07_cX9_haveGrams_1 12 rfl rfl) (rdSeg sd_07_cX9_haveGrams_1 13 rfl rfl) (rdSeg sd_07_cX9_haveGrams_1 14 rfl rfl) (by decide +kernel)
theorem dR_haveGrams_47 : decode cX9_haveGrams 47 = .ok (.iload_n 2, 1) := op_28 (rdSeg sd_07_cX9_haveGrams_1 15 rfl rfl)
theorem dR_haveGrams_48 : decode cX9_haveGrams 48 = .ok (.ireturn, 1) := op_172 (rdSeg sd_07_cX9_haveGrams_1 16 rfl rfl)
def sg_07_cX9_most_4 : List UInt8 := [0x08, 0x15, 0x04, 0xa7, 0x00, 0x0a, 0x2a, 0x1b, 0x15, 0x04, 0xb6, 0x00, 0xf1, 0xac]
def sg_07_cX9_most_3 : List UInt8 := 0x15 :: 0x15 :: 0x05 :: 0xb8 :: 0x00 :: 0xe8 :: 0x15 :: 0x04 :: 0xb8 :: 0x00 :: 0xe8 :: 0xa2 :: 0x00 :: 0x08 :: 0x15 :: 0x05 :: 0xa7 :: 0x00 :: 0x05 :: 0x15 :: 0x04 :: 0x36 :: 0x04 :: 0x84 :: 0x05 :: 0x01 :: 0xa7 :: 0xff :: 0xad :: 0x1d :: 0x9a :: 0x00 :: sg_07_cX9_most_4
def sg_07_cX9_most_2 : List UInt8 := 0xb6 :: 0x00 :: 0xee :: 0x99 :: 0x00 :: 0x34 :: 0x2a :: 0x1b :: 0x15 :: 0x05 :: 0xb6 :: 0x00 :: 0xf1 :: 0x2a :: 0x1b :: 0x15 :: 0x04 :: 0xb6 :: 0x00 :: 0xf1 :: 0x64 :: 0x36 :: 0x06 :: 0x15 :: 0x06 :: 0x9d :: 0x00 :: 0x15 :: 0x15 :: 0x06 :: 0x9a :: 0x00 :: sg_07_cX9_most_3
def sg_07_cX9_most_1 : List UInt8 := 0xac :: 0x03 :: 0x36 :: 0x04 :: 0x04 :: 0x36 :: 0x05 :: 0x15 :: 0x05 :: 0x04 :: 0x2a :: 0xb4 :: 0x00 :: 0x07 :: 0x03 :: 0x2e :: 0x78 :: 0xa2 :: 0x00 :: 0x4c :: 0x15 :: 0x05 :: 0xb8 :: 0x00 :: 0xe8 :: 0x1c :: 0xa3 :: 0x00 :: 0x3d :: 0x2a :: 0x15 :: 0x05 :: sg_07_cX9_most_2
def sg_07_cX9_most_0 : List UInt8 := 0x1b :: 0x03 :: 0x06 :: 0xb8 :: 0x00 :: 0x35 :: 0x99 :: 0x00 :: 0x15 :: 0x1c :: 0x03 :: 0x06 :: 0xb8 :: 0x00 :: 0x35 :: 0x99 :: 0x00 :: 0x0c :: 0x1d :: 0x03 :: 0x04 :: 0xb8 :: 0x00 :: 0x35 :: 0x9a :: 0x00 :: 0x09 :: 0x2a :: 0x04 :: 0xb6 :: 0x00 :: 0x3e :: sg_07_cX9_most_1
set_option maxRecDepth 100000 in
theorem sd_07_cX9_most_0 : cX9_most.data.toList.drop 0 = sg_07_cX9_most_0 := by decide +kernel
theorem sd_07_cX9_most_1 : cX9_most.data.toList.drop 32 = sg_07_cX9_most_1 := sg_next sd_07_cX9_most_0 rfl
theorem sd_07_cX9_most_2 : cX9_most.data.toList.drop 64 = sg_07_cX9_most_2 := sg_next sd_07_cX9_most_1 rfl
theorem sd_07_cX9_most_3 : cX9_most.data.toList.drop 96 = sg_07_cX9_most_3 := sg_next sd_07_cX9_most_2 rfl
theorem sd_07_cX9_most_4 : cX9_most.data.toList.drop 128 = sg_07_cX9_most_4 := sg_next sd_07_cX9_most_3 rfl
theorem dR_most_0 : decode cX9_most 0 = .ok (.iload_n 1, 1) := op_27 (rdSeg sd_07_cX9_most_0 0 rfl rfl)
theorem dR_most_1 : decode cX9_most 1 = .ok (.iconst 0, 1) := op_3 (rdSeg sd_07_cX9_most_0 1 rfl rfl)
theorem dR_most_2 : decode cX9_most 2 = .ok (.iconst 3, 1) := op_6 (rdSeg sd_07_cX9_most_0 2 rfl rfl)
theorem dR_most_3 : decode cX9_most 3 = .ok (.invokestatic 53, 3) := op_184 (rdSeg sd_07_cX9_most_0 3 rfl rfl) (rdSeg sd_07_cX9_most_0 4 rfl rfl) (rdSeg sd_07_cX9_most_0 5 rfl rfl) rfl
theorem dR_most_6 : decode cX9_most 6 = .ok (.ifCond .eq 21, 3) := op_153 (rdSeg sd_07_cX9_most_0 6 rfl rfl) (rdSeg sd_07_cX9_most_0 7 rfl rfl) (rdSeg sd_07_cX9_most_0 8 rfl rfl) (by decide +kernel)
theorem dR_most_9 : decode cX9_most 9 = .ok (.iload_n 2, 1) := op_28 (rdSeg sd_07_cX9_most_0 9 rfl rfl)
theorem dR_most_10 : decode cX9_most 10 = .ok (.iconst 0, 1) := op_3 (rdSeg sd_07_cX9_most_0 10 rfl rfl)
theorem dR_most_11 : decode cX9_most 11 = .ok (.iconst 3, 1) := op_6 (rdSeg sd_07_cX9_most_0 11 rfl rfl)
theorem dR_most_12 : decode cX9_most 12 = .ok (.invokestatic 53, 3) := op_184 (rdSeg sd_07_cX9_most_0 12 rfl rfl) (rdSeg sd_07_cX9_most_0 13 rfl rfl) (rdSeg sd_07_cX9_most_0 14 rfl rfl) rfl
theorem dR_most_15 : decode cX9_most 15 = .ok (.ifCond .eq 12, 3) := op_153 (rdSeg sd_07_cX9_most_0 15 rfl rfl) (rdSeg sd_07_cX9_most_0 16 rfl rfl) (rdSeg sd_07_cX9_most_0 17 rfl rfl) (by decide +kernel)
theorem dR_most_18 : decode cX9_most 18 = .ok (.iload_n 3, 1) := op_29 (rdSeg sd_07_cX9_most_0 18 rfl rfl)
theorem dR_most_19 : decode cX9_most 19 = .ok (.iconst 0, 1) := op_3 (rdSeg sd_07_cX9_most_0 19 rfl rfl)
theorem dR_most_20 : decode cX9_most 20 = .ok (.iconst 1, 1) := op_4 (rdSeg sd_07_cX9_most_0 20 rfl rfl)
theorem dR_most_21 : decode cX9_most 21 = .ok (.invokestatic 53, 3) := op_184 (rdSeg sd_07_cX9_most_0 21 rfl rfl) (rdSeg sd_07_cX9_most_0 22 rfl rfl) (rdSeg sd_07_cX9_most_0 23 rfl rfl) rfl
theorem dR_most_24 : decode cX9_most 24 = .ok (.ifCond .ne 9, 3) := op_154 (rdSeg sd_07_cX9_most_0 24 rfl rfl) (rdSeg sd_07_cX9_most_0 25 rfl rfl) (rdSeg sd_07_cX9_most_0 26 rfl rfl) (by decide +kernel)
theorem dR_most_27 : decode cX9_most 27 = .ok (.aload_n 0, 1) := op_42 (rdSeg sd_07_cX9_most_0 27 rfl rfl)
theorem dR_most_28 : decode cX9_most 28 = .ok (.iconst 1, 1) := op_4 (rdSeg sd_07_cX9_most_0 28 rfl rfl)
theorem dR_most_29 : decode cX9_most 29 = .ok (.invokevirtual 62, 3) := op_182 (rdSeg sd_07_cX9_most_0 29 rfl rfl) (rdSeg sd_07_cX9_most_0 30 rfl rfl) (rdSeg sd_07_cX9_most_0 31 rfl rfl) rfl
theorem dR_most_32 : decode cX9_most 32 = .ok (.ireturn, 1) := op_172 (rdSeg sd_07_cX9_most_1 0 rfl rfl)
theorem dR_most_33 : decode cX9_most 33 = .ok (.iconst 0, 1) := op_3 (rdSeg sd_07_cX9_most_1 1 rfl rfl)
theorem dR_most_34 : decode cX9_most 34 = .ok (.istore 4, 2) := op_54 (rdSeg sd_07_cX9_most_1 2 rfl rfl) (rdSeg sd_07_cX9_most_1 3 rfl rfl)
theorem dR_most_36 : decode cX9_most 36 = .ok (.iconst 1, 1) := op_4 (rdSeg sd_07_cX9_most_1 4 rfl rfl)
theorem dR_most_37 : decode cX9_most 37 = .ok (.istore 5, 2) := op_54 (rdSeg sd_07_cX9_most_1 5 rfl rfl) (rdSeg sd_07_cX9_most_1 6 rfl rfl)
theorem dR_most_39 : decode cX9_most 39 = .ok (.iload 5, 2) := op_21 (rdSeg sd_07_cX9_most_1 7 rfl rfl) (rdSeg sd_07_cX9_most_1 8 rfl rfl)
theorem dR_most_41 : decode cX9_most 41 = .ok (.iconst 1, 1) := op_4 (rdSeg sd_07_cX9_most_1 9 rfl rfl)
theorem dR_most_42 : decode cX9_most 42 = .ok (.aload_n 0, 1) := op_42 (rdSeg sd_07_cX9_most_1 10 rfl rfl)
theorem dR_most_43 : decode cX9_most 43 = .ok (.getfield 7, 3) := op_180 (rdSeg sd_07_cX9_most_1 11 rfl rfl) (rdSeg sd_07_cX9_most_1 12 rfl rfl) (rdSeg sd_07_cX9_most_1 13 rfl rfl) rfl
theorem dR_most_46 : decode cX9_most 46 = .ok (.iconst 0, 1) := op_3 (rdSeg sd_07_cX9_most_1 14 rfl rfl)
theorem dR_most_47 : decode cX9_most 47 = .ok (.iaload, 1) := op_46 (rdSeg sd_07_cX9_most_1 15 rfl rfl)
theorem dR_most_48 : decode cX9_most 48 = .ok (.ishl, 1) := op_120 (rdSeg sd_07_cX9_most_1 16 rfl rfl)
theorem dR_most_49 : decode cX9_most 49 = .ok (.if_icmp .ge 76, 3) := op_162 (rdSeg sd_07_cX9_most_1 17 rfl rfl) (rdSeg sd_07_cX9_most_1 18 rfl rfl) (rdSeg sd_07_cX9_most_1 19 rfl rfl) (by decide +kernel)
theorem dR_most_52 : decode cX9_most 52 = .ok (.iload 5, 2) := op_21 (rdSeg sd_07_cX9_most_1 20 rfl rfl) (rdSeg sd_07_cX9_most_1 21 rfl rfl)
theorem dR_most_54 : decode cX9_most 54 = .ok (.invokestatic 232, 3) := op_184 (rdSeg sd_07_cX9_most_1 22 rfl rfl) (rdSeg sd_07_cX9_most_1 23 rfl rfl) (rdSeg sd_07_cX9_most_1 24 rfl rfl) rfl
theorem dR_most_57 : decode cX9_most 57 = .ok (.iload_n 2, 1) := op_28 (rdSeg sd_07_cX9_most_1 25 rfl rfl)
theorem dR_most_58 : decode cX9_most 58 = .ok (.if_icmp .gt 61, 3) := op_163 (rdSeg sd_07_cX9_most_1 26 rfl rfl) (rdSeg sd_07_cX9_most_1 27 rfl rfl) (rdSeg sd_07_cX9_most_1 28 rfl rfl) (by decide +kernel)
theorem dR_most_61 : decode cX9_most 61 = .ok (.aload_n 0, 1) := op_42 (rdSeg sd_07_cX9_most_1 29 rfl rfl)
theorem dR_most_62 : decode cX9_most 62 = .ok (.iload 5, 2) := op_21 (rdSeg sd_07_cX9_most_1 30 rfl rfl) (rdSeg sd_07_cX9_most_1 31 rfl rfl)
theorem dR_most_64 : decode cX9_most 64 = .ok (.invokevirtual 238, 3) := op_182 (rdSeg sd_07_cX9_most_2 0 rfl rfl) (rdSeg sd_07_cX9_most_2 1 rfl rfl) (rdSeg sd_07_cX9_most_2 2 rfl rfl) rfl
theorem dR_most_67 : decode cX9_most 67 = .ok (.ifCond .eq 52, 3) := op_153 (rdSeg sd_07_cX9_most_2 3 rfl rfl) (rdSeg sd_07_cX9_most_2 4 rfl rfl) (rdSeg sd_07_cX9_most_2 5 rfl rfl) (by decide +kernel)
theorem dR_most_70 : decode cX9_most 70 = .ok (.aload_n 0, 1) := op_42 (rdSeg sd_07_cX9_most_2 6 rfl rfl)
theorem dR_most_71 : decode cX9_most 71 = .ok (.iload_n 1, 1) := op_27 (rdSeg sd_07_cX9_most_2 7 rfl rfl)
theorem dR_most_72 : decode cX9_most 72 = .ok (.iload 5, 2) := op_21 (rdSeg sd_07_cX9_most_2 8 rfl rfl) (rdSeg sd_07_cX9_most_2 9 rfl rfl)
theorem dR_most_74 : decode cX9_most 74 = .ok (.invokevirtual 241, 3) := op_182 (rdSeg sd_07_cX9_most_2 10 rfl rfl) (rdSeg sd_07_cX9_most_2 11 rfl rfl) (rdSeg sd_07_cX9_most_2 12 rfl rfl) rfl
theorem dR_most_77 : decode cX9_most 77 = .ok (.aload_n 0, 1) := op_42 (rdSeg sd_07_cX9_most_2 13 rfl rfl)
theorem dR_most_78 : decode cX9_most 78 = .ok (.iload_n 1, 1) := op_27 (rdSeg sd_07_cX9_most_2 14 rfl rfl)
theorem dR_most_79 : decode cX9_most 79 = .ok (.iload 4, 2) := op_21 (rdSeg sd_07_cX9_most_2 15 rfl rfl) (rdSeg sd_07_cX9_most_2 16 rfl rfl)
theorem dR_most_81 : decode cX9_most 81 = .ok (.invokevirtual 241, 3) := op_182 (rdSeg sd_07_cX9_most_2 17 rfl rfl) (rdSeg sd_07_cX9_most_2 18 rfl rfl) (rdSeg sd_07_cX9_most_2 19 rfl rfl) rfl
theorem dR_most_84 : decode cX9_most 84 = .ok (.isub, 1) := op_100 (rdSeg sd_07_cX9_most_2 20 rfl rfl)
theorem dR_most_85 : decode cX9_most 85 = .ok (.istore 6, 2) := op_54 (rdSeg sd_07_cX9_most_2 21 rfl rfl) (rdSeg sd_07_cX9_most_2 22 rfl rfl)
theorem dR_most_87 : decode cX9_most 87 = .ok (.iload 6, 2) := op_21 (rdSeg sd_07_cX9_most_2 23 rfl rfl) (rdSeg sd_07_cX9_most_2 24 rfl rfl)
theorem dR_most_89 : decode cX9_most 89 = .ok (.ifCond .gt 21, 3) := op_157 (rdSeg sd_07_cX9_most_2 25 rfl rfl) (rdSeg sd_07_cX9_most_2 26 rfl rfl) (rdSeg sd_07_cX9_most_2 27 rfl rfl) (by decide +kernel)
theorem dR_most_92 : decode cX9_most 92 = .ok (.iload 6, 2) := op_21 (rdSeg sd_07_cX9_most_2 28 rfl rfl) (rdSeg sd_07_cX9_most_2 29 rfl rfl)
theorem dR_most_94 : decode cX9_most 94 = .ok (.ifCond .ne 21, 3) := op_154 (rdSeg sd_07_cX9_most_2 30 rfl rfl) (rdSeg sd_07_cX9_most_2 31 rfl rfl) (rdSeg sd_07_cX9_most_3 0 rfl rfl) (by decide +kernel)
theorem dR_most_97 : decode cX9_most 97 = .ok (.iload 5, 2) := op_21 (rdSeg sd_07_cX9_most_3 1 rfl rfl) (rdSeg sd_07_cX9_most_3 2 rfl rfl)
theorem dR_most_99 : decode cX9_most 99 = .ok (.invokestatic 232, 3) := op_184 (rdSeg sd_07_cX9_most_3 3 rfl rfl) (rdSeg sd_07_cX9_most_3 4 rfl rfl) (rdSeg sd_07_cX9_most_3 5 rfl rfl) rfl
theorem dR_most_102 : decode cX9_most 102 = .ok (.iload 4, 2) := op_21 (rdSeg sd_07_cX9_most_3 6 rfl rfl) (rdSeg sd_07_cX9_most_3 7 rfl rfl)
theorem dR_most_104 : decode cX9_most 104 = .ok (.invokestatic 232, 3) := op_184 (rdSeg sd_07_cX9_most_3 8 rfl rfl) (rdSeg sd_07_cX9_most_3 9 rfl rfl) (rdSeg sd_07_cX9_most_3 10 rfl rfl) rfl
theorem dR_most_107 : decode cX9_most 107 = .ok (.if_icmp .ge 8, 3) := op_162 (rdSeg sd_07_cX9_most_3 11 rfl rfl) (rdSeg sd_07_cX9_most_3 12 rfl rfl) (rdSeg sd_07_cX9_most_3 13 rfl rfl) (by decide +kernel)
theorem dR_most_110 : decode cX9_most 110 = .ok (.iload 5, 2) := op_21 (rdSeg sd_07_cX9_most_3 14 rfl rfl) (rdSeg sd_07_cX9_most_3 15 rfl rfl)
theorem dR_most_112 : decode cX9_most 112 = .ok (.goto 5, 3) := op_167 (rdSeg sd_07_cX9_most_3 16 rfl rfl) (rdSeg sd_07_cX9_most_3 17 rfl rfl) (rdSeg sd_07_cX9_most_3 18 rfl rfl) (by decide +kernel)
theorem dR_most_115 : decode cX9_most 115 = .ok (.iload 4, 2) := op_21 (rdSeg sd_07_cX9_most_3 19 rfl rfl) (rdSeg sd_07_cX9_most_3 20 rfl rfl)
theorem dR_most_117 : decode cX9_most 117 = .ok (.istore 4, 2) := op_54 (rdSeg sd_07_cX9_most_3 21 rfl rfl) (rdSeg sd_07_cX9_most_3 22 rfl rfl)
theorem dR_most_119 : decode cX9_most 119 = .ok (.iinc 5 1, 3) := op_132 (rdSeg sd_07_cX9_most_3 23 rfl rfl) (rdSeg sd_07_cX9_most_3 24 rfl rfl) (rdSeg sd_07_cX9_most_3 25 rfl rfl) (by decide +kernel)
theorem dR_most_122 : decode cX9_most 122 = .ok (.goto (-83), 3) := op_167 (rdSeg sd_07_cX9_most_3 26 rfl rfl) (rdSeg sd_07_cX9_most_3 27 rfl rfl) (rdSeg sd_07_cX9_most_3 28 rfl rfl) (by decide +kernel)
theorem dR_most_125 : decode cX9_most 125 = .ok (.iload_n 3, 1) := op_29 (rdSeg sd_07_cX9_most_3 29 rfl rfl)
theorem dR_most_126 : decode cX9_most 126 = .ok (.ifCond .ne 8, 3) := op_154 (rdSeg sd_07_cX9_most_3 30 rfl rfl) (rdSeg sd_07_cX9_most_3 31 rfl rfl) (rdSeg sd_07_cX9_most_4 0 rfl rfl) (by decide +kernel)
theorem dR_most_129 : decode cX9_most 129 = .ok (.iload 4, 2) := op_21 (rdSeg sd_07_cX9_most_4 1 rfl rfl) (rdSeg sd_07_cX9_most_4 2 rfl rfl)
theorem dR_most_131 : decode cX9_most 131 = .ok (.goto 10, 3) := op_167 (rdSeg sd_07_cX9_most_4 3 rfl rfl) (rdSeg sd_07_cX9_most_4 4 rfl rfl) (rdSeg sd_07_cX9_most_4 5 rfl rfl) (by decide +kernel)
theorem dR_most_134 : decode cX9_most 134 = .ok (.aload_n 0, 1) := op_42 (rdSeg sd_07_cX9_most_4 6 rfl rfl)
theorem dR_most_135 : decode cX9_most 135 = .ok (.iload_n 1, 1) := op_27 (rdSeg sd_07_cX9_most_4 7 rfl rfl)
theorem dR_most_136 : decode cX9_most 136 = .ok (.iload 4, 2) := op_21 (rdSeg sd_07_cX9_most_4 8 rfl rfl) (rdSeg sd_07_cX9_most_4 9 rfl rfl)
theorem dR_most_138 : decode cX9_most 138 = .ok (.invokevirtual 241, 3) := op_182 (rdSeg sd_07_cX9_most_4 10 rfl rfl) (rdSeg sd_07_cX9_most_4 11 rfl rfl) (rdSeg sd_07_cX9_most_4 12 rfl rfl) rfl
theorem dR_most_141 : decode cX9_most 141 = .ok (.ireturn, 1) := op_172 (rdSeg sd_07_cX9_most_4 13 rfl rfl)
def sg_07_cX9_begins_0 : List UInt8 := [0x2a, 0xb4, 0x00, 0xf4, 0x10, 0x1e, 0xa2, 0x00, 0x17, 0x2a, 0xb4, 0x00, 0x25, 0x2a, 0xb4, 0x00, 0xf4, 0x1b, 0x4f, 0x2a, 0x59, 0xb4, 0x00, 0xf4, 0x04, 0x60, 0xb5, 0x00, 0xf4, 0xb1]
set_option maxRecDepth 100000 in
theorem sd_07_cX9_begins_0 : cX9_begins.data.toList.drop 0 = sg_07_cX9_begins_0 := by decide +kernel
theorem dR_begins_0 : decode cX9_begins 0 = .ok (.aload_n 0, 1) := op_42 (rdSeg sd_07_cX9_begins_0 0 rfl rfl)
theorem dR_begins_1 : decode cX9_begins 1 = .ok (.getfield 244, 3) := op_180 (rdSeg sd_07_cX9_begins_0 1 rfl rfl) (rdSeg sd_07_cX9_begins_0 2 rfl rfl) (rdSeg sd_07_cX9_begins_0 3 rfl rfl) rfl
theorem dR_begins_4 : decode cX9_begins 4 = .ok (.bipush 30, 2) := op_16 (rdSeg sd_07_cX9_begins_0 4 rfl rfl) (rdSeg sd_07_cX9_begins_0 5 rfl rfl) (by decide +kernel)
theorem dR_begins_6 : decode cX9_begins 6 = .ok (.if_icmp .ge 23, 3) := op_162 (rdSeg sd_07_cX9_begins_0 6 rfl rfl) (rdSeg sd_07_cX9_begins_0 7 rfl rfl) (rdSeg sd_07_cX9_begins_0 8 rfl rfl) (by decide +kernel)
theorem dR_begins_9 : decode cX9_begins 9 = .ok (.aload_n 0, 1) := op_42 (rdSeg sd_07_cX9_begins_0 9 rfl rfl)
theorem dR_begins_10 : decode cX9_begins 10 = .ok (.getfield 37, 3) := op_180 (rdSeg sd_07_cX9_begins_0 10 rfl rfl) (rdSeg sd_07_cX9_begins_0 11 rfl rfl) (rdSeg sd_07_cX9_begins_0 12 rfl rfl) rfl
theorem dR_begins_13 : decode cX9_begins 13 = .ok (.aload_n 0, 1) := op_42 (rdSeg sd_07_cX9_begins_0 13 rfl rfl)
theorem dR_begins_14 : decode cX9_begins 14 = .ok (.getfield 244, 3) := op_180 (rdSeg sd_07_cX9_begins_0 14 rfl rfl) (rdSeg sd_07_cX9_begins_0 15 rfl rfl) (rdSeg sd_07_cX9_begins_0 16 rfl rfl) rfl
theorem dR_begins_17 : decode cX9_begins 17 = .ok (.iload_n 1, 1) := op_27 (rdSeg sd_07_cX9_begins_0 17 rfl rfl)
theorem dR_begins_18 : decode cX9_begins 18 = .ok (.iastore, 1) := op_79 (rdSeg sd_07_cX9_begins_0 18 rfl rfl)
theorem dR_begins_19 : decode cX9_begins 19 = .ok (.aload_n 0, 1) := op_42 (rdSeg sd_07_cX9_begins_0 19 rfl rfl)
theorem dR_begins_20 : decode cX9_begins 20 = .ok (.dup, 1) := op_89 (rdSeg sd_07_cX9_begins_0 20 rfl rfl)
theorem dR_begins_21 : decode cX9_begins 21 = .ok (.getfield 244, 3) := op_180 (rdSeg sd_07_cX9_begins_0 21 rfl rfl) (rdSeg sd_07_cX9_begins_0 22 rfl rfl) (rdSeg sd_07_cX9_begins_0 23 rfl rfl) rfl
theorem dR_begins_24 : decode cX9_begins 24 = .ok (.iconst 1, 1) := op_4 (rdSeg sd_07_cX9_begins_0 24 rfl rfl)
theorem dR_begins_25 : decode cX9_begins 25 = .ok (.iadd, 1) := op_96 (rdSeg sd_07_cX9_begins_0 25 rfl rfl)
theorem dR_begins_26 : decode cX9_begins 26 = .ok (.putfield 244, 3) := op_181 (rdSeg sd_07_cX9_begins_0 26 rfl rfl) (rdSeg sd_07_cX9_begins_0 27 rfl rfl) (rdSeg sd_07_cX9_begins_0 28 rfl rfl) rfl
theorem dR_begins_29 : decode cX9_begins 29 = .ok (.return_, 1) := op_177 (rdSeg sd_07_cX9_begins_0 29 rfl rfl)
def sg_07_cX9_above_0 : List UInt8 := [0x1a, 0x07, 0xa0, 0x00, 0x07, 0x04, 0xa7, 0x00, 0x17, 0x1a, 0x08, 0xa0, 0x00, 0x07, 0x05, 0xa7, 0x00, 0x0e, 0x1a, 0x10, 0x06, 0xa0, 0x00, 0x07, 0x06, 0xa7, 0x00, 0x04, 0x03, 0xac]
set_option maxRecDepth 100000 in
theorem sd_07_cX9_above_0 : cX9_above.data.toList.drop 0 = sg_07_cX9_above_0 := by decide +kernel
theorem dR_above_0 : decode cX9_above 0 = .ok (.iload_n 0, 1) := op_26 (rdSeg sd_07_cX9_above_0 0 rfl rfl)
theorem dR_above_1 : decode cX9_above 1 = .ok (.iconst 4, 1) := op_7 (rdSeg sd_07_cX9_above_0 1 rfl rfl)
theorem dR_above_2 : decode cX9_above 2 = .ok (.if_icmp .ne 7, 3) := op_160 (rdSeg sd_07_cX9_above_0 2 rfl rfl) (rdSeg sd_07_cX9_above_0 3 rfl rfl) (rdSeg sd_07_cX9_above_0 4 rfl rfl) (by decide +kernel)
theorem dR_above_5 : decode cX9_above 5 = .ok (.iconst 1, 1) := op_4 (rdSeg sd_07_cX9_above_0 5 rfl rfl)
theorem dR_above_6 : decode cX9_above 6 = .ok (.goto 23, 3) := op_167 (rdSeg sd_07_cX9_above_0 6 rfl rfl) (rdSeg sd_07_cX9_above_0 7 rfl rfl) (rdSeg sd_07_cX9_above_0 8 rfl rfl) (by decide +kernel)
theorem dR_above_9 : decode cX9_above 9 = .ok (.iload_n 0, 1) := op_26 (rdSeg sd_07_cX9_above_0 9 rfl rfl)
theorem dR_above_10 : decode cX9_above 10 = .ok (.iconst 5, 1) := op_8 (rdSeg sd_07_cX9_above_0 10 rfl rfl)
theorem dR_above_11 : decode cX9_above 11 = .ok (.if_icmp .ne 7, 3) := op_160 (rdSeg sd_07_cX9_above_0 11 rfl rfl) (rdSeg sd_07_cX9_above_0 12 rfl rfl) (rdSeg sd_07_cX9_above_0 13 rfl rfl) (by decide +kernel)
theorem dR_above_14 : decode cX9_above 14 = .ok (.iconst 2, 1) := op_5 (rdSeg sd_07_cX9_above_0 14 rfl rfl)
theorem dR_above_15 : decode cX9_above 15 = .ok (.goto 14, 3) := op_167 (rdSeg sd_07_cX9_above_0 15 rfl rfl) (rdSeg sd_07_cX9_above_0 16 rfl rfl) (rdSeg sd_07_cX9_above_0 17 rfl rfl) (by decide +kernel)
theorem dR_above_18 : decode cX9_above 18 = .ok (.iload_n 0, 1) := op_26 (rdSeg sd_07_cX9_above_0 18 rfl rfl)
theorem dR_above_19 : decode cX9_above 19 = .ok (.bipush 6, 2) := op_16 (rdSeg sd_07_cX9_above_0 19 rfl rfl) (rdSeg sd_07_cX9_above_0 20 rfl rfl) (by decide +kernel)
theorem dR_above_21 : decode cX9_above 21 = .ok (.if_icmp .ne 7, 3) := op_160 (rdSeg sd_07_cX9_above_0 21 rfl rfl) (rdSeg sd_07_cX9_above_0 22 rfl rfl) (rdSeg sd_07_cX9_above_0 23 rfl rfl) (by decide +kernel)
theorem dR_above_24 : decode cX9_above 24 = .ok (.iconst 3, 1) := op_6 (rdSeg sd_07_cX9_above_0 24 rfl rfl)
theorem dR_above_25 : decode cX9_above 25 = .ok (.goto 4, 3) := op_167 (rdSeg sd_07_cX9_above_0 25 rfl rfl) (rdSeg sd_07_cX9_above_0 26 rfl rfl) (rdSeg sd_07_cX9_above_0 27 rfl rfl) (by decide +kernel)
theorem dR_above_28 : decode cX9_above 28 = .ok (.iconst 0, 1) := op_3 (rdSeg sd_07_cX9_above_0 28 rfl rfl)
theorem dR_above_29 : decode cX9_above 29 = .ok (.ireturn, 1) := op_172 (rdSeg sd_07_cX9_above_0 29 rfl rfl)
def sg_07_cX9_kindNow_0 : List UInt8 := [0x2a, 0x2a, 0xb4, 0x00, 0xf7, 0x03, 0xb6, 0x00, 0x49, 0xac]
set_option maxRecDepth 100000 in
theorem sd_07_cX9_kindNow_0 : cX9_kindNow.data.toList.drop 0 = sg_07_cX9_kindNow_0 := by decide +kernel
theorem dR_kindNow_0 : decode cX9_kindNow 0 = .ok (.aload_n 0, 1) := op_42 (rdSeg sd_07_cX9_kindNow_0 0 rfl rfl)
theorem dR_kindNow_1 : decode cX9_kindNow 1 = .ok (.aload_n 0, 1) := op_42 (rdSeg sd_07_cX9_kindNow_0 1 rfl rfl)
theorem dR_kindNow_2 : decode cX9_kindNow 2 = .ok (.getfield 247, 3) := op_180 (rdSeg sd_07_cX9_kindNow_0 2 rfl rfl) (rdSeg sd_07_cX9_kindNow_0 3 rfl rfl) (rdSeg sd_07_cX9_kindNow_0 4 rfl rfl) rfl
theorem dR_kindNow_5 : decode cX9_kindNow 5 = .ok (.iconst 0, 1) := op_3 (rdSeg sd_07_cX9_kindNow_0 5 rfl rfl)
theorem dR_kindNow_6 : decode cX9_kindNow 6 = .ok (.invokevirtual 73, 3) := op_182 (rdSeg sd_07_cX9_kindNow_0 6 rfl rfl) (rdSeg sd_07_cX9_kindNow_0 7 rfl rfl) (rdSeg sd_07_cX9_kindNow_0 8 rfl rfl) rfl
theorem dR_kindNow_9 : decode cX9_kindNow 9 = .ok (.ireturn, 1) := op_172 (rdSeg sd_07_cX9_kindNow_0 9 rfl rfl)
def sg_07_cX9_mNow_0 : List UInt8 := [0x2a, 0x2a, 0xb4, 0x00, 0xf7, 0x04, 0xb6, 0x00, 0x49, 0xac]
set_option maxRecDepth 100000 in
theorem sd_07_cX9_mNow_0 : cX9_mNow.data.toList.drop 0 = sg_07_cX9_mNow_0 := by decide +kernel
theorem dR_mNow_0 : decode cX9_mNow 0 = .ok (.aload_n 0, 1) := op_42 (rdSeg sd_07_cX9_mNow_0 0 rfl rfl)
theorem dR_mNow_1 : decode cX9_mNow 1 = .ok (.aload_n 0, 1) := op_42 (rdSeg sd_07_cX9_mNow_0 1 rfl rfl)
theorem dR_mNow_2 : decode cX9_mNow 2 = .ok (.getfield 247, 3) := op_180 (rdSeg sd_07_cX9_mNow_0 2 rfl rfl) (rdSeg sd_07_cX9_mNow_0 3 rfl rfl) (rdSeg sd_07_cX9_mNow_0 4 rfl rfl) rfl
theorem dR_mNow_5 : decode cX9_mNow 5 = .ok (.iconst 1, 1) := op_4 (rdSeg sd_07_cX9_mNow_0 5 rfl rfl)
theorem dR_mNow_6 : decode cX9_mNow 6 = .ok (.invokevirtual 73, 3) := op_182 (rdSeg sd_07_cX9_mNow_0 6 rfl rfl) (rdSeg sd_07_cX9_mNow_0 7 rfl rfl) (rdSeg sd_07_cX9_mNow_0 8 rfl rfl) rfl
theorem dR_mNow_9 : decode cX9_mNow 9 = .ok (.ireturn, 1) := op_172 (rdSeg sd_07_cX9_mNow_0 9 rfl rfl)
def sg_07_cX9_ringsBy_3 : List UInt8 := [0xb6, 0x00, 0xfa, 0x10, 0x06, 0xac, 0x2a, 0x1b, 0xb8, 0x00, 0xfd, 0x1c, 0xb6, 0x01, 0x00, 0xac]
def sg_07_cX9_ringsBy_2 : List UInt8 := 0x04 :: 0xb8 :: 0x00 :: 0xfd :: 0x1c :: 0xb6 :: 0x01 :: 0x00 :: 0x07 :: 0x64 :: 0xac :: 0x2a :: 0x10 :: 0x32 :: 0xb6 :: 0x00 :: 0xfa :: 0x2a :: 0x07 :: 0xb8 :: 0x00 :: 0xfd :: 0x1c :: 0xb6 :: 0x01 :: 0x00 :: 0x06 :: 0x68 :: 0xac :: 0x2a :: 0x10 :: 0x46 :: sg_07_cX9_ringsBy_3
def sg_07_cX9_ringsBy_1 : List UInt8 := 0x00 :: 0x00 :: 0x00 :: 0x4a :: 0x00 :: 0x00 :: 0x00 :: 0x65 :: 0x00 :: 0x00 :: 0x00 :: 0x5c :: 0x2a :: 0x10 :: 0x0a :: 0xb6 :: 0x00 :: 0xfa :: 0x1c :: 0x2a :: 0xb4 :: 0x00 :: 0xf7 :: 0x60 :: 0xac :: 0x2a :: 0x10 :: 0x14 :: 0xb6 :: 0x00 :: 0xfa :: 0x2a :: sg_07_cX9_ringsBy_2
def sg_07_cX9_ringsBy_0 : List UInt8 := 0x1b :: 0xaa :: 0x00 :: 0x00 :: 0x00 :: 0x00 :: 0x00 :: 0x65 :: 0x00 :: 0x00 :: 0x00 :: 0x00 :: 0x00 :: 0x00 :: 0x00 :: 0x06 :: 0x00 :: 0x00 :: 0x00 :: 0x2b :: 0x00 :: 0x00 :: 0x00 :: 0x38 :: 0x00 :: 0x00 :: 0x00 :: 0x65 :: 0x00 :: 0x00 :: 0x00 :: 0x65 :: sg_07_cX9_ringsBy_1
set_option maxRecDepth 100000 in
theorem sd_07_cX9_ringsBy_0 : cX9_ringsBy.data.toList.drop 0 = sg_07_cX9_ringsBy_0 := by decide +kernel
theorem sd_07_cX9_ringsBy_1 : cX9_ringsBy.data.toList.drop 32 = sg_07_cX9_ringsBy_1 := sg_next sd_07_cX9_ringsBy_0 rfl
theorem sd_07_cX9_ringsBy_2 : cX9_ringsBy.data.toList.drop 64 = sg_07_cX9_ringsBy_2 := sg_next sd_07_cX9_ringsBy_1 rfl
theorem sd_07_cX9_ringsBy_3 : cX9_ringsBy.data.toList.drop 96 = sg_07_cX9_ringsBy_3 := sg_next sd_07_cX9_ringsBy_2 rfl
theorem dR_ringsBy_0 : decode cX9_ringsBy 0 = .ok (.iload_n 1, 1) := op_27 (rdSeg sd_07_cX9_ringsBy_0 0 rfl rfl)
theorem dR_ringsBy_1 : decode cX9_ringsBy 1 = .ok (.tableswitch 101 0 6 #[43, 56, 101, 101, 74, 101, 92], 43) := by decide +kernel
end
section
-- decode rows of the reference
def sg_08_cX9_ringsBy_3 : List UInt8 := [0xb6, 0x00, 0xfa, 0x10, 0x06, 0xac, 0x2a, 0x1b, 0xb8, 0x00, 0xfd, 0x1c, 0xb6, 0x01, 0x00, 0xac]
def sg_08_cX9_ringsBy_2 : List UInt8 := 0x04 :: 0xb8 :: 0x00 :: 0xfd :: 0x1c :: 0xb6 :: 0x01 :: 0x00 :: 0x07 :: 0x64 :: 0xac :: 0x2a :: 0x10 :: 0x32 :: 0xb6 :: 0x00 :: 0xfa :: 0x2a :: 0x07 :: 0xb8 :: 0x00 :: 0xfd :: 0x1c :: 0xb6 :: 0x01 :: 0x00 :: 0x06 :: 0x68 :: 0xac :: 0x2a :: 0x10 :: 0x46 :: sg_08_cX9_ringsBy_3
def sg_08_cX9_ringsBy_1 : List UInt8 := 0x00 :: 0x00 :: 0x00 :: 0x4a :: 0x00 :: 0x00 :: 0x00 :: 0x65 :: 0x00 :: 0x00 :: 0x00 :: 0x5c :: 0x2a :: 0x10 :: 0x0a :: 0xb6 :: 0x00 :: 0xfa :: 0x1c :: 0x2a :: 0xb4 :: 0x00 :: 0xf7 :: 0x60 :: 0xac :: 0x2a :: 0x10 :: 0x14 :: 0xb6 :: 0x00 :: 0xfa :: 0x2a :: sg_08_cX9_ringsBy_2
def sg_08_cX9_ringsBy_0 : List UInt8 := 0x1b :: 0xaa :: 0x00 :: 0x00 :: 0x00 :: 0x00 :: 0x00 :: 0x65 :: 0x00 :: 0x00 :: 0x00 :: 0x00 :: 0x00 :: 0x00 :: 0x00 :: 0x06 :: 0x00 :: 0x00 :: 0x00 :: 0x2b :: 0x00 :: 0x00 :: 0x00 :: 0x38 :: 0x00 :: 0x00 :: 0x00 :: 0x65 :: 0x00 :: 0x00 :: 0x00 :: 0x65 :: sg_08_cX9_ringsBy_1
set_option maxRecDepth 100000 in
theorem sd_08_cX9_ringsBy_0 : cX9_ringsBy.data.toList.drop 0 = sg_08_cX9_ringsBy_0 := by decide +kernel
theorem sd_08_cX9_ringsBy_1 : cX9_ringsBy.data.toList.drop 32 = sg_08_cX9_ringsBy_1 := sg_next sd_08_cX9_ringsBy_0 rfl
theorem sd_08_cX9_ringsBy_2 : cX9_ringsBy.data.toList.drop 64 = sg_08_cX9_ringsBy_2 := sg_next sd_08_cX9_ringsBy_1 rfl
theorem sd_08_cX9_ringsBy_3 : cX9_ringsBy.data.toList.drop 96 = sg_08_cX9_ringsBy_3 := sg_next sd_08_cX9_ringsBy_2 rfl
theorem dR_ringsBy_44 : decode cX9_ringsBy 44 = .ok (.aload_n 0, 1) := op_42 (rdSeg sd_08_cX9_ringsBy_1 12 rfl rfl)
theorem dR_ringsBy_45 : decode cX9_ringsBy 45 = .ok (.bipush 10, 2) := op_16 (rdSeg sd_08_cX9_ringsBy_1 13 rfl rfl) (rdSeg sd_08_cX9_ringsBy_1 14 rfl rfl) (by decide +kernel)
theorem dR_ringsBy_47 : decode cX9_ringsBy 47 = .ok (.invokevirtual 250, 3) := op_182 (rdSeg sd_08_cX9_ringsBy_1 15 rfl rfl) (rdSeg sd_08_cX9_ringsBy_1 16 rfl rfl) (rdSeg sd_08_cX9_ringsBy_1 17 rfl rfl) rfl
theorem dR_ringsBy_50 : decode cX9_ringsBy 50 = .ok (.iload_n 2, 1) := op_28 (rdSeg sd_08_cX9_ringsBy_1 18 rfl rfl)
theorem dR_ringsBy_51 : decode cX9_ringsBy 51 = .ok (.aload_n 0, 1) := op_42 (rdSeg sd_08_cX9_ringsBy_1 19 rfl rfl)
theorem dR_ringsBy_52 : decode cX9_ringsBy 52 = .ok (.getfield 247, 3) := op_180 (rdSeg sd_08_cX9_ringsBy_1 20 rfl rfl) (rdSeg sd_08_cX9_ringsBy_1 21 rfl rfl) (rdSeg sd_08_cX9_ringsBy_1 22 rfl rfl) rfl
theorem dR_ringsBy_55 : decode cX9_ringsBy 55 = .ok (.iadd, 1) := op_96 (rdSeg sd_08_cX9_ringsBy_1 23 rfl rfl)
theorem dR_ringsBy_56 : decode cX9_ringsBy 56 = .ok (.ireturn, 1) := op_172 (rdSeg sd_08_cX9_ringsBy_1 24 rfl rfl)
theorem dR_ringsBy_57 : decode cX9_ringsBy 57 = .ok (.aload_n 0, 1) := op_42 (rdSeg sd_08_cX9_ringsBy_1 25 rfl rfl)
theorem dR_ringsBy_58 : decode cX9_ringsBy 58 = .ok (.bipush 20, 2) := op_16 (rdSeg sd_08_cX9_ringsBy_1 26 rfl rfl) (rdSeg sd_08_cX9_ringsBy_1 27 rfl rfl) (by decide +kernel)
theorem dR_ringsBy_60 : decode cX9_ringsBy 60 = .ok (.invokevirtual 250, 3) := op_182 (rdSeg sd_08_cX9_ringsBy_1 28 rfl rfl) (rdSeg sd_08_cX9_ringsBy_1 29 rfl rfl) (rdSeg sd_08_cX9_ringsBy_1 30 rfl rfl) rfl
theorem dR_ringsBy_63 : decode cX9_ringsBy 63 = .ok (.aload_n 0, 1) := op_42 (rdSeg sd_08_cX9_ringsBy_1 31 rfl rfl)
theorem dR_ringsBy_64 : decode cX9_ringsBy 64 = .ok (.iconst 1, 1) := op_4 (rdSeg sd_08_cX9_ringsBy_2 0 rfl rfl)
theorem dR_ringsBy_65 : decode cX9_ringsBy 65 = .ok (.invokestatic 253, 3) := op_184 (rdSeg sd_08_cX9_ringsBy_2 1 rfl rfl) (rdSeg sd_08_cX9_ringsBy_2 2 rfl rfl) (rdSeg sd_08_cX9_ringsBy_2 3 rfl rfl) rfl
theorem dR_ringsBy_68 : decode cX9_ringsBy 68 = .ok (.iload_n 2, 1) := op_28 (rdSeg sd_08_cX9_ringsBy_2 4 rfl rfl)
theorem dR_ringsBy_69 : decode cX9_ringsBy 69 = .ok (.invokevirtual 256, 3) := op_182 (rdSeg sd_08_cX9_ringsBy_2 5 rfl rfl) (rdSeg sd_08_cX9_ringsBy_2 6 rfl rfl) (rdSeg sd_08_cX9_ringsBy_2 7 rfl rfl) rfl
theorem dR_ringsBy_72 : decode cX9_ringsBy 72 = .ok (.iconst 4, 1) := op_7 (rdSeg sd_08_cX9_ringsBy_2 8 rfl rfl)
theorem dR_ringsBy_73 : decode cX9_ringsBy 73 = .ok (.isub, 1) := op_100 (rdSeg sd_08_cX9_ringsBy_2 9 rfl rfl)
theorem dR_ringsBy_74 : decode cX9_ringsBy 74 = .ok (.ireturn, 1) := op_172 (rdSeg sd_08_cX9_ringsBy_2 10 rfl rfl)
theorem dR_ringsBy_75 : decode cX9_ringsBy 75 = .ok (.aload_n 0, 1) := op_42 (rdSeg sd_08_cX9_ringsBy_2 11 rfl rfl)
theorem dR_ringsBy_76 : decode cX9_ringsBy 76 = .ok (.bipush 50, 2) := op_16 (rdSeg sd_08_cX9_ringsBy_2 12 rfl rfl) (rdSeg sd_08_cX9_ringsBy_2 13 rfl rfl) (by decide +kernel)
theorem dR_ringsBy_78 : decode cX9_ringsBy 78 = .ok (.invokevirtual 250, 3) := op_182 (rdSeg sd_08_cX9_ringsBy_2 14 rfl rfl) (rdSeg sd_08_cX9_ringsBy_2 15 rfl rfl) (rdSeg sd_08_cX9_ringsBy_2 16 rfl rfl) rfl
theorem dR_ringsBy_81 : decode cX9_ringsBy 81 = .ok (.aload_n 0, 1) := op_42 (rdSeg sd_08_cX9_ringsBy_2 17 rfl rfl)
theorem dR_ringsBy_82 : decode cX9_ringsBy 82 = .ok (.iconst 4, 1) := op_7 (rdSeg sd_08_cX9_ringsBy_2 18 rfl rfl)
theorem dR_ringsBy_83 : decode cX9_ringsBy 83 = .ok (.invokestatic 253, 3) := op_184 (rdSeg sd_08_cX9_ringsBy_2 19 rfl rfl) (rdSeg sd_08_cX9_ringsBy_2 20 rfl rfl) (rdSeg sd_08_cX9_ringsBy_2 21 rfl rfl) rfl
theorem dR_ringsBy_86 : decode cX9_ringsBy 86 = .ok (.iload_n 2, 1) := op_28 (rdSeg sd_08_cX9_ringsBy_2 22 rfl rfl)
theorem dR_ringsBy_87 : decode cX9_ringsBy 87 = .ok (.invokevirtual 256, 3) := op_182 (rdSeg sd_08_cX9_ringsBy_2 23 rfl rfl) (rdSeg sd_08_cX9_ringsBy_2 24 rfl rfl) (rdSeg sd_08_cX9_ringsBy_2 25 rfl rfl) rfl
theorem dR_ringsBy_90 : decode cX9_ringsBy 90 = .ok (.iconst 3, 1) := op_6 (rdSeg sd_08_cX9_ringsBy_2 26 rfl rfl)
theorem dR_ringsBy_91 : decode cX9_ringsBy 91 = .ok (.imul, 1) := op_104 (rdSeg sd_08_cX9_ringsBy_2 27 rfl rfl)
theorem dR_ringsBy_92 : decode cX9_ringsBy 92 = .ok (.ireturn, 1) := op_172 (rdSeg sd_08_cX9_ringsBy_2 28 rfl rfl)
theorem dR_ringsBy_93 : decode cX9_ringsBy 93 = .ok (.aload_n 0, 1) := op_42 (rdSeg sd_08_cX9_ringsBy_2 29 rfl rfl)
theorem dR_ringsBy_94 : decode cX9_ringsBy 94 = .ok (.bipush 70, 2) := op_16 (rdSeg sd_08_cX9_ringsBy_2 30 rfl rfl) (rdSeg sd_08_cX9_ringsBy_2 31 rfl rfl) (by decide +kernel)
theorem dR_ringsBy_96 : decode cX9_ringsBy 96 = .ok (.invokevirtual 250, 3) := op_182 (rdSeg sd_08_cX9_ringsBy_3 0 rfl rfl) (rdSeg sd_08_cX9_ringsBy_3 1 rfl rfl) (rdSeg sd_08_cX9_ringsBy_3 2 rfl rfl) rfl
theorem dR_ringsBy_99 : decode cX9_ringsBy 99 = .ok (.bipush 6, 2) := op_16 (rdSeg sd_08_cX9_ringsBy_3 3 rfl rfl) (rdSeg sd_08_cX9_ringsBy_3 4 rfl rfl) (by decide +kernel)
theorem dR_ringsBy_101 : decode cX9_ringsBy 101 = .ok (.ireturn, 1) := op_172 (rdSeg sd_08_cX9_ringsBy_3 5 rfl rfl)
theorem dR_ringsBy_102 : decode cX9_ringsBy 102 = .ok (.aload_n 0, 1) := op_42 (rdSeg sd_08_cX9_ringsBy_3 6 rfl rfl)
theorem dR_ringsBy_103 : decode cX9_ringsBy 103 = .ok (.iload_n 1, 1) := op_27 (rdSeg sd_08_cX9_ringsBy_3 7 rfl rfl)
theorem dR_ringsBy_104 : decode cX9_ringsBy 104 = .ok (.invokestatic 253, 3) := op_184 (rdSeg sd_08_cX9_ringsBy_3 8 rfl rfl) (rdSeg sd_08_cX9_ringsBy_3 9 rfl rfl) (rdSeg sd_08_cX9_ringsBy_3 10 rfl rfl) rfl
theorem dR_ringsBy_107 : decode cX9_ringsBy 107 = .ok (.iload_n 2, 1) := op_28 (rdSeg sd_08_cX9_ringsBy_3 11 rfl rfl)
theorem dR_ringsBy_108 : decode cX9_ringsBy 108 = .ok (.invokevirtual 256, 3) := op_182 (rdSeg sd_08_cX9_ringsBy_3 12 rfl rfl) (rdSeg sd_08_cX9_ringsBy_3 13 rfl rfl) (rdSeg sd_08_cX9_ringsBy_3 14 rfl rfl) rfl
theorem dR_ringsBy_111 : decode cX9_ringsBy 111 = .ok (.ireturn, 1) := op_172 (rdSeg sd_08_cX9_ringsBy_3 15 rfl rfl)
def sg_08_cX9_weighsBy_4 : List UInt8 := [0x06, 0xac]
def sg_08_cX9_weighsBy_3 : List UInt8 := 0x06 :: 0xac :: 0x2a :: 0x10 :: 0x47 :: 0xb6 :: 0x00 :: 0xfa :: 0x2a :: 0x10 :: 0x06 :: 0xb8 :: 0x00 :: 0xfd :: 0x1c :: 0xb6 :: 0x01 :: 0x06 :: 0x2a :: 0xb6 :: 0x01 :: 0x09 :: 0x60 :: 0xac :: 0x2a :: 0x1b :: 0xb8 :: 0x00 :: 0xfd :: 0x1c :: 0xb6 :: 0x01 :: sg_08_cX9_weighsBy_4
def sg_08_cX9_weighsBy_2 : List UInt8 := 0x1e :: 0xb6 :: 0x00 :: 0xfa :: 0x03 :: 0x2a :: 0x05 :: 0xb8 :: 0x00 :: 0xfd :: 0x1c :: 0xb6 :: 0x01 :: 0x06 :: 0x64 :: 0xac :: 0x2a :: 0x10 :: 0x3c :: 0xb6 :: 0x00 :: 0xfa :: 0x2a :: 0x08 :: 0xb8 :: 0x00 :: 0xfd :: 0x1c :: 0x04 :: 0x60 :: 0xb6 :: 0x01 :: sg_08_cX9_weighsBy_3
def sg_08_cX9_weighsBy_1 : List UInt8 := 0x00 :: 0x00 :: 0x00 :: 0x77 :: 0x00 :: 0x00 :: 0x00 :: 0x4f :: 0x00 :: 0x00 :: 0x00 :: 0x61 :: 0x2a :: 0x10 :: 0x0b :: 0xb6 :: 0x00 :: 0xfa :: 0x2a :: 0x2a :: 0xb6 :: 0x01 :: 0x03 :: 0x1c :: 0xb6 :: 0x01 :: 0x00 :: 0x05 :: 0x68 :: 0xac :: 0x2a :: 0x10 :: sg_08_cX9_weighsBy_2
def sg_08_cX9_weighsBy_0 : List UInt8 := 0x1b :: 0xaa :: 0x00 :: 0x00 :: 0x00 :: 0x00 :: 0x00 :: 0x77 :: 0x00 :: 0x00 :: 0x00 :: 0x00 :: 0x00 :: 0x00 :: 0x00 :: 0x06 :: 0x00 :: 0x00 :: 0x00 :: 0x2b :: 0x00 :: 0x00 :: 0x00 :: 0x77 :: 0x00 :: 0x00 :: 0x00 :: 0x3d :: 0x00 :: 0x00 :: 0x00 :: 0x77 :: sg_08_cX9_weighsBy_1
set_option maxRecDepth 100000 in
theorem sd_08_cX9_weighsBy_0 : cX9_weighsBy.data.toList.drop 0 = sg_08_cX9_weighsBy_0 := by decide +kernel
theorem sd_08_cX9_weighsBy_1 : cX9_weighsBy.data.toList.drop 32 = sg_08_cX9_weighsBy_1 := sg_next sd_08_cX9_weighsBy_0 rfl
theorem sd_08_cX9_weighsBy_2 : cX9_weighsBy.data.toList.drop 64 = sg_08_cX9_weighsBy_2 := sg_next sd_08_cX9_weighsBy_1 rfl
theorem sd_08_cX9_weighsBy_3 : cX9_weighsBy.data.toList.drop 96 = sg_08_cX9_weighsBy_3 := sg_next sd_08_cX9_weighsBy_2 rfl
theorem sd_08_cX9_weighsBy_4 : cX9_weighsBy.data.toList.drop 128 = sg_08_cX9_weighsBy_4 := sg_next sd_08_cX9_weighsBy_3 rfl
theorem dR_weighsBy_0 : decode cX9_weighsBy 0 = .ok (.iload_n 1, 1) := op_27 (rdSeg sd_08_cX9_weighsBy_0 0 rfl rfl)
theorem dR_weighsBy_1 : decode cX9_weighsBy 1 = .ok (.tableswitch 119 0 6 #[43, 119, 61, 119, 119, 79, 97], 43) := by decide +kernel
theorem dR_weighsBy_44 : decode cX9_weighsBy 44 = .ok (.aload_n 0, 1) := op_42 (rdSeg sd_08_cX9_weighsBy_1 12 rfl rfl)
theorem dR_weighsBy_45 : decode cX9_weighsBy 45 = .ok (.bipush 11, 2) := op_16 (rdSeg sd_08_cX9_weighsBy_1 13 rfl rfl) (rdSeg sd_08_cX9_weighsBy_1 14 rfl rfl) (by decide +kernel)
theorem dR_weighsBy_47 : decode cX9_weighsBy 47 = .ok (.invokevirtual 250, 3) := op_182 (rdSeg sd_08_cX9_weighsBy_1 15 rfl rfl) (rdSeg sd_08_cX9_weighsBy_1 16 rfl rfl) (rdSeg sd_08_cX9_weighsBy_1 17 rfl rfl) rfl
theorem dR_weighsBy_50 : decode cX9_weighsBy 50 = .ok (.aload_n 0, 1) := op_42 (rdSeg sd_08_cX9_weighsBy_1 18 rfl rfl)
theorem dR_weighsBy_51 : decode cX9_weighsBy 51 = .ok (.aload_n 0, 1) := op_42 (rdSeg sd_08_cX9_weighsBy_1 19 rfl rfl)
theorem dR_weighsBy_52 : decode cX9_weighsBy 52 = .ok (.invokevirtual 259, 3) := op_182 (rdSeg sd_08_cX9_weighsBy_1 20 rfl rfl) (rdSeg sd_08_cX9_weighsBy_1 21 rfl rfl) (rdSeg sd_08_cX9_weighsBy_1 22 rfl rfl) rfl
theorem dR_weighsBy_55 : decode cX9_weighsBy 55 = .ok (.iload_n 2, 1) := op_28 (rdSeg sd_08_cX9_weighsBy_1 23 rfl rfl)
theorem dR_weighsBy_56 : decode cX9_weighsBy 56 = .ok (.invokevirtual 256, 3) := op_182 (rdSeg sd_08_cX9_weighsBy_1 24 rfl rfl) (rdSeg sd_08_cX9_weighsBy_1 25 rfl rfl) (rdSeg sd_08_cX9_weighsBy_1 26 rfl rfl) rfl
theorem dR_weighsBy_59 : decode cX9_weighsBy 59 = .ok (.iconst 2, 1) := op_5 (rdSeg sd_08_cX9_weighsBy_1 27 rfl rfl)
theorem dR_weighsBy_60 : decode cX9_weighsBy 60 = .ok (.imul, 1) := op_104 (rdSeg sd_08_cX9_weighsBy_1 28 rfl rfl)
theorem dR_weighsBy_61 : decode cX9_weighsBy 61 = .ok (.ireturn, 1) := op_172 (rdSeg sd_08_cX9_weighsBy_1 29 rfl rfl)
theorem dR_weighsBy_62 : decode cX9_weighsBy 62 = .ok (.aload_n 0, 1) := op_42 (rdSeg sd_08_cX9_weighsBy_1 30 rfl rfl)
theorem dR_weighsBy_63 : decode cX9_weighsBy 63 = .ok (.bipush 30, 2) := op_16 (rdSeg sd_08_cX9_weighsBy_1 31 rfl rfl) (rdSeg sd_08_cX9_weighsBy_2 0 rfl rfl) (by decide +kernel)
theorem dR_weighsBy_65 : decode cX9_weighsBy 65 = .ok (.invokevirtual 250, 3) := op_182 (rdSeg sd_08_cX9_weighsBy_2 1 rfl rfl) (rdSeg sd_08_cX9_weighsBy_2 2 rfl rfl) (rdSeg sd_08_cX9_weighsBy_2 3 rfl rfl) rfl
theorem dR_weighsBy_68 : decode cX9_weighsBy 68 = .ok (.iconst 0, 1) := op_3 (rdSeg sd_08_cX9_weighsBy_2 4 rfl rfl)
theorem dR_weighsBy_69 : decode cX9_weighsBy 69 = .ok (.aload_n 0, 1) := op_42 (rdSeg sd_08_cX9_weighsBy_2 5 rfl rfl)
theorem dR_weighsBy_70 : decode cX9_weighsBy 70 = .ok (.iconst 2, 1) := op_5 (rdSeg sd_08_cX9_weighsBy_2 6 rfl rfl)
theorem dR_weighsBy_71 : decode cX9_weighsBy 71 = .ok (.invokestatic 253, 3) := op_184 (rdSeg sd_08_cX9_weighsBy_2 7 rfl rfl) (rdSeg sd_08_cX9_weighsBy_2 8 rfl rfl) (rdSeg sd_08_cX9_weighsBy_2 9 rfl rfl) rfl
theorem dR_weighsBy_74 : decode cX9_weighsBy 74 = .ok (.iload_n 2, 1) := op_28 (rdSeg sd_08_cX9_weighsBy_2 10 rfl rfl)
theorem dR_weighsBy_75 : decode cX9_weighsBy 75 = .ok (.invokevirtual 262, 3) := op_182 (rdSeg sd_08_cX9_weighsBy_2 11 rfl rfl) (rdSeg sd_08_cX9_weighsBy_2 12 rfl rfl) (rdSeg sd_08_cX9_weighsBy_2 13 rfl rfl) rfl
theorem dR_weighsBy_78 : decode cX9_weighsBy 78 = .ok (.isub, 1) := op_100 (rdSeg sd_08_cX9_weighsBy_2 14 rfl rfl)
theorem dR_weighsBy_79 : decode cX9_weighsBy 79 = .ok (.ireturn, 1) := op_172 (rdSeg sd_08_cX9_weighsBy_2 15 rfl rfl)
theorem dR_weighsBy_80 : decode cX9_weighsBy 80 = .ok (.aload_n 0, 1) := op_42 (rdSeg sd_08_cX9_weighsBy_2 16 rfl rfl)
theorem dR_weighsBy_81 : decode cX9_weighsBy 81 = .ok (.bipush 60, 2) := op_16 (rdSeg sd_08_cX9_weighsBy_2 17 rfl rfl) (rdSeg sd_08_cX9_weighsBy_2 18 rfl rfl) (by decide +kernel)
theorem dR_weighsBy_83 : decode cX9_weighsBy 83 = .ok (.invokevirtual 250, 3) := op_182 (rdSeg sd_08_cX9_weighsBy_2 19 rfl rfl) (rdSeg sd_08_cX9_weighsBy_2 20 rfl rfl) (rdSeg sd_08_cX9_weighsBy_2 21 rfl rfl) rfl
theorem dR_weighsBy_86 : decode cX9_weighsBy 86 = .ok (.aload_n 0, 1) := op_42 (rdSeg sd_08_cX9_weighsBy_2 22 rfl rfl)
theorem dR_weighsBy_87 : decode cX9_weighsBy 87 = .ok (.iconst 5, 1) := op_8 (rdSeg sd_08_cX9_weighsBy_2 23 rfl rfl)
theorem dR_weighsBy_88 : decode cX9_weighsBy 88 = .ok (.invokestatic 253, 3) := op_184 (rdSeg sd_08_cX9_weighsBy_2 24 rfl rfl) (rdSeg sd_08_cX9_weighsBy_2 25 rfl rfl) (rdSeg sd_08_cX9_weighsBy_2 26 rfl rfl) rfl
theorem dR_weighsBy_91 : decode cX9_weighsBy 91 = .ok (.iload_n 2, 1) := op_28 (rdSeg sd_08_cX9_weighsBy_2 27 rfl rfl)
theorem dR_weighsBy_92 : decode cX9_weighsBy 92 = .ok (.iconst 1, 1) := op_4 (rdSeg sd_08_cX9_weighsBy_2 28 rfl rfl)
theorem dR_weighsBy_93 : decode cX9_weighsBy 93 = .ok (.iadd, 1) := op_96 (rdSeg sd_08_cX9_weighsBy_2 29 rfl rfl)
theorem dR_weighsBy_94 : decode cX9_weighsBy 94 = .ok (.invokevirtual 262, 3) := op_182 (rdSeg sd_08_cX9_weighsBy_2 30 rfl rfl) (rdSeg sd_08_cX9_weighsBy_2 31 rfl rfl) (rdSeg sd_08_cX9_weighsBy_3 0 rfl rfl) rfl
theorem dR_weighsBy_97 : decode cX9_weighsBy 97 = .ok (.ireturn, 1) := op_172 (rdSeg sd_08_cX9_weighsBy_3 1 rfl rfl)
theorem dR_weighsBy_98 : decode cX9_weighsBy 98 = .ok (.aload_n 0, 1) := op_42 (rdSeg sd_08_cX9_weighsBy_3 2 rfl rfl)
theorem dR_weighsBy_99 : decode cX9_weighsBy 99 = .ok (.bipush 71, 2) := op_16 (rdSeg sd_08_cX9_weighsBy_3 3 rfl rfl) (rdSeg sd_08_cX9_weighsBy_3 4 rfl rfl) (by decide +kernel)
theorem dR_weighsBy_101 : decode cX9_weighsBy 101 = .ok (.invokevirtual 250, 3) := op_182 (rdSeg sd_08_cX9_weighsBy_3 5 rfl rfl) (rdSeg sd_08_cX9_weighsBy_3 6 rfl rfl) (rdSeg sd_08_cX9_weighsBy_3 7 rfl rfl) rfl
theorem dR_weighsBy_104 : decode cX9_weighsBy 104 = .ok (.aload_n 0, 1) := op_42 (rdSeg sd_08_cX9_weighsBy_3 8 rfl rfl)
theorem dR_weighsBy_105 : decode cX9_weighsBy 105 = .ok (.bipush 6, 2) := op_16 (rdSeg sd_08_cX9_weighsBy_3 9 rfl rfl) (rdSeg sd_08_cX9_weighsBy_3 10 rfl rfl) (by decide +kernel)
theorem dR_weighsBy_107 : decode cX9_weighsBy 107 = .ok (.invokestatic 253, 3) := op_184 (rdSeg sd_08_cX9_weighsBy_3 11 rfl rfl) (rdSeg sd_08_cX9_weighsBy_3 12 rfl rfl) (rdSeg sd_08_cX9_weighsBy_3 13 rfl rfl) rfl
theorem dR_weighsBy_110 : decode cX9_weighsBy 110 = .ok (.iload_n 2, 1) := op_28 (rdSeg sd_08_cX9_weighsBy_3 14 rfl rfl)
theorem dR_weighsBy_111 : decode cX9_weighsBy 111 = .ok (.invokevirtual 262, 3) := op_182 (rdSeg sd_08_cX9_weighsBy_3 15 rfl rfl) (rdSeg sd_08_cX9_weighsBy_3 16 rfl rfl) (rdSeg sd_08_cX9_weighsBy_3 17 rfl rfl) rfl
theorem dR_weighsBy_114 : decode cX9_weighsBy 114 = .ok (.aload_n 0, 1) := op_42 (rdSeg sd_08_cX9_weighsBy_3 18 rfl rfl)
theorem dR_weighsBy_115 : decode cX9_weighsBy 115 = .ok (.invokevirtual 265, 3) := op_182 (rdSeg sd_08_cX9_weighsBy_3 19 rfl rfl) (rdSeg sd_08_cX9_weighsBy_3 20 rfl rfl) (rdSeg sd_08_cX9_weighsBy_3 21 rfl rfl) rfl
theorem dR_weighsBy_118 : decode cX9_weighsBy 118 = .ok (.iadd, 1) := op_96 (rdSeg sd_08_cX9_weighsBy_3 22 rfl rfl)
theorem dR_weighsBy_119 : decode cX9_weighsBy 119 = .ok (.ireturn, 1) := op_172 (rdSeg sd_08_cX9_weighsBy_3 23 rfl rfl)
theorem dR_weighsBy_120 : decode cX9_weighsBy 120 = .ok (.aload_n 0, 1) := op_42 (rdSeg sd_08_cX9_weighsBy_3 24 rfl rfl)
theorem dR_weighsBy_121 : decode cX9_weighsBy 121 = .ok (.iload_n 1, 1) := op_27 (rdSeg sd_08_cX9_weighsBy_3 25 rfl rfl)
theorem dR_weighsBy_122 : decode cX9_weighsBy 122 = .ok (.invokestatic 253, 3) := op_184 (rdSeg sd_08_cX9_weighsBy_3 26 rfl rfl) (rdSeg sd_08_cX9_weighsBy_3 27 rfl rfl) (rdSeg sd_08_cX9_weighsBy_3 28 rfl rfl) rfl
theorem dR_weighsBy_125 : decode cX9_weighsBy 125 = .ok (.iload_n 2, 1) := op_28 (rdSeg sd_08_cX9_weighsBy_3 29 rfl rfl)
theorem dR_weighsBy_126 : decode cX9_weighsBy 126 = .ok (.invokevirtual 262, 3) := op_182 (rdSeg sd_08_cX9_weighsBy_3 30 rfl rfl) (rdSeg sd_08_cX9_weighsBy_3 31 rfl rfl) (rdSeg sd_08_cX9_weighsBy_4 0 rfl rfl) rfl
theorem dR_weighsBy_129 : decode cX9_weighsBy 129 = .ok (.ireturn, 1) := op_172 (rdSeg sd_08_cX9_weighsBy_4 1 rfl rfl)
def sg_08_cX9_meltsBy_3 : List UInt8 := [0x2a, 0x1b, 0xb8, 0x00, 0xfd, 0x1c, 0xb6, 0x01, 0x0c, 0xac]
def sg_08_cX9_meltsBy_2 : List UInt8 := 0x06 :: 0xb8 :: 0x00 :: 0xfd :: 0x1c :: 0x05 :: 0x6c :: 0xb6 :: 0x01 :: 0x0c :: 0xac :: 0x2a :: 0x10 :: 0x33 :: 0xb6 :: 0x00 :: 0xfa :: 0x2a :: 0x07 :: 0xb8 :: 0x00 :: 0xfd :: 0x1c :: 0xb6 :: 0x01 :: 0x0c :: 0x2a :: 0xb4 :: 0x00 :: 0xf7 :: 0x82 :: 0xac :: sg_08_cX9_meltsBy_3
def sg_08_cX9_meltsBy_1 : List UInt8 := 0x00 :: 0x00 :: 0x00 :: 0x4a :: 0x2a :: 0x10 :: 0x0c :: 0xb6 :: 0x00 :: 0xfa :: 0x2a :: 0x2a :: 0xb6 :: 0x01 :: 0x03 :: 0x1c :: 0xb6 :: 0x01 :: 0x06 :: 0x2a :: 0xb6 :: 0x01 :: 0x09 :: 0x64 :: 0xac :: 0x2a :: 0x10 :: 0x28 :: 0xb6 :: 0x00 :: 0xfa :: 0x2a :: sg_08_cX9_meltsBy_2
def sg_08_cX9_meltsBy_0 : List UInt8 := 0x1b :: 0xaa :: 0x00 :: 0x00 :: 0x00 :: 0x00 :: 0x00 :: 0x5f :: 0x00 :: 0x00 :: 0x00 :: 0x00 :: 0x00 :: 0x00 :: 0x00 :: 0x04 :: 0x00 :: 0x00 :: 0x00 :: 0x23 :: 0x00 :: 0x00 :: 0x00 :: 0x5f :: 0x00 :: 0x00 :: 0x00 :: 0x5f :: 0x00 :: 0x00 :: 0x00 :: 0x38 :: sg_08_cX9_meltsBy_1
set_option maxRecDepth 100000 in
theorem sd_08_cX9_meltsBy_0 : cX9_meltsBy.data.toList.drop 0 = sg_08_cX9_meltsBy_0 := by decide +kernel
theorem sd_08_cX9_meltsBy_1 : cX9_meltsBy.data.toList.drop 32 = sg_08_cX9_meltsBy_1 := sg_next sd_08_cX9_meltsBy_0 rfl
theorem sd_08_cX9_meltsBy_2 : cX9_meltsBy.data.toList.drop 64 = sg_08_cX9_meltsBy_2 := sg_next sd_08_cX9_meltsBy_1 rfl
theorem sd_08_cX9_meltsBy_3 : cX9_meltsBy.data.toList.drop 96 = sg_08_cX9_meltsBy_3 := sg_next sd_08_cX9_meltsBy_2 rfl
theorem dR_meltsBy_0 : decode cX9_meltsBy 0 = .ok (.iload_n 1, 1) := op_27 (rdSeg sd_08_cX9_meltsBy_0 0 rfl rfl)
theorem dR_meltsBy_1 : decode cX9_meltsBy 1 = .ok (.tableswitch 95 0 4 #[35, 95, 95, 56, 74], 35) := by decide +kernel
theorem dR_meltsBy_36 : decode cX9_meltsBy 36 = .ok (.aload_n 0, 1) := op_42 (rdSeg sd_08_cX9_meltsBy_1 4 rfl rfl)
theorem dR_meltsBy_37 : decode cX9_meltsBy 37 = .ok (.bipush 12, 2) := op_16 (rdSeg sd_08_cX9_meltsBy_1 5 rfl rfl) (rdSeg sd_08_cX9_meltsBy_1 6 rfl rfl) (by decide +kernel)
theorem dR_meltsBy_39 : decode cX9_meltsBy 39 = .ok (.invokevirtual 250, 3) := op_182 (rdSeg sd_08_cX9_meltsBy_1 7 rfl rfl) (rdSeg sd_08_cX9_meltsBy_1 8 rfl rfl) (rdSeg sd_08_cX9_meltsBy_1 9 rfl rfl) rfl
theorem dR_meltsBy_42 : decode cX9_meltsBy 42 = .ok (.aload_n 0, 1) := op_42 (rdSeg sd_08_cX9_meltsBy_1 10 rfl rfl)
theorem dR_meltsBy_43 : decode cX9_meltsBy 43 = .ok (.aload_n 0, 1) := op_42 (rdSeg sd_08_cX9_meltsBy_1 11 rfl rfl)
theorem dR_meltsBy_44 : decode cX9_meltsBy 44 = .ok (.invokevirtual 259, 3) := op_182 (rdSeg sd_08_cX9_meltsBy_1 12 rfl rfl) (rdSeg sd_08_cX9_meltsBy_1 13 rfl rfl) (rdSeg sd_08_cX9_meltsBy_1 14 rfl rfl) rfl
theorem dR_meltsBy_47 : decode cX9_meltsBy 47 = .ok (.iload_n 2, 1) := op_28 (rdSeg sd_08_cX9_meltsBy_1 15 rfl rfl)
theorem dR_meltsBy_48 : decode cX9_meltsBy 48 = .ok (.invokevirtual 262, 3) := op_182 (rdSeg sd_08_cX9_meltsBy_1 16 rfl rfl) (rdSeg sd_08_cX9_meltsBy_1 17 rfl rfl) (rdSeg sd_08_cX9_meltsBy_1 18 rfl rfl) rfl
theorem dR_meltsBy_51 : decode cX9_meltsBy 51 = .ok (.aload_n 0, 1) := op_42 (rdSeg sd_08_cX9_meltsBy_1 19 rfl rfl)
theorem dR_meltsBy_52 : decode cX9_meltsBy 52 = .ok (.invokevirtual 265, 3) := op_182 (rdSeg sd_08_cX9_meltsBy_1 20 rfl rfl) (rdSeg sd_08_cX9_meltsBy_1 21 rfl rfl) (rdSeg sd_08_cX9_meltsBy_1 22 rfl rfl) rfl
theorem dR_meltsBy_55 : decode cX9_meltsBy 55 = .ok (.isub, 1) := op_100 (rdSeg sd_08_cX9_meltsBy_1 23 rfl rfl)
theorem dR_meltsBy_56 : decode cX9_meltsBy 56 = .ok (.ireturn, 1) := op_172 (rdSeg sd_08_cX9_meltsBy_1 24 rfl rfl)
theorem dR_meltsBy_57 : decode cX9_meltsBy 57 = .ok (.aload_n 0, 1) := op_42 (rdSeg sd_08_cX9_meltsBy_1 25 rfl rfl)
theorem dR_meltsBy_58 : decode cX9_meltsBy 58 = .ok (.bipush 40, 2) := op_16 (rdSeg sd_08_cX9_meltsBy_1 26 rfl rfl) (rdSeg sd_08_cX9_meltsBy_1 27 rfl rfl) (by decide +kernel)
theorem dR_meltsBy_60 : decode cX9_meltsBy 60 = .ok (.invokevirtual 250, 3) := op_182 (rdSeg sd_08_cX9_meltsBy_1 28 rfl rfl) (rdSeg sd_08_cX9_meltsBy_1 29 rfl rfl) (rdSeg sd_08_cX9_meltsBy_1 30 rfl rfl) rfl
theorem dR_meltsBy_63 : decode cX9_meltsBy 63 = .ok (.aload_n 0, 1) := op_42 (rdSeg sd_08_cX9_meltsBy_1 31 rfl rfl)
theorem dR_meltsBy_64 : decode cX9_meltsBy 64 = .ok (.iconst 3, 1) := op_6 (rdSeg sd_08_cX9_meltsBy_2 0 rfl rfl)
theorem dR_meltsBy_65 : decode cX9_meltsBy 65 = .ok (.invokestatic 253, 3) := op_184 (rdSeg sd_08_cX9_meltsBy_2 1 rfl rfl) (rdSeg sd_08_cX9_meltsBy_2 2 rfl rfl) (rdSeg sd_08_cX9_meltsBy_2 3 rfl rfl) rfl
theorem dR_meltsBy_68 : decode cX9_meltsBy 68 = .ok (.iload_n 2, 1) := op_28 (rdSeg sd_08_cX9_meltsBy_2 4 rfl rfl)
theorem dR_meltsBy_69 : decode cX9_meltsBy 69 = .ok (.iconst 2, 1) := op_5 (rdSeg sd_08_cX9_meltsBy_2 5 rfl rfl)
theorem dR_meltsBy_70 : decode cX9_meltsBy 70 = .ok (.idiv, 1) := op_108 (rdSeg sd_08_cX9_meltsBy_2 6 rfl rfl)
theorem dR_meltsBy_71 : decode cX9_meltsBy 71 = .ok (.invokevirtual 268, 3) := op_182 (rdSeg sd_08_cX9_meltsBy_2 7 rfl rfl) (rdSeg sd_08_cX9_meltsBy_2 8 rfl rfl) (rdSeg sd_08_cX9_meltsBy_2 9 rfl rfl) rfl
theorem dR_meltsBy_74 : decode cX9_meltsBy 74 = .ok (.ireturn, 1) := op_172 (rdSeg sd_08_cX9_meltsBy_2 10 rfl rfl)
theorem dR_meltsBy_75 : decode cX9_meltsBy 75 = .ok (.aload_n 0, 1) := op_42 (rdSeg sd_08_cX9_meltsBy_2 11 rfl rfl)
theorem dR_meltsBy_76 : decode cX9_meltsBy 76 = .ok (.bipush 51, 2) := op_16 (rdSeg sd_08_cX9_meltsBy_2 12 rfl rfl) (rdSeg sd_08_cX9_meltsBy_2 13 rfl rfl) (by decide +kernel)
theorem dR_meltsBy_78 : decode cX9_meltsBy 78 = .ok (.invokevirtual 250, 3) := op_182 (rdSeg sd_08_cX9_meltsBy_2 14 rfl rfl) (rdSeg sd_08_cX9_meltsBy_2 15 rfl rfl) (rdSeg sd_08_cX9_meltsBy_2 16 rfl rfl) rfl
theorem dR_meltsBy_81 : decode cX9_meltsBy 81 = .ok (.aload_n 0, 1) := op_42 (rdSeg sd_08_cX9_meltsBy_2 17 rfl rfl)
theorem dR_meltsBy_82 : decode cX9_meltsBy 82 = .ok (.iconst 4, 1) := op_7 (rdSeg sd_08_cX9_meltsBy_2 18 rfl rfl)
theorem dR_meltsBy_83 : decode cX9_meltsBy 83 = .ok (.invokestatic 253, 3) := op_184 (rdSeg sd_08_cX9_meltsBy_2 19 rfl rfl) (rdSeg sd_08_cX9_meltsBy_2 20 rfl rfl) (rdSeg sd_08_cX9_meltsBy_2 21 rfl rfl) rfl
theorem dR_meltsBy_86 : decode cX9_meltsBy 86 = .ok (.iload_n 2, 1) := op_28 (rdSeg sd_08_cX9_meltsBy_2 22 rfl rfl)
theorem dR_meltsBy_87 : decode cX9_meltsBy 87 = .ok (.invokevirtual 268, 3) := op_182 (rdSeg sd_08_cX9_meltsBy_2 23 rfl rfl) (rdSeg sd_08_cX9_meltsBy_2 24 rfl rfl) (rdSeg sd_08_cX9_meltsBy_2 25 rfl rfl) rfl
theorem dR_meltsBy_90 : decode cX9_meltsBy 90 = .ok (.aload_n 0, 1) := op_42 (rdSeg sd_08_cX9_meltsBy_2 26 rfl rfl)
theorem dR_meltsBy_91 : decode cX9_meltsBy 91 = .ok (.getfield 247, 3) := op_180 (rdSeg sd_08_cX9_meltsBy_2 27 rfl rfl) (rdSeg sd_08_cX9_meltsBy_2 28 rfl rfl) (rdSeg sd_08_cX9_meltsBy_2 29 rfl rfl) rfl
theorem dR_meltsBy_94 : decode cX9_meltsBy 94 = .ok (.ixor, 1) := op_130 (rdSeg sd_08_cX9_meltsBy_2 30 rfl rfl)
theorem dR_meltsBy_95 : decode cX9_meltsBy 95 = .ok (.ireturn, 1) := op_172 (rdSeg sd_08_cX9_meltsBy_2 31 rfl rfl)
theorem dR_meltsBy_96 : decode cX9_meltsBy 96 = .ok (.aload_n 0, 1) := op_42 (rdSeg sd_08_cX9_meltsBy_3 0 rfl rfl)
theorem dR_meltsBy_97 : decode cX9_meltsBy 97 = .ok (.iload_n 1, 1) := op_27 (rdSeg sd_08_cX9_meltsBy_3 1 rfl rfl)
theorem dR_meltsBy_98 : decode cX9_meltsBy 98 = .ok (.invokestatic 253, 3) := op_184 (rdSeg sd_08_cX9_meltsBy_3 2 rfl rfl) (rdSeg sd_08_cX9_meltsBy_3 3 rfl rfl) (rdSeg sd_08_cX9_meltsBy_3 4 rfl rfl) rfl
theorem dR_meltsBy_101 : decode cX9_meltsBy 101 = .ok (.iload_n 2, 1) := op_28 (rdSeg sd_08_cX9_meltsBy_3 5 rfl rfl)
theorem dR_meltsBy_102 : decode cX9_meltsBy 102 = .ok (.invokevirtual 268, 3) := op_182 (rdSeg sd_08_cX9_meltsBy_3 6 rfl rfl) (rdSeg sd_08_cX9_meltsBy_3 7 rfl rfl) (rdSeg sd_08_cX9_meltsBy_3 8 rfl rfl) rfl
theorem dR_meltsBy_105 : decode cX9_meltsBy 105 = .ok (.ireturn, 1) := op_172 (rdSeg sd_08_cX9_meltsBy_3 9 rfl rfl)
def sg_08_cX9_partsBy_4 : List UInt8 := [0x13, 0xac]
def sg_08_cX9_partsBy_3 : List UInt8 := 0x2a :: 0xb4 :: 0x01 :: 0x0f :: 0x99 :: 0x00 :: 0x07 :: 0x03 :: 0xa7 :: 0x00 :: 0x0f :: 0x15 :: 0x04 :: 0x2a :: 0x2a :: 0xb6 :: 0x01 :: 0x03 :: 0x04 :: 0xb6 :: 0x01 :: 0x06 :: 0x60 :: 0xac :: 0x2a :: 0x1b :: 0xb8 :: 0x00 :: 0xfd :: 0x1c :: 0xb6 :: 0x01 :: sg_08_cX9_partsBy_4
def sg_08_cX9_partsBy_2 : List UInt8 := 0x10 :: 0x1d :: 0x02 :: 0xa0 :: 0x00 :: 0x08 :: 0x1c :: 0x74 :: 0xa7 :: 0x00 :: 0x06 :: 0x1c :: 0x1d :: 0x6c :: 0xac :: 0x2a :: 0x10 :: 0x15 :: 0xb6 :: 0x00 :: 0xfa :: 0x2a :: 0x04 :: 0xb8 :: 0x00 :: 0xfd :: 0x1c :: 0xb6 :: 0x01 :: 0x13 :: 0x36 :: 0x04 :: sg_08_cX9_partsBy_3
def sg_08_cX9_partsBy_1 : List UInt8 := 0x00 :: 0xfa :: 0x2a :: 0xb6 :: 0x01 :: 0x09 :: 0x2a :: 0xb4 :: 0x00 :: 0xf7 :: 0x64 :: 0x3e :: 0x2a :: 0x1d :: 0x9a :: 0x00 :: 0x07 :: 0x04 :: 0xa7 :: 0x00 :: 0x04 :: 0x03 :: 0xb5 :: 0x01 :: 0x0f :: 0x1d :: 0x9a :: 0x00 :: 0x07 :: 0x03 :: 0xa7 :: 0x00 :: sg_08_cX9_partsBy_2
def sg_08_cX9_partsBy_0 : List UInt8 := 0x1b :: 0xab :: 0x00 :: 0x00 :: 0x00 :: 0x00 :: 0x00 :: 0x77 :: 0x00 :: 0x00 :: 0x00 :: 0x02 :: 0x00 :: 0x00 :: 0x00 :: 0x00 :: 0x00 :: 0x00 :: 0x00 :: 0x1b :: 0x00 :: 0x00 :: 0x00 :: 0x01 :: 0x00 :: 0x00 :: 0x00 :: 0x4e :: 0x2a :: 0x10 :: 0x0d :: 0xb6 :: sg_08_cX9_partsBy_1
set_option maxRecDepth 100000 in
theorem sd_08_cX9_partsBy_0 : cX9_partsBy.data.toList.drop 0 = sg_08_cX9_partsBy_0 := by decide +kernel
theorem sd_08_cX9_partsBy_1 : cX9_partsBy.data.toList.drop 32 = sg_08_cX9_partsBy_1 := sg_next sd_08_cX9_partsBy_0 rfl
theorem sd_08_cX9_partsBy_2 : cX9_partsBy.data.toList.drop 64 = sg_08_cX9_partsBy_2 := sg_next sd_08_cX9_partsBy_1 rfl
theorem sd_08_cX9_partsBy_3 : cX9_partsBy.data.toList.drop 96 = sg_08_cX9_partsBy_3 := sg_next sd_08_cX9_partsBy_2 rfl
theorem sd_08_cX9_partsBy_4 : cX9_partsBy.data.toList.drop 128 = sg_08_cX9_partsBy_4 := sg_next sd_08_cX9_partsBy_3 rfl
theorem dR_partsBy_0 : decode cX9_partsBy 0 = .ok (.iload_n 1, 1) := op_27 (rdSeg sd_08_cX9_partsBy_0 0 rfl rfl)
theorem dR_partsBy_1 : decode cX9_partsBy 1 = .ok (.lookupswitch 119 #[(0, 27), (1, 78)], 27) := by decide +kernel
theorem dR_partsBy_28 : decode cX9_partsBy 28 = .ok (.aload_n 0, 1) := op_42 (rdSeg sd_08_cX9_partsBy_0 28 rfl rfl)
theorem dR_partsBy_29 : decode cX9_partsBy 29 = .ok (.bipush 13, 2) := op_16 (rdSeg sd_08_cX9_partsBy_0 29 rfl rfl) (rdSeg sd_08_cX9_partsBy_0 30 rfl rfl) (by decide +kernel)
theorem dR_partsBy_31 : decode cX9_partsBy 31 = .ok (.invokevirtual 250, 3) := op_182 (rdSeg sd_08_cX9_partsBy_0 31 rfl rfl) (rdSeg sd_08_cX9_partsBy_1 0 rfl rfl) (rdSeg sd_08_cX9_partsBy_1 1 rfl rfl) rfl
theorem dR_partsBy_34 : decode cX9_partsBy 34 = .ok (.aload_n 0, 1) := op_42 (rdSeg sd_08_cX9_partsBy_1 2 rfl rfl)
theorem dR_partsBy_35 : decode cX9_partsBy 35 = .ok (.invokevirtual 265, 3) := op_182 (rdSeg sd_08_cX9_partsBy_1 3 rfl rfl) (rdSeg sd_08_cX9_partsBy_1 4 rfl rfl) (rdSeg sd_08_cX9_partsBy_1 5 rfl rfl) rfl
theorem dR_partsBy_38 : decode cX9_partsBy 38 = .ok (.aload_n 0, 1) := op_42 (rdSeg sd_08_cX9_partsBy_1 6 rfl rfl)
theorem dR_partsBy_39 : decode cX9_partsBy 39 = .ok (.getfield 247, 3) := op_180 (rdSeg sd_08_cX9_partsBy_1 7 rfl rfl) (rdSeg sd_08_cX9_partsBy_1 8 rfl rfl) (rdSeg sd_08_cX9_partsBy_1 9 rfl rfl) rfl
theorem dR_partsBy_42 : decode cX9_partsBy 42 = .ok (.isub, 1) := op_100 (rdSeg sd_08_cX9_partsBy_1 10 rfl rfl)
theorem dR_partsBy_43 : decode cX9_partsBy 43 = .ok (.istore_n 3, 1) := op_62 (rdSeg sd_08_cX9_partsBy_1 11 rfl rfl)
theorem dR_partsBy_44 : decode cX9_partsBy 44 = .ok (.aload_n 0, 1) := op_42 (rdSeg sd_08_cX9_partsBy_1 12 rfl rfl)
theorem dR_partsBy_45 : decode cX9_partsBy 45 = .ok (.iload_n 3, 1) := op_29 (rdSeg sd_08_cX9_partsBy_1 13 rfl rfl)
theorem dR_partsBy_46 : decode cX9_partsBy 46 = .ok (.ifCond .ne 7, 3) := op_154 (rdSeg sd_08_cX9_partsBy_1 14 rfl rfl) (rdSeg sd_08_cX9_partsBy_1 15 rfl rfl) (rdSeg sd_08_cX9_partsBy_1 16 rfl rfl) (by decide +kernel)
theorem dR_partsBy_49 : decode cX9_partsBy 49 = .ok (.iconst 1, 1) := op_4 (rdSeg sd_08_cX9_partsBy_1 17 rfl rfl)
theorem dR_partsBy_50 : decode cX9_partsBy 50 = .ok (.goto 4, 3) := op_167 (rdSeg sd_08_cX9_partsBy_1 18 rfl rfl) (rdSeg sd_08_cX9_partsBy_1 19 rfl rfl) (rdSeg sd_08_cX9_partsBy_1 20 rfl rfl) (by decide +kernel)
theorem dR_partsBy_53 : decode cX9_partsBy 53 = .ok (.iconst 0, 1) := op_3 (rdSeg sd_08_cX9_partsBy_1 21 rfl rfl)
theorem dR_partsBy_54 : decode cX9_partsBy 54 = .ok (.putfield 271, 3) := op_181 (rdSeg sd_08_cX9_partsBy_1 22 rfl rfl) (rdSeg sd_08_cX9_partsBy_1 23 rfl rfl) (rdSeg sd_08_cX9_partsBy_1 24 rfl rfl) rfl
theorem dR_partsBy_57 : decode cX9_partsBy 57 = .ok (.iload_n 3, 1) := op_29 (rdSeg sd_08_cX9_partsBy_1 25 rfl rfl)
theorem dR_partsBy_58 : decode cX9_partsBy 58 = .ok (.ifCond .ne 7, 3) := op_154 (rdSeg sd_08_cX9_partsBy_1 26 rfl rfl) (rdSeg sd_08_cX9_partsBy_1 27 rfl rfl) (rdSeg sd_08_cX9_partsBy_1 28 rfl rfl) (by decide +kernel)
theorem dR_partsBy_61 : decode cX9_partsBy 61 = .ok (.iconst 0, 1) := op_3 (rdSeg sd_08_cX9_partsBy_1 29 rfl rfl)
theorem dR_partsBy_62 : decode cX9_partsBy 62 = .ok (.goto 16, 3) := op_167 (rdSeg sd_08_cX9_partsBy_1 30 rfl rfl) (rdSeg sd_08_cX9_partsBy_1 31 rfl rfl) (rdSeg sd_08_cX9_partsBy_2 0 rfl rfl) (by decide +kernel)
theorem dR_partsBy_65 : decode cX9_partsBy 65 = .ok (.iload_n 3, 1) := op_29 (rdSeg sd_08_cX9_partsBy_2 1 rfl rfl)
theorem dR_partsBy_66 : decode cX9_partsBy 66 = .ok (.iconst (-1), 1) := op_2 (rdSeg sd_08_cX9_partsBy_2 2 rfl rfl)
theorem dR_partsBy_67 : decode cX9_partsBy 67 = .ok (.if_icmp .ne 8, 3) := op_160 (rdSeg sd_08_cX9_partsBy_2 3 rfl rfl) (rdSeg sd_08_cX9_partsBy_2 4 rfl rfl) (rdSeg sd_08_cX9_partsBy_2 5 rfl rfl) (by decide +kernel)
theorem dR_partsBy_70 : decode cX9_partsBy 70 = .ok (.iload_n 2, 1) := op_28 (rdSeg sd_08_cX9_partsBy_2 6 rfl rfl)
theorem dR_partsBy_71 : decode cX9_partsBy 71 = .ok (.ineg, 1) := op_116 (rdSeg sd_08_cX9_partsBy_2 7 rfl rfl)
theorem dR_partsBy_72 : decode cX9_partsBy 72 = .ok (.goto 6, 3) := op_167 (rdSeg sd_08_cX9_partsBy_2 8 rfl rfl) (rdSeg sd_08_cX9_partsBy_2 9 rfl rfl) (rdSeg sd_08_cX9_partsBy_2 10 rfl rfl) (by decide +kernel)
theorem dR_partsBy_75 : decode cX9_partsBy 75 = .ok (.iload_n 2, 1) := op_28 (rdSeg sd_08_cX9_partsBy_2 11 rfl rfl)
theorem dR_partsBy_76 : decode cX9_partsBy 76 = .ok (.iload_n 3, 1) := op_29 (rdSeg sd_08_cX9_partsBy_2 12 rfl rfl)
theorem dR_partsBy_77 : decode cX9_partsBy 77 = .ok (.idiv, 1) := op_108 (rdSeg sd_08_cX9_partsBy_2 13 rfl rfl)
theorem dR_partsBy_78 : decode cX9_partsBy 78 = .ok (.ireturn, 1) := op_172 (rdSeg sd_08_cX9_partsBy_2 14 rfl rfl)
theorem dR_partsBy_79 : decode cX9_partsBy 79 = .ok (.aload_n 0, 1) := op_42 (rdSeg sd_08_cX9_partsBy_2 15 rfl rfl)
theorem dR_partsBy_80 : decode cX9_partsBy 80 = .ok (.bipush 21, 2) := op_16 (rdSeg sd_08_cX9_partsBy_2 16 rfl rfl) (rdSeg sd_08_cX9_partsBy_2 17 rfl rfl) (by decide +kernel)
theorem dR_partsBy_82 : decode cX9_partsBy 82 = .ok (.invokevirtual 250, 3) := op_182 (rdSeg sd_08_cX9_partsBy_2 18 rfl rfl) (rdSeg sd_08_cX9_partsBy_2 19 rfl rfl) (rdSeg sd_08_cX9_partsBy_2 20 rfl rfl) rfl
theorem dR_partsBy_85 : decode cX9_partsBy 85 = .ok (.aload_n 0, 1) := op_42 (rdSeg sd_08_cX9_partsBy_2 21 rfl rfl)
theorem dR_partsBy_86 : decode cX9_partsBy 86 = .ok (.iconst 1, 1) := op_4 (rdSeg sd_08_cX9_partsBy_2 22 rfl rfl)
theorem dR_partsBy_87 : decode cX9_partsBy 87 = .ok (.invokestatic 253, 3) := op_184 (rdSeg sd_08_cX9_partsBy_2 23 rfl rfl) (rdSeg sd_08_cX9_partsBy_2 24 rfl rfl) (rdSeg sd_08_cX9_partsBy_2 25 rfl rfl) rfl
theorem dR_partsBy_90 : decode cX9_partsBy 90 = .ok (.iload_n 2, 1) := op_28 (rdSeg sd_08_cX9_partsBy_2 26 rfl rfl)
theorem dR_partsBy_91 : decode cX9_partsBy 91 = .ok (.invokevirtual 275, 3) := op_182 (rdSeg sd_08_cX9_partsBy_2 27 rfl rfl) (rdSeg sd_08_cX9_partsBy_2 28 rfl rfl) (rdSeg sd_08_cX9_partsBy_2 29 rfl rfl) rfl
theorem dR_partsBy_94 : decode cX9_partsBy 94 = .ok (.istore 4, 2) := op_54 (rdSeg sd_08_cX9_partsBy_2 30 rfl rfl) (rdSeg sd_08_cX9_partsBy_2 31 rfl rfl)
theorem dR_partsBy_96 : decode cX9_partsBy 96 = .ok (.aload_n 0, 1) := op_42 (rdSeg sd_08_cX9_partsBy_3 0 rfl rfl)
theorem dR_partsBy_97 : decode cX9_partsBy 97 = .ok (.getfield 271, 3) := op_180 (rdSeg sd_08_cX9_partsBy_3 1 rfl rfl) (rdSeg sd_08_cX9_partsBy_3 2 rfl rfl) (rdSeg sd_08_cX9_partsBy_3 3 rfl rfl) rfl
theorem dR_partsBy_100 : decode cX9_partsBy 100 = .ok (.ifCond .eq 7, 3) := op_153 (rdSeg sd_08_cX9_partsBy_3 4 rfl rfl) (rdSeg sd_08_cX9_partsBy_3 5 rfl rfl) (rdSeg sd_08_cX9_partsBy_3 6 rfl rfl) (by decide +kernel)
theorem dR_partsBy_103 : decode cX9_partsBy 103 = .ok (.iconst 0, 1) := op_3 (rdSeg sd_08_cX9_partsBy_3 7 rfl rfl)
theorem dR_partsBy_104 : decode cX9_partsBy 104 = .ok (.goto 15, 3) := op_167 (rdSeg sd_08_cX9_partsBy_3 8 rfl rfl) (rdSeg sd_08_cX9_partsBy_3 9 rfl rfl) (rdSeg sd_08_cX9_partsBy_3 10 rfl rfl) (by decide +kernel)
theorem dR_partsBy_107 : decode cX9_partsBy 107 = .ok (.iload 4, 2) := op_21 (rdSeg sd_08_cX9_partsBy_3 11 rfl rfl) (rdSeg sd_08_cX9_partsBy_3 12 rfl rfl)
theorem dR_partsBy_109 : decode cX9_partsBy 109 = .ok (.aload_n 0, 1) := op_42 (rdSeg sd_08_cX9_partsBy_3 13 rfl rfl)
theorem dR_partsBy_110 : decode cX9_partsBy 110 = .ok (.aload_n 0, 1) := op_42 (rdSeg sd_08_cX9_partsBy_3 14 rfl rfl)
theorem dR_partsBy_111 : decode cX9_partsBy 111 = .ok (.invokevirtual 259, 3) := op_182 (rdSeg sd_08_cX9_partsBy_3 15 rfl rfl) (rdSeg sd_08_cX9_partsBy_3 16 rfl rfl) (rdSeg sd_08_cX9_partsBy_3 17 rfl rfl) rfl
theorem dR_partsBy_114 : decode cX9_partsBy 114 = .ok (.iconst 1, 1) := op_4 (rdSeg sd_08_cX9_partsBy_3 18 rfl rfl)
theorem dR_partsBy_115 : decode cX9_partsBy 115 = .ok (.invokevirtual 262, 3) := op_182 (rdSeg sd_08_cX9_partsBy_3 19 rfl rfl) (rdSeg sd_08_cX9_partsBy_3 20 rfl rfl) (rdSeg sd_08_cX9_partsBy_3 21 rfl rfl) rfl
theorem dR_partsBy_118 : decode cX9_partsBy 118 = .ok (.iadd, 1) := op_96 (rdSeg sd_08_cX9_partsBy_3 22 rfl rfl)
theorem dR_partsBy_119 : decode cX9_partsBy 119 = .ok (.ireturn, 1) := op_172 (rdSeg sd_08_cX9_partsBy_3 23 rfl rfl)
theorem dR_partsBy_120 : decode cX9_partsBy 120 = .ok (.aload_n 0, 1) := op_42 (rdSeg sd_08_cX9_partsBy_3 24 rfl rfl)
theorem dR_partsBy_121 : decode cX9_partsBy 121 = .ok (.iload_n 1, 1) := op_27 (rdSeg sd_08_cX9_partsBy_3 25 rfl rfl)
theorem dR_partsBy_122 : decode cX9_partsBy 122 = .ok (.invokestatic 253, 3) := op_184 (rdSeg sd_08_cX9_partsBy_3 26 rfl rfl) (rdSeg sd_08_cX9_partsBy_3 27 rfl rfl) (rdSeg sd_08_cX9_partsBy_3 28 rfl rfl) rfl
theorem dR_partsBy_125 : decode cX9_partsBy 125 = .ok (.iload_n 2, 1) := op_28 (rdSeg sd_08_cX9_partsBy_3 29 rfl rfl)
theorem dR_partsBy_126 : decode cX9_partsBy 126 = .ok (.invokevirtual 275, 3) := op_182 (rdSeg sd_08_cX9_partsBy_3 30 rfl rfl) (rdSeg sd_08_cX9_partsBy_3 31 rfl rfl) (rdSeg sd_08_cX9_partsBy_4 0 rfl rfl) rfl
theorem dR_partsBy_129 : decode cX9_partsBy 129 = .ok (.ireturn, 1) := op_172 (rdSeg sd_08_cX9_partsBy_4 1 rfl rfl)
def sg_08_cX9_voice_3 : List UInt8 := [0x05, 0x2a, 0xb4, 0x01, 0x0f, 0x99, 0x00, 0x0c, 0x2a, 0x10, 0x06, 0xb6, 0x00, 0x3e, 0xa7, 0x00, 0x05, 0x15, 0x05, 0xac]
def sg_08_cX9_voice_2 : List UInt8 := 0x15 :: 0x04 :: 0x1d :: 0xb6 :: 0x01 :: 0x06 :: 0xa7 :: 0x00 :: 0x19 :: 0x1c :: 0x05 :: 0xa0 :: 0x00 :: 0x0d :: 0x2a :: 0x15 :: 0x04 :: 0x1d :: 0xb6 :: 0x01 :: 0x0c :: 0xa7 :: 0x00 :: 0x0a :: 0x2a :: 0x15 :: 0x04 :: 0x1d :: 0xb6 :: 0x01 :: 0x13 :: 0x36 :: sg_08_cX9_voice_3
def sg_08_cX9_voice_1 : List UInt8 := 0xf7 :: 0x2a :: 0x03 :: 0xb5 :: 0x01 :: 0x0f :: 0x2a :: 0xb6 :: 0x01 :: 0x03 :: 0x36 :: 0x04 :: 0x1c :: 0x9a :: 0x00 :: 0x0d :: 0x2a :: 0x15 :: 0x04 :: 0x1d :: 0xb6 :: 0x01 :: 0x00 :: 0xa7 :: 0x00 :: 0x28 :: 0x1c :: 0x04 :: 0xa0 :: 0x00 :: 0x0d :: 0x2a :: sg_08_cX9_voice_2
def sg_08_cX9_voice_0 : List UInt8 := 0x2a :: 0x1b :: 0xb6 :: 0x00 :: 0x4d :: 0x99 :: 0x00 :: 0x0c :: 0x1c :: 0x03 :: 0x06 :: 0xb8 :: 0x00 :: 0x35 :: 0x9a :: 0x00 :: 0x09 :: 0x2a :: 0x04 :: 0xb6 :: 0x00 :: 0x3e :: 0xac :: 0x2a :: 0x03 :: 0xb5 :: 0x00 :: 0xf4 :: 0x2a :: 0x1b :: 0xb5 :: 0x00 :: sg_08_cX9_voice_1
set_option maxRecDepth 100000 in
theorem sd_08_cX9_voice_0 : cX9_voice.data.toList.drop 0 = sg_08_cX9_voice_0 := by decide +kernel
theorem sd_08_cX9_voice_1 : cX9_voice.data.toList.drop 32 = sg_08_cX9_voice_1 := sg_next sd_08_cX9_voice_0 rfl
theorem sd_08_cX9_voice_2 : cX9_voice.data.toList.drop 64 = sg_08_cX9_voice_2 := sg_next sd_08_cX9_voice_1 rfl
theorem sd_08_cX9_voice_3 : cX9_voice.data.toList.drop 96 = sg_08_cX9_voice_3 := sg_next sd_08_cX9_voice_2 rfl
theorem dR_voice_0 : decode cX9_voice 0 = .ok (.aload_n 0, 1) := op_42 (rdSeg sd_08_cX9_voice_0 0 rfl rfl)
theorem dR_voice_1 : decode cX9_voice 1 = .ok (.iload_n 1, 1) := op_27 (rdSeg sd_08_cX9_voice_0 1 rfl rfl)
theorem dR_voice_2 : decode cX9_voice 2 = .ok (.invokevirtual 77, 3) := op_182 (rdSeg sd_08_cX9_voice_0 2 rfl rfl) (rdSeg sd_08_cX9_voice_0 3 rfl rfl) (rdSeg sd_08_cX9_voice_0 4 rfl rfl) rfl
theorem dR_voice_5 : decode cX9_voice 5 = .ok (.ifCond .eq 12, 3) := op_153 (rdSeg sd_08_cX9_voice_0 5 rfl rfl) (rdSeg sd_08_cX9_voice_0 6 rfl rfl) (rdSeg sd_08_cX9_voice_0 7 rfl rfl) (by decide +kernel)
theorem dR_voice_8 : decode cX9_voice 8 = .ok (.iload_n 2, 1) := op_28 (rdSeg sd_08_cX9_voice_0 8 rfl rfl)
theorem dR_voice_9 : decode cX9_voice 9 = .ok (.iconst 0, 1) := op_3 (rdSeg sd_08_cX9_voice_0 9 rfl rfl)
theorem dR_voice_10 : decode cX9_voice 10 = .ok (.iconst 3, 1) := op_6 (rdSeg sd_08_cX9_voice_0 10 rfl rfl)
theorem dR_voice_11 : decode cX9_voice 11 = .ok (.invokestatic 53, 3) := op_184 (rdSeg sd_08_cX9_voice_0 11 rfl rfl) (rdSeg sd_08_cX9_voice_0 12 rfl rfl) (rdSeg sd_08_cX9_voice_0 13 rfl rfl) rfl
theorem dR_voice_14 : decode cX9_voice 14 = .ok (.ifCond .ne 9, 3) := op_154 (rdSeg sd_08_cX9_voice_0 14 rfl rfl) (rdSeg sd_08_cX9_voice_0 15 rfl rfl) (rdSeg sd_08_cX9_voice_0 16 rfl rfl) (by decide +kernel)
theorem dR_voice_17 : decode cX9_voice 17 = .ok (.aload_n 0, 1) := op_42 (rdSeg sd_08_cX9_voice_0 17 rfl rfl)
theorem dR_voice_18 : decode cX9_voice 18 = .ok (.iconst 1, 1) := op_4 (rdSeg sd_08_cX9_voice_0 18 rfl rfl)
theorem dR_voice_19 : decode cX9_voice 19 = .ok (.invokevirtual 62, 3) := op_182 (rdSeg sd_08_cX9_voice_0 19 rfl rfl) (rdSeg sd_08_cX9_voice_0 20 rfl rfl) (rdSeg sd_08_cX9_voice_0 21 rfl rfl) rfl
theorem dR_voice_22 : decode cX9_voice 22 = .ok (.ireturn, 1) := op_172 (rdSeg sd_08_cX9_voice_0 22 rfl rfl)
theorem dR_voice_23 : decode cX9_voice 23 = .ok (.aload_n 0, 1) := op_42 (rdSeg sd_08_cX9_voice_0 23 rfl rfl)
theorem dR_voice_24 : decode cX9_voice 24 = .ok (.iconst 0, 1) := op_3 (rdSeg sd_08_cX9_voice_0 24 rfl rfl)
theorem dR_voice_25 : decode cX9_voice 25 = .ok (.putfield 244, 3) := op_181 (rdSeg sd_08_cX9_voice_0 25 rfl rfl) (rdSeg sd_08_cX9_voice_0 26 rfl rfl) (rdSeg sd_08_cX9_voice_0 27 rfl rfl) rfl
theorem dR_voice_28 : decode cX9_voice 28 = .ok (.aload_n 0, 1) := op_42 (rdSeg sd_08_cX9_voice_0 28 rfl rfl)
theorem dR_voice_29 : decode cX9_voice 29 = .ok (.iload_n 1, 1) := op_27 (rdSeg sd_08_cX9_voice_0 29 rfl rfl)
theorem dR_voice_30 : decode cX9_voice 30 = .ok (.putfield 247, 3) := op_181 (rdSeg sd_08_cX9_voice_0 30 rfl rfl) (rdSeg sd_08_cX9_voice_0 31 rfl rfl) (rdSeg sd_08_cX9_voice_1 0 rfl rfl) rfl
theorem dR_voice_33 : decode cX9_voice 33 = .ok (.aload_n 0, 1) := op_42 (rdSeg sd_08_cX9_voice_1 1 rfl rfl)
theorem dR_voice_34 : decode cX9_voice 34 = .ok (.iconst 0, 1) := op_3 (rdSeg sd_08_cX9_voice_1 2 rfl rfl)
theorem dR_voice_35 : decode cX9_voice 35 = .ok (.putfield 271, 3) := op_181 (rdSeg sd_08_cX9_voice_1 3 rfl rfl) (rdSeg sd_08_cX9_voice_1 4 rfl rfl) (rdSeg sd_08_cX9_voice_1 5 rfl rfl) rfl
theorem dR_voice_38 : decode cX9_voice 38 = .ok (.aload_n 0, 1) := op_42 (rdSeg sd_08_cX9_voice_1 6 rfl rfl)
theorem dR_voice_39 : decode cX9_voice 39 = .ok (.invokevirtual 259, 3) := op_182 (rdSeg sd_08_cX9_voice_1 7 rfl rfl) (rdSeg sd_08_cX9_voice_1 8 rfl rfl) (rdSeg sd_08_cX9_voice_1 9 rfl rfl) rfl
theorem dR_voice_42 : decode cX9_voice 42 = .ok (.istore 4, 2) := op_54 (rdSeg sd_08_cX9_voice_1 10 rfl rfl) (rdSeg sd_08_cX9_voice_1 11 rfl rfl)
theorem dR_voice_44 : decode cX9_voice 44 = .ok (.iload_n 2, 1) := op_28 (rdSeg sd_08_cX9_voice_1 12 rfl rfl)
theorem dR_voice_45 : decode cX9_voice 45 = .ok (.ifCond .ne 13, 3) := op_154 (rdSeg sd_08_cX9_voice_1 13 rfl rfl) (rdSeg sd_08_cX9_voice_1 14 rfl rfl) (rdSeg sd_08_cX9_voice_1 15 rfl rfl) (by decide +kernel)
theorem dR_voice_48 : decode cX9_voice 48 = .ok (.aload_n 0, 1) := op_42 (rdSeg sd_08_cX9_voice_1 16 rfl rfl)
theorem dR_voice_49 : decode cX9_voice 49 = .ok (.iload 4, 2) := op_21 (rdSeg sd_08_cX9_voice_1 17 rfl rfl) (rdSeg sd_08_cX9_voice_1 18 rfl rfl)
theorem dR_voice_51 : decode cX9_voice 51 = .ok (.iload_n 3, 1) := op_29 (rdSeg sd_08_cX9_voice_1 19 rfl rfl)
theorem dR_voice_52 : decode cX9_voice 52 = .ok (.invokevirtual 256, 3) := op_182 (rdSeg sd_08_cX9_voice_1 20 rfl rfl) (rdSeg sd_08_cX9_voice_1 21 rfl rfl) (rdSeg sd_08_cX9_voice_1 22 rfl rfl) rfl
theorem dR_voice_55 : decode cX9_voice 55 = .ok (.goto 40, 3) := op_167 (rdSeg sd_08_cX9_voice_1 23 rfl rfl) (rdSeg sd_08_cX9_voice_1 24 rfl rfl) (rdSeg sd_08_cX9_voice_1 25 rfl rfl) (by decide +kernel)
theorem dR_voice_58 : decode cX9_voice 58 = .ok (.iload_n 2, 1) := op_28 (rdSeg sd_08_cX9_voice_1 26 rfl rfl)
theorem dR_voice_59 : decode cX9_voice 59 = .ok (.iconst 1, 1) := op_4 (rdSeg sd_08_cX9_voice_1 27 rfl rfl)
theorem dR_voice_60 : decode cX9_voice 60 = .ok (.if_icmp .ne 13, 3) := op_160 (rdSeg sd_08_cX9_voice_1 28 rfl rfl) (rdSeg sd_08_cX9_voice_1 29 rfl rfl) (rdSeg sd_08_cX9_voice_1 30 rfl rfl) (by decide +kernel)
theorem dR_voice_63 : decode cX9_voice 63 = .ok (.aload_n 0, 1) := op_42 (rdSeg sd_08_cX9_voice_1 31 rfl rfl)
theorem dR_voice_64 : decode cX9_voice 64 = .ok (.iload 4, 2) := op_21 (rdSeg sd_08_cX9_voice_2 0 rfl rfl) (rdSeg sd_08_cX9_voice_2 1 rfl rfl)
theorem dR_voice_66 : decode cX9_voice 66 = .ok (.iload_n 3, 1) := op_29 (rdSeg sd_08_cX9_voice_2 2 rfl rfl)
theorem dR_voice_67 : decode cX9_voice 67 = .ok (.invokevirtual 262, 3) := op_182 (rdSeg sd_08_cX9_voice_2 3 rfl rfl) (rdSeg sd_08_cX9_voice_2 4 rfl rfl) (rdSeg sd_08_cX9_voice_2 5 rfl rfl) rfl
theorem dR_voice_70 : decode cX9_voice 70 = .ok (.goto 25, 3) := op_167 (rdSeg sd_08_cX9_voice_2 6 rfl rfl) (rdSeg sd_08_cX9_voice_2 7 rfl rfl) (rdSeg sd_08_cX9_voice_2 8 rfl rfl) (by decide +kernel)
theorem dR_voice_73 : decode cX9_voice 73 = .ok (.iload_n 2, 1) := op_28 (rdSeg sd_08_cX9_voice_2 9 rfl rfl)
theorem dR_voice_74 : decode cX9_voice 74 = .ok (.iconst 2, 1) := op_5 (rdSeg sd_08_cX9_voice_2 10 rfl rfl)
theorem dR_voice_75 : decode cX9_voice 75 = .ok (.if_icmp .ne 13, 3) := op_160 (rdSeg sd_08_cX9_voice_2 11 rfl rfl) (rdSeg sd_08_cX9_voice_2 12 rfl rfl) (rdSeg sd_08_cX9_voice_2 13 rfl rfl) (by decide +kernel)
theorem dR_voice_78 : decode cX9_voice 78 = .ok (.aload_n 0, 1) := op_42 (rdSeg sd_08_cX9_voice_2 14 rfl rfl)
theorem dR_voice_79 : decode cX9_voice 79 = .ok (.iload 4, 2) := op_21 (rdSeg sd_08_cX9_voice_2 15 rfl rfl) (rdSeg sd_08_cX9_voice_2 16 rfl rfl)
theorem dR_voice_81 : decode cX9_voice 81 = .ok (.iload_n 3, 1) := op_29 (rdSeg sd_08_cX9_voice_2 17 rfl rfl)
theorem dR_voice_82 : decode cX9_voice 82 = .ok (.invokevirtual 268, 3) := op_182 (rdSeg sd_08_cX9_voice_2 18 rfl rfl) (rdSeg sd_08_cX9_voice_2 19 rfl rfl) (rdSeg sd_08_cX9_voice_2 20 rfl rfl) rfl
theorem dR_voice_85 : decode cX9_voice 85 = .ok (.goto 10, 3) := op_167 (rdSeg sd_08_cX9_voice_2 21 rfl rfl) (rdSeg sd_08_cX9_voice_2 22 rfl rfl) (rdSeg sd_08_cX9_voice_2 23 rfl rfl) (by decide +kernel)
theorem dR_voice_88 : decode cX9_voice 88 = .ok (.aload_n 0, 1) := op_42 (rdSeg sd_08_cX9_voice_2 24 rfl rfl)
theorem dR_voice_89 : decode cX9_voice 89 = .ok (.iload 4, 2) := op_21 (rdSeg sd_08_cX9_voice_2 25 rfl rfl) (rdSeg sd_08_cX9_voice_2 26 rfl rfl)
theorem dR_voice_91 : decode cX9_voice 91 = .ok (.iload_n 3, 1) := op_29 (rdSeg sd_08_cX9_voice_2 27 rfl rfl)
theorem dR_voice_92 : decode cX9_voice 92 = .ok (.invokevirtual 275, 3) := op_182 (rdSeg sd_08_cX9_voice_2 28 rfl rfl) (rdSeg sd_08_cX9_voice_2 29 rfl rfl) (rdSeg sd_08_cX9_voice_2 30 rfl rfl) rfl
theorem dR_voice_95 : decode cX9_voice 95 = .ok (.istore 5, 2) := op_54 (rdSeg sd_08_cX9_voice_2 31 rfl rfl) (rdSeg sd_08_cX9_voice_3 0 rfl rfl)
theorem dR_voice_97 : decode cX9_voice 97 = .ok (.aload_n 0, 1) := op_42 (rdSeg sd_08_cX9_voice_3 1 rfl rfl)
theorem dR_voice_98 : decode cX9_voice 98 = .ok (.getfield 271, 3) := op_180 (rdSeg sd_08_cX9_voice_3 2 rfl rfl) (rdSeg sd_08_cX9_voice_3 3 rfl rfl) (rdSeg sd_08_cX9_voice_3 4 rfl rfl) rfl
theorem dR_voice_101 : decode cX9_voice 101 = .ok (.ifCond .eq 12, 3) := op_153 (rdSeg sd_08_cX9_voice_3 5 rfl rfl) (rdSeg sd_08_cX9_voice_3 6 rfl rfl) (rdSeg sd_08_cX9_voice_3 7 rfl rfl) (by decide +kernel)
theorem dR_voice_104 : decode cX9_voice 104 = .ok (.aload_n 0, 1) := op_42 (rdSeg sd_08_cX9_voice_3 8 rfl rfl)
theorem dR_voice_105 : decode cX9_voice 105 = .ok (.bipush 6, 2) := op_16 (rdSeg sd_08_cX9_voice_3 9 rfl rfl) (rdSeg sd_08_cX9_voice_3 10 rfl rfl) (by decide +kernel)
theorem dR_voice_107 : decode cX9_voice 107 = .ok (.invokevirtual 62, 3) := op_182 (rdSeg sd_08_cX9_voice_3 11 rfl rfl) (rdSeg sd_08_cX9_voice_3 12 rfl rfl) (rdSeg sd_08_cX9_voice_3 13 rfl rfl) rfl
theorem dR_voice_110 : decode cX9_voice 110 = .ok (.goto 5, 3) := op_167 (rdSeg sd_08_cX9_voice_3 14 rfl rfl) (rdSeg sd_08_cX9_voice_3 15 rfl rfl) (rdSeg sd_08_cX9_voice_3 16 rfl rfl) (by decide +kernel)
theorem dR_voice_113 : decode cX9_voice 113 = .ok (.iload 5, 2) := op_21 (rdSeg sd_08_cX9_voice_3 17 rfl rfl) (rdSeg sd_08_cX9_voice_3 18 rfl rfl)
theorem dR_voice_115 : decode cX9_voice 115 = .ok (.ireturn, 1) := op_172 (rdSeg sd_08_cX9_voice_3 19 rfl rfl)
def sg_08_cX9_body_0 : List UInt8 := [0x1b, 0x03, 0x2a, 0xb4, 0x00, 0xf4, 0x04, 0x64, 0xb8, 0x00, 0x35, 0x99, 0x00, 0x0c, 0x2a, 0xb4, 0x00, 0x25, 0x1b, 0x2e, 0xa7, 0x00, 0x08, 0x2a, 0x05, 0xb6, 0x00, 0x3e, 0xac]
set_option maxRecDepth 100000 in
theorem sd_08_cX9_body_0 : cX9_body.data.toList.drop 0 = sg_08_cX9_body_0 := by decide +kernel
theorem dR_body_0 : decode cX9_body 0 = .ok (.iload_n 1, 1) := op_27 (rdSeg sd_08_cX9_body_0 0 rfl rfl)
theorem dR_body_1 : decode cX9_body 1 = .ok (.iconst 0, 1) := op_3 (rdSeg sd_08_cX9_body_0 1 rfl rfl)
theorem dR_body_2 : decode cX9_body 2 = .ok (.aload_n 0, 1) := op_42 (rdSeg sd_08_cX9_body_0 2 rfl rfl)
theorem dR_body_3 : decode cX9_body 3 = .ok (.getfield 244, 3) := op_180 (rdSeg sd_08_cX9_body_0 3 rfl rfl) (rdSeg sd_08_cX9_body_0 4 rfl rfl) (rdSeg sd_08_cX9_body_0 5 rfl rfl) rfl
theorem dR_body_6 : decode cX9_body 6 = .ok (.iconst 1, 1) := op_4 (rdSeg sd_08_cX9_body_0 6 rfl rfl)
theorem dR_body_7 : decode cX9_body 7 = .ok (.isub, 1) := op_100 (rdSeg sd_08_cX9_body_0 7 rfl rfl)
theorem dR_body_8 : decode cX9_body 8 = .ok (.invokestatic 53, 3) := op_184 (rdSeg sd_08_cX9_body_0 8 rfl rfl) (rdSeg sd_08_cX9_body_0 9 rfl rfl) (rdSeg sd_08_cX9_body_0 10 rfl rfl) rfl
theorem dR_body_11 : decode cX9_body 11 = .ok (.ifCond .eq 12, 3) := op_153 (rdSeg sd_08_cX9_body_0 11 rfl rfl) (rdSeg sd_08_cX9_body_0 12 rfl rfl) (rdSeg sd_08_cX9_body_0 13 rfl rfl) (by decide +kernel)
theorem dR_body_14 : decode cX9_body 14 = .ok (.aload_n 0, 1) := op_42 (rdSeg sd_08_cX9_body_0 14 rfl rfl)
theorem dR_body_15 : decode cX9_body 15 = .ok (.getfield 37, 3) := op_180 (rdSeg sd_08_cX9_body_0 15 rfl rfl) (rdSeg sd_08_cX9_body_0 16 rfl rfl) (rdSeg sd_08_cX9_body_0 17 rfl rfl) rfl
theorem dR_body_18 : decode cX9_body 18 = .ok (.iload_n 1, 1) := op_27 (rdSeg sd_08_cX9_body_0 18 rfl rfl)
theorem dR_body_19 : decode cX9_body 19 = .ok (.iaload, 1) := op_46 (rdSeg sd_08_cX9_body_0 19 rfl rfl)
theorem dR_body_20 : decode cX9_body 20 = .ok (.goto 8, 3) := op_167 (rdSeg sd_08_cX9_body_0 20 rfl rfl) (rdSeg sd_08_cX9_body_0 21 rfl rfl) (rdSeg sd_08_cX9_body_0 22 rfl rfl) (by decide +kernel)
theorem dR_body_23 : decode cX9_body 23 = .ok (.aload_n 0, 1) := op_42 (rdSeg sd_08_cX9_body_0 23 rfl rfl)
theorem dR_body_24 : decode cX9_body 24 = .ok (.iconst 2, 1) := op_5 (rdSeg sd_08_cX9_body_0 24 rfl rfl)
theorem dR_body_25 : decode cX9_body 25 = .ok (.invokevirtual 62, 3) := op_182 (rdSeg sd_08_cX9_body_0 25 rfl rfl) (rdSeg sd_08_cX9_body_0 26 rfl rfl) (rdSeg sd_08_cX9_body_0 27 rfl rfl) rfl
theorem dR_body_28 : decode cX9_body 28 = .ok (.ireturn, 1) := op_172 (rdSeg sd_08_cX9_body_0 28 rfl rfl)
def sg_08_cX9_isSheet_0 : List UInt8 := [0x1a, 0x03, 0x06, 0xb8, 0x00, 0x35, 0xac]
set_option maxRecDepth 100000 in
theorem sd_08_cX9_isSheet_0 : cX9_isSheet.data.toList.drop 0 = sg_08_cX9_isSheet_0 := by decide +kernel
theorem dR_isSheet_0 : decode cX9_isSheet 0 = .ok (.iload_n 0, 1) := op_26 (rdSeg sd_08_cX9_isSheet_0 0 rfl rfl)
theorem dR_isSheet_1 : decode cX9_isSheet 1 = .ok (.iconst 0, 1) := op_3 (rdSeg sd_08_cX9_isSheet_0 1 rfl rfl)
theorem dR_isSheet_2 : decode cX9_isSheet 2 = .ok (.iconst 3, 1) := op_6 (rdSeg sd_08_cX9_isSheet_0 2 rfl rfl)
theorem dR_isSheet_3 : decode cX9_isSheet 3 = .ok (.invokestatic 53, 3) := op_184 (rdSeg sd_08_cX9_isSheet_0 3 rfl rfl) (rdSeg sd_08_cX9_isSheet_0 4 rfl rfl) (rdSeg sd_08_cX9_isSheet_0 5 rfl rfl) rfl
theorem dR_isSheet_6 : decode cX9_isSheet 6 = .ok (.ireturn, 1) := op_172 (rdSeg sd_08_cX9_isSheet_0 6 rfl rfl)
def sg_08_cX9_sheet_3 : List UInt8 := [0x16, 0x2a, 0xb4, 0x00, 0x2e, 0x10, 0x18, 0x1b, 0x68, 0x15, 0x04, 0x60, 0x03, 0x4f, 0x84, 0x04, 0x01, 0xa7, 0xff, 0xe9, 0x04, 0xac]
def sg_08_cX9_sheet_2 : List UInt8 := 0xac :: 0x2a :: 0xb4 :: 0x00 :: 0x28 :: 0x1b :: 0x1c :: 0x4f :: 0x2a :: 0xb4 :: 0x00 :: 0x2b :: 0x1b :: 0x1c :: 0x9a :: 0x00 :: 0x07 :: 0x03 :: 0xa7 :: 0x00 :: 0x04 :: 0x1d :: 0x4f :: 0x03 :: 0x36 :: 0x04 :: 0x15 :: 0x04 :: 0x10 :: 0x18 :: 0xa2 :: 0x00 :: sg_08_cX9_sheet_3
def sg_08_cX9_sheet_1 : List UInt8 := 0x00 :: 0x3e :: 0xac :: 0x1c :: 0x99 :: 0x00 :: 0x0d :: 0x1d :: 0x9c :: 0x00 :: 0x09 :: 0x2a :: 0x06 :: 0xb6 :: 0x00 :: 0x3e :: 0xac :: 0x1c :: 0x99 :: 0x00 :: 0x0f :: 0x1d :: 0x10 :: 0x18 :: 0xa4 :: 0x00 :: 0x09 :: 0x2a :: 0x04 :: 0xb6 :: 0x00 :: 0x3e :: sg_08_cX9_sheet_2
def sg_08_cX9_sheet_0 : List UInt8 := 0x1b :: 0xb8 :: 0x01 :: 0x16 :: 0x99 :: 0x00 :: 0x19 :: 0x1c :: 0x99 :: 0x00 :: 0x1b :: 0x1c :: 0x10 :: 0x08 :: 0x9f :: 0x00 :: 0x15 :: 0x1c :: 0x10 :: 0x10 :: 0x9f :: 0x00 :: 0x0f :: 0x1c :: 0x10 :: 0x20 :: 0x9f :: 0x00 :: 0x09 :: 0x2a :: 0x04 :: 0xb6 :: sg_08_cX9_sheet_1
set_option maxRecDepth 100000 in
theorem sd_08_cX9_sheet_0 : cX9_sheet.data.toList.drop 0 = sg_08_cX9_sheet_0 := by decide +kernel
theorem sd_08_cX9_sheet_1 : cX9_sheet.data.toList.drop 32 = sg_08_cX9_sheet_1 := sg_next sd_08_cX9_sheet_0 rfl
theorem sd_08_cX9_sheet_2 : cX9_sheet.data.toList.drop 64 = sg_08_cX9_sheet_2 := sg_next sd_08_cX9_sheet_1 rfl
theorem sd_08_cX9_sheet_3 : cX9_sheet.data.toList.drop 96 = sg_08_cX9_sheet_3 := sg_next sd_08_cX9_sheet_2 rfl
theorem dR_sheet_0 : decode cX9_sheet 0 = .ok (.iload_n 1, 1) := op_27 (rdSeg sd_08_cX9_sheet_0 0 rfl rfl)
theorem dR_sheet_1 : decode cX9_sheet 1 = .ok (.invokestatic 278, 3) := op_184 (rdSeg sd_08_cX9_sheet_0 1 rfl rfl) (rdSeg sd_08_cX9_sheet_0 2 rfl rfl) (rdSeg sd_08_cX9_sheet_0 3 rfl rfl) rfl
theorem dR_sheet_4 : decode cX9_sheet 4 = .ok (.ifCond .eq 25, 3) := op_153 (rdSeg sd_08_cX9_sheet_0 4 rfl rfl) (rdSeg sd_08_cX9_sheet_0 5 rfl rfl) (rdSeg sd_08_cX9_sheet_0 6 rfl rfl) (by decide +kernel)
theorem dR_sheet_7 : decode cX9_sheet 7 = .ok (.iload_n 2, 1) := op_28 (rdSeg sd_08_cX9_sheet_0 7 rfl rfl)
theorem dR_sheet_8 : decode cX9_sheet 8 = .ok (.ifCond .eq 27, 3) := op_153 (rdSeg sd_08_cX9_sheet_0 8 rfl rfl) (rdSeg sd_08_cX9_sheet_0 9 rfl rfl) (rdSeg sd_08_cX9_sheet_0 10 rfl rfl) (by decide +kernel)
theorem dR_sheet_11 : decode cX9_sheet 11 = .ok (.iload_n 2, 1) := op_28 (rdSeg sd_08_cX9_sheet_0 11 rfl rfl)
theorem dR_sheet_12 : decode cX9_sheet 12 = .ok (.bipush 8, 2) := op_16 (rdSeg sd_08_cX9_sheet_0 12 rfl rfl) (rdSeg sd_08_cX9_sheet_0 13 rfl rfl) (by decide +kernel)
theorem dR_sheet_14 : decode cX9_sheet 14 = .ok (.if_icmp .eq 21, 3) := op_159 (rdSeg sd_08_cX9_sheet_0 14 rfl rfl) (rdSeg sd_08_cX9_sheet_0 15 rfl rfl) (rdSeg sd_08_cX9_sheet_0 16 rfl rfl) (by decide +kernel)
theorem dR_sheet_17 : decode cX9_sheet 17 = .ok (.iload_n 2, 1) := op_28 (rdSeg sd_08_cX9_sheet_0 17 rfl rfl)
theorem dR_sheet_18 : decode cX9_sheet 18 = .ok (.bipush 16, 2) := op_16 (rdSeg sd_08_cX9_sheet_0 18 rfl rfl) (rdSeg sd_08_cX9_sheet_0 19 rfl rfl) (by decide +kernel)
theorem dR_sheet_20 : decode cX9_sheet 20 = .ok (.if_icmp .eq 15, 3) := op_159 (rdSeg sd_08_cX9_sheet_0 20 rfl rfl) (rdSeg sd_08_cX9_sheet_0 21 rfl rfl) (rdSeg sd_08_cX9_sheet_0 22 rfl rfl) (by decide +kernel)
theorem dR_sheet_23 : decode cX9_sheet 23 = .ok (.iload_n 2, 1) := op_28 (rdSeg sd_08_cX9_sheet_0 23 rfl rfl)
theorem dR_sheet_24 : decode cX9_sheet 24 = .ok (.bipush 32, 2) := op_16 (rdSeg sd_08_cX9_sheet_0 24 rfl rfl) (rdSeg sd_08_cX9_sheet_0 25 rfl rfl) (by decide +kernel)
theorem dR_sheet_26 : decode cX9_sheet 26 = .ok (.if_icmp .eq 9, 3) := op_159 (rdSeg sd_08_cX9_sheet_0 26 rfl rfl) (rdSeg sd_08_cX9_sheet_0 27 rfl rfl) (rdSeg sd_08_cX9_sheet_0 28 rfl rfl) (by decide +kernel)
theorem dR_sheet_29 : decode cX9_sheet 29 = .ok (.aload_n 0, 1) := op_42 (rdSeg sd_08_cX9_sheet_0 29 rfl rfl)
theorem dR_sheet_30 : decode cX9_sheet 30 = .ok (.iconst 1, 1) := op_4 (rdSeg sd_08_cX9_sheet_0 30 rfl rfl)
theorem dR_sheet_31 : decode cX9_sheet 31 = .ok (.invokevirtual 62, 3) := op_182 (rdSeg sd_08_cX9_sheet_0 31 rfl rfl) (rdSeg sd_08_cX9_sheet_1 0 rfl rfl) (rdSeg sd_08_cX9_sheet_1 1 rfl rfl) rfl
theorem dR_sheet_34 : decode cX9_sheet 34 = .ok (.ireturn, 1) := op_172 (rdSeg sd_08_cX9_sheet_1 2 rfl rfl)
theorem dR_sheet_35 : decode cX9_sheet 35 = .ok (.iload_n 2, 1) := op_28 (rdSeg sd_08_cX9_sheet_1 3 rfl rfl)
theorem dR_sheet_36 : decode cX9_sheet 36 = .ok (.ifCond .eq 13, 3) := op_153 (rdSeg sd_08_cX9_sheet_1 4 rfl rfl) (rdSeg sd_08_cX9_sheet_1 5 rfl rfl) (rdSeg sd_08_cX9_sheet_1 6 rfl rfl) (by decide +kernel)
theorem dR_sheet_39 : decode cX9_sheet 39 = .ok (.iload_n 3, 1) := op_29 (rdSeg sd_08_cX9_sheet_1 7 rfl rfl)
theorem dR_sheet_40 : decode cX9_sheet 40 = .ok (.ifCond .ge 9, 3) := op_156 (rdSeg sd_08_cX9_sheet_1 8 rfl rfl) (rdSeg sd_08_cX9_sheet_1 9 rfl rfl) (rdSeg sd_08_cX9_sheet_1 10 rfl rfl) (by decide +kernel)
theorem dR_sheet_43 : decode cX9_sheet 43 = .ok (.aload_n 0, 1) := op_42 (rdSeg sd_08_cX9_sheet_1 11 rfl rfl)
theorem dR_sheet_44 : decode cX9_sheet 44 = .ok (.iconst 3, 1) := op_6 (rdSeg sd_08_cX9_sheet_1 12 rfl rfl)
theorem dR_sheet_45 : decode cX9_sheet 45 = .ok (.invokevirtual 62, 3) := op_182 (rdSeg sd_08_cX9_sheet_1 13 rfl rfl) (rdSeg sd_08_cX9_sheet_1 14 rfl rfl) (rdSeg sd_08_cX9_sheet_1 15 rfl rfl) rfl
theorem dR_sheet_48 : decode cX9_sheet 48 = .ok (.ireturn, 1) := op_172 (rdSeg sd_08_cX9_sheet_1 16 rfl rfl)
theorem dR_sheet_49 : decode cX9_sheet 49 = .ok (.iload_n 2, 1) := op_28 (rdSeg sd_08_cX9_sheet_1 17 rfl rfl)
theorem dR_sheet_50 : decode cX9_sheet 50 = .ok (.ifCond .eq 15, 3) := op_153 (rdSeg sd_08_cX9_sheet_1 18 rfl rfl) (rdSeg sd_08_cX9_sheet_1 19 rfl rfl) (rdSeg sd_08_cX9_sheet_1 20 rfl rfl) (by decide +kernel)
theorem dR_sheet_53 : decode cX9_sheet 53 = .ok (.iload_n 3, 1) := op_29 (rdSeg sd_08_cX9_sheet_1 21 rfl rfl)
theorem dR_sheet_54 : decode cX9_sheet 54 = .ok (.bipush 24, 2) := op_16 (rdSeg sd_08_cX9_sheet_1 22 rfl rfl) (rdSeg sd_08_cX9_sheet_1 23 rfl rfl) (by decide +kernel)
theorem dR_sheet_56 : decode cX9_sheet 56 = .ok (.if_icmp .le 9, 3) := op_164 (rdSeg sd_08_cX9_sheet_1 24 rfl rfl) (rdSeg sd_08_cX9_sheet_1 25 rfl rfl) (rdSeg sd_08_cX9_sheet_1 26 rfl rfl) (by decide +kernel)
theorem dR_sheet_59 : decode cX9_sheet 59 = .ok (.aload_n 0, 1) := op_42 (rdSeg sd_08_cX9_sheet_1 27 rfl rfl)
theorem dR_sheet_60 : decode cX9_sheet 60 = .ok (.iconst 1, 1) := op_4 (rdSeg sd_08_cX9_sheet_1 28 rfl rfl)
theorem dR_sheet_61 : decode cX9_sheet 61 = .ok (.invokevirtual 62, 3) := op_182 (rdSeg sd_08_cX9_sheet_1 29 rfl rfl) (rdSeg sd_08_cX9_sheet_1 30 rfl rfl) (rdSeg sd_08_cX9_sheet_1 31 rfl rfl) rfl
theorem dR_sheet_64 : decode cX9_sheet 64 = .ok (.ireturn, 1) := op_172 (rdSeg sd_08_cX9_sheet_2 0 rfl rfl)
theorem dR_sheet_65 : decode cX9_sheet 65 = .ok (.aload_n 0, 1) := op_42 (rdSeg sd_08_cX9_sheet_2 1 rfl rfl)
theorem dR_sheet_66 : decode cX9_sheet 66 = .ok (.getfield 40, 3) := op_180 (rdSeg sd_08_cX9_sheet_2 2 rfl rfl) (rdSeg sd_08_cX9_sheet_2 3 rfl rfl) (rdSeg sd_08_cX9_sheet_2 4 rfl rfl) rfl
theorem dR_sheet_69 : decode cX9_sheet 69 = .ok (.iload_n 1, 1) := op_27 (rdSeg sd_08_cX9_sheet_2 5 rfl rfl)
theorem dR_sheet_70 : decode cX9_sheet 70 = .ok (.iload_n 2, 1) := op_28 (rdSeg sd_08_cX9_sheet_2 6 rfl rfl)
theorem dR_sheet_71 : decode cX9_sheet 71 = .ok (.iastore, 1) := op_79 (rdSeg sd_08_cX9_sheet_2 7 rfl rfl)
theorem dR_sheet_72 : decode cX9_sheet 72 = .ok (.aload_n 0, 1) := op_42 (rdSeg sd_08_cX9_sheet_2 8 rfl rfl)
theorem dR_sheet_73 : decode cX9_sheet 73 = .ok (.getfield 43, 3) := op_180 (rdSeg sd_08_cX9_sheet_2 9 rfl rfl) (rdSeg sd_08_cX9_sheet_2 10 rfl rfl) (rdSeg sd_08_cX9_sheet_2 11 rfl rfl) rfl
theorem dR_sheet_76 : decode cX9_sheet 76 = .ok (.iload_n 1, 1) := op_27 (rdSeg sd_08_cX9_sheet_2 12 rfl rfl)
theorem dR_sheet_77 : decode cX9_sheet 77 = .ok (.iload_n 2, 1) := op_28 (rdSeg sd_08_cX9_sheet_2 13 rfl rfl)
theorem dR_sheet_78 : decode cX9_sheet 78 = .ok (.ifCond .ne 7, 3) := op_154 (rdSeg sd_08_cX9_sheet_2 14 rfl rfl) (rdSeg sd_08_cX9_sheet_2 15 rfl rfl) (rdSeg sd_08_cX9_sheet_2 16 rfl rfl) (by decide +kernel)
theorem dR_sheet_81 : decode cX9_sheet 81 = .ok (.iconst 0, 1) := op_3 (rdSeg sd_08_cX9_sheet_2 17 rfl rfl)
theorem dR_sheet_82 : decode cX9_sheet 82 = .ok (.goto 4, 3) := op_167 (rdSeg sd_08_cX9_sheet_2 18 rfl rfl) (rdSeg sd_08_cX9_sheet_2 19 rfl rfl) (rdSeg sd_08_cX9_sheet_2 20 rfl rfl) (by decide +kernel)
theorem dR_sheet_85 : decode cX9_sheet 85 = .ok (.iload_n 3, 1) := op_29 (rdSeg sd_08_cX9_sheet_2 21 rfl rfl)
theorem dR_sheet_86 : decode cX9_sheet 86 = .ok (.iastore, 1) := op_79 (rdSeg sd_08_cX9_sheet_2 22 rfl rfl)
theorem dR_sheet_87 : decode cX9_sheet 87 = .ok (.iconst 0, 1) := op_3 (rdSeg sd_08_cX9_sheet_2 23 rfl rfl)
theorem dR_sheet_88 : decode cX9_sheet 88 = .ok (.istore 4, 2) := op_54 (rdSeg sd_08_cX9_sheet_2 24 rfl rfl) (rdSeg sd_08_cX9_sheet_2 25 rfl rfl)
theorem dR_sheet_90 : decode cX9_sheet 90 = .ok (.iload 4, 2) := op_21 (rdSeg sd_08_cX9_sheet_2 26 rfl rfl) (rdSeg sd_08_cX9_sheet_2 27 rfl rfl)
theorem dR_sheet_92 : decode cX9_sheet 92 = .ok (.bipush 24, 2) := op_16 (rdSeg sd_08_cX9_sheet_2 28 rfl rfl) (rdSeg sd_08_cX9_sheet_2 29 rfl rfl) (by decide +kernel)
theorem dR_sheet_94 : decode cX9_sheet 94 = .ok (.if_icmp .ge 22, 3) := op_162 (rdSeg sd_08_cX9_sheet_2 30 rfl rfl) (rdSeg sd_08_cX9_sheet_2 31 rfl rfl) (rdSeg sd_08_cX9_sheet_3 0 rfl rfl) (by decide +kernel)
theorem dR_sheet_97 : decode cX9_sheet 97 = .ok (.aload_n 0, 1) := op_42 (rdSeg sd_08_cX9_sheet_3 1 rfl rfl)
theorem dR_sheet_98 : decode cX9_sheet 98 = .ok (.getfield 46, 3) := op_180 (rdSeg sd_08_cX9_sheet_3 2 rfl rfl) (rdSeg sd_08_cX9_sheet_3 3 rfl rfl) (rdSeg sd_08_cX9_sheet_3 4 rfl rfl) rfl
theorem dR_sheet_101 : decode cX9_sheet 101 = .ok (.bipush 24, 2) := op_16 (rdSeg sd_08_cX9_sheet_3 5 rfl rfl) (rdSeg sd_08_cX9_sheet_3 6 rfl rfl) (by decide +kernel)
theorem dR_sheet_103 : decode cX9_sheet 103 = .ok (.iload_n 1, 1) := op_27 (rdSeg sd_08_cX9_sheet_3 7 rfl rfl)
theorem dR_sheet_104 : decode cX9_sheet 104 = .ok (.imul, 1) := op_104 (rdSeg sd_08_cX9_sheet_3 8 rfl rfl)
theorem dR_sheet_105 : decode cX9_sheet 105 = .ok (.iload 4, 2) := op_21 (rdSeg sd_08_cX9_sheet_3 9 rfl rfl) (rdSeg sd_08_cX9_sheet_3 10 rfl rfl)
theorem dR_sheet_107 : decode cX9_sheet 107 = .ok (.iadd, 1) := op_96 (rdSeg sd_08_cX9_sheet_3 11 rfl rfl)
theorem dR_sheet_108 : decode cX9_sheet 108 = .ok (.iconst 0, 1) := op_3 (rdSeg sd_08_cX9_sheet_3 12 rfl rfl)
theorem dR_sheet_109 : decode cX9_sheet 109 = .ok (.iastore, 1) := op_79 (rdSeg sd_08_cX9_sheet_3 13 rfl rfl)
theorem dR_sheet_110 : decode cX9_sheet 110 = .ok (.iinc 4 1, 3) := op_132 (rdSeg sd_08_cX9_sheet_3 14 rfl rfl) (rdSeg sd_08_cX9_sheet_3 15 rfl rfl) (rdSeg sd_08_cX9_sheet_3 16 rfl rfl) (by decide +kernel)
theorem dR_sheet_113 : decode cX9_sheet 113 = .ok (.goto (-23), 3) := op_167 (rdSeg sd_08_cX9_sheet_3 17 rfl rfl) (rdSeg sd_08_cX9_sheet_3 18 rfl rfl) (rdSeg sd_08_cX9_sheet_3 19 rfl rfl) (by decide +kernel)
theorem dR_sheet_116 : decode cX9_sheet 116 = .ok (.iconst 1, 1) := op_4 (rdSeg sd_08_cX9_sheet_3 20 rfl rfl)
theorem dR_sheet_117 : decode cX9_sheet 117 = .ok (.ireturn, 1) := op_172 (rdSeg sd_08_cX9_sheet_3 21 rfl rfl)
def sg_08_cX9_put_2 : List UInt8 := [0x2e, 0x10, 0x18, 0x1b, 0x68, 0x1c, 0x60, 0x1d, 0x15, 0x04, 0x78, 0x15, 0x04, 0x7a, 0x4f, 0x04, 0xac]
def sg_08_cX9_put_1 : List UInt8 := 0x00 :: 0x2b :: 0x1b :: 0x2e :: 0x04 :: 0x64 :: 0xb8 :: 0x00 :: 0x35 :: 0x9a :: 0x00 :: 0x09 :: 0x2a :: 0x04 :: 0xb6 :: 0x00 :: 0x3e :: 0xac :: 0x10 :: 0x20 :: 0x2a :: 0xb4 :: 0x00 :: 0x28 :: 0x1b :: 0x2e :: 0x64 :: 0x36 :: 0x04 :: 0x2a :: 0xb4 :: 0x00 :: sg_08_cX9_put_2
def sg_08_cX9_put_0 : List UInt8 := 0x1b :: 0xb8 :: 0x01 :: 0x16 :: 0x9a :: 0x00 :: 0x09 :: 0x2a :: 0x04 :: 0xb6 :: 0x00 :: 0x3e :: 0xac :: 0x2a :: 0xb4 :: 0x00 :: 0x28 :: 0x1b :: 0x2e :: 0x9a :: 0x00 :: 0x09 :: 0x2a :: 0x05 :: 0xb6 :: 0x00 :: 0x3e :: 0xac :: 0x1c :: 0x03 :: 0x2a :: 0xb4 :: sg_08_cX9_put_1
set_option maxRecDepth 100000 in
theorem sd_08_cX9_put_0 : cX9_put.data.toList.drop 0 = sg_08_cX9_put_0 := by decide +kernel
theorem sd_08_cX9_put_1 : cX9_put.data.toList.drop 32 = sg_08_cX9_put_1 := sg_next sd_08_cX9_put_0 rfl
theorem sd_08_cX9_put_2 : cX9_put.data.toList.drop 64 = sg_08_cX9_put_2 := sg_next sd_08_cX9_put_1 rfl
theorem dR_put_0 : decode cX9_put 0 = .ok (.iload_n 1, 1) := op_27 (rdSeg sd_08_cX9_put_0 0 rfl rfl)
theorem dR_put_1 : decode cX9_put 1 = .ok (.invokestatic 278, 3) := op_184 (rdSeg sd_08_cX9_put_0 1 rfl rfl) (rdSeg sd_08_cX9_put_0 2 rfl rfl) (rdSeg sd_08_cX9_put_0 3 rfl rfl) rfl
theorem dR_put_4 : decode cX9_put 4 = .ok (.ifCond .ne 9, 3) := op_154 (rdSeg sd_08_cX9_put_0 4 rfl rfl) (rdSeg sd_08_cX9_put_0 5 rfl rfl) (rdSeg sd_08_cX9_put_0 6 rfl rfl) (by decide +kernel)
theorem dR_put_7 : decode cX9_put 7 = .ok (.aload_n 0, 1) := op_42 (rdSeg sd_08_cX9_put_0 7 rfl rfl)
theorem dR_put_8 : decode cX9_put 8 = .ok (.iconst 1, 1) := op_4 (rdSeg sd_08_cX9_put_0 8 rfl rfl)
theorem dR_put_9 : decode cX9_put 9 = .ok (.invokevirtual 62, 3) := op_182 (rdSeg sd_08_cX9_put_0 9 rfl rfl) (rdSeg sd_08_cX9_put_0 10 rfl rfl) (rdSeg sd_08_cX9_put_0 11 rfl rfl) rfl
theorem dR_put_12 : decode cX9_put 12 = .ok (.ireturn, 1) := op_172 (rdSeg sd_08_cX9_put_0 12 rfl rfl)
theorem dR_put_13 : decode cX9_put 13 = .ok (.aload_n 0, 1) := op_42 (rdSeg sd_08_cX9_put_0 13 rfl rfl)
theorem dR_put_14 : decode cX9_put 14 = .ok (.getfield 40, 3) := op_180 (rdSeg sd_08_cX9_put_0 14 rfl rfl) (rdSeg sd_08_cX9_put_0 15 rfl rfl) (rdSeg sd_08_cX9_put_0 16 rfl rfl) rfl
theorem dR_put_17 : decode cX9_put 17 = .ok (.iload_n 1, 1) := op_27 (rdSeg sd_08_cX9_put_0 17 rfl rfl)
theorem dR_put_18 : decode cX9_put 18 = .ok (.iaload, 1) := op_46 (rdSeg sd_08_cX9_put_0 18 rfl rfl)
theorem dR_put_19 : decode cX9_put 19 = .ok (.ifCond .ne 9, 3) := op_154 (rdSeg sd_08_cX9_put_0 19 rfl rfl) (rdSeg sd_08_cX9_put_0 20 rfl rfl) (rdSeg sd_08_cX9_put_0 21 rfl rfl) (by decide +kernel)
theorem dR_put_22 : decode cX9_put 22 = .ok (.aload_n 0, 1) := op_42 (rdSeg sd_08_cX9_put_0 22 rfl rfl)
theorem dR_put_23 : decode cX9_put 23 = .ok (.iconst 2, 1) := op_5 (rdSeg sd_08_cX9_put_0 23 rfl rfl)
theorem dR_put_24 : decode cX9_put 24 = .ok (.invokevirtual 62, 3) := op_182 (rdSeg sd_08_cX9_put_0 24 rfl rfl) (rdSeg sd_08_cX9_put_0 25 rfl rfl) (rdSeg sd_08_cX9_put_0 26 rfl rfl) rfl
theorem dR_put_27 : decode cX9_put 27 = .ok (.ireturn, 1) := op_172 (rdSeg sd_08_cX9_put_0 27 rfl rfl)
theorem dR_put_28 : decode cX9_put 28 = .ok (.iload_n 2, 1) := op_28 (rdSeg sd_08_cX9_put_0 28 rfl rfl)
theorem dR_put_29 : decode cX9_put 29 = .ok (.iconst 0, 1) := op_3 (rdSeg sd_08_cX9_put_0 29 rfl rfl)
theorem dR_put_30 : decode cX9_put 30 = .ok (.aload_n 0, 1) := op_42 (rdSeg sd_08_cX9_put_0 30 rfl rfl)
theorem dR_put_31 : decode cX9_put 31 = .ok (.getfield 43, 3) := op_180 (rdSeg sd_08_cX9_put_0 31 rfl rfl) (rdSeg sd_08_cX9_put_1 0 rfl rfl) (rdSeg sd_08_cX9_put_1 1 rfl rfl) rfl
theorem dR_put_34 : decode cX9_put 34 = .ok (.iload_n 1, 1) := op_27 (rdSeg sd_08_cX9_put_1 2 rfl rfl)
theorem dR_put_35 : decode cX9_put 35 = .ok (.iaload, 1) := op_46 (rdSeg sd_08_cX9_put_1 3 rfl rfl)
theorem dR_put_36 : decode cX9_put 36 = .ok (.iconst 1, 1) := op_4 (rdSeg sd_08_cX9_put_1 4 rfl rfl)
theorem dR_put_37 : decode cX9_put 37 = .ok (.isub, 1) := op_100 (rdSeg sd_08_cX9_put_1 5 rfl rfl)
theorem dR_put_38 : decode cX9_put 38 = .ok (.invokestatic 53, 3) := op_184 (rdSeg sd_08_cX9_put_1 6 rfl rfl) (rdSeg sd_08_cX9_put_1 7 rfl rfl) (rdSeg sd_08_cX9_put_1 8 rfl rfl) rfl
theorem dR_put_41 : decode cX9_put 41 = .ok (.ifCond .ne 9, 3) := op_154 (rdSeg sd_08_cX9_put_1 9 rfl rfl) (rdSeg sd_08_cX9_put_1 10 rfl rfl) (rdSeg sd_08_cX9_put_1 11 rfl rfl) (by decide +kernel)
theorem dR_put_44 : decode cX9_put 44 = .ok (.aload_n 0, 1) := op_42 (rdSeg sd_08_cX9_put_1 12 rfl rfl)
theorem dR_put_45 : decode cX9_put 45 = .ok (.iconst 1, 1) := op_4 (rdSeg sd_08_cX9_put_1 13 rfl rfl)
theorem dR_put_46 : decode cX9_put 46 = .ok (.invokevirtual 62, 3) := op_182 (rdSeg sd_08_cX9_put_1 14 rfl rfl) (rdSeg sd_08_cX9_put_1 15 rfl rfl) (rdSeg sd_08_cX9_put_1 16 rfl rfl) rfl
theorem dR_put_49 : decode cX9_put 49 = .ok (.ireturn, 1) := op_172 (rdSeg sd_08_cX9_put_1 17 rfl rfl)
theorem dR_put_50 : decode cX9_put 50 = .ok (.bipush 32, 2) := op_16 (rdSeg sd_08_cX9_put_1 18 rfl rfl) (rdSeg sd_08_cX9_put_1 19 rfl rfl) (by decide +kernel)
theorem dR_put_52 : decode cX9_put 52 = .ok (.aload_n 0, 1) := op_42 (rdSeg sd_08_cX9_put_1 20 rfl rfl)
theorem dR_put_53 : decode cX9_put 53 = .ok (.getfield 40, 3) := op_180 (rdSeg sd_08_cX9_put_1 21 rfl rfl) (rdSeg sd_08_cX9_put_1 22 rfl rfl) (rdSeg sd_08_cX9_put_1 23 rfl rfl) rfl
theorem dR_put_56 : decode cX9_put 56 = .ok (.iload_n 1, 1) := op_27 (rdSeg sd_08_cX9_put_1 24 rfl rfl)
theorem dR_put_57 : decode cX9_put 57 = .ok (.iaload, 1) := op_46 (rdSeg sd_08_cX9_put_1 25 rfl rfl)
theorem dR_put_58 : decode cX9_put 58 = .ok (.isub, 1) := op_100 (rdSeg sd_08_cX9_put_1 26 rfl rfl)
theorem dR_put_59 : decode cX9_put 59 = .ok (.istore 4, 2) := op_54 (rdSeg sd_08_cX9_put_1 27 rfl rfl) (rdSeg sd_08_cX9_put_1 28 rfl rfl)
theorem dR_put_61 : decode cX9_put 61 = .ok (.aload_n 0, 1) := op_42 (rdSeg sd_08_cX9_put_1 29 rfl rfl)
theorem dR_put_62 : decode cX9_put 62 = .ok (.getfield 46, 3) := op_180 (rdSeg sd_08_cX9_put_1 30 rfl rfl) (rdSeg sd_08_cX9_put_1 31 rfl rfl) (rdSeg sd_08_cX9_put_2 0 rfl rfl) rfl
theorem dR_put_65 : decode cX9_put 65 = .ok (.bipush 24, 2) := op_16 (rdSeg sd_08_cX9_put_2 1 rfl rfl) (rdSeg sd_08_cX9_put_2 2 rfl rfl) (by decide +kernel)
theorem dR_put_67 : decode cX9_put 67 = .ok (.iload_n 1, 1) := op_27 (rdSeg sd_08_cX9_put_2 3 rfl rfl)
theorem dR_put_68 : decode cX9_put 68 = .ok (.imul, 1) := op_104 (rdSeg sd_08_cX9_put_2 4 rfl rfl)
theorem dR_put_69 : decode cX9_put 69 = .ok (.iload_n 2, 1) := op_28 (rdSeg sd_08_cX9_put_2 5 rfl rfl)
theorem dR_put_70 : decode cX9_put 70 = .ok (.iadd, 1) := op_96 (rdSeg sd_08_cX9_put_2 6 rfl rfl)
theorem dR_put_71 : decode cX9_put 71 = .ok (.iload_n 3, 1) := op_29 (rdSeg sd_08_cX9_put_2 7 rfl rfl)
theorem dR_put_72 : decode cX9_put 72 = .ok (.iload 4, 2) := op_21 (rdSeg sd_08_cX9_put_2 8 rfl rfl) (rdSeg sd_08_cX9_put_2 9 rfl rfl)
theorem dR_put_74 : decode cX9_put 74 = .ok (.ishl, 1) := op_120 (rdSeg sd_08_cX9_put_2 10 rfl rfl)
theorem dR_put_75 : decode cX9_put 75 = .ok (.iload 4, 2) := op_21 (rdSeg sd_08_cX9_put_2 11 rfl rfl) (rdSeg sd_08_cX9_put_2 12 rfl rfl)
theorem dR_put_77 : decode cX9_put 77 = .ok (.ishr, 1) := op_122 (rdSeg sd_08_cX9_put_2 13 rfl rfl)
theorem dR_put_78 : decode cX9_put 78 = .ok (.iastore, 1) := op_79 (rdSeg sd_08_cX9_put_2 14 rfl rfl)
theorem dR_put_79 : decode cX9_put 79 = .ok (.iconst 1, 1) := op_4 (rdSeg sd_08_cX9_put_2 15 rfl rfl)
theorem dR_put_80 : decode cX9_put 80 = .ok (.ireturn, 1) := op_172 (rdSeg sd_08_cX9_put_2 16 rfl rfl)
def sg_08_cX9_move_5 : List UInt8 := [0xb4, 0x00, 0x2e, 0x10, 0x18, 0x1d, 0x68, 0x15, 0x04, 0x60, 0x15, 0x06, 0x60, 0x2a, 0xb4, 0x00, 0x31, 0x15, 0x06, 0x2e, 0x4f, 0x84, 0x06, 0x01, 0xa7, 0xff, 0xe0, 0x15, 0x05, 0xac]
def sg_08_cX9_move_4 : List UInt8 := 0x2a :: 0xb4 :: 0x00 :: 0x2e :: 0x10 :: 0x18 :: 0x1b :: 0x68 :: 0x1c :: 0x60 :: 0x15 :: 0x06 :: 0x60 :: 0x2e :: 0x4f :: 0x84 :: 0x06 :: 0x01 :: 0xa7 :: 0xff :: 0xe1 :: 0x03 :: 0x36 :: 0x06 :: 0x15 :: 0x06 :: 0x15 :: 0x05 :: 0xa2 :: 0x00 :: 0x1f :: 0x2a :: sg_08_cX9_move_5
def sg_08_cX9_move_3 : List UInt8 := 0x00 :: 0x2b :: 0x1d :: 0x2e :: 0x15 :: 0x05 :: 0x64 :: 0xa4 :: 0x00 :: 0x09 :: 0x2a :: 0x04 :: 0xb6 :: 0x00 :: 0x3e :: 0xac :: 0x03 :: 0x36 :: 0x06 :: 0x15 :: 0x06 :: 0x15 :: 0x05 :: 0xa2 :: 0x00 :: 0x1e :: 0x2a :: 0xb4 :: 0x00 :: 0x31 :: 0x15 :: 0x06 :: sg_08_cX9_move_4
def sg_08_cX9_move_2 : List UInt8 := 0xac :: 0x15 :: 0x05 :: 0x9b :: 0x00 :: 0x27 :: 0x1c :: 0x9b :: 0x00 :: 0x23 :: 0x15 :: 0x04 :: 0x9b :: 0x00 :: 0x1e :: 0x1c :: 0x2a :: 0xb4 :: 0x00 :: 0x2b :: 0x1b :: 0x2e :: 0x15 :: 0x05 :: 0x64 :: 0xa3 :: 0x00 :: 0x11 :: 0x15 :: 0x04 :: 0x2a :: 0xb4 :: sg_08_cX9_move_3
def sg_08_cX9_move_1 : List UInt8 := 0x28 :: 0x1d :: 0x2e :: 0x9a :: 0x00 :: 0x09 :: 0x2a :: 0x05 :: 0xb6 :: 0x00 :: 0x3e :: 0xac :: 0x2a :: 0xb4 :: 0x00 :: 0x28 :: 0x1b :: 0x2e :: 0x2a :: 0xb4 :: 0x00 :: 0x28 :: 0x1d :: 0x2e :: 0x9f :: 0x00 :: 0x09 :: 0x2a :: 0x08 :: 0xb6 :: 0x00 :: 0x3e :: sg_08_cX9_move_2
def sg_08_cX9_move_0 : List UInt8 := 0x1b :: 0xb8 :: 0x01 :: 0x16 :: 0x99 :: 0x00 :: 0x0a :: 0x1d :: 0xb8 :: 0x01 :: 0x16 :: 0x9a :: 0x00 :: 0x09 :: 0x2a :: 0x04 :: 0xb6 :: 0x00 :: 0x3e :: 0xac :: 0x2a :: 0xb4 :: 0x00 :: 0x28 :: 0x1b :: 0x2e :: 0x99 :: 0x00 :: 0x0c :: 0x2a :: 0xb4 :: 0x00 :: sg_08_cX9_move_1
set_option maxRecDepth 100000 in
theorem sd_08_cX9_move_0 : cX9_move.data.toList.drop 0 = sg_08_cX9_move_0 := by decide +kernel
theorem sd_08_cX9_move_1 : cX9_move.data.toList.drop 32 = sg_08_cX9_move_1 := sg_next sd_08_cX9_move_0 rfl
theorem sd_08_cX9_move_2 : cX9_move.data.toList.drop 64 = sg_08_cX9_move_2 := sg_next sd_08_cX9_move_1 rfl
theorem sd_08_cX9_move_3 : cX9_move.data.toList.drop 96 = sg_08_cX9_move_3 := sg_next sd_08_cX9_move_2 rfl
theorem sd_08_cX9_move_4 : cX9_move.data.toList.drop 128 = sg_08_cX9_move_4 := sg_next sd_08_cX9_move_3 rfl
theorem sd_08_cX9_move_5 : cX9_move.data.toList.drop 160 = sg_08_cX9_move_5 := sg_next sd_08_cX9_move_4 rfl
theorem dR_move_0 : decode cX9_move 0 = .ok (.iload_n 1, 1) := op_27 (rdSeg sd_08_cX9_move_0 0 rfl rfl)
theorem dR_move_1 : decode cX9_move 1 = .ok (.invokestatic 278, 3) := op_184 (rdSeg sd_08_cX9_move_0 1 rfl rfl) (rdSeg sd_08_cX9_move_0 2 rfl rfl) (rdSeg sd_08_cX9_move_0 3 rfl rfl) rfl
theorem dR_move_4 : decode cX9_move 4 = .ok (.ifCond .eq 10, 3) := op_153 (rdSeg sd_08_cX9_move_0 4 rfl rfl) (rdSeg sd_08_cX9_move_0 5 rfl rfl) (rdSeg sd_08_cX9_move_0 6 rfl rfl) (by decide +kernel)
theorem dR_move_7 : decode cX9_move 7 = .ok (.iload_n 3, 1) := op_29 (rdSeg sd_08_cX9_move_0 7 rfl rfl)
theorem dR_move_8 : decode cX9_move 8 = .ok (.invokestatic 278, 3) := op_184 (rdSeg sd_08_cX9_move_0 8 rfl rfl) (rdSeg sd_08_cX9_move_0 9 rfl rfl) (rdSeg sd_08_cX9_move_0 10 rfl rfl) rfl
theorem dR_move_11 : decode cX9_move 11 = .ok (.ifCond .ne 9, 3) := op_154 (rdSeg sd_08_cX9_move_0 11 rfl rfl) (rdSeg sd_08_cX9_move_0 12 rfl rfl) (rdSeg sd_08_cX9_move_0 13 rfl rfl) (by decide +kernel)
theorem dR_move_14 : decode cX9_move 14 = .ok (.aload_n 0, 1) := op_42 (rdSeg sd_08_cX9_move_0 14 rfl rfl)
theorem dR_move_15 : decode cX9_move 15 = .ok (.iconst 1, 1) := op_4 (rdSeg sd_08_cX9_move_0 15 rfl rfl)
theorem dR_move_16 : decode cX9_move 16 = .ok (.invokevirtual 62, 3) := op_182 (rdSeg sd_08_cX9_move_0 16 rfl rfl) (rdSeg sd_08_cX9_move_0 17 rfl rfl) (rdSeg sd_08_cX9_move_0 18 rfl rfl) rfl
theorem dR_move_19 : decode cX9_move 19 = .ok (.ireturn, 1) := op_172 (rdSeg sd_08_cX9_move_0 19 rfl rfl)
theorem dR_move_20 : decode cX9_move 20 = .ok (.aload_n 0, 1) := op_42 (rdSeg sd_08_cX9_move_0 20 rfl rfl)
theorem dR_move_21 : decode cX9_move 21 = .ok (.getfield 40, 3) := op_180 (rdSeg sd_08_cX9_move_0 21 rfl rfl) (rdSeg sd_08_cX9_move_0 22 rfl rfl) (rdSeg sd_08_cX9_move_0 23 rfl rfl) rfl
theorem dR_move_24 : decode cX9_move 24 = .ok (.iload_n 1, 1) := op_27 (rdSeg sd_08_cX9_move_0 24 rfl rfl)
theorem dR_move_25 : decode cX9_move 25 = .ok (.iaload, 1) := op_46 (rdSeg sd_08_cX9_move_0 25 rfl rfl)
theorem dR_move_26 : decode cX9_move 26 = .ok (.ifCond .eq 12, 3) := op_153 (rdSeg sd_08_cX9_move_0 26 rfl rfl) (rdSeg sd_08_cX9_move_0 27 rfl rfl) (rdSeg sd_08_cX9_move_0 28 rfl rfl) (by decide +kernel)
theorem dR_move_29 : decode cX9_move 29 = .ok (.aload_n 0, 1) := op_42 (rdSeg sd_08_cX9_move_0 29 rfl rfl)
theorem dR_move_30 : decode cX9_move 30 = .ok (.getfield 40, 3) := op_180 (rdSeg sd_08_cX9_move_0 30 rfl rfl) (rdSeg sd_08_cX9_move_0 31 rfl rfl) (rdSeg sd_08_cX9_move_1 0 rfl rfl) rfl
theorem dR_move_33 : decode cX9_move 33 = .ok (.iload_n 3, 1) := op_29 (rdSeg sd_08_cX9_move_1 1 rfl rfl)
theorem dR_move_34 : decode cX9_move 34 = .ok (.iaload, 1) := op_46 (rdSeg sd_08_cX9_move_1 2 rfl rfl)
theorem dR_move_35 : decode cX9_move 35 = .ok (.ifCond .ne 9, 3) := op_154 (rdSeg sd_08_cX9_move_1 3 rfl rfl) (rdSeg sd_08_cX9_move_1 4 rfl rfl) (rdSeg sd_08_cX9_move_1 5 rfl rfl) (by decide +kernel)
theorem dR_move_38 : decode cX9_move 38 = .ok (.aload_n 0, 1) := op_42 (rdSeg sd_08_cX9_move_1 6 rfl rfl)
theorem dR_move_39 : decode cX9_move 39 = .ok (.iconst 2, 1) := op_5 (rdSeg sd_08_cX9_move_1 7 rfl rfl)
theorem dR_move_40 : decode cX9_move 40 = .ok (.invokevirtual 62, 3) := op_182 (rdSeg sd_08_cX9_move_1 8 rfl rfl) (rdSeg sd_08_cX9_move_1 9 rfl rfl) (rdSeg sd_08_cX9_move_1 10 rfl rfl) rfl
theorem dR_move_43 : decode cX9_move 43 = .ok (.ireturn, 1) := op_172 (rdSeg sd_08_cX9_move_1 11 rfl rfl)
theorem dR_move_44 : decode cX9_move 44 = .ok (.aload_n 0, 1) := op_42 (rdSeg sd_08_cX9_move_1 12 rfl rfl)
theorem dR_move_45 : decode cX9_move 45 = .ok (.getfield 40, 3) := op_180 (rdSeg sd_08_cX9_move_1 13 rfl rfl) (rdSeg sd_08_cX9_move_1 14 rfl rfl) (rdSeg sd_08_cX9_move_1 15 rfl rfl) rfl
theorem dR_move_48 : decode cX9_move 48 = .ok (.iload_n 1, 1) := op_27 (rdSeg sd_08_cX9_move_1 16 rfl rfl)
theorem dR_move_49 : decode cX9_move 49 = .ok (.iaload, 1) := op_46 (rdSeg sd_08_cX9_move_1 17 rfl rfl)
theorem dR_move_50 : decode cX9_move 50 = .ok (.aload_n 0, 1) := op_42 (rdSeg sd_08_cX9_move_1 18 rfl rfl)
theorem dR_move_51 : decode cX9_move 51 = .ok (.getfield 40, 3) := op_180 (rdSeg sd_08_cX9_move_1 19 rfl rfl) (rdSeg sd_08_cX9_move_1 20 rfl rfl) (rdSeg sd_08_cX9_move_1 21 rfl rfl) rfl
theorem dR_move_54 : decode cX9_move 54 = .ok (.iload_n 3, 1) := op_29 (rdSeg sd_08_cX9_move_1 22 rfl rfl)
theorem dR_move_55 : decode cX9_move 55 = .ok (.iaload, 1) := op_46 (rdSeg sd_08_cX9_move_1 23 rfl rfl)
theorem dR_move_56 : decode cX9_move 56 = .ok (.if_icmp .eq 9, 3) := op_159 (rdSeg sd_08_cX9_move_1 24 rfl rfl) (rdSeg sd_08_cX9_move_1 25 rfl rfl) (rdSeg sd_08_cX9_move_1 26 rfl rfl) (by decide +kernel)
theorem dR_move_59 : decode cX9_move 59 = .ok (.aload_n 0, 1) := op_42 (rdSeg sd_08_cX9_move_1 27 rfl rfl)
theorem dR_move_60 : decode cX9_move 60 = .ok (.iconst 5, 1) := op_8 (rdSeg sd_08_cX9_move_1 28 rfl rfl)
theorem dR_move_61 : decode cX9_move 61 = .ok (.invokevirtual 62, 3) := op_182 (rdSeg sd_08_cX9_move_1 29 rfl rfl) (rdSeg sd_08_cX9_move_1 30 rfl rfl) (rdSeg sd_08_cX9_move_1 31 rfl rfl) rfl
theorem dR_move_64 : decode cX9_move 64 = .ok (.ireturn, 1) := op_172 (rdSeg sd_08_cX9_move_2 0 rfl rfl)
theorem dR_move_65 : decode cX9_move 65 = .ok (.iload 5, 2) := op_21 (rdSeg sd_08_cX9_move_2 1 rfl rfl) (rdSeg sd_08_cX9_move_2 2 rfl rfl)
theorem dR_move_67 : decode cX9_move 67 = .ok (.ifCond .lt 39, 3) := op_155 (rdSeg sd_08_cX9_move_2 3 rfl rfl) (rdSeg sd_08_cX9_move_2 4 rfl rfl) (rdSeg sd_08_cX9_move_2 5 rfl rfl) (by decide +kernel)
theorem dR_move_70 : decode cX9_move 70 = .ok (.iload_n 2, 1) := op_28 (rdSeg sd_08_cX9_move_2 6 rfl rfl)
theorem dR_move_71 : decode cX9_move 71 = .ok (.ifCond .lt 35, 3) := op_155 (rdSeg sd_08_cX9_move_2 7 rfl rfl) (rdSeg sd_08_cX9_move_2 8 rfl rfl) (rdSeg sd_08_cX9_move_2 9 rfl rfl) (by decide +kernel)
theorem dR_move_74 : decode cX9_move 74 = .ok (.iload 4, 2) := op_21 (rdSeg sd_08_cX9_move_2 10 rfl rfl) (rdSeg sd_08_cX9_move_2 11 rfl rfl)
theorem dR_move_76 : decode cX9_move 76 = .ok (.ifCond .lt 30, 3) := op_155 (rdSeg sd_08_cX9_move_2 12 rfl rfl) (rdSeg sd_08_cX9_move_2 13 rfl rfl) (rdSeg sd_08_cX9_move_2 14 rfl rfl) (by decide +kernel)
theorem dR_move_79 : decode cX9_move 79 = .ok (.iload_n 2, 1) := op_28 (rdSeg sd_08_cX9_move_2 15 rfl rfl)
theorem dR_move_80 : decode cX9_move 80 = .ok (.aload_n 0, 1) := op_42 (rdSeg sd_08_cX9_move_2 16 rfl rfl)
theorem dR_move_81 : decode cX9_move 81 = .ok (.getfield 43, 3) := op_180 (rdSeg sd_08_cX9_move_2 17 rfl rfl) (rdSeg sd_08_cX9_move_2 18 rfl rfl) (rdSeg sd_08_cX9_move_2 19 rfl rfl) rfl
theorem dR_move_84 : decode cX9_move 84 = .ok (.iload_n 1, 1) := op_27 (rdSeg sd_08_cX9_move_2 20 rfl rfl)
theorem dR_move_85 : decode cX9_move 85 = .ok (.iaload, 1) := op_46 (rdSeg sd_08_cX9_move_2 21 rfl rfl)
theorem dR_move_86 : decode cX9_move 86 = .ok (.iload 5, 2) := op_21 (rdSeg sd_08_cX9_move_2 22 rfl rfl) (rdSeg sd_08_cX9_move_2 23 rfl rfl)
theorem dR_move_88 : decode cX9_move 88 = .ok (.isub, 1) := op_100 (rdSeg sd_08_cX9_move_2 24 rfl rfl)
theorem dR_move_89 : decode cX9_move 89 = .ok (.if_icmp .gt 17, 3) := op_163 (rdSeg sd_08_cX9_move_2 25 rfl rfl) (rdSeg sd_08_cX9_move_2 26 rfl rfl) (rdSeg sd_08_cX9_move_2 27 rfl rfl) (by decide +kernel)
theorem dR_move_92 : decode cX9_move 92 = .ok (.iload 4, 2) := op_21 (rdSeg sd_08_cX9_move_2 28 rfl rfl) (rdSeg sd_08_cX9_move_2 29 rfl rfl)
theorem dR_move_94 : decode cX9_move 94 = .ok (.aload_n 0, 1) := op_42 (rdSeg sd_08_cX9_move_2 30 rfl rfl)
theorem dR_move_95 : decode cX9_move 95 = .ok (.getfield 43, 3) := op_180 (rdSeg sd_08_cX9_move_2 31 rfl rfl) (rdSeg sd_08_cX9_move_3 0 rfl rfl) (rdSeg sd_08_cX9_move_3 1 rfl rfl) rfl
theorem dR_move_98 : decode cX9_move 98 = .ok (.iload_n 3, 1) := op_29 (rdSeg sd_08_cX9_move_3 2 rfl rfl)
theorem dR_move_99 : decode cX9_move 99 = .ok (.iaload, 1) := op_46 (rdSeg sd_08_cX9_move_3 3 rfl rfl)
theorem dR_move_100 : decode cX9_move 100 = .ok (.iload 5, 2) := op_21 (rdSeg sd_08_cX9_move_3 4 rfl rfl) (rdSeg sd_08_cX9_move_3 5 rfl rfl)
theorem dR_move_102 : decode cX9_move 102 = .ok (.isub, 1) := op_100 (rdSeg sd_08_cX9_move_3 6 rfl rfl)
theorem dR_move_103 : decode cX9_move 103 = .ok (.if_icmp .le 9, 3) := op_164 (rdSeg sd_08_cX9_move_3 7 rfl rfl) (rdSeg sd_08_cX9_move_3 8 rfl rfl) (rdSeg sd_08_cX9_move_3 9 rfl rfl) (by decide +kernel)
theorem dR_move_106 : decode cX9_move 106 = .ok (.aload_n 0, 1) := op_42 (rdSeg sd_08_cX9_move_3 10 rfl rfl)
theorem dR_move_107 : decode cX9_move 107 = .ok (.iconst 1, 1) := op_4 (rdSeg sd_08_cX9_move_3 11 rfl rfl)
theorem dR_move_108 : decode cX9_move 108 = .ok (.invokevirtual 62, 3) := op_182 (rdSeg sd_08_cX9_move_3 12 rfl rfl) (rdSeg sd_08_cX9_move_3 13 rfl rfl) (rdSeg sd_08_cX9_move_3 14 rfl rfl) rfl
theorem dR_move_111 : decode cX9_move 111 = .ok (.ireturn, 1) := op_172 (rdSeg sd_08_cX9_move_3 15 rfl rfl)
theorem dR_move_112 : decode cX9_move 112 = .ok (.iconst 0, 1) := op_3 (rdSeg sd_08_cX9_move_3 16 rfl rfl)
theorem dR_move_113 : decode cX9_move 113 = .ok (.istore 6, 2) := op_54 (rdSeg sd_08_cX9_move_3 17 rfl rfl) (rdSeg sd_08_cX9_move_3 18 rfl rfl)
theorem dR_move_115 : decode cX9_move 115 = .ok (.iload 6, 2) := op_21 (rdSeg sd_08_cX9_move_3 19 rfl rfl) (rdSeg sd_08_cX9_move_3 20 rfl rfl)
theorem dR_move_117 : decode cX9_move 117 = .ok (.iload 5, 2) := op_21 (rdSeg sd_08_cX9_move_3 21 rfl rfl) (rdSeg sd_08_cX9_move_3 22 rfl rfl)
theorem dR_move_119 : decode cX9_move 119 = .ok (.if_icmp .ge 30, 3) := op_162 (rdSeg sd_08_cX9_move_3 23 rfl rfl) (rdSeg sd_08_cX9_move_3 24 rfl rfl) (rdSeg sd_08_cX9_move_3 25 rfl rfl) (by decide +kernel)
theorem dR_move_122 : decode cX9_move 122 = .ok (.aload_n 0, 1) := op_42 (rdSeg sd_08_cX9_move_3 26 rfl rfl)
theorem dR_move_123 : decode cX9_move 123 = .ok (.getfield 49, 3) := op_180 (rdSeg sd_08_cX9_move_3 27 rfl rfl) (rdSeg sd_08_cX9_move_3 28 rfl rfl) (rdSeg sd_08_cX9_move_3 29 rfl rfl) rfl
theorem dR_move_126 : decode cX9_move 126 = .ok (.iload 6, 2) := op_21 (rdSeg sd_08_cX9_move_3 30 rfl rfl) (rdSeg sd_08_cX9_move_3 31 rfl rfl)
theorem dR_move_128 : decode cX9_move 128 = .ok (.aload_n 0, 1) := op_42 (rdSeg sd_08_cX9_move_4 0 rfl rfl)
theorem dR_move_129 : decode cX9_move 129 = .ok (.getfield 46, 3) := op_180 (rdSeg sd_08_cX9_move_4 1 rfl rfl) (rdSeg sd_08_cX9_move_4 2 rfl rfl) (rdSeg sd_08_cX9_move_4 3 rfl rfl) rfl
theorem dR_move_132 : decode cX9_move 132 = .ok (.bipush 24, 2) := op_16 (rdSeg sd_08_cX9_move_4 4 rfl rfl) (rdSeg sd_08_cX9_move_4 5 rfl rfl) (by decide +kernel)
theorem dR_move_134 : decode cX9_move 134 = .ok (.iload_n 1, 1) := op_27 (rdSeg sd_08_cX9_move_4 6 rfl rfl)
theorem dR_move_135 : decode cX9_move 135 = .ok (.imul, 1) := op_104 (rdSeg sd_08_cX9_move_4 7 rfl rfl)
theorem dR_move_136 : decode cX9_move 136 = .ok (.iload_n 2, 1) := op_28 (rdSeg sd_08_cX9_move_4 8 rfl rfl)
theorem dR_move_137 : decode cX9_move 137 = .ok (.iadd, 1) := op_96 (rdSeg sd_08_cX9_move_4 9 rfl rfl)
theorem dR_move_138 : decode cX9_move 138 = .ok (.iload 6, 2) := op_21 (rdSeg sd_08_cX9_move_4 10 rfl rfl) (rdSeg sd_08_cX9_move_4 11 rfl rfl)
theorem dR_move_140 : decode cX9_move 140 = .ok (.iadd, 1) := op_96 (rdSeg sd_08_cX9_move_4 12 rfl rfl)
theorem dR_move_141 : decode cX9_move 141 = .ok (.iaload, 1) := op_46 (rdSeg sd_08_cX9_move_4 13 rfl rfl)
theorem dR_move_142 : decode cX9_move 142 = .ok (.iastore, 1) := op_79 (rdSeg sd_08_cX9_move_4 14 rfl rfl)
theorem dR_move_143 : decode cX9_move 143 = .ok (.iinc 6 1, 3) := op_132 (rdSeg sd_08_cX9_move_4 15 rfl rfl) (rdSeg sd_08_cX9_move_4 16 rfl rfl) (rdSeg sd_08_cX9_move_4 17 rfl rfl) (by decide +kernel)
theorem dR_move_146 : decode cX9_move 146 = .ok (.goto (-31), 3) := op_167 (rdSeg sd_08_cX9_move_4 18 rfl rfl) (rdSeg sd_08_cX9_move_4 19 rfl rfl) (rdSeg sd_08_cX9_move_4 20 rfl rfl) (by decide +kernel)
theorem dR_move_149 : decode cX9_move 149 = .ok (.iconst 0, 1) := op_3 (rdSeg sd_08_cX9_move_4 21 rfl rfl)
theorem dR_move_150 : decode cX9_move 150 = .ok (.istore 6, 2) := op_54 (rdSeg sd_08_cX9_move_4 22 rfl rfl) (rdSeg sd_08_cX9_move_4 23 rfl rfl)
theorem dR_move_152 : decode cX9_move 152 = .ok (.iload 6, 2) := op_21 (rdSeg sd_08_cX9_move_4 24 rfl rfl) (rdSeg sd_08_cX9_move_4 25 rfl rfl)
theorem dR_move_154 : decode cX9_move 154 = .ok (.iload 5, 2) := op_21 (rdSeg sd_08_cX9_move_4 26 rfl rfl) (rdSeg sd_08_cX9_move_4 27 rfl rfl)
theorem dR_move_156 : decode cX9_move 156 = .ok (.if_icmp .ge 31, 3) := op_162 (rdSeg sd_08_cX9_move_4 28 rfl rfl) (rdSeg sd_08_cX9_move_4 29 rfl rfl) (rdSeg sd_08_cX9_move_4 30 rfl rfl) (by decide +kernel)
theorem dR_move_159 : decode cX9_move 159 = .ok (.aload_n 0, 1) := op_42 (rdSeg sd_08_cX9_move_4 31 rfl rfl)
theorem dR_move_160 : decode cX9_move 160 = .ok (.getfield 46, 3) := op_180 (rdSeg sd_08_cX9_move_5 0 rfl rfl) (rdSeg sd_08_cX9_move_5 1 rfl rfl) (rdSeg sd_08_cX9_move_5 2 rfl rfl) rfl
theorem dR_move_163 : decode cX9_move 163 = .ok (.bipush 24, 2) := op_16 (rdSeg sd_08_cX9_move_5 3 rfl rfl) (rdSeg sd_08_cX9_move_5 4 rfl rfl) (by decide +kernel)
theorem dR_move_165 : decode cX9_move 165 = .ok (.iload_n 3, 1) := op_29 (rdSeg sd_08_cX9_move_5 5 rfl rfl)
theorem dR_move_166 : decode cX9_move 166 = .ok (.imul, 1) := op_104 (rdSeg sd_08_cX9_move_5 6 rfl rfl)
theorem dR_move_167 : decode cX9_move 167 = .ok (.iload 4, 2) := op_21 (rdSeg sd_08_cX9_move_5 7 rfl rfl) (rdSeg sd_08_cX9_move_5 8 rfl rfl)
theorem dR_move_169 : decode cX9_move 169 = .ok (.iadd, 1) := op_96 (rdSeg sd_08_cX9_move_5 9 rfl rfl)
theorem dR_move_170 : decode cX9_move 170 = .ok (.iload 6, 2) := op_21 (rdSeg sd_08_cX9_move_5 10 rfl rfl) (rdSeg sd_08_cX9_move_5 11 rfl rfl)
theorem dR_move_172 : decode cX9_move 172 = .ok (.iadd, 1) := op_96 (rdSeg sd_08_cX9_move_5 12 rfl rfl)
theorem dR_move_173 : decode cX9_move 173 = .ok (.aload_n 0, 1) := op_42 (rdSeg sd_08_cX9_move_5 13 rfl rfl)
theorem dR_move_174 : decode cX9_move 174 = .ok (.getfield 49, 3) := op_180 (rdSeg sd_08_cX9_move_5 14 rfl rfl) (rdSeg sd_08_cX9_move_5 15 rfl rfl) (rdSeg sd_08_cX9_move_5 16 rfl rfl) rfl
theorem dR_move_177 : decode cX9_move 177 = .ok (.iload 6, 2) := op_21 (rdSeg sd_08_cX9_move_5 17 rfl rfl) (rdSeg sd_08_cX9_move_5 18 rfl rfl)
theorem dR_move_179 : decode cX9_move 179 = .ok (.iaload, 1) := op_46 (rdSeg sd_08_cX9_move_5 19 rfl rfl)
theorem dR_move_180 : decode cX9_move 180 = .ok (.iastore, 1) := op_79 (rdSeg sd_08_cX9_move_5 20 rfl rfl)
theorem dR_move_181 : decode cX9_move 181 = .ok (.iinc 6 1, 3) := op_132 (rdSeg sd_08_cX9_move_5 21 rfl rfl) (rdSeg sd_08_cX9_move_5 22 rfl rfl) (rdSeg sd_08_cX9_move_5 23 rfl rfl) (by decide +kernel)
theorem dR_move_184 : decode cX9_move 184 = .ok (.goto (-32), 3) := op_167 (rdSeg sd_08_cX9_move_5 24 rfl rfl) (rdSeg sd_08_cX9_move_5 25 rfl rfl) (rdSeg sd_08_cX9_move_5 26 rfl rfl) (by decide +kernel)
theorem dR_move_187 : decode cX9_move 187 = .ok (.iload 5, 2) := op_21 (rdSeg sd_08_cX9_move_5 27 rfl rfl) (rdSeg sd_08_cX9_move_5 28 rfl rfl)
theorem dR_move_189 : decode cX9_move 189 = .ok (.ireturn, 1) := op_172 (rdSeg sd_08_cX9_move_5 29 rfl rfl)
def sg_08_cX9_lacks_0 : List UInt8 := [0x1b, 0xb8, 0x01, 0x16, 0x9a, 0x00, 0x07, 0x04, 0xa7, 0x00, 0x11, 0x2a, 0xb4, 0x00, 0x28, 0x1b, 0x2e, 0x9a, 0x00, 0x07, 0x05, 0xa7, 0x00, 0x04, 0x03, 0xac]
set_option maxRecDepth 100000 in
theorem sd_08_cX9_lacks_0 : cX9_lacks.data.toList.drop 0 = sg_08_cX9_lacks_0 := by decide +kernel
theorem dR_lacks_0 : decode cX9_lacks 0 = .ok (.iload_n 1, 1) := op_27 (rdSeg sd_08_cX9_lacks_0 0 rfl rfl)
theorem dR_lacks_1 : decode cX9_lacks 1 = .ok (.invokestatic 278, 3) := op_184 (rdSeg sd_08_cX9_lacks_0 1 rfl rfl) (rdSeg sd_08_cX9_lacks_0 2 rfl rfl) (rdSeg sd_08_cX9_lacks_0 3 rfl rfl) rfl
theorem dR_lacks_4 : decode cX9_lacks 4 = .ok (.ifCond .ne 7, 3) := op_154 (rdSeg sd_08_cX9_lacks_0 4 rfl rfl) (rdSeg sd_08_cX9_lacks_0 5 rfl rfl) (rdSeg sd_08_cX9_lacks_0 6 rfl rfl) (by decide +kernel)
theorem dR_lacks_7 : decode cX9_lacks 7 = .ok (.iconst 1, 1) := op_4 (rdSeg sd_08_cX9_lacks_0 7 rfl rfl)
theorem dR_lacks_8 : decode cX9_lacks 8 = .ok (.goto 17, 3) := op_167 (rdSeg sd_08_cX9_lacks_0 8 rfl rfl) (rdSeg sd_08_cX9_lacks_0 9 rfl rfl) (rdSeg sd_08_cX9_lacks_0 10 rfl rfl) (by decide +kernel)
theorem dR_lacks_11 : decode cX9_lacks 11 = .ok (.aload_n 0, 1) := op_42 (rdSeg sd_08_cX9_lacks_0 11 rfl rfl)
theorem dR_lacks_12 : decode cX9_lacks 12 = .ok (.getfield 40, 3) := op_180 (rdSeg sd_08_cX9_lacks_0 12 rfl rfl) (rdSeg sd_08_cX9_lacks_0 13 rfl rfl) (rdSeg sd_08_cX9_lacks_0 14 rfl rfl) rfl
theorem dR_lacks_15 : decode cX9_lacks 15 = .ok (.iload_n 1, 1) := op_27 (rdSeg sd_08_cX9_lacks_0 15 rfl rfl)
theorem dR_lacks_16 : decode cX9_lacks 16 = .ok (.iaload, 1) := op_46 (rdSeg sd_08_cX9_lacks_0 16 rfl rfl)
theorem dR_lacks_17 : decode cX9_lacks 17 = .ok (.ifCond .ne 7, 3) := op_154 (rdSeg sd_08_cX9_lacks_0 17 rfl rfl) (rdSeg sd_08_cX9_lacks_0 18 rfl rfl) (rdSeg sd_08_cX9_lacks_0 19 rfl rfl) (by decide +kernel)
theorem dR_lacks_20 : decode cX9_lacks 20 = .ok (.iconst 2, 1) := op_5 (rdSeg sd_08_cX9_lacks_0 20 rfl rfl)
theorem dR_lacks_21 : decode cX9_lacks 21 = .ok (.goto 4, 3) := op_167 (rdSeg sd_08_cX9_lacks_0 21 rfl rfl) (rdSeg sd_08_cX9_lacks_0 22 rfl rfl) (rdSeg sd_08_cX9_lacks_0 23 rfl rfl) (by decide +kernel)
theorem dR_lacks_24 : decode cX9_lacks 24 = .ok (.iconst 0, 1) := op_3 (rdSeg sd_08_cX9_lacks_0 24 rfl rfl)
theorem dR_lacks_25 : decode cX9_lacks 25 = .ok (.ireturn, 1) := op_172 (rdSeg sd_08_cX9_lacks_0 25 rfl rfl)
def sg_08_cX9_papers_4 : List UInt8 := [0x05, 0x60, 0x2e, 0xb6, 0x00, 0xd0, 0x84, 0x03, 0x01, 0xa7, 0xff, 0x8f, 0x1d, 0xac]
def sg_08_cX9_papers_3 : List UInt8 := 0x00 :: 0x2e :: 0x15 :: 0x04 :: 0x06 :: 0x1d :: 0x68 :: 0x60 :: 0x2e :: 0x2a :: 0xb4 :: 0x00 :: 0x2e :: 0x15 :: 0x04 :: 0x06 :: 0x1d :: 0x68 :: 0x60 :: 0x04 :: 0x60 :: 0x2e :: 0x2a :: 0xb4 :: 0x00 :: 0x2e :: 0x15 :: 0x04 :: 0x06 :: 0x1d :: 0x68 :: 0x60 :: sg_08_cX9_papers_4
def sg_08_cX9_papers_2 : List UInt8 := 0x2e :: 0x15 :: 0x04 :: 0x06 :: 0x1d :: 0x68 :: 0x60 :: 0x04 :: 0x60 :: 0x2e :: 0x2a :: 0xb4 :: 0x00 :: 0x2e :: 0x15 :: 0x04 :: 0x06 :: 0x1d :: 0x68 :: 0x60 :: 0x05 :: 0x60 :: 0x2e :: 0xb6 :: 0x00 :: 0xcd :: 0x99 :: 0x00 :: 0x32 :: 0x2a :: 0x2a :: 0xb4 :: sg_08_cX9_papers_3
def sg_08_cX9_papers_1 : List UInt8 := 0x2b :: 0x1b :: 0x2e :: 0xa2 :: 0x00 :: 0x69 :: 0x2a :: 0xb4 :: 0x00 :: 0x07 :: 0x06 :: 0x2e :: 0x10 :: 0x06 :: 0xa2 :: 0x00 :: 0x5e :: 0x2a :: 0x2a :: 0xb4 :: 0x00 :: 0x2e :: 0x15 :: 0x04 :: 0x06 :: 0x1d :: 0x68 :: 0x60 :: 0x2e :: 0x2a :: 0xb4 :: 0x00 :: sg_08_cX9_papers_2
def sg_08_cX9_papers_0 : List UInt8 := 0x2a :: 0x1b :: 0xb6 :: 0x01 :: 0x19 :: 0x3d :: 0x1c :: 0x9e :: 0x00 :: 0x09 :: 0x2a :: 0x1c :: 0xb6 :: 0x00 :: 0x3e :: 0xac :: 0x03 :: 0x3e :: 0x10 :: 0x18 :: 0x1b :: 0x68 :: 0x36 :: 0x04 :: 0x06 :: 0x1d :: 0x68 :: 0x05 :: 0x60 :: 0x2a :: 0xb4 :: 0x00 :: sg_08_cX9_papers_1
set_option maxRecDepth 100000 in
theorem sd_08_cX9_papers_0 : cX9_papers.data.toList.drop 0 = sg_08_cX9_papers_0 := by decide +kernel
theorem sd_08_cX9_papers_1 : cX9_papers.data.toList.drop 32 = sg_08_cX9_papers_1 := sg_next sd_08_cX9_papers_0 rfl
theorem sd_08_cX9_papers_2 : cX9_papers.data.toList.drop 64 = sg_08_cX9_papers_2 := sg_next sd_08_cX9_papers_1 rfl
theorem sd_08_cX9_papers_3 : cX9_papers.data.toList.drop 96 = sg_08_cX9_papers_3 := sg_next sd_08_cX9_papers_2 rfl
theorem sd_08_cX9_papers_4 : cX9_papers.data.toList.drop 128 = sg_08_cX9_papers_4 := sg_next sd_08_cX9_papers_3 rfl
theorem dR_papers_0 : decode cX9_papers 0 = .ok (.aload_n 0, 1) := op_42 (rdSeg sd_08_cX9_papers_0 0 rfl rfl)
theorem dR_papers_1 : decode cX9_papers 1 = .ok (.iload_n 1, 1) := op_27 (rdSeg sd_08_cX9_papers_0 1 rfl rfl)
theorem dR_papers_2 : decode cX9_papers 2 = .ok (.invokevirtual 281, 3) := op_182 (rdSeg sd_08_cX9_papers_0 2 rfl rfl) (rdSeg sd_08_cX9_papers_0 3 rfl rfl) (rdSeg sd_08_cX9_papers_0 4 rfl rfl) rfl
theorem dR_papers_5 : decode cX9_papers 5 = .ok (.istore_n 2, 1) := op_61 (rdSeg sd_08_cX9_papers_0 5 rfl rfl)
theorem dR_papers_6 : decode cX9_papers 6 = .ok (.iload_n 2, 1) := op_28 (rdSeg sd_08_cX9_papers_0 6 rfl rfl)
theorem dR_papers_7 : decode cX9_papers 7 = .ok (.ifCond .le 9, 3) := op_158 (rdSeg sd_08_cX9_papers_0 7 rfl rfl) (rdSeg sd_08_cX9_papers_0 8 rfl rfl) (rdSeg sd_08_cX9_papers_0 9 rfl rfl) (by decide +kernel)
theorem dR_papers_10 : decode cX9_papers 10 = .ok (.aload_n 0, 1) := op_42 (rdSeg sd_08_cX9_papers_0 10 rfl rfl)
theorem dR_papers_11 : decode cX9_papers 11 = .ok (.iload_n 2, 1) := op_28 (rdSeg sd_08_cX9_papers_0 11 rfl rfl)
theorem dR_papers_12 : decode cX9_papers 12 = .ok (.invokevirtual 62, 3) := op_182 (rdSeg sd_08_cX9_papers_0 12 rfl rfl) (rdSeg sd_08_cX9_papers_0 13 rfl rfl) (rdSeg sd_08_cX9_papers_0 14 rfl rfl) rfl
theorem dR_papers_15 : decode cX9_papers 15 = .ok (.ireturn, 1) := op_172 (rdSeg sd_08_cX9_papers_0 15 rfl rfl)
theorem dR_papers_16 : decode cX9_papers 16 = .ok (.iconst 0, 1) := op_3 (rdSeg sd_08_cX9_papers_0 16 rfl rfl)
theorem dR_papers_17 : decode cX9_papers 17 = .ok (.istore_n 3, 1) := op_62 (rdSeg sd_08_cX9_papers_0 17 rfl rfl)
theorem dR_papers_18 : decode cX9_papers 18 = .ok (.bipush 24, 2) := op_16 (rdSeg sd_08_cX9_papers_0 18 rfl rfl) (rdSeg sd_08_cX9_papers_0 19 rfl rfl) (by decide +kernel)
theorem dR_papers_20 : decode cX9_papers 20 = .ok (.iload_n 1, 1) := op_27 (rdSeg sd_08_cX9_papers_0 20 rfl rfl)
theorem dR_papers_21 : decode cX9_papers 21 = .ok (.imul, 1) := op_104 (rdSeg sd_08_cX9_papers_0 21 rfl rfl)
theorem dR_papers_22 : decode cX9_papers 22 = .ok (.istore 4, 2) := op_54 (rdSeg sd_08_cX9_papers_0 22 rfl rfl) (rdSeg sd_08_cX9_papers_0 23 rfl rfl)
theorem dR_papers_24 : decode cX9_papers 24 = .ok (.iconst 3, 1) := op_6 (rdSeg sd_08_cX9_papers_0 24 rfl rfl)
theorem dR_papers_25 : decode cX9_papers 25 = .ok (.iload_n 3, 1) := op_29 (rdSeg sd_08_cX9_papers_0 25 rfl rfl)
theorem dR_papers_26 : decode cX9_papers 26 = .ok (.imul, 1) := op_104 (rdSeg sd_08_cX9_papers_0 26 rfl rfl)
theorem dR_papers_27 : decode cX9_papers 27 = .ok (.iconst 2, 1) := op_5 (rdSeg sd_08_cX9_papers_0 27 rfl rfl)
theorem dR_papers_28 : decode cX9_papers 28 = .ok (.iadd, 1) := op_96 (rdSeg sd_08_cX9_papers_0 28 rfl rfl)
theorem dR_papers_29 : decode cX9_papers 29 = .ok (.aload_n 0, 1) := op_42 (rdSeg sd_08_cX9_papers_0 29 rfl rfl)
theorem dR_papers_30 : decode cX9_papers 30 = .ok (.getfield 43, 3) := op_180 (rdSeg sd_08_cX9_papers_0 30 rfl rfl) (rdSeg sd_08_cX9_papers_0 31 rfl rfl) (rdSeg sd_08_cX9_papers_1 0 rfl rfl) rfl
theorem dR_papers_33 : decode cX9_papers 33 = .ok (.iload_n 1, 1) := op_27 (rdSeg sd_08_cX9_papers_1 1 rfl rfl)
theorem dR_papers_34 : decode cX9_papers 34 = .ok (.iaload, 1) := op_46 (rdSeg sd_08_cX9_papers_1 2 rfl rfl)
theorem dR_papers_35 : decode cX9_papers 35 = .ok (.if_icmp .ge 105, 3) := op_162 (rdSeg sd_08_cX9_papers_1 3 rfl rfl) (rdSeg sd_08_cX9_papers_1 4 rfl rfl) (rdSeg sd_08_cX9_papers_1 5 rfl rfl) (by decide +kernel)
theorem dR_papers_38 : decode cX9_papers 38 = .ok (.aload_n 0, 1) := op_42 (rdSeg sd_08_cX9_papers_1 6 rfl rfl)
theorem dR_papers_39 : decode cX9_papers 39 = .ok (.getfield 7, 3) := op_180 (rdSeg sd_08_cX9_papers_1 7 rfl rfl) (rdSeg sd_08_cX9_papers_1 8 rfl rfl) (rdSeg sd_08_cX9_papers_1 9 rfl rfl) rfl
theorem dR_papers_42 : decode cX9_papers 42 = .ok (.iconst 3, 1) := op_6 (rdSeg sd_08_cX9_papers_1 10 rfl rfl)
theorem dR_papers_43 : decode cX9_papers 43 = .ok (.iaload, 1) := op_46 (rdSeg sd_08_cX9_papers_1 11 rfl rfl)
theorem dR_papers_44 : decode cX9_papers 44 = .ok (.bipush 6, 2) := op_16 (rdSeg sd_08_cX9_papers_1 12 rfl rfl) (rdSeg sd_08_cX9_papers_1 13 rfl rfl) (by decide +kernel)
theorem dR_papers_46 : decode cX9_papers 46 = .ok (.if_icmp .ge 94, 3) := op_162 (rdSeg sd_08_cX9_papers_1 14 rfl rfl) (rdSeg sd_08_cX9_papers_1 15 rfl rfl) (rdSeg sd_08_cX9_papers_1 16 rfl rfl) (by decide +kernel)
theorem dR_papers_49 : decode cX9_papers 49 = .ok (.aload_n 0, 1) := op_42 (rdSeg sd_08_cX9_papers_1 17 rfl rfl)
theorem dR_papers_50 : decode cX9_papers 50 = .ok (.aload_n 0, 1) := op_42 (rdSeg sd_08_cX9_papers_1 18 rfl rfl)
theorem dR_papers_51 : decode cX9_papers 51 = .ok (.getfield 46, 3) := op_180 (rdSeg sd_08_cX9_papers_1 19 rfl rfl) (rdSeg sd_08_cX9_papers_1 20 rfl rfl) (rdSeg sd_08_cX9_papers_1 21 rfl rfl) rfl
theorem dR_papers_54 : decode cX9_papers 54 = .ok (.iload 4, 2) := op_21 (rdSeg sd_08_cX9_papers_1 22 rfl rfl) (rdSeg sd_08_cX9_papers_1 23 rfl rfl)
theorem dR_papers_56 : decode cX9_papers 56 = .ok (.iconst 3, 1) := op_6 (rdSeg sd_08_cX9_papers_1 24 rfl rfl)
theorem dR_papers_57 : decode cX9_papers 57 = .ok (.iload_n 3, 1) := op_29 (rdSeg sd_08_cX9_papers_1 25 rfl rfl)
theorem dR_papers_58 : decode cX9_papers 58 = .ok (.imul, 1) := op_104 (rdSeg sd_08_cX9_papers_1 26 rfl rfl)
theorem dR_papers_59 : decode cX9_papers 59 = .ok (.iadd, 1) := op_96 (rdSeg sd_08_cX9_papers_1 27 rfl rfl)
theorem dR_papers_60 : decode cX9_papers 60 = .ok (.iaload, 1) := op_46 (rdSeg sd_08_cX9_papers_1 28 rfl rfl)
theorem dR_papers_61 : decode cX9_papers 61 = .ok (.aload_n 0, 1) := op_42 (rdSeg sd_08_cX9_papers_1 29 rfl rfl)
theorem dR_papers_62 : decode cX9_papers 62 = .ok (.getfield 46, 3) := op_180 (rdSeg sd_08_cX9_papers_1 30 rfl rfl) (rdSeg sd_08_cX9_papers_1 31 rfl rfl) (rdSeg sd_08_cX9_papers_2 0 rfl rfl) rfl
theorem dR_papers_65 : decode cX9_papers 65 = .ok (.iload 4, 2) := op_21 (rdSeg sd_08_cX9_papers_2 1 rfl rfl) (rdSeg sd_08_cX9_papers_2 2 rfl rfl)
theorem dR_papers_67 : decode cX9_papers 67 = .ok (.iconst 3, 1) := op_6 (rdSeg sd_08_cX9_papers_2 3 rfl rfl)
theorem dR_papers_68 : decode cX9_papers 68 = .ok (.iload_n 3, 1) := op_29 (rdSeg sd_08_cX9_papers_2 4 rfl rfl)
theorem dR_papers_69 : decode cX9_papers 69 = .ok (.imul, 1) := op_104 (rdSeg sd_08_cX9_papers_2 5 rfl rfl)
theorem dR_papers_70 : decode cX9_papers 70 = .ok (.iadd, 1) := op_96 (rdSeg sd_08_cX9_papers_2 6 rfl rfl)
theorem dR_papers_71 : decode cX9_papers 71 = .ok (.iconst 1, 1) := op_4 (rdSeg sd_08_cX9_papers_2 7 rfl rfl)
theorem dR_papers_72 : decode cX9_papers 72 = .ok (.iadd, 1) := op_96 (rdSeg sd_08_cX9_papers_2 8 rfl rfl)
theorem dR_papers_73 : decode cX9_papers 73 = .ok (.iaload, 1) := op_46 (rdSeg sd_08_cX9_papers_2 9 rfl rfl)
theorem dR_papers_74 : decode cX9_papers 74 = .ok (.aload_n 0, 1) := op_42 (rdSeg sd_08_cX9_papers_2 10 rfl rfl)
theorem dR_papers_75 : decode cX9_papers 75 = .ok (.getfield 46, 3) := op_180 (rdSeg sd_08_cX9_papers_2 11 rfl rfl) (rdSeg sd_08_cX9_papers_2 12 rfl rfl) (rdSeg sd_08_cX9_papers_2 13 rfl rfl) rfl
theorem dR_papers_78 : decode cX9_papers 78 = .ok (.iload 4, 2) := op_21 (rdSeg sd_08_cX9_papers_2 14 rfl rfl) (rdSeg sd_08_cX9_papers_2 15 rfl rfl)
theorem dR_papers_80 : decode cX9_papers 80 = .ok (.iconst 3, 1) := op_6 (rdSeg sd_08_cX9_papers_2 16 rfl rfl)
theorem dR_papers_81 : decode cX9_papers 81 = .ok (.iload_n 3, 1) := op_29 (rdSeg sd_08_cX9_papers_2 17 rfl rfl)
theorem dR_papers_82 : decode cX9_papers 82 = .ok (.imul, 1) := op_104 (rdSeg sd_08_cX9_papers_2 18 rfl rfl)
theorem dR_papers_83 : decode cX9_papers 83 = .ok (.iadd, 1) := op_96 (rdSeg sd_08_cX9_papers_2 19 rfl rfl)
theorem dR_papers_84 : decode cX9_papers 84 = .ok (.iconst 2, 1) := op_5 (rdSeg sd_08_cX9_papers_2 20 rfl rfl)
theorem dR_papers_85 : decode cX9_papers 85 = .ok (.iadd, 1) := op_96 (rdSeg sd_08_cX9_papers_2 21 rfl rfl)
theorem dR_papers_86 : decode cX9_papers 86 = .ok (.iaload, 1) := op_46 (rdSeg sd_08_cX9_papers_2 22 rfl rfl)
theorem dR_papers_87 : decode cX9_papers 87 = .ok (.invokevirtual 205, 3) := op_182 (rdSeg sd_08_cX9_papers_2 23 rfl rfl) (rdSeg sd_08_cX9_papers_2 24 rfl rfl) (rdSeg sd_08_cX9_papers_2 25 rfl rfl) rfl
theorem dR_papers_90 : decode cX9_papers 90 = .ok (.ifCond .eq 50, 3) := op_153 (rdSeg sd_08_cX9_papers_2 26 rfl rfl) (rdSeg sd_08_cX9_papers_2 27 rfl rfl) (rdSeg sd_08_cX9_papers_2 28 rfl rfl) (by decide +kernel)
theorem dR_papers_93 : decode cX9_papers 93 = .ok (.aload_n 0, 1) := op_42 (rdSeg sd_08_cX9_papers_2 29 rfl rfl)
theorem dR_papers_94 : decode cX9_papers 94 = .ok (.aload_n 0, 1) := op_42 (rdSeg sd_08_cX9_papers_2 30 rfl rfl)
theorem dR_papers_95 : decode cX9_papers 95 = .ok (.getfield 46, 3) := op_180 (rdSeg sd_08_cX9_papers_2 31 rfl rfl) (rdSeg sd_08_cX9_papers_3 0 rfl rfl) (rdSeg sd_08_cX9_papers_3 1 rfl rfl) rfl
theorem dR_papers_98 : decode cX9_papers 98 = .ok (.iload 4, 2) := op_21 (rdSeg sd_08_cX9_papers_3 2 rfl rfl) (rdSeg sd_08_cX9_papers_3 3 rfl rfl)
theorem dR_papers_100 : decode cX9_papers 100 = .ok (.iconst 3, 1) := op_6 (rdSeg sd_08_cX9_papers_3 4 rfl rfl)
theorem dR_papers_101 : decode cX9_papers 101 = .ok (.iload_n 3, 1) := op_29 (rdSeg sd_08_cX9_papers_3 5 rfl rfl)
theorem dR_papers_102 : decode cX9_papers 102 = .ok (.imul, 1) := op_104 (rdSeg sd_08_cX9_papers_3 6 rfl rfl)
theorem dR_papers_103 : decode cX9_papers 103 = .ok (.iadd, 1) := op_96 (rdSeg sd_08_cX9_papers_3 7 rfl rfl)
theorem dR_papers_104 : decode cX9_papers 104 = .ok (.iaload, 1) := op_46 (rdSeg sd_08_cX9_papers_3 8 rfl rfl)
theorem dR_papers_105 : decode cX9_papers 105 = .ok (.aload_n 0, 1) := op_42 (rdSeg sd_08_cX9_papers_3 9 rfl rfl)
theorem dR_papers_106 : decode cX9_papers 106 = .ok (.getfield 46, 3) := op_180 (rdSeg sd_08_cX9_papers_3 10 rfl rfl) (rdSeg sd_08_cX9_papers_3 11 rfl rfl) (rdSeg sd_08_cX9_papers_3 12 rfl rfl) rfl
theorem dR_papers_109 : decode cX9_papers 109 = .ok (.iload 4, 2) := op_21 (rdSeg sd_08_cX9_papers_3 13 rfl rfl) (rdSeg sd_08_cX9_papers_3 14 rfl rfl)
theorem dR_papers_111 : decode cX9_papers 111 = .ok (.iconst 3, 1) := op_6 (rdSeg sd_08_cX9_papers_3 15 rfl rfl)
theorem dR_papers_112 : decode cX9_papers 112 = .ok (.iload_n 3, 1) := op_29 (rdSeg sd_08_cX9_papers_3 16 rfl rfl)
theorem dR_papers_113 : decode cX9_papers 113 = .ok (.imul, 1) := op_104 (rdSeg sd_08_cX9_papers_3 17 rfl rfl)
theorem dR_papers_114 : decode cX9_papers 114 = .ok (.iadd, 1) := op_96 (rdSeg sd_08_cX9_papers_3 18 rfl rfl)
theorem dR_papers_115 : decode cX9_papers 115 = .ok (.iconst 1, 1) := op_4 (rdSeg sd_08_cX9_papers_3 19 rfl rfl)
theorem dR_papers_116 : decode cX9_papers 116 = .ok (.iadd, 1) := op_96 (rdSeg sd_08_cX9_papers_3 20 rfl rfl)
theorem dR_papers_117 : decode cX9_papers 117 = .ok (.iaload, 1) := op_46 (rdSeg sd_08_cX9_papers_3 21 rfl rfl)
theorem dR_papers_118 : decode cX9_papers 118 = .ok (.aload_n 0, 1) := op_42 (rdSeg sd_08_cX9_papers_3 22 rfl rfl)
theorem dR_papers_119 : decode cX9_papers 119 = .ok (.getfield 46, 3) := op_180 (rdSeg sd_08_cX9_papers_3 23 rfl rfl) (rdSeg sd_08_cX9_papers_3 24 rfl rfl) (rdSeg sd_08_cX9_papers_3 25 rfl rfl) rfl
theorem dR_papers_122 : decode cX9_papers 122 = .ok (.iload 4, 2) := op_21 (rdSeg sd_08_cX9_papers_3 26 rfl rfl) (rdSeg sd_08_cX9_papers_3 27 rfl rfl)
theorem dR_papers_124 : decode cX9_papers 124 = .ok (.iconst 3, 1) := op_6 (rdSeg sd_08_cX9_papers_3 28 rfl rfl)
theorem dR_papers_125 : decode cX9_papers 125 = .ok (.iload_n 3, 1) := op_29 (rdSeg sd_08_cX9_papers_3 29 rfl rfl)
theorem dR_papers_126 : decode cX9_papers 126 = .ok (.imul, 1) := op_104 (rdSeg sd_08_cX9_papers_3 30 rfl rfl)
theorem dR_papers_127 : decode cX9_papers 127 = .ok (.iadd, 1) := op_96 (rdSeg sd_08_cX9_papers_3 31 rfl rfl)
theorem dR_papers_128 : decode cX9_papers 128 = .ok (.iconst 2, 1) := op_5 (rdSeg sd_08_cX9_papers_4 0 rfl rfl)
theorem dR_papers_129 : decode cX9_papers 129 = .ok (.iadd, 1) := op_96 (rdSeg sd_08_cX9_papers_4 1 rfl rfl)
theorem dR_papers_130 : decode cX9_papers 130 = .ok (.iaload, 1) := op_46 (rdSeg sd_08_cX9_papers_4 2 rfl rfl)
theorem dR_papers_131 : decode cX9_papers 131 = .ok (.invokevirtual 208, 3) := op_182 (rdSeg sd_08_cX9_papers_4 3 rfl rfl) (rdSeg sd_08_cX9_papers_4 4 rfl rfl) (rdSeg sd_08_cX9_papers_4 5 rfl rfl) rfl
theorem dR_papers_134 : decode cX9_papers 134 = .ok (.iinc 3 1, 3) := op_132 (rdSeg sd_08_cX9_papers_4 6 rfl rfl) (rdSeg sd_08_cX9_papers_4 7 rfl rfl) (rdSeg sd_08_cX9_papers_4 8 rfl rfl) (by decide +kernel)
theorem dR_papers_137 : decode cX9_papers 137 = .ok (.goto (-113), 3) := op_167 (rdSeg sd_08_cX9_papers_4 9 rfl rfl) (rdSeg sd_08_cX9_papers_4 10 rfl rfl) (rdSeg sd_08_cX9_papers_4 11 rfl rfl) (by decide +kernel)
theorem dR_papers_140 : decode cX9_papers 140 = .ok (.iload_n 3, 1) := op_29 (rdSeg sd_08_cX9_papers_4 12 rfl rfl)
theorem dR_papers_141 : decode cX9_papers 141 = .ok (.ireturn, 1) := op_172 (rdSeg sd_08_cX9_papers_4 13 rfl rfl)
def sg_08_cX9_judge_3 : List UInt8 := [0xd1, 0x2a, 0xb4, 0x00, 0x10, 0x2a, 0xb4, 0x00, 0x07, 0xb8, 0x00, 0x75, 0x15, 0x04, 0xac]
def sg_08_cX9_judge_2 : List UInt8 := 0x1b :: 0x2e :: 0xa2 :: 0x00 :: 0x1f :: 0x2a :: 0xb4 :: 0x00 :: 0x2e :: 0x10 :: 0x18 :: 0x1b :: 0x68 :: 0x15 :: 0x04 :: 0x60 :: 0x2e :: 0x2a :: 0x15 :: 0x04 :: 0x05 :: 0xb6 :: 0x00 :: 0x49 :: 0xa0 :: 0x00 :: 0x09 :: 0x84 :: 0x04 :: 0x01 :: 0xa7 :: 0xff :: sg_08_cX9_judge_3
def sg_08_cX9_judge_1 : List UInt8 := 0x2a :: 0xb4 :: 0x00 :: 0x10 :: 0xb8 :: 0x00 :: 0x75 :: 0x2a :: 0x1c :: 0xb6 :: 0x00 :: 0xd6 :: 0x03 :: 0x36 :: 0x04 :: 0x15 :: 0x04 :: 0x2a :: 0xb4 :: 0x00 :: 0x07 :: 0x03 :: 0x2e :: 0xa2 :: 0x00 :: 0x2a :: 0x15 :: 0x04 :: 0x2a :: 0xb4 :: 0x00 :: 0x2b :: sg_08_cX9_judge_2
def sg_08_cX9_judge_0 : List UInt8 := 0x2a :: 0x1c :: 0xb6 :: 0x00 :: 0xd9 :: 0x99 :: 0x00 :: 0x0b :: 0x2a :: 0x1b :: 0xb6 :: 0x01 :: 0x19 :: 0xa7 :: 0x00 :: 0x04 :: 0x04 :: 0x3e :: 0x1d :: 0x9e :: 0x00 :: 0x09 :: 0x2a :: 0x1d :: 0xb6 :: 0x00 :: 0x3e :: 0xac :: 0x2a :: 0xb4 :: 0x00 :: 0x07 :: sg_08_cX9_judge_1
set_option maxRecDepth 100000 in
theorem sd_08_cX9_judge_0 : cX9_judge.data.toList.drop 0 = sg_08_cX9_judge_0 := by decide +kernel
theorem sd_08_cX9_judge_1 : cX9_judge.data.toList.drop 32 = sg_08_cX9_judge_1 := sg_next sd_08_cX9_judge_0 rfl
theorem sd_08_cX9_judge_2 : cX9_judge.data.toList.drop 64 = sg_08_cX9_judge_2 := sg_next sd_08_cX9_judge_1 rfl
theorem sd_08_cX9_judge_3 : cX9_judge.data.toList.drop 96 = sg_08_cX9_judge_3 := sg_next sd_08_cX9_judge_2 rfl
theorem dR_judge_0 : decode cX9_judge 0 = .ok (.aload_n 0, 1) := op_42 (rdSeg sd_08_cX9_judge_0 0 rfl rfl)
theorem dR_judge_1 : decode cX9_judge 1 = .ok (.iload_n 2, 1) := op_28 (rdSeg sd_08_cX9_judge_0 1 rfl rfl)
theorem dR_judge_2 : decode cX9_judge 2 = .ok (.invokevirtual 217, 3) := op_182 (rdSeg sd_08_cX9_judge_0 2 rfl rfl) (rdSeg sd_08_cX9_judge_0 3 rfl rfl) (rdSeg sd_08_cX9_judge_0 4 rfl rfl) rfl
theorem dR_judge_5 : decode cX9_judge 5 = .ok (.ifCond .eq 11, 3) := op_153 (rdSeg sd_08_cX9_judge_0 5 rfl rfl) (rdSeg sd_08_cX9_judge_0 6 rfl rfl) (rdSeg sd_08_cX9_judge_0 7 rfl rfl) (by decide +kernel)
theorem dR_judge_8 : decode cX9_judge 8 = .ok (.aload_n 0, 1) := op_42 (rdSeg sd_08_cX9_judge_0 8 rfl rfl)
theorem dR_judge_9 : decode cX9_judge 9 = .ok (.iload_n 1, 1) := op_27 (rdSeg sd_08_cX9_judge_0 9 rfl rfl)
theorem dR_judge_10 : decode cX9_judge 10 = .ok (.invokevirtual 281, 3) := op_182 (rdSeg sd_08_cX9_judge_0 10 rfl rfl) (rdSeg sd_08_cX9_judge_0 11 rfl rfl) (rdSeg sd_08_cX9_judge_0 12 rfl rfl) rfl
theorem dR_judge_13 : decode cX9_judge 13 = .ok (.goto 4, 3) := op_167 (rdSeg sd_08_cX9_judge_0 13 rfl rfl) (rdSeg sd_08_cX9_judge_0 14 rfl rfl) (rdSeg sd_08_cX9_judge_0 15 rfl rfl) (by decide +kernel)
theorem dR_judge_16 : decode cX9_judge 16 = .ok (.iconst 1, 1) := op_4 (rdSeg sd_08_cX9_judge_0 16 rfl rfl)
theorem dR_judge_17 : decode cX9_judge 17 = .ok (.istore_n 3, 1) := op_62 (rdSeg sd_08_cX9_judge_0 17 rfl rfl)
theorem dR_judge_18 : decode cX9_judge 18 = .ok (.iload_n 3, 1) := op_29 (rdSeg sd_08_cX9_judge_0 18 rfl rfl)
theorem dR_judge_19 : decode cX9_judge 19 = .ok (.ifCond .le 9, 3) := op_158 (rdSeg sd_08_cX9_judge_0 19 rfl rfl) (rdSeg sd_08_cX9_judge_0 20 rfl rfl) (rdSeg sd_08_cX9_judge_0 21 rfl rfl) (by decide +kernel)
theorem dR_judge_22 : decode cX9_judge 22 = .ok (.aload_n 0, 1) := op_42 (rdSeg sd_08_cX9_judge_0 22 rfl rfl)
theorem dR_judge_23 : decode cX9_judge 23 = .ok (.iload_n 3, 1) := op_29 (rdSeg sd_08_cX9_judge_0 23 rfl rfl)
theorem dR_judge_24 : decode cX9_judge 24 = .ok (.invokevirtual 62, 3) := op_182 (rdSeg sd_08_cX9_judge_0 24 rfl rfl) (rdSeg sd_08_cX9_judge_0 25 rfl rfl) (rdSeg sd_08_cX9_judge_0 26 rfl rfl) rfl
theorem dR_judge_27 : decode cX9_judge 27 = .ok (.ireturn, 1) := op_172 (rdSeg sd_08_cX9_judge_0 27 rfl rfl)
theorem dR_judge_28 : decode cX9_judge 28 = .ok (.aload_n 0, 1) := op_42 (rdSeg sd_08_cX9_judge_0 28 rfl rfl)
theorem dR_judge_29 : decode cX9_judge 29 = .ok (.getfield 7, 3) := op_180 (rdSeg sd_08_cX9_judge_0 29 rfl rfl) (rdSeg sd_08_cX9_judge_0 30 rfl rfl) (rdSeg sd_08_cX9_judge_0 31 rfl rfl) rfl
theorem dR_judge_32 : decode cX9_judge 32 = .ok (.aload_n 0, 1) := op_42 (rdSeg sd_08_cX9_judge_1 0 rfl rfl)
theorem dR_judge_33 : decode cX9_judge 33 = .ok (.getfield 16, 3) := op_180 (rdSeg sd_08_cX9_judge_1 1 rfl rfl) (rdSeg sd_08_cX9_judge_1 2 rfl rfl) (rdSeg sd_08_cX9_judge_1 3 rfl rfl) rfl
theorem dR_judge_36 : decode cX9_judge 36 = .ok (.invokestatic 117, 3) := op_184 (rdSeg sd_08_cX9_judge_1 4 rfl rfl) (rdSeg sd_08_cX9_judge_1 5 rfl rfl) (rdSeg sd_08_cX9_judge_1 6 rfl rfl) rfl
theorem dR_judge_39 : decode cX9_judge 39 = .ok (.aload_n 0, 1) := op_42 (rdSeg sd_08_cX9_judge_1 7 rfl rfl)
theorem dR_judge_40 : decode cX9_judge 40 = .ok (.iload_n 2, 1) := op_28 (rdSeg sd_08_cX9_judge_1 8 rfl rfl)
theorem dR_judge_41 : decode cX9_judge 41 = .ok (.invokevirtual 214, 3) := op_182 (rdSeg sd_08_cX9_judge_1 9 rfl rfl) (rdSeg sd_08_cX9_judge_1 10 rfl rfl) (rdSeg sd_08_cX9_judge_1 11 rfl rfl) rfl
theorem dR_judge_44 : decode cX9_judge 44 = .ok (.iconst 0, 1) := op_3 (rdSeg sd_08_cX9_judge_1 12 rfl rfl)
theorem dR_judge_45 : decode cX9_judge 45 = .ok (.istore 4, 2) := op_54 (rdSeg sd_08_cX9_judge_1 13 rfl rfl) (rdSeg sd_08_cX9_judge_1 14 rfl rfl)
theorem dR_judge_47 : decode cX9_judge 47 = .ok (.iload 4, 2) := op_21 (rdSeg sd_08_cX9_judge_1 15 rfl rfl) (rdSeg sd_08_cX9_judge_1 16 rfl rfl)
theorem dR_judge_49 : decode cX9_judge 49 = .ok (.aload_n 0, 1) := op_42 (rdSeg sd_08_cX9_judge_1 17 rfl rfl)
theorem dR_judge_50 : decode cX9_judge 50 = .ok (.getfield 7, 3) := op_180 (rdSeg sd_08_cX9_judge_1 18 rfl rfl) (rdSeg sd_08_cX9_judge_1 19 rfl rfl) (rdSeg sd_08_cX9_judge_1 20 rfl rfl) rfl
theorem dR_judge_53 : decode cX9_judge 53 = .ok (.iconst 0, 1) := op_3 (rdSeg sd_08_cX9_judge_1 21 rfl rfl)
theorem dR_judge_54 : decode cX9_judge 54 = .ok (.iaload, 1) := op_46 (rdSeg sd_08_cX9_judge_1 22 rfl rfl)
theorem dR_judge_55 : decode cX9_judge 55 = .ok (.if_icmp .ge 42, 3) := op_162 (rdSeg sd_08_cX9_judge_1 23 rfl rfl) (rdSeg sd_08_cX9_judge_1 24 rfl rfl) (rdSeg sd_08_cX9_judge_1 25 rfl rfl) (by decide +kernel)
theorem dR_judge_58 : decode cX9_judge 58 = .ok (.iload 4, 2) := op_21 (rdSeg sd_08_cX9_judge_1 26 rfl rfl) (rdSeg sd_08_cX9_judge_1 27 rfl rfl)
theorem dR_judge_60 : decode cX9_judge 60 = .ok (.aload_n 0, 1) := op_42 (rdSeg sd_08_cX9_judge_1 28 rfl rfl)
theorem dR_judge_61 : decode cX9_judge 61 = .ok (.getfield 43, 3) := op_180 (rdSeg sd_08_cX9_judge_1 29 rfl rfl) (rdSeg sd_08_cX9_judge_1 30 rfl rfl) (rdSeg sd_08_cX9_judge_1 31 rfl rfl) rfl
theorem dR_judge_64 : decode cX9_judge 64 = .ok (.iload_n 1, 1) := op_27 (rdSeg sd_08_cX9_judge_2 0 rfl rfl)
theorem dR_judge_65 : decode cX9_judge 65 = .ok (.iaload, 1) := op_46 (rdSeg sd_08_cX9_judge_2 1 rfl rfl)
theorem dR_judge_66 : decode cX9_judge 66 = .ok (.if_icmp .ge 31, 3) := op_162 (rdSeg sd_08_cX9_judge_2 2 rfl rfl) (rdSeg sd_08_cX9_judge_2 3 rfl rfl) (rdSeg sd_08_cX9_judge_2 4 rfl rfl) (by decide +kernel)
theorem dR_judge_69 : decode cX9_judge 69 = .ok (.aload_n 0, 1) := op_42 (rdSeg sd_08_cX9_judge_2 5 rfl rfl)
theorem dR_judge_70 : decode cX9_judge 70 = .ok (.getfield 46, 3) := op_180 (rdSeg sd_08_cX9_judge_2 6 rfl rfl) (rdSeg sd_08_cX9_judge_2 7 rfl rfl) (rdSeg sd_08_cX9_judge_2 8 rfl rfl) rfl
theorem dR_judge_73 : decode cX9_judge 73 = .ok (.bipush 24, 2) := op_16 (rdSeg sd_08_cX9_judge_2 9 rfl rfl) (rdSeg sd_08_cX9_judge_2 10 rfl rfl) (by decide +kernel)
theorem dR_judge_75 : decode cX9_judge 75 = .ok (.iload_n 1, 1) := op_27 (rdSeg sd_08_cX9_judge_2 11 rfl rfl)
theorem dR_judge_76 : decode cX9_judge 76 = .ok (.imul, 1) := op_104 (rdSeg sd_08_cX9_judge_2 12 rfl rfl)
theorem dR_judge_77 : decode cX9_judge 77 = .ok (.iload 4, 2) := op_21 (rdSeg sd_08_cX9_judge_2 13 rfl rfl) (rdSeg sd_08_cX9_judge_2 14 rfl rfl)
theorem dR_judge_79 : decode cX9_judge 79 = .ok (.iadd, 1) := op_96 (rdSeg sd_08_cX9_judge_2 15 rfl rfl)
theorem dR_judge_80 : decode cX9_judge 80 = .ok (.iaload, 1) := op_46 (rdSeg sd_08_cX9_judge_2 16 rfl rfl)
theorem dR_judge_81 : decode cX9_judge 81 = .ok (.aload_n 0, 1) := op_42 (rdSeg sd_08_cX9_judge_2 17 rfl rfl)
theorem dR_judge_82 : decode cX9_judge 82 = .ok (.iload 4, 2) := op_21 (rdSeg sd_08_cX9_judge_2 18 rfl rfl) (rdSeg sd_08_cX9_judge_2 19 rfl rfl)
theorem dR_judge_84 : decode cX9_judge 84 = .ok (.iconst 2, 1) := op_5 (rdSeg sd_08_cX9_judge_2 20 rfl rfl)
theorem dR_judge_85 : decode cX9_judge 85 = .ok (.invokevirtual 73, 3) := op_182 (rdSeg sd_08_cX9_judge_2 21 rfl rfl) (rdSeg sd_08_cX9_judge_2 22 rfl rfl) (rdSeg sd_08_cX9_judge_2 23 rfl rfl) rfl
theorem dR_judge_88 : decode cX9_judge 88 = .ok (.if_icmp .ne 9, 3) := op_160 (rdSeg sd_08_cX9_judge_2 24 rfl rfl) (rdSeg sd_08_cX9_judge_2 25 rfl rfl) (rdSeg sd_08_cX9_judge_2 26 rfl rfl) (by decide +kernel)
theorem dR_judge_91 : decode cX9_judge 91 = .ok (.iinc 4 1, 3) := op_132 (rdSeg sd_08_cX9_judge_2 27 rfl rfl) (rdSeg sd_08_cX9_judge_2 28 rfl rfl) (rdSeg sd_08_cX9_judge_2 29 rfl rfl) (by decide +kernel)
theorem dR_judge_94 : decode cX9_judge 94 = .ok (.goto (-47), 3) := op_167 (rdSeg sd_08_cX9_judge_2 30 rfl rfl) (rdSeg sd_08_cX9_judge_2 31 rfl rfl) (rdSeg sd_08_cX9_judge_3 0 rfl rfl) (by decide +kernel)
theorem dR_judge_97 : decode cX9_judge 97 = .ok (.aload_n 0, 1) := op_42 (rdSeg sd_08_cX9_judge_3 1 rfl rfl)
theorem dR_judge_98 : decode cX9_judge 98 = .ok (.getfield 16, 3) := op_180 (rdSeg sd_08_cX9_judge_3 2 rfl rfl) (rdSeg sd_08_cX9_judge_3 3 rfl rfl) (rdSeg sd_08_cX9_judge_3 4 rfl rfl) rfl
theorem dR_judge_101 : decode cX9_judge 101 = .ok (.aload_n 0, 1) := op_42 (rdSeg sd_08_cX9_judge_3 5 rfl rfl)
theorem dR_judge_102 : decode cX9_judge 102 = .ok (.getfield 7, 3) := op_180 (rdSeg sd_08_cX9_judge_3 6 rfl rfl) (rdSeg sd_08_cX9_judge_3 7 rfl rfl) (rdSeg sd_08_cX9_judge_3 8 rfl rfl) rfl
theorem dR_judge_105 : decode cX9_judge 105 = .ok (.invokestatic 117, 3) := op_184 (rdSeg sd_08_cX9_judge_3 9 rfl rfl) (rdSeg sd_08_cX9_judge_3 10 rfl rfl) (rdSeg sd_08_cX9_judge_3 11 rfl rfl) rfl
theorem dR_judge_108 : decode cX9_judge 108 = .ok (.iload 4, 2) := op_21 (rdSeg sd_08_cX9_judge_3 12 rfl rfl) (rdSeg sd_08_cX9_judge_3 13 rfl rfl)
theorem dR_judge_110 : decode cX9_judge 110 = .ok (.ireturn, 1) := op_172 (rdSeg sd_08_cX9_judge_3 14 rfl rfl)
def sg_08_cX9_image_0 : List UInt8 := [0x2a, 0xb4, 0x00, 0x07, 0x2a, 0xb4, 0x00, 0x0d, 0xb8, 0x00, 0x75, 0x2a, 0x59, 0xb4, 0x01, 0x1c, 0x04, 0x60, 0xb5, 0x01, 0x1c, 0x2a, 0xb4, 0x01, 0x1c, 0xac]
set_option maxRecDepth 100000 in
theorem sd_08_cX9_image_0 : cX9_image.data.toList.drop 0 = sg_08_cX9_image_0 := by decide +kernel
theorem dR_image_0 : decode cX9_image 0 = .ok (.aload_n 0, 1) := op_42 (rdSeg sd_08_cX9_image_0 0 rfl rfl)
theorem dR_image_1 : decode cX9_image 1 = .ok (.getfield 7, 3) := op_180 (rdSeg sd_08_cX9_image_0 1 rfl rfl) (rdSeg sd_08_cX9_image_0 2 rfl rfl) (rdSeg sd_08_cX9_image_0 3 rfl rfl) rfl
theorem dR_image_4 : decode cX9_image 4 = .ok (.aload_n 0, 1) := op_42 (rdSeg sd_08_cX9_image_0 4 rfl rfl)
theorem dR_image_5 : decode cX9_image 5 = .ok (.getfield 13, 3) := op_180 (rdSeg sd_08_cX9_image_0 5 rfl rfl) (rdSeg sd_08_cX9_image_0 6 rfl rfl) (rdSeg sd_08_cX9_image_0 7 rfl rfl) rfl
theorem dR_image_8 : decode cX9_image 8 = .ok (.invokestatic 117, 3) := op_184 (rdSeg sd_08_cX9_image_0 8 rfl rfl) (rdSeg sd_08_cX9_image_0 9 rfl rfl) (rdSeg sd_08_cX9_image_0 10 rfl rfl) rfl
theorem dR_image_11 : decode cX9_image 11 = .ok (.aload_n 0, 1) := op_42 (rdSeg sd_08_cX9_image_0 11 rfl rfl)
theorem dR_image_12 : decode cX9_image 12 = .ok (.dup, 1) := op_89 (rdSeg sd_08_cX9_image_0 12 rfl rfl)
theorem dR_image_13 : decode cX9_image 13 = .ok (.getfield 284, 3) := op_180 (rdSeg sd_08_cX9_image_0 13 rfl rfl) (rdSeg sd_08_cX9_image_0 14 rfl rfl) (rdSeg sd_08_cX9_image_0 15 rfl rfl) rfl
theorem dR_image_16 : decode cX9_image 16 = .ok (.iconst 1, 1) := op_4 (rdSeg sd_08_cX9_image_0 16 rfl rfl)
theorem dR_image_17 : decode cX9_image 17 = .ok (.iadd, 1) := op_96 (rdSeg sd_08_cX9_image_0 17 rfl rfl)
theorem dR_image_18 : decode cX9_image 18 = .ok (.putfield 284, 3) := op_181 (rdSeg sd_08_cX9_image_0 18 rfl rfl) (rdSeg sd_08_cX9_image_0 19 rfl rfl) (rdSeg sd_08_cX9_image_0 20 rfl rfl) rfl
theorem dR_image_21 : decode cX9_image 21 = .ok (.aload_n 0, 1) := op_42 (rdSeg sd_08_cX9_image_0 21 rfl rfl)
theorem dR_image_22 : decode cX9_image 22 = .ok (.getfield 284, 3) := op_180 (rdSeg sd_08_cX9_image_0 22 rfl rfl) (rdSeg sd_08_cX9_image_0 23 rfl rfl) (rdSeg sd_08_cX9_image_0 24 rfl rfl) rfl
theorem dR_image_25 : decode cX9_image 25 = .ok (.ireturn, 1) := op_172 (rdSeg sd_08_cX9_image_0 25 rfl rfl)
def sg_08_cX9_restore_0 : List UInt8 := [0x2a, 0xb4, 0x01, 0x1c, 0x9a, 0x00, 0x09, 0x2a, 0x05, 0xb6, 0x00, 0x3e, 0xac, 0x2a, 0xb4, 0x00, 0x0d, 0x2a, 0xb4, 0x00, 0x07, 0xb8, 0x00, 0x75, 0x2a, 0xb4, 0x00, 0x07, 0x08, 0x2e, 0xac]
set_option maxRecDepth 100000 in
theorem sd_08_cX9_restore_0 : cX9_restore.data.toList.drop 0 = sg_08_cX9_restore_0 := by decide +kernel
theorem dR_restore_0 : decode cX9_restore 0 = .ok (.aload_n 0, 1) := op_42 (rdSeg sd_08_cX9_restore_0 0 rfl rfl)
theorem dR_restore_1 : decode cX9_restore 1 = .ok (.getfield 284, 3) := op_180 (rdSeg sd_08_cX9_restore_0 1 rfl rfl) (rdSeg sd_08_cX9_restore_0 2 rfl rfl) (rdSeg sd_08_cX9_restore_0 3 rfl rfl) rfl
theorem dR_restore_4 : decode cX9_restore 4 = .ok (.ifCond .ne 9, 3) := op_154 (rdSeg sd_08_cX9_restore_0 4 rfl rfl) (rdSeg sd_08_cX9_restore_0 5 rfl rfl) (rdSeg sd_08_cX9_restore_0 6 rfl rfl) (by decide +kernel)
theorem dR_restore_7 : decode cX9_restore 7 = .ok (.aload_n 0, 1) := op_42 (rdSeg sd_08_cX9_restore_0 7 rfl rfl)
theorem dR_restore_8 : decode cX9_restore 8 = .ok (.iconst 2, 1) := op_5 (rdSeg sd_08_cX9_restore_0 8 rfl rfl)
theorem dR_restore_9 : decode cX9_restore 9 = .ok (.invokevirtual 62, 3) := op_182 (rdSeg sd_08_cX9_restore_0 9 rfl rfl) (rdSeg sd_08_cX9_restore_0 10 rfl rfl) (rdSeg sd_08_cX9_restore_0 11 rfl rfl) rfl
theorem dR_restore_12 : decode cX9_restore 12 = .ok (.ireturn, 1) := op_172 (rdSeg sd_08_cX9_restore_0 12 rfl rfl)
theorem dR_restore_13 : decode cX9_restore 13 = .ok (.aload_n 0, 1) := op_42 (rdSeg sd_08_cX9_restore_0 13 rfl rfl)
theorem dR_restore_14 : decode cX9_restore 14 = .ok (.getfield 13, 3) := op_180 (rdSeg sd_08_cX9_restore_0 14 rfl rfl) (rdSeg sd_08_cX9_restore_0 15 rfl rfl) (rdSeg sd_08_cX9_restore_0 16 rfl rfl) rfl
theorem dR_restore_17 : decode cX9_restore 17 = .ok (.aload_n 0, 1) := op_42 (rdSeg sd_08_cX9_restore_0 17 rfl rfl)
theorem dR_restore_18 : decode cX9_restore 18 = .ok (.getfield 7, 3) := op_180 (rdSeg sd_08_cX9_restore_0 18 rfl rfl) (rdSeg sd_08_cX9_restore_0 19 rfl rfl) (rdSeg sd_08_cX9_restore_0 20 rfl rfl) rfl
theorem dR_restore_21 : decode cX9_restore 21 = .ok (.invokestatic 117, 3) := op_184 (rdSeg sd_08_cX9_restore_0 21 rfl rfl) (rdSeg sd_08_cX9_restore_0 22 rfl rfl) (rdSeg sd_08_cX9_restore_0 23 rfl rfl) rfl
theorem dR_restore_24 : decode cX9_restore 24 = .ok (.aload_n 0, 1) := op_42 (rdSeg sd_08_cX9_restore_0 24 rfl rfl)
theorem dR_restore_25 : decode cX9_restore 25 = .ok (.getfield 7, 3) := op_180 (rdSeg sd_08_cX9_restore_0 25 rfl rfl) (rdSeg sd_08_cX9_restore_0 26 rfl rfl) (rdSeg sd_08_cX9_restore_0 27 rfl rfl) rfl
theorem dR_restore_28 : decode cX9_restore 28 = .ok (.iconst 5, 1) := op_8 (rdSeg sd_08_cX9_restore_0 28 rfl rfl)
theorem dR_restore_29 : decode cX9_restore 29 = .ok (.iaload, 1) := op_46 (rdSeg sd_08_cX9_restore_0 29 rfl rfl)
theorem dR_restore_30 : decode cX9_restore 30 = .ok (.ireturn, 1) := op_172 (rdSeg sd_08_cX9_restore_0 30 rfl rfl)
def sg_08_cX9_tell_1 : List UInt8 := [0x60, 0x1b, 0x4f, 0x2a, 0xb4, 0x00, 0x07, 0x10, 0x07, 0x5c, 0x2e, 0x04, 0x60, 0x4f, 0x2a, 0xb4, 0x00, 0x07, 0x10, 0x07, 0x2e, 0xac]
def sg_08_cX9_tell_0 : List UInt8 := 0x2a :: 0xb4 :: 0x00 :: 0x07 :: 0x10 :: 0x07 :: 0x2e :: 0x10 :: 0x18 :: 0xa0 :: 0x00 :: 0x09 :: 0x2a :: 0x07 :: 0xb6 :: 0x00 :: 0x3e :: 0xac :: 0x2a :: 0xb4 :: 0x00 :: 0x07 :: 0x11 :: 0x02 :: 0x00 :: 0x2a :: 0xb4 :: 0x00 :: 0x07 :: 0x10 :: 0x07 :: 0x2e :: sg_08_cX9_tell_1
set_option maxRecDepth 100000 in
theorem sd_08_cX9_tell_0 : cX9_tell.data.toList.drop 0 = sg_08_cX9_tell_0 := by decide +kernel
theorem sd_08_cX9_tell_1 : cX9_tell.data.toList.drop 32 = sg_08_cX9_tell_1 := sg_next sd_08_cX9_tell_0 rfl
theorem dR_tell_0 : decode cX9_tell 0 = .ok (.aload_n 0, 1) := op_42 (rdSeg sd_08_cX9_tell_0 0 rfl rfl)
theorem dR_tell_1 : decode cX9_tell 1 = .ok (.getfield 7, 3) := op_180 (rdSeg sd_08_cX9_tell_0 1 rfl rfl) (rdSeg sd_08_cX9_tell_0 2 rfl rfl) (rdSeg sd_08_cX9_tell_0 3 rfl rfl) rfl
theorem dR_tell_4 : decode cX9_tell 4 = .ok (.bipush 7, 2) := op_16 (rdSeg sd_08_cX9_tell_0 4 rfl rfl) (rdSeg sd_08_cX9_tell_0 5 rfl rfl) (by decide +kernel)
theorem dR_tell_6 : decode cX9_tell 6 = .ok (.iaload, 1) := op_46 (rdSeg sd_08_cX9_tell_0 6 rfl rfl)
theorem dR_tell_7 : decode cX9_tell 7 = .ok (.bipush 24, 2) := op_16 (rdSeg sd_08_cX9_tell_0 7 rfl rfl) (rdSeg sd_08_cX9_tell_0 8 rfl rfl) (by decide +kernel)
theorem dR_tell_9 : decode cX9_tell 9 = .ok (.if_icmp .ne 9, 3) := op_160 (rdSeg sd_08_cX9_tell_0 9 rfl rfl) (rdSeg sd_08_cX9_tell_0 10 rfl rfl) (rdSeg sd_08_cX9_tell_0 11 rfl rfl) (by decide +kernel)
theorem dR_tell_12 : decode cX9_tell 12 = .ok (.aload_n 0, 1) := op_42 (rdSeg sd_08_cX9_tell_0 12 rfl rfl)
theorem dR_tell_13 : decode cX9_tell 13 = .ok (.iconst 4, 1) := op_7 (rdSeg sd_08_cX9_tell_0 13 rfl rfl)
theorem dR_tell_14 : decode cX9_tell 14 = .ok (.invokevirtual 62, 3) := op_182 (rdSeg sd_08_cX9_tell_0 14 rfl rfl) (rdSeg sd_08_cX9_tell_0 15 rfl rfl) (rdSeg sd_08_cX9_tell_0 16 rfl rfl) rfl
theorem dR_tell_17 : decode cX9_tell 17 = .ok (.ireturn, 1) := op_172 (rdSeg sd_08_cX9_tell_0 17 rfl rfl)
theorem dR_tell_18 : decode cX9_tell 18 = .ok (.aload_n 0, 1) := op_42 (rdSeg sd_08_cX9_tell_0 18 rfl rfl)
theorem dR_tell_19 : decode cX9_tell 19 = .ok (.getfield 7, 3) := op_180 (rdSeg sd_08_cX9_tell_0 19 rfl rfl) (rdSeg sd_08_cX9_tell_0 20 rfl rfl) (rdSeg sd_08_cX9_tell_0 21 rfl rfl) rfl
theorem dR_tell_22 : decode cX9_tell 22 = .ok (.sipush 512, 3) := op_17 (rdSeg sd_08_cX9_tell_0 22 rfl rfl) (rdSeg sd_08_cX9_tell_0 23 rfl rfl) (rdSeg sd_08_cX9_tell_0 24 rfl rfl) (by decide +kernel)
theorem dR_tell_25 : decode cX9_tell 25 = .ok (.aload_n 0, 1) := op_42 (rdSeg sd_08_cX9_tell_0 25 rfl rfl)
theorem dR_tell_26 : decode cX9_tell 26 = .ok (.getfield 7, 3) := op_180 (rdSeg sd_08_cX9_tell_0 26 rfl rfl) (rdSeg sd_08_cX9_tell_0 27 rfl rfl) (rdSeg sd_08_cX9_tell_0 28 rfl rfl) rfl
theorem dR_tell_29 : decode cX9_tell 29 = .ok (.bipush 7, 2) := op_16 (rdSeg sd_08_cX9_tell_0 29 rfl rfl) (rdSeg sd_08_cX9_tell_0 30 rfl rfl) (by decide +kernel)
theorem dR_tell_31 : decode cX9_tell 31 = .ok (.iaload, 1) := op_46 (rdSeg sd_08_cX9_tell_0 31 rfl rfl)
theorem dR_tell_32 : decode cX9_tell 32 = .ok (.iadd, 1) := op_96 (rdSeg sd_08_cX9_tell_1 0 rfl rfl)
theorem dR_tell_33 : decode cX9_tell 33 = .ok (.iload_n 1, 1) := op_27 (rdSeg sd_08_cX9_tell_1 1 rfl rfl)
theorem dR_tell_34 : decode cX9_tell 34 = .ok (.iastore, 1) := op_79 (rdSeg sd_08_cX9_tell_1 2 rfl rfl)
theorem dR_tell_35 : decode cX9_tell 35 = .ok (.aload_n 0, 1) := op_42 (rdSeg sd_08_cX9_tell_1 3 rfl rfl)
theorem dR_tell_36 : decode cX9_tell 36 = .ok (.getfield 7, 3) := op_180 (rdSeg sd_08_cX9_tell_1 4 rfl rfl) (rdSeg sd_08_cX9_tell_1 5 rfl rfl) (rdSeg sd_08_cX9_tell_1 6 rfl rfl) rfl
theorem dR_tell_39 : decode cX9_tell 39 = .ok (.bipush 7, 2) := op_16 (rdSeg sd_08_cX9_tell_1 7 rfl rfl) (rdSeg sd_08_cX9_tell_1 8 rfl rfl) (by decide +kernel)
theorem dR_tell_41 : decode cX9_tell 41 = .ok (.dup2, 1) := op_92 (rdSeg sd_08_cX9_tell_1 9 rfl rfl)
theorem dR_tell_42 : decode cX9_tell 42 = .ok (.iaload, 1) := op_46 (rdSeg sd_08_cX9_tell_1 10 rfl rfl)
theorem dR_tell_43 : decode cX9_tell 43 = .ok (.iconst 1, 1) := op_4 (rdSeg sd_08_cX9_tell_1 11 rfl rfl)
theorem dR_tell_44 : decode cX9_tell 44 = .ok (.iadd, 1) := op_96 (rdSeg sd_08_cX9_tell_1 12 rfl rfl)
theorem dR_tell_45 : decode cX9_tell 45 = .ok (.iastore, 1) := op_79 (rdSeg sd_08_cX9_tell_1 13 rfl rfl)
theorem dR_tell_46 : decode cX9_tell 46 = .ok (.aload_n 0, 1) := op_42 (rdSeg sd_08_cX9_tell_1 14 rfl rfl)
theorem dR_tell_47 : decode cX9_tell 47 = .ok (.getfield 7, 3) := op_180 (rdSeg sd_08_cX9_tell_1 15 rfl rfl) (rdSeg sd_08_cX9_tell_1 16 rfl rfl) (rdSeg sd_08_cX9_tell_1 17 rfl rfl) rfl
theorem dR_tell_50 : decode cX9_tell 50 = .ok (.bipush 7, 2) := op_16 (rdSeg sd_08_cX9_tell_1 18 rfl rfl) (rdSeg sd_08_cX9_tell_1 19 rfl rfl) (by decide +kernel)
theorem dR_tell_52 : decode cX9_tell 52 = .ok (.iaload, 1) := op_46 (rdSeg sd_08_cX9_tell_1 20 rfl rfl)
theorem dR_tell_53 : decode cX9_tell 53 = .ok (.ireturn, 1) := op_172 (rdSeg sd_08_cX9_tell_1 21 rfl rfl)
def sg_08_cX9_check_2 : List UInt8 := [0x0f, 0x1c, 0x2a, 0xb4, 0x00, 0xdf, 0xa0, 0x00, 0x07, 0x03, 0xa7, 0x00, 0x06, 0x04, 0x1c, 0x60, 0xac]
def sg_08_cX9_check_1 : List UInt8 := 0xa2 :: 0x00 :: 0x1c :: 0x2a :: 0xb4 :: 0x00 :: 0x07 :: 0x11 :: 0x02 :: 0x00 :: 0x1c :: 0x60 :: 0x2e :: 0x2a :: 0xb4 :: 0x00 :: 0x1f :: 0x1c :: 0x2e :: 0xa0 :: 0x00 :: 0x09 :: 0x84 :: 0x02 :: 0x01 :: 0xa7 :: 0xff :: 0xdd :: 0x1c :: 0x1b :: 0xa0 :: 0x00 :: sg_08_cX9_check_2
def sg_08_cX9_check_0 : List UInt8 := 0x2a :: 0xb4 :: 0x00 :: 0x07 :: 0x10 :: 0x07 :: 0x2e :: 0x3c :: 0x2a :: 0xb4 :: 0x00 :: 0x07 :: 0x10 :: 0x07 :: 0x03 :: 0x4f :: 0x2a :: 0xb6 :: 0x00 :: 0xe5 :: 0x03 :: 0x3d :: 0x1c :: 0x1b :: 0xa2 :: 0x00 :: 0x24 :: 0x1c :: 0x2a :: 0xb4 :: 0x00 :: 0xdf :: sg_08_cX9_check_1
set_option maxRecDepth 100000 in
theorem sd_08_cX9_check_0 : cX9_check.data.toList.drop 0 = sg_08_cX9_check_0 := by decide +kernel
theorem sd_08_cX9_check_1 : cX9_check.data.toList.drop 32 = sg_08_cX9_check_1 := sg_next sd_08_cX9_check_0 rfl
theorem sd_08_cX9_check_2 : cX9_check.data.toList.drop 64 = sg_08_cX9_check_2 := sg_next sd_08_cX9_check_1 rfl
theorem dR_check_0 : decode cX9_check 0 = .ok (.aload_n 0, 1) := op_42 (rdSeg sd_08_cX9_check_0 0 rfl rfl)
theorem dR_check_1 : decode cX9_check 1 = .ok (.getfield 7, 3) := op_180 (rdSeg sd_08_cX9_check_0 1 rfl rfl) (rdSeg sd_08_cX9_check_0 2 rfl rfl) (rdSeg sd_08_cX9_check_0 3 rfl rfl) rfl
theorem dR_check_4 : decode cX9_check 4 = .ok (.bipush 7, 2) := op_16 (rdSeg sd_08_cX9_check_0 4 rfl rfl) (rdSeg sd_08_cX9_check_0 5 rfl rfl) (by decide +kernel)
theorem dR_check_6 : decode cX9_check 6 = .ok (.iaload, 1) := op_46 (rdSeg sd_08_cX9_check_0 6 rfl rfl)
theorem dR_check_7 : decode cX9_check 7 = .ok (.istore_n 1, 1) := op_60 (rdSeg sd_08_cX9_check_0 7 rfl rfl)
theorem dR_check_8 : decode cX9_check 8 = .ok (.aload_n 0, 1) := op_42 (rdSeg sd_08_cX9_check_0 8 rfl rfl)
theorem dR_check_9 : decode cX9_check 9 = .ok (.getfield 7, 3) := op_180 (rdSeg sd_08_cX9_check_0 9 rfl rfl) (rdSeg sd_08_cX9_check_0 10 rfl rfl) (rdSeg sd_08_cX9_check_0 11 rfl rfl) rfl
theorem dR_check_12 : decode cX9_check 12 = .ok (.bipush 7, 2) := op_16 (rdSeg sd_08_cX9_check_0 12 rfl rfl) (rdSeg sd_08_cX9_check_0 13 rfl rfl) (by decide +kernel)
theorem dR_check_14 : decode cX9_check 14 = .ok (.iconst 0, 1) := op_3 (rdSeg sd_08_cX9_check_0 14 rfl rfl)
theorem dR_check_15 : decode cX9_check 15 = .ok (.iastore, 1) := op_79 (rdSeg sd_08_cX9_check_0 15 rfl rfl)
theorem dR_check_16 : decode cX9_check 16 = .ok (.aload_n 0, 1) := op_42 (rdSeg sd_08_cX9_check_0 16 rfl rfl)
theorem dR_check_17 : decode cX9_check 17 = .ok (.invokevirtual 229, 3) := op_182 (rdSeg sd_08_cX9_check_0 17 rfl rfl) (rdSeg sd_08_cX9_check_0 18 rfl rfl) (rdSeg sd_08_cX9_check_0 19 rfl rfl) rfl
theorem dR_check_20 : decode cX9_check 20 = .ok (.iconst 0, 1) := op_3 (rdSeg sd_08_cX9_check_0 20 rfl rfl)
theorem dR_check_21 : decode cX9_check 21 = .ok (.istore_n 2, 1) := op_61 (rdSeg sd_08_cX9_check_0 21 rfl rfl)
theorem dR_check_22 : decode cX9_check 22 = .ok (.iload_n 2, 1) := op_28 (rdSeg sd_08_cX9_check_0 22 rfl rfl)
theorem dR_check_23 : decode cX9_check 23 = .ok (.iload_n 1, 1) := op_27 (rdSeg sd_08_cX9_check_0 23 rfl rfl)
theorem dR_check_24 : decode cX9_check 24 = .ok (.if_icmp .ge 36, 3) := op_162 (rdSeg sd_08_cX9_check_0 24 rfl rfl) (rdSeg sd_08_cX9_check_0 25 rfl rfl) (rdSeg sd_08_cX9_check_0 26 rfl rfl) (by decide +kernel)
theorem dR_check_27 : decode cX9_check 27 = .ok (.iload_n 2, 1) := op_28 (rdSeg sd_08_cX9_check_0 27 rfl rfl)
theorem dR_check_28 : decode cX9_check 28 = .ok (.aload_n 0, 1) := op_42 (rdSeg sd_08_cX9_check_0 28 rfl rfl)
theorem dR_check_29 : decode cX9_check 29 = .ok (.getfield 223, 3) := op_180 (rdSeg sd_08_cX9_check_0 29 rfl rfl) (rdSeg sd_08_cX9_check_0 30 rfl rfl) (rdSeg sd_08_cX9_check_0 31 rfl rfl) rfl
theorem dR_check_32 : decode cX9_check 32 = .ok (.if_icmp .ge 28, 3) := op_162 (rdSeg sd_08_cX9_check_1 0 rfl rfl) (rdSeg sd_08_cX9_check_1 1 rfl rfl) (rdSeg sd_08_cX9_check_1 2 rfl rfl) (by decide +kernel)
theorem dR_check_35 : decode cX9_check 35 = .ok (.aload_n 0, 1) := op_42 (rdSeg sd_08_cX9_check_1 3 rfl rfl)
theorem dR_check_36 : decode cX9_check 36 = .ok (.getfield 7, 3) := op_180 (rdSeg sd_08_cX9_check_1 4 rfl rfl) (rdSeg sd_08_cX9_check_1 5 rfl rfl) (rdSeg sd_08_cX9_check_1 6 rfl rfl) rfl
theorem dR_check_39 : decode cX9_check 39 = .ok (.sipush 512, 3) := op_17 (rdSeg sd_08_cX9_check_1 7 rfl rfl) (rdSeg sd_08_cX9_check_1 8 rfl rfl) (rdSeg sd_08_cX9_check_1 9 rfl rfl) (by decide +kernel)
theorem dR_check_42 : decode cX9_check 42 = .ok (.iload_n 2, 1) := op_28 (rdSeg sd_08_cX9_check_1 10 rfl rfl)
theorem dR_check_43 : decode cX9_check 43 = .ok (.iadd, 1) := op_96 (rdSeg sd_08_cX9_check_1 11 rfl rfl)
theorem dR_check_44 : decode cX9_check 44 = .ok (.iaload, 1) := op_46 (rdSeg sd_08_cX9_check_1 12 rfl rfl)
theorem dR_check_45 : decode cX9_check 45 = .ok (.aload_n 0, 1) := op_42 (rdSeg sd_08_cX9_check_1 13 rfl rfl)
theorem dR_check_46 : decode cX9_check 46 = .ok (.getfield 31, 3) := op_180 (rdSeg sd_08_cX9_check_1 14 rfl rfl) (rdSeg sd_08_cX9_check_1 15 rfl rfl) (rdSeg sd_08_cX9_check_1 16 rfl rfl) rfl
theorem dR_check_49 : decode cX9_check 49 = .ok (.iload_n 2, 1) := op_28 (rdSeg sd_08_cX9_check_1 17 rfl rfl)
theorem dR_check_50 : decode cX9_check 50 = .ok (.iaload, 1) := op_46 (rdSeg sd_08_cX9_check_1 18 rfl rfl)
theorem dR_check_51 : decode cX9_check 51 = .ok (.if_icmp .ne 9, 3) := op_160 (rdSeg sd_08_cX9_check_1 19 rfl rfl) (rdSeg sd_08_cX9_check_1 20 rfl rfl) (rdSeg sd_08_cX9_check_1 21 rfl rfl) (by decide +kernel)
theorem dR_check_54 : decode cX9_check 54 = .ok (.iinc 2 1, 3) := op_132 (rdSeg sd_08_cX9_check_1 22 rfl rfl) (rdSeg sd_08_cX9_check_1 23 rfl rfl) (rdSeg sd_08_cX9_check_1 24 rfl rfl) (by decide +kernel)
theorem dR_check_57 : decode cX9_check 57 = .ok (.goto (-35), 3) := op_167 (rdSeg sd_08_cX9_check_1 25 rfl rfl) (rdSeg sd_08_cX9_check_1 26 rfl rfl) (rdSeg sd_08_cX9_check_1 27 rfl rfl) (by decide +kernel)
theorem dR_check_60 : decode cX9_check 60 = .ok (.iload_n 2, 1) := op_28 (rdSeg sd_08_cX9_check_1 28 rfl rfl)
theorem dR_check_61 : decode cX9_check 61 = .ok (.iload_n 1, 1) := op_27 (rdSeg sd_08_cX9_check_1 29 rfl rfl)
theorem dR_check_62 : decode cX9_check 62 = .ok (.if_icmp .ne 15, 3) := op_160 (rdSeg sd_08_cX9_check_1 30 rfl rfl) (rdSeg sd_08_cX9_check_1 31 rfl rfl) (rdSeg sd_08_cX9_check_2 0 rfl rfl) (by decide +kernel)
theorem dR_check_65 : decode cX9_check 65 = .ok (.iload_n 2, 1) := op_28 (rdSeg sd_08_cX9_check_2 1 rfl rfl)
theorem dR_check_66 : decode cX9_check 66 = .ok (.aload_n 0, 1) := op_42 (rdSeg sd_08_cX9_check_2 2 rfl rfl)
theorem dR_check_67 : decode cX9_check 67 = .ok (.getfield 223, 3) := op_180 (rdSeg sd_08_cX9_check_2 3 rfl rfl) (rdSeg sd_08_cX9_check_2 4 rfl rfl) (rdSeg sd_08_cX9_check_2 5 rfl rfl) rfl
theorem dR_check_70 : decode cX9_check 70 = .ok (.if_icmp .ne 7, 3) := op_160 (rdSeg sd_08_cX9_check_2 6 rfl rfl) (rdSeg sd_08_cX9_check_2 7 rfl rfl) (rdSeg sd_08_cX9_check_2 8 rfl rfl) (by decide +kernel)
theorem dR_check_73 : decode cX9_check 73 = .ok (.iconst 0, 1) := op_3 (rdSeg sd_08_cX9_check_2 9 rfl rfl)
theorem dR_check_74 : decode cX9_check 74 = .ok (.goto 6, 3) := op_167 (rdSeg sd_08_cX9_check_2 10 rfl rfl) (rdSeg sd_08_cX9_check_2 11 rfl rfl) (rdSeg sd_08_cX9_check_2 12 rfl rfl) (by decide +kernel)
theorem dR_check_77 : decode cX9_check 77 = .ok (.iconst 1, 1) := op_4 (rdSeg sd_08_cX9_check_2 13 rfl rfl)
theorem dR_check_78 : decode cX9_check 78 = .ok (.iload_n 2, 1) := op_28 (rdSeg sd_08_cX9_check_2 14 rfl rfl)
theorem dR_check_79 : decode cX9_check 79 = .ok (.iadd, 1) := op_96 (rdSeg sd_08_cX9_check_2 15 rfl rfl)
theorem dR_check_80 : decode cX9_check 80 = .ok (.ireturn, 1) := op_172 (rdSeg sd_08_cX9_check_2 16 rfl rfl)
def sg_08_cX9_count_4 : List UInt8 := [0x2a, 0xb4, 0x00, 0x07, 0x10, 0x08, 0x2e, 0xac, 0x2a, 0x04, 0xb6, 0x00, 0x3e, 0xac]
def sg_08_cX9_count_3 : List UInt8 := 0xb6 :: 0x00 :: 0x72 :: 0xac :: 0x2a :: 0xb4 :: 0x00 :: 0x07 :: 0x08 :: 0x2e :: 0xac :: 0x2a :: 0xb4 :: 0x00 :: 0x07 :: 0x10 :: 0x06 :: 0x2e :: 0xac :: 0x2a :: 0xb4 :: 0x00 :: 0x07 :: 0x10 :: 0x07 :: 0x2e :: 0xac :: 0x2a :: 0xb4 :: 0x00 :: 0xf4 :: 0xac :: sg_08_cX9_count_4
def sg_08_cX9_count_2 : List UInt8 := 0x03 :: 0x2e :: 0xac :: 0x2a :: 0xb4 :: 0x00 :: 0x07 :: 0x04 :: 0x2e :: 0xac :: 0x2a :: 0xb4 :: 0x00 :: 0x07 :: 0x05 :: 0x2e :: 0xac :: 0x2a :: 0xb4 :: 0x00 :: 0x07 :: 0x06 :: 0x2e :: 0xac :: 0x2a :: 0xb4 :: 0x00 :: 0x07 :: 0x07 :: 0x2e :: 0xac :: 0x2a :: sg_08_cX9_count_3
def sg_08_cX9_count_1 : List UInt8 := 0x00 :: 0x00 :: 0x00 :: 0x57 :: 0x00 :: 0x00 :: 0x00 :: 0x5e :: 0x00 :: 0x00 :: 0x00 :: 0x63 :: 0x00 :: 0x00 :: 0x00 :: 0x6a :: 0x00 :: 0x00 :: 0x00 :: 0x72 :: 0x00 :: 0x00 :: 0x00 :: 0x7a :: 0x00 :: 0x00 :: 0x00 :: 0x7f :: 0x2a :: 0xb4 :: 0x00 :: 0x07 :: sg_08_cX9_count_2
def sg_08_cX9_count_0 : List UInt8 := 0x1b :: 0xaa :: 0x00 :: 0x00 :: 0x00 :: 0x00 :: 0x00 :: 0x87 :: 0x00 :: 0x00 :: 0x00 :: 0x00 :: 0x00 :: 0x00 :: 0x00 :: 0x0a :: 0x00 :: 0x00 :: 0x00 :: 0x3b :: 0x00 :: 0x00 :: 0x00 :: 0x42 :: 0x00 :: 0x00 :: 0x00 :: 0x49 :: 0x00 :: 0x00 :: 0x00 :: 0x50 :: sg_08_cX9_count_1
set_option maxRecDepth 100000 in
theorem sd_08_cX9_count_0 : cX9_count.data.toList.drop 0 = sg_08_cX9_count_0 := by decide +kernel
theorem sd_08_cX9_count_1 : cX9_count.data.toList.drop 32 = sg_08_cX9_count_1 := sg_next sd_08_cX9_count_0 rfl
theorem sd_08_cX9_count_2 : cX9_count.data.toList.drop 64 = sg_08_cX9_count_2 := sg_next sd_08_cX9_count_1 rfl
theorem sd_08_cX9_count_3 : cX9_count.data.toList.drop 96 = sg_08_cX9_count_3 := sg_next sd_08_cX9_count_2 rfl
theorem sd_08_cX9_count_4 : cX9_count.data.toList.drop 128 = sg_08_cX9_count_4 := sg_next sd_08_cX9_count_3 rfl
theorem dR_count_0 : decode cX9_count 0 = .ok (.iload_n 1, 1) := op_27 (rdSeg sd_08_cX9_count_0 0 rfl rfl)
theorem dR_count_1 : decode cX9_count 1 = .ok (.tableswitch 135 0 10 #[59, 66, 73, 80, 87, 94, 99, 106, 114, 122, 127], 59) := by decide +kernel
theorem dR_count_60 : decode cX9_count 60 = .ok (.aload_n 0, 1) := op_42 (rdSeg sd_08_cX9_count_1 28 rfl rfl)
theorem dR_count_61 : decode cX9_count 61 = .ok (.getfield 7, 3) := op_180 (rdSeg sd_08_cX9_count_1 29 rfl rfl) (rdSeg sd_08_cX9_count_1 30 rfl rfl) (rdSeg sd_08_cX9_count_1 31 rfl rfl) rfl
theorem dR_count_64 : decode cX9_count 64 = .ok (.iconst 0, 1) := op_3 (rdSeg sd_08_cX9_count_2 0 rfl rfl)
theorem dR_count_65 : decode cX9_count 65 = .ok (.iaload, 1) := op_46 (rdSeg sd_08_cX9_count_2 1 rfl rfl)
theorem dR_count_66 : decode cX9_count 66 = .ok (.ireturn, 1) := op_172 (rdSeg sd_08_cX9_count_2 2 rfl rfl)
theorem dR_count_67 : decode cX9_count 67 = .ok (.aload_n 0, 1) := op_42 (rdSeg sd_08_cX9_count_2 3 rfl rfl)
theorem dR_count_68 : decode cX9_count 68 = .ok (.getfield 7, 3) := op_180 (rdSeg sd_08_cX9_count_2 4 rfl rfl) (rdSeg sd_08_cX9_count_2 5 rfl rfl) (rdSeg sd_08_cX9_count_2 6 rfl rfl) rfl
theorem dR_count_71 : decode cX9_count 71 = .ok (.iconst 1, 1) := op_4 (rdSeg sd_08_cX9_count_2 7 rfl rfl)
theorem dR_count_72 : decode cX9_count 72 = .ok (.iaload, 1) := op_46 (rdSeg sd_08_cX9_count_2 8 rfl rfl)
theorem dR_count_73 : decode cX9_count 73 = .ok (.ireturn, 1) := op_172 (rdSeg sd_08_cX9_count_2 9 rfl rfl)
theorem dR_count_74 : decode cX9_count 74 = .ok (.aload_n 0, 1) := op_42 (rdSeg sd_08_cX9_count_2 10 rfl rfl)
theorem dR_count_75 : decode cX9_count 75 = .ok (.getfield 7, 3) := op_180 (rdSeg sd_08_cX9_count_2 11 rfl rfl) (rdSeg sd_08_cX9_count_2 12 rfl rfl) (rdSeg sd_08_cX9_count_2 13 rfl rfl) rfl
theorem dR_count_78 : decode cX9_count 78 = .ok (.iconst 2, 1) := op_5 (rdSeg sd_08_cX9_count_2 14 rfl rfl)
theorem dR_count_79 : decode cX9_count 79 = .ok (.iaload, 1) := op_46 (rdSeg sd_08_cX9_count_2 15 rfl rfl)
theorem dR_count_80 : decode cX9_count 80 = .ok (.ireturn, 1) := op_172 (rdSeg sd_08_cX9_count_2 16 rfl rfl)
theorem dR_count_81 : decode cX9_count 81 = .ok (.aload_n 0, 1) := op_42 (rdSeg sd_08_cX9_count_2 17 rfl rfl)
theorem dR_count_82 : decode cX9_count 82 = .ok (.getfield 7, 3) := op_180 (rdSeg sd_08_cX9_count_2 18 rfl rfl) (rdSeg sd_08_cX9_count_2 19 rfl rfl) (rdSeg sd_08_cX9_count_2 20 rfl rfl) rfl
theorem dR_count_85 : decode cX9_count 85 = .ok (.iconst 3, 1) := op_6 (rdSeg sd_08_cX9_count_2 21 rfl rfl)
theorem dR_count_86 : decode cX9_count 86 = .ok (.iaload, 1) := op_46 (rdSeg sd_08_cX9_count_2 22 rfl rfl)
theorem dR_count_87 : decode cX9_count 87 = .ok (.ireturn, 1) := op_172 (rdSeg sd_08_cX9_count_2 23 rfl rfl)
theorem dR_count_88 : decode cX9_count 88 = .ok (.aload_n 0, 1) := op_42 (rdSeg sd_08_cX9_count_2 24 rfl rfl)
theorem dR_count_89 : decode cX9_count 89 = .ok (.getfield 7, 3) := op_180 (rdSeg sd_08_cX9_count_2 25 rfl rfl) (rdSeg sd_08_cX9_count_2 26 rfl rfl) (rdSeg sd_08_cX9_count_2 27 rfl rfl) rfl
theorem dR_count_92 : decode cX9_count 92 = .ok (.iconst 4, 1) := op_7 (rdSeg sd_08_cX9_count_2 28 rfl rfl)
theorem dR_count_93 : decode cX9_count 93 = .ok (.iaload, 1) := op_46 (rdSeg sd_08_cX9_count_2 29 rfl rfl)
theorem dR_count_94 : decode cX9_count 94 = .ok (.ireturn, 1) := op_172 (rdSeg sd_08_cX9_count_2 30 rfl rfl)
theorem dR_count_95 : decode cX9_count 95 = .ok (.aload_n 0, 1) := op_42 (rdSeg sd_08_cX9_count_2 31 rfl rfl)
theorem dR_count_96 : decode cX9_count 96 = .ok (.invokevirtual 114, 3) := op_182 (rdSeg sd_08_cX9_count_3 0 rfl rfl) (rdSeg sd_08_cX9_count_3 1 rfl rfl) (rdSeg sd_08_cX9_count_3 2 rfl rfl) rfl
theorem dR_count_99 : decode cX9_count 99 = .ok (.ireturn, 1) := op_172 (rdSeg sd_08_cX9_count_3 3 rfl rfl)
theorem dR_count_100 : decode cX9_count 100 = .ok (.aload_n 0, 1) := op_42 (rdSeg sd_08_cX9_count_3 4 rfl rfl)
theorem dR_count_101 : decode cX9_count 101 = .ok (.getfield 7, 3) := op_180 (rdSeg sd_08_cX9_count_3 5 rfl rfl) (rdSeg sd_08_cX9_count_3 6 rfl rfl) (rdSeg sd_08_cX9_count_3 7 rfl rfl) rfl
theorem dR_count_104 : decode cX9_count 104 = .ok (.iconst 5, 1) := op_8 (rdSeg sd_08_cX9_count_3 8 rfl rfl)
theorem dR_count_105 : decode cX9_count 105 = .ok (.iaload, 1) := op_46 (rdSeg sd_08_cX9_count_3 9 rfl rfl)
theorem dR_count_106 : decode cX9_count 106 = .ok (.ireturn, 1) := op_172 (rdSeg sd_08_cX9_count_3 10 rfl rfl)
theorem dR_count_107 : decode cX9_count 107 = .ok (.aload_n 0, 1) := op_42 (rdSeg sd_08_cX9_count_3 11 rfl rfl)
theorem dR_count_108 : decode cX9_count 108 = .ok (.getfield 7, 3) := op_180 (rdSeg sd_08_cX9_count_3 12 rfl rfl) (rdSeg sd_08_cX9_count_3 13 rfl rfl) (rdSeg sd_08_cX9_count_3 14 rfl rfl) rfl
theorem dR_count_111 : decode cX9_count 111 = .ok (.bipush 6, 2) := op_16 (rdSeg sd_08_cX9_count_3 15 rfl rfl) (rdSeg sd_08_cX9_count_3 16 rfl rfl) (by decide +kernel)
theorem dR_count_113 : decode cX9_count 113 = .ok (.iaload, 1) := op_46 (rdSeg sd_08_cX9_count_3 17 rfl rfl)
theorem dR_count_114 : decode cX9_count 114 = .ok (.ireturn, 1) := op_172 (rdSeg sd_08_cX9_count_3 18 rfl rfl)
theorem dR_count_115 : decode cX9_count 115 = .ok (.aload_n 0, 1) := op_42 (rdSeg sd_08_cX9_count_3 19 rfl rfl)
theorem dR_count_116 : decode cX9_count 116 = .ok (.getfield 7, 3) := op_180 (rdSeg sd_08_cX9_count_3 20 rfl rfl) (rdSeg sd_08_cX9_count_3 21 rfl rfl) (rdSeg sd_08_cX9_count_3 22 rfl rfl) rfl
theorem dR_count_119 : decode cX9_count 119 = .ok (.bipush 7, 2) := op_16 (rdSeg sd_08_cX9_count_3 23 rfl rfl) (rdSeg sd_08_cX9_count_3 24 rfl rfl) (by decide +kernel)
theorem dR_count_121 : decode cX9_count 121 = .ok (.iaload, 1) := op_46 (rdSeg sd_08_cX9_count_3 25 rfl rfl)
theorem dR_count_122 : decode cX9_count 122 = .ok (.ireturn, 1) := op_172 (rdSeg sd_08_cX9_count_3 26 rfl rfl)
theorem dR_count_123 : decode cX9_count 123 = .ok (.aload_n 0, 1) := op_42 (rdSeg sd_08_cX9_count_3 27 rfl rfl)
theorem dR_count_124 : decode cX9_count 124 = .ok (.getfield 244, 3) := op_180 (rdSeg sd_08_cX9_count_3 28 rfl rfl) (rdSeg sd_08_cX9_count_3 29 rfl rfl) (rdSeg sd_08_cX9_count_3 30 rfl rfl) rfl
theorem dR_count_127 : decode cX9_count 127 = .ok (.ireturn, 1) := op_172 (rdSeg sd_08_cX9_count_3 31 rfl rfl)
theorem dR_count_128 : decode cX9_count 128 = .ok (.aload_n 0, 1) := op_42 (rdSeg sd_08_cX9_count_4 0 rfl rfl)
theorem dR_count_129 : decode cX9_count 129 = .ok (.getfield 7, 3) := op_180 (rdSeg sd_08_cX9_count_4 1 rfl rfl) (rdSeg sd_08_cX9_count_4 2 rfl rfl) (rdSeg sd_08_cX9_count_4 3 rfl rfl) rfl
theorem dR_count_132 : decode cX9_count 132 = .ok (.bipush 8, 2) := op_16 (rdSeg sd_08_cX9_count_4 4 rfl rfl) (rdSeg sd_08_cX9_count_4 5 rfl rfl) (by decide +kernel)
theorem dR_count_134 : decode cX9_count 134 = .ok (.iaload, 1) := op_46 (rdSeg sd_08_cX9_count_4 6 rfl rfl)
theorem dR_count_135 : decode cX9_count 135 = .ok (.ireturn, 1) := op_172 (rdSeg sd_08_cX9_count_4 7 rfl rfl)
theorem dR_count_136 : decode cX9_count 136 = .ok (.aload_n 0, 1) := op_42 (rdSeg sd_08_cX9_count_4 8 rfl rfl)
theorem dR_count_137 : decode cX9_count 137 = .ok (.iconst 1, 1) := op_4 (rdSeg sd_08_cX9_count_4 9 rfl rfl)
theorem dR_count_138 : decode cX9_count 138 = .ok (.invokevirtual 62, 3) := op_182 (rdSeg sd_08_cX9_count_4 10 rfl rfl) (rdSeg sd_08_cX9_count_4 11 rfl rfl) (rdSeg sd_08_cX9_count_4 12 rfl rfl) rfl
theorem dR_count_141 : decode cX9_count 141 = .ok (.ireturn, 1) := op_172 (rdSeg sd_08_cX9_count_4 13 rfl rfl)
def sg_08_cX9_told_0 : List UInt8 := [0x1b, 0x04, 0x10, 0x06, 0xb8, 0x00, 0x35, 0x99, 0x00, 0x0c, 0x2a, 0xb4, 0x00, 0x13, 0x1b, 0x2e, 0xa7, 0x00, 0x08, 0x2a, 0x04, 0xb6, 0x00, 0x3e, 0xac]
set_option maxRecDepth 100000 in
theorem sd_08_cX9_told_0 : cX9_told.data.toList.drop 0 = sg_08_cX9_told_0 := by decide +kernel
theorem dR_told_0 : decode cX9_told 0 = .ok (.iload_n 1, 1) := op_27 (rdSeg sd_08_cX9_told_0 0 rfl rfl)
theorem dR_told_1 : decode cX9_told 1 = .ok (.iconst 1, 1) := op_4 (rdSeg sd_08_cX9_told_0 1 rfl rfl)
theorem dR_told_2 : decode cX9_told 2 = .ok (.bipush 6, 2) := op_16 (rdSeg sd_08_cX9_told_0 2 rfl rfl) (rdSeg sd_08_cX9_told_0 3 rfl rfl) (by decide +kernel)
theorem dR_told_4 : decode cX9_told 4 = .ok (.invokestatic 53, 3) := op_184 (rdSeg sd_08_cX9_told_0 4 rfl rfl) (rdSeg sd_08_cX9_told_0 5 rfl rfl) (rdSeg sd_08_cX9_told_0 6 rfl rfl) rfl
theorem dR_told_7 : decode cX9_told 7 = .ok (.ifCond .eq 12, 3) := op_153 (rdSeg sd_08_cX9_told_0 7 rfl rfl) (rdSeg sd_08_cX9_told_0 8 rfl rfl) (rdSeg sd_08_cX9_told_0 9 rfl rfl) (by decide +kernel)
theorem dR_told_10 : decode cX9_told 10 = .ok (.aload_n 0, 1) := op_42 (rdSeg sd_08_cX9_told_0 10 rfl rfl)
theorem dR_told_11 : decode cX9_told 11 = .ok (.getfield 19, 3) := op_180 (rdSeg sd_08_cX9_told_0 11 rfl rfl) (rdSeg sd_08_cX9_told_0 12 rfl rfl) (rdSeg sd_08_cX9_told_0 13 rfl rfl) rfl
theorem dR_told_14 : decode cX9_told 14 = .ok (.iload_n 1, 1) := op_27 (rdSeg sd_08_cX9_told_0 14 rfl rfl)
theorem dR_told_15 : decode cX9_told 15 = .ok (.iaload, 1) := op_46 (rdSeg sd_08_cX9_told_0 15 rfl rfl)
theorem dR_told_16 : decode cX9_told 16 = .ok (.goto 8, 3) := op_167 (rdSeg sd_08_cX9_told_0 16 rfl rfl) (rdSeg sd_08_cX9_told_0 17 rfl rfl) (rdSeg sd_08_cX9_told_0 18 rfl rfl) (by decide +kernel)
theorem dR_told_19 : decode cX9_told 19 = .ok (.aload_n 0, 1) := op_42 (rdSeg sd_08_cX9_told_0 19 rfl rfl)
theorem dR_told_20 : decode cX9_told 20 = .ok (.iconst 1, 1) := op_4 (rdSeg sd_08_cX9_told_0 20 rfl rfl)
theorem dR_told_21 : decode cX9_told 21 = .ok (.invokevirtual 62, 3) := op_182 (rdSeg sd_08_cX9_told_0 21 rfl rfl) (rdSeg sd_08_cX9_told_0 22 rfl rfl) (rdSeg sd_08_cX9_told_0 23 rfl rfl) rfl
theorem dR_told_24 : decode cX9_told 24 = .ok (.ireturn, 1) := op_172 (rdSeg sd_08_cX9_told_0 24 rfl rfl)
end
