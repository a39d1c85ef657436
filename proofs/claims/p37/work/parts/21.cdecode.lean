section
-- decode rows of the class
def sg_21_cX0_init_0 : List UInt8 := [0x2a, 0xb7, 0x00, 0x03, 0x2a, 0x11, 0x00, 0x82, 0xbc, 0x0a, 0xb5, 0x00, 0x09, 0x2a, 0x04, 0xb5, 0x00, 0x0f, 0xb1]
set_option maxRecDepth 100000 in
theorem sd_21_cX0_init_0 : cX0_init.data.toList.drop 0 = sg_21_cX0_init_0 := by decide +kernel
theorem dX0_init_0 : decode cX0_init 0 = .ok (.aload_n 0, 1) := op_42 (rdSeg sd_21_cX0_init_0 0 rfl rfl)
theorem dX0_init_1 : decode cX0_init 1 = .ok (.invokespecial 3, 3) := op_183 (rdSeg sd_21_cX0_init_0 1 rfl rfl) (rdSeg sd_21_cX0_init_0 2 rfl rfl) (rdSeg sd_21_cX0_init_0 3 rfl rfl) rfl
theorem dX0_init_4 : decode cX0_init 4 = .ok (.aload_n 0, 1) := op_42 (rdSeg sd_21_cX0_init_0 4 rfl rfl)
theorem dX0_init_5 : decode cX0_init 5 = .ok (.sipush 130, 3) := op_17 (rdSeg sd_21_cX0_init_0 5 rfl rfl) (rdSeg sd_21_cX0_init_0 6 rfl rfl) (rdSeg sd_21_cX0_init_0 7 rfl rfl) (by decide +kernel)
theorem dX0_init_8 : decode cX0_init 8 = .ok (.newarray .int, 2) := by decide +kernel
theorem dX0_init_10 : decode cX0_init 10 = .ok (.putfield 9, 3) := op_181 (rdSeg sd_21_cX0_init_0 10 rfl rfl) (rdSeg sd_21_cX0_init_0 11 rfl rfl) (rdSeg sd_21_cX0_init_0 12 rfl rfl) rfl
theorem dX0_init_13 : decode cX0_init 13 = .ok (.aload_n 0, 1) := op_42 (rdSeg sd_21_cX0_init_0 13 rfl rfl)
theorem dX0_init_14 : decode cX0_init 14 = .ok (.iconst 1, 1) := op_4 (rdSeg sd_21_cX0_init_0 14 rfl rfl)
theorem dX0_init_15 : decode cX0_init 15 = .ok (.putfield 15, 3) := op_181 (rdSeg sd_21_cX0_init_0 15 rfl rfl) (rdSeg sd_21_cX0_init_0 16 rfl rfl) (rdSeg sd_21_cX0_init_0 17 rfl rfl) rfl
theorem dX0_init_18 : decode cX0_init 18 = .ok (.return_, 1) := op_177 (rdSeg sd_21_cX0_init_0 18 rfl rfl)
def sg_21_cX0_size_0 : List UInt8 := [0x2a, 0xb4, 0x00, 0x13, 0xac]
set_option maxRecDepth 100000 in
theorem sd_21_cX0_size_0 : cX0_size.data.toList.drop 0 = sg_21_cX0_size_0 := by decide +kernel
theorem dX0_size_0 : decode cX0_size 0 = .ok (.aload_n 0, 1) := op_42 (rdSeg sd_21_cX0_size_0 0 rfl rfl)
theorem dX0_size_1 : decode cX0_size 1 = .ok (.getfield 19, 3) := op_180 (rdSeg sd_21_cX0_size_0 1 rfl rfl) (rdSeg sd_21_cX0_size_0 2 rfl rfl) (rdSeg sd_21_cX0_size_0 3 rfl rfl) rfl
theorem dX0_size_4 : decode cX0_size 4 = .ok (.ireturn, 1) := op_172 (rdSeg sd_21_cX0_size_0 4 rfl rfl)
def sg_21_cX0_room_0 : List UInt8 := [0x10, 0x0c, 0x2a, 0xb4, 0x00, 0x13, 0x64, 0xac]
set_option maxRecDepth 100000 in
theorem sd_21_cX0_room_0 : cX0_room.data.toList.drop 0 = sg_21_cX0_room_0 := by decide +kernel
theorem dX0_room_0 : decode cX0_room 0 = .ok (.bipush 12, 2) := op_16 (rdSeg sd_21_cX0_room_0 0 rfl rfl) (rdSeg sd_21_cX0_room_0 1 rfl rfl) (by decide +kernel)
theorem dX0_room_2 : decode cX0_room 2 = .ok (.aload_n 0, 1) := op_42 (rdSeg sd_21_cX0_room_0 2 rfl rfl)
theorem dX0_room_3 : decode cX0_room 3 = .ok (.getfield 19, 3) := op_180 (rdSeg sd_21_cX0_room_0 3 rfl rfl) (rdSeg sd_21_cX0_room_0 4 rfl rfl) (rdSeg sd_21_cX0_room_0 5 rfl rfl) rfl
theorem dX0_room_6 : decode cX0_room 6 = .ok (.isub, 1) := op_100 (rdSeg sd_21_cX0_room_0 6 rfl rfl)
theorem dX0_room_7 : decode cX0_room 7 = .ok (.ireturn, 1) := op_172 (rdSeg sd_21_cX0_room_0 7 rfl rfl)
def sg_21_cX0_has_0 : List UInt8 := [0x1b, 0x9b, 0x00, 0x0f, 0x1b, 0x2a, 0xb4, 0x00, 0x13, 0xa2, 0x00, 0x07, 0x04, 0xa7, 0x00, 0x04, 0x03, 0xac]
set_option maxRecDepth 100000 in
theorem sd_21_cX0_has_0 : cX0_has.data.toList.drop 0 = sg_21_cX0_has_0 := by decide +kernel
theorem dX0_has_0 : decode cX0_has 0 = .ok (.iload_n 1, 1) := op_27 (rdSeg sd_21_cX0_has_0 0 rfl rfl)
theorem dX0_has_1 : decode cX0_has 1 = .ok (.ifCond .lt 15, 3) := op_155 (rdSeg sd_21_cX0_has_0 1 rfl rfl) (rdSeg sd_21_cX0_has_0 2 rfl rfl) (rdSeg sd_21_cX0_has_0 3 rfl rfl) (by decide +kernel)
theorem dX0_has_4 : decode cX0_has 4 = .ok (.iload_n 1, 1) := op_27 (rdSeg sd_21_cX0_has_0 4 rfl rfl)
theorem dX0_has_5 : decode cX0_has 5 = .ok (.aload_n 0, 1) := op_42 (rdSeg sd_21_cX0_has_0 5 rfl rfl)
theorem dX0_has_6 : decode cX0_has 6 = .ok (.getfield 19, 3) := op_180 (rdSeg sd_21_cX0_has_0 6 rfl rfl) (rdSeg sd_21_cX0_has_0 7 rfl rfl) (rdSeg sd_21_cX0_has_0 8 rfl rfl) rfl
theorem dX0_has_9 : decode cX0_has 9 = .ok (.if_icmp .ge 7, 3) := op_162 (rdSeg sd_21_cX0_has_0 9 rfl rfl) (rdSeg sd_21_cX0_has_0 10 rfl rfl) (rdSeg sd_21_cX0_has_0 11 rfl rfl) (by decide +kernel)
theorem dX0_has_12 : decode cX0_has 12 = .ok (.iconst 1, 1) := op_4 (rdSeg sd_21_cX0_has_0 12 rfl rfl)
theorem dX0_has_13 : decode cX0_has 13 = .ok (.goto 4, 3) := op_167 (rdSeg sd_21_cX0_has_0 13 rfl rfl) (rdSeg sd_21_cX0_has_0 14 rfl rfl) (rdSeg sd_21_cX0_has_0 15 rfl rfl) (by decide +kernel)
theorem dX0_has_16 : decode cX0_has 16 = .ok (.iconst 0, 1) := op_3 (rdSeg sd_21_cX0_has_0 16 rfl rfl)
theorem dX0_has_17 : decode cX0_has 17 = .ok (.ireturn, 1) := op_172 (rdSeg sd_21_cX0_has_0 17 rfl rfl)
def sg_21_cX0_firstsThatCount_0 : List UInt8 := [0x2a, 0xb4, 0x00, 0x16, 0xac]
set_option maxRecDepth 100000 in
theorem sd_21_cX0_firstsThatCount_0 : cX0_firstsThatCount.data.toList.drop 0 = sg_21_cX0_firstsThatCount_0 := by decide +kernel
theorem dX0_firstsThatCount_0 : decode cX0_firstsThatCount 0 = .ok (.aload_n 0, 1) := op_42 (rdSeg sd_21_cX0_firstsThatCount_0 0 rfl rfl)
theorem dX0_firstsThatCount_1 : decode cX0_firstsThatCount 1 = .ok (.getfield 22, 3) := op_180 (rdSeg sd_21_cX0_firstsThatCount_0 1 rfl rfl) (rdSeg sd_21_cX0_firstsThatCount_0 2 rfl rfl) (rdSeg sd_21_cX0_firstsThatCount_0 3 rfl rfl) rfl
theorem dX0_firstsThatCount_4 : decode cX0_firstsThatCount 4 = .ok (.ireturn, 1) := op_172 (rdSeg sd_21_cX0_firstsThatCount_0 4 rfl rfl)
def sg_21_cX0_yearsSoFar_0 : List UInt8 := [0x2a, 0xb4, 0x00, 0x19, 0xac]
set_option maxRecDepth 100000 in
theorem sd_21_cX0_yearsSoFar_0 : cX0_yearsSoFar.data.toList.drop 0 = sg_21_cX0_yearsSoFar_0 := by decide +kernel
theorem dX0_yearsSoFar_0 : decode cX0_yearsSoFar 0 = .ok (.aload_n 0, 1) := op_42 (rdSeg sd_21_cX0_yearsSoFar_0 0 rfl rfl)
theorem dX0_yearsSoFar_1 : decode cX0_yearsSoFar 1 = .ok (.getfield 25, 3) := op_180 (rdSeg sd_21_cX0_yearsSoFar_0 1 rfl rfl) (rdSeg sd_21_cX0_yearsSoFar_0 2 rfl rfl) (rdSeg sd_21_cX0_yearsSoFar_0 3 rfl rfl) rfl
theorem dX0_yearsSoFar_4 : decode cX0_yearsSoFar 4 = .ok (.ireturn, 1) := op_172 (rdSeg sd_21_cX0_yearsSoFar_0 4 rfl rfl)
def sg_21_cX0_lastDraw_0 : List UInt8 := [0x2a, 0xb4, 0x00, 0x0f, 0xac]
set_option maxRecDepth 100000 in
theorem sd_21_cX0_lastDraw_0 : cX0_lastDraw.data.toList.drop 0 = sg_21_cX0_lastDraw_0 := by decide +kernel
theorem dX0_lastDraw_0 : decode cX0_lastDraw 0 = .ok (.aload_n 0, 1) := op_42 (rdSeg sd_21_cX0_lastDraw_0 0 rfl rfl)
theorem dX0_lastDraw_1 : decode cX0_lastDraw 1 = .ok (.getfield 15, 3) := op_180 (rdSeg sd_21_cX0_lastDraw_0 1 rfl rfl) (rdSeg sd_21_cX0_lastDraw_0 2 rfl rfl) (rdSeg sd_21_cX0_lastDraw_0 3 rfl rfl) rfl
theorem dX0_lastDraw_4 : decode cX0_lastDraw 4 = .ok (.ireturn, 1) := op_172 (rdSeg sd_21_cX0_lastDraw_0 4 rfl rfl)
def sg_21_cX0_reseed_0 : List UInt8 := [0x2a, 0xb4, 0x00, 0x0f, 0x3d, 0x2a, 0x1b, 0xb5, 0x00, 0x0f, 0x1c, 0xac]
set_option maxRecDepth 100000 in
theorem sd_21_cX0_reseed_0 : cX0_reseed.data.toList.drop 0 = sg_21_cX0_reseed_0 := by decide +kernel
theorem dX0_reseed_0 : decode cX0_reseed 0 = .ok (.aload_n 0, 1) := op_42 (rdSeg sd_21_cX0_reseed_0 0 rfl rfl)
theorem dX0_reseed_1 : decode cX0_reseed 1 = .ok (.getfield 15, 3) := op_180 (rdSeg sd_21_cX0_reseed_0 1 rfl rfl) (rdSeg sd_21_cX0_reseed_0 2 rfl rfl) (rdSeg sd_21_cX0_reseed_0 3 rfl rfl) rfl
theorem dX0_reseed_4 : decode cX0_reseed 4 = .ok (.istore_n 2, 1) := op_61 (rdSeg sd_21_cX0_reseed_0 4 rfl rfl)
theorem dX0_reseed_5 : decode cX0_reseed 5 = .ok (.aload_n 0, 1) := op_42 (rdSeg sd_21_cX0_reseed_0 5 rfl rfl)
theorem dX0_reseed_6 : decode cX0_reseed 6 = .ok (.iload_n 1, 1) := op_27 (rdSeg sd_21_cX0_reseed_0 6 rfl rfl)
theorem dX0_reseed_7 : decode cX0_reseed 7 = .ok (.putfield 15, 3) := op_181 (rdSeg sd_21_cX0_reseed_0 7 rfl rfl) (rdSeg sd_21_cX0_reseed_0 8 rfl rfl) (rdSeg sd_21_cX0_reseed_0 9 rfl rfl) rfl
theorem dX0_reseed_10 : decode cX0_reseed 10 = .ok (.iload_n 2, 1) := op_28 (rdSeg sd_21_cX0_reseed_0 10 rfl rfl)
theorem dX0_reseed_11 : decode cX0_reseed 11 = .ok (.ireturn, 1) := op_172 (rdSeg sd_21_cX0_reseed_0 11 rfl rfl)
def sg_21_cX0_number_0 : List UInt8 := [0x1b, 0x1c, 0xb8, 0x00, 0x1c, 0x3e, 0x1d, 0x9b, 0x00, 0x15, 0x1d, 0x2a, 0xb4, 0x00, 0x09, 0xbe, 0xa2, 0x00, 0x0c, 0x2a, 0xb4, 0x00, 0x09, 0x1d, 0x2e, 0xa7, 0x00, 0x04, 0x03, 0xac]
set_option maxRecDepth 100000 in
theorem sd_21_cX0_number_0 : cX0_number.data.toList.drop 0 = sg_21_cX0_number_0 := by decide +kernel
theorem dX0_number_0 : decode cX0_number 0 = .ok (.iload_n 1, 1) := op_27 (rdSeg sd_21_cX0_number_0 0 rfl rfl)
theorem dX0_number_1 : decode cX0_number 1 = .ok (.iload_n 2, 1) := op_28 (rdSeg sd_21_cX0_number_0 1 rfl rfl)
theorem dX0_number_2 : decode cX0_number 2 = .ok (.invokestatic 28, 3) := op_184 (rdSeg sd_21_cX0_number_0 2 rfl rfl) (rdSeg sd_21_cX0_number_0 3 rfl rfl) (rdSeg sd_21_cX0_number_0 4 rfl rfl) rfl
theorem dX0_number_5 : decode cX0_number 5 = .ok (.istore_n 3, 1) := op_62 (rdSeg sd_21_cX0_number_0 5 rfl rfl)
theorem dX0_number_6 : decode cX0_number 6 = .ok (.iload_n 3, 1) := op_29 (rdSeg sd_21_cX0_number_0 6 rfl rfl)
theorem dX0_number_7 : decode cX0_number 7 = .ok (.ifCond .lt 21, 3) := op_155 (rdSeg sd_21_cX0_number_0 7 rfl rfl) (rdSeg sd_21_cX0_number_0 8 rfl rfl) (rdSeg sd_21_cX0_number_0 9 rfl rfl) (by decide +kernel)
theorem dX0_number_10 : decode cX0_number 10 = .ok (.iload_n 3, 1) := op_29 (rdSeg sd_21_cX0_number_0 10 rfl rfl)
theorem dX0_number_11 : decode cX0_number 11 = .ok (.aload_n 0, 1) := op_42 (rdSeg sd_21_cX0_number_0 11 rfl rfl)
theorem dX0_number_12 : decode cX0_number 12 = .ok (.getfield 9, 3) := op_180 (rdSeg sd_21_cX0_number_0 12 rfl rfl) (rdSeg sd_21_cX0_number_0 13 rfl rfl) (rdSeg sd_21_cX0_number_0 14 rfl rfl) rfl
theorem dX0_number_15 : decode cX0_number 15 = .ok (.arraylength, 1) := op_190 (rdSeg sd_21_cX0_number_0 15 rfl rfl)
theorem dX0_number_16 : decode cX0_number 16 = .ok (.if_icmp .ge 12, 3) := op_162 (rdSeg sd_21_cX0_number_0 16 rfl rfl) (rdSeg sd_21_cX0_number_0 17 rfl rfl) (rdSeg sd_21_cX0_number_0 18 rfl rfl) (by decide +kernel)
theorem dX0_number_19 : decode cX0_number 19 = .ok (.aload_n 0, 1) := op_42 (rdSeg sd_21_cX0_number_0 19 rfl rfl)
theorem dX0_number_20 : decode cX0_number 20 = .ok (.getfield 9, 3) := op_180 (rdSeg sd_21_cX0_number_0 20 rfl rfl) (rdSeg sd_21_cX0_number_0 21 rfl rfl) (rdSeg sd_21_cX0_number_0 22 rfl rfl) rfl
theorem dX0_number_23 : decode cX0_number 23 = .ok (.iload_n 3, 1) := op_29 (rdSeg sd_21_cX0_number_0 23 rfl rfl)
theorem dX0_number_24 : decode cX0_number 24 = .ok (.iaload, 1) := op_46 (rdSeg sd_21_cX0_number_0 24 rfl rfl)
theorem dX0_number_25 : decode cX0_number 25 = .ok (.goto 4, 3) := op_167 (rdSeg sd_21_cX0_number_0 25 rfl rfl) (rdSeg sd_21_cX0_number_0 26 rfl rfl) (rdSeg sd_21_cX0_number_0 27 rfl rfl) (by decide +kernel)
theorem dX0_number_28 : decode cX0_number 28 = .ok (.iconst 0, 1) := op_3 (rdSeg sd_21_cX0_number_0 28 rfl rfl)
theorem dX0_number_29 : decode cX0_number 29 = .ok (.ireturn, 1) := op_172 (rdSeg sd_21_cX0_number_0 29 rfl rfl)
def sg_21_cX0_become_0 : List UInt8 := [0x1b, 0x1c, 0xb8, 0x00, 0x1c, 0x36, 0x04, 0x15, 0x04, 0x9b, 0x00, 0x15, 0x15, 0x04, 0x2a, 0xb4, 0x00, 0x09, 0xbe, 0xa2, 0x00, 0x0b, 0x2a, 0xb4, 0x00, 0x09, 0x15, 0x04, 0x1d, 0x4f, 0xb1]
set_option maxRecDepth 100000 in
theorem sd_21_cX0_become_0 : cX0_become.data.toList.drop 0 = sg_21_cX0_become_0 := by decide +kernel
theorem dX0_become_0 : decode cX0_become 0 = .ok (.iload_n 1, 1) := op_27 (rdSeg sd_21_cX0_become_0 0 rfl rfl)
theorem dX0_become_1 : decode cX0_become 1 = .ok (.iload_n 2, 1) := op_28 (rdSeg sd_21_cX0_become_0 1 rfl rfl)
theorem dX0_become_2 : decode cX0_become 2 = .ok (.invokestatic 28, 3) := op_184 (rdSeg sd_21_cX0_become_0 2 rfl rfl) (rdSeg sd_21_cX0_become_0 3 rfl rfl) (rdSeg sd_21_cX0_become_0 4 rfl rfl) rfl
theorem dX0_become_5 : decode cX0_become 5 = .ok (.istore 4, 2) := op_54 (rdSeg sd_21_cX0_become_0 5 rfl rfl) (rdSeg sd_21_cX0_become_0 6 rfl rfl)
theorem dX0_become_7 : decode cX0_become 7 = .ok (.iload 4, 2) := op_21 (rdSeg sd_21_cX0_become_0 7 rfl rfl) (rdSeg sd_21_cX0_become_0 8 rfl rfl)
theorem dX0_become_9 : decode cX0_become 9 = .ok (.ifCond .lt 21, 3) := op_155 (rdSeg sd_21_cX0_become_0 9 rfl rfl) (rdSeg sd_21_cX0_become_0 10 rfl rfl) (rdSeg sd_21_cX0_become_0 11 rfl rfl) (by decide +kernel)
theorem dX0_become_12 : decode cX0_become 12 = .ok (.iload 4, 2) := op_21 (rdSeg sd_21_cX0_become_0 12 rfl rfl) (rdSeg sd_21_cX0_become_0 13 rfl rfl)
theorem dX0_become_14 : decode cX0_become 14 = .ok (.aload_n 0, 1) := op_42 (rdSeg sd_21_cX0_become_0 14 rfl rfl)
theorem dX0_become_15 : decode cX0_become 15 = .ok (.getfield 9, 3) := op_180 (rdSeg sd_21_cX0_become_0 15 rfl rfl) (rdSeg sd_21_cX0_become_0 16 rfl rfl) (rdSeg sd_21_cX0_become_0 17 rfl rfl) rfl
theorem dX0_become_18 : decode cX0_become 18 = .ok (.arraylength, 1) := op_190 (rdSeg sd_21_cX0_become_0 18 rfl rfl)
theorem dX0_become_19 : decode cX0_become 19 = .ok (.if_icmp .ge 11, 3) := op_162 (rdSeg sd_21_cX0_become_0 19 rfl rfl) (rdSeg sd_21_cX0_become_0 20 rfl rfl) (rdSeg sd_21_cX0_become_0 21 rfl rfl) (by decide +kernel)
theorem dX0_become_22 : decode cX0_become 22 = .ok (.aload_n 0, 1) := op_42 (rdSeg sd_21_cX0_become_0 22 rfl rfl)
theorem dX0_become_23 : decode cX0_become 23 = .ok (.getfield 9, 3) := op_180 (rdSeg sd_21_cX0_become_0 23 rfl rfl) (rdSeg sd_21_cX0_become_0 24 rfl rfl) (rdSeg sd_21_cX0_become_0 25 rfl rfl) rfl
theorem dX0_become_26 : decode cX0_become 26 = .ok (.iload 4, 2) := op_21 (rdSeg sd_21_cX0_become_0 26 rfl rfl) (rdSeg sd_21_cX0_become_0 27 rfl rfl)
theorem dX0_become_28 : decode cX0_become 28 = .ok (.iload_n 3, 1) := op_29 (rdSeg sd_21_cX0_become_0 28 rfl rfl)
theorem dX0_become_29 : decode cX0_become 29 = .ok (.iastore, 1) := op_79 (rdSeg sd_21_cX0_become_0 29 rfl rfl)
theorem dX0_become_30 : decode cX0_become 30 = .ok (.return_, 1) := op_177 (rdSeg sd_21_cX0_become_0 30 rfl rfl)
def sg_21_cX0_placeOf_1 : List UInt8 := [0x0a, 0x68, 0x1b, 0x60, 0xa7, 0x00, 0x04, 0x02, 0xac]
def sg_21_cX0_placeOf_0 : List UInt8 := 0x1a :: 0x9b :: 0x00 :: 0x17 :: 0x1a :: 0x10 :: 0x0c :: 0xa3 :: 0x00 :: 0x11 :: 0x1b :: 0x9b :: 0x00 :: 0x0d :: 0x1b :: 0x10 :: 0x0a :: 0xa2 :: 0x00 :: 0x07 :: 0x04 :: 0xa7 :: 0x00 :: 0x04 :: 0x03 :: 0x3d :: 0x1c :: 0x99 :: 0x00 :: 0x0c :: 0x1a :: 0x10 :: sg_21_cX0_placeOf_1
set_option maxRecDepth 100000 in
theorem sd_21_cX0_placeOf_0 : cX0_placeOf.data.toList.drop 0 = sg_21_cX0_placeOf_0 := by decide +kernel
theorem sd_21_cX0_placeOf_1 : cX0_placeOf.data.toList.drop 32 = sg_21_cX0_placeOf_1 := sg_next sd_21_cX0_placeOf_0 rfl
theorem dX0_placeOf_0 : decode cX0_placeOf 0 = .ok (.iload_n 0, 1) := op_26 (rdSeg sd_21_cX0_placeOf_0 0 rfl rfl)
theorem dX0_placeOf_1 : decode cX0_placeOf 1 = .ok (.ifCond .lt 23, 3) := op_155 (rdSeg sd_21_cX0_placeOf_0 1 rfl rfl) (rdSeg sd_21_cX0_placeOf_0 2 rfl rfl) (rdSeg sd_21_cX0_placeOf_0 3 rfl rfl) (by decide +kernel)
theorem dX0_placeOf_4 : decode cX0_placeOf 4 = .ok (.iload_n 0, 1) := op_26 (rdSeg sd_21_cX0_placeOf_0 4 rfl rfl)
theorem dX0_placeOf_5 : decode cX0_placeOf 5 = .ok (.bipush 12, 2) := op_16 (rdSeg sd_21_cX0_placeOf_0 5 rfl rfl) (rdSeg sd_21_cX0_placeOf_0 6 rfl rfl) (by decide +kernel)
theorem dX0_placeOf_7 : decode cX0_placeOf 7 = .ok (.if_icmp .gt 17, 3) := op_163 (rdSeg sd_21_cX0_placeOf_0 7 rfl rfl) (rdSeg sd_21_cX0_placeOf_0 8 rfl rfl) (rdSeg sd_21_cX0_placeOf_0 9 rfl rfl) (by decide +kernel)
theorem dX0_placeOf_10 : decode cX0_placeOf 10 = .ok (.iload_n 1, 1) := op_27 (rdSeg sd_21_cX0_placeOf_0 10 rfl rfl)
theorem dX0_placeOf_11 : decode cX0_placeOf 11 = .ok (.ifCond .lt 13, 3) := op_155 (rdSeg sd_21_cX0_placeOf_0 11 rfl rfl) (rdSeg sd_21_cX0_placeOf_0 12 rfl rfl) (rdSeg sd_21_cX0_placeOf_0 13 rfl rfl) (by decide +kernel)
theorem dX0_placeOf_14 : decode cX0_placeOf 14 = .ok (.iload_n 1, 1) := op_27 (rdSeg sd_21_cX0_placeOf_0 14 rfl rfl)
theorem dX0_placeOf_15 : decode cX0_placeOf 15 = .ok (.bipush 10, 2) := op_16 (rdSeg sd_21_cX0_placeOf_0 15 rfl rfl) (rdSeg sd_21_cX0_placeOf_0 16 rfl rfl) (by decide +kernel)
theorem dX0_placeOf_17 : decode cX0_placeOf 17 = .ok (.if_icmp .ge 7, 3) := op_162 (rdSeg sd_21_cX0_placeOf_0 17 rfl rfl) (rdSeg sd_21_cX0_placeOf_0 18 rfl rfl) (rdSeg sd_21_cX0_placeOf_0 19 rfl rfl) (by decide +kernel)
theorem dX0_placeOf_20 : decode cX0_placeOf 20 = .ok (.iconst 1, 1) := op_4 (rdSeg sd_21_cX0_placeOf_0 20 rfl rfl)
theorem dX0_placeOf_21 : decode cX0_placeOf 21 = .ok (.goto 4, 3) := op_167 (rdSeg sd_21_cX0_placeOf_0 21 rfl rfl) (rdSeg sd_21_cX0_placeOf_0 22 rfl rfl) (rdSeg sd_21_cX0_placeOf_0 23 rfl rfl) (by decide +kernel)
theorem dX0_placeOf_24 : decode cX0_placeOf 24 = .ok (.iconst 0, 1) := op_3 (rdSeg sd_21_cX0_placeOf_0 24 rfl rfl)
theorem dX0_placeOf_25 : decode cX0_placeOf 25 = .ok (.istore_n 2, 1) := op_61 (rdSeg sd_21_cX0_placeOf_0 25 rfl rfl)
theorem dX0_placeOf_26 : decode cX0_placeOf 26 = .ok (.iload_n 2, 1) := op_28 (rdSeg sd_21_cX0_placeOf_0 26 rfl rfl)
theorem dX0_placeOf_27 : decode cX0_placeOf 27 = .ok (.ifCond .eq 12, 3) := op_153 (rdSeg sd_21_cX0_placeOf_0 27 rfl rfl) (rdSeg sd_21_cX0_placeOf_0 28 rfl rfl) (rdSeg sd_21_cX0_placeOf_0 29 rfl rfl) (by decide +kernel)
theorem dX0_placeOf_30 : decode cX0_placeOf 30 = .ok (.iload_n 0, 1) := op_26 (rdSeg sd_21_cX0_placeOf_0 30 rfl rfl)
theorem dX0_placeOf_31 : decode cX0_placeOf 31 = .ok (.bipush 10, 2) := op_16 (rdSeg sd_21_cX0_placeOf_0 31 rfl rfl) (rdSeg sd_21_cX0_placeOf_1 0 rfl rfl) (by decide +kernel)
theorem dX0_placeOf_33 : decode cX0_placeOf 33 = .ok (.imul, 1) := op_104 (rdSeg sd_21_cX0_placeOf_1 1 rfl rfl)
theorem dX0_placeOf_34 : decode cX0_placeOf 34 = .ok (.iload_n 1, 1) := op_27 (rdSeg sd_21_cX0_placeOf_1 2 rfl rfl)
theorem dX0_placeOf_35 : decode cX0_placeOf 35 = .ok (.iadd, 1) := op_96 (rdSeg sd_21_cX0_placeOf_1 3 rfl rfl)
theorem dX0_placeOf_36 : decode cX0_placeOf 36 = .ok (.goto 4, 3) := op_167 (rdSeg sd_21_cX0_placeOf_1 4 rfl rfl) (rdSeg sd_21_cX0_placeOf_1 5 rfl rfl) (rdSeg sd_21_cX0_placeOf_1 6 rfl rfl) (by decide +kernel)
theorem dX0_placeOf_39 : decode cX0_placeOf 39 = .ok (.iconst (-1), 1) := op_2 (rdSeg sd_21_cX0_placeOf_1 7 rfl rfl)
theorem dX0_placeOf_40 : decode cX0_placeOf 40 = .ok (.ireturn, 1) := op_172 (rdSeg sd_21_cX0_placeOf_1 8 rfl rfl)
def sg_21_cX0_mostSettable_1 : List UInt8 := [0x04, 0x02, 0xac]
def sg_21_cX0_mostSettable_0 : List UInt8 := 0x1c :: 0x9a :: 0x00 :: 0x06 :: 0x10 :: 0x06 :: 0xac :: 0x1c :: 0x04 :: 0xa0 :: 0x00 :: 0x06 :: 0x10 :: 0x63 :: 0xac :: 0x1c :: 0x06 :: 0x08 :: 0xb8 :: 0x00 :: 0x20 :: 0x99 :: 0x00 :: 0x0c :: 0x2a :: 0x1b :: 0x05 :: 0xb6 :: 0x00 :: 0x24 :: 0xa7 :: 0x00 :: sg_21_cX0_mostSettable_1
set_option maxRecDepth 100000 in
theorem sd_21_cX0_mostSettable_0 : cX0_mostSettable.data.toList.drop 0 = sg_21_cX0_mostSettable_0 := by decide +kernel
theorem sd_21_cX0_mostSettable_1 : cX0_mostSettable.data.toList.drop 32 = sg_21_cX0_mostSettable_1 := sg_next sd_21_cX0_mostSettable_0 rfl
theorem dX0_mostSettable_0 : decode cX0_mostSettable 0 = .ok (.iload_n 2, 1) := op_28 (rdSeg sd_21_cX0_mostSettable_0 0 rfl rfl)
theorem dX0_mostSettable_1 : decode cX0_mostSettable 1 = .ok (.ifCond .ne 6, 3) := op_154 (rdSeg sd_21_cX0_mostSettable_0 1 rfl rfl) (rdSeg sd_21_cX0_mostSettable_0 2 rfl rfl) (rdSeg sd_21_cX0_mostSettable_0 3 rfl rfl) (by decide +kernel)
theorem dX0_mostSettable_4 : decode cX0_mostSettable 4 = .ok (.bipush 6, 2) := op_16 (rdSeg sd_21_cX0_mostSettable_0 4 rfl rfl) (rdSeg sd_21_cX0_mostSettable_0 5 rfl rfl) (by decide +kernel)
theorem dX0_mostSettable_6 : decode cX0_mostSettable 6 = .ok (.ireturn, 1) := op_172 (rdSeg sd_21_cX0_mostSettable_0 6 rfl rfl)
theorem dX0_mostSettable_7 : decode cX0_mostSettable 7 = .ok (.iload_n 2, 1) := op_28 (rdSeg sd_21_cX0_mostSettable_0 7 rfl rfl)
theorem dX0_mostSettable_8 : decode cX0_mostSettable 8 = .ok (.iconst 1, 1) := op_4 (rdSeg sd_21_cX0_mostSettable_0 8 rfl rfl)
theorem dX0_mostSettable_9 : decode cX0_mostSettable 9 = .ok (.if_icmp .ne 6, 3) := op_160 (rdSeg sd_21_cX0_mostSettable_0 9 rfl rfl) (rdSeg sd_21_cX0_mostSettable_0 10 rfl rfl) (rdSeg sd_21_cX0_mostSettable_0 11 rfl rfl) (by decide +kernel)
theorem dX0_mostSettable_12 : decode cX0_mostSettable 12 = .ok (.bipush 99, 2) := op_16 (rdSeg sd_21_cX0_mostSettable_0 12 rfl rfl) (rdSeg sd_21_cX0_mostSettable_0 13 rfl rfl) (by decide +kernel)
theorem dX0_mostSettable_14 : decode cX0_mostSettable 14 = .ok (.ireturn, 1) := op_172 (rdSeg sd_21_cX0_mostSettable_0 14 rfl rfl)
theorem dX0_mostSettable_15 : decode cX0_mostSettable 15 = .ok (.iload_n 2, 1) := op_28 (rdSeg sd_21_cX0_mostSettable_0 15 rfl rfl)
theorem dX0_mostSettable_16 : decode cX0_mostSettable 16 = .ok (.iconst 3, 1) := op_6 (rdSeg sd_21_cX0_mostSettable_0 16 rfl rfl)
theorem dX0_mostSettable_17 : decode cX0_mostSettable 17 = .ok (.iconst 5, 1) := op_8 (rdSeg sd_21_cX0_mostSettable_0 17 rfl rfl)
theorem dX0_mostSettable_18 : decode cX0_mostSettable 18 = .ok (.invokestatic 32, 3) := op_184 (rdSeg sd_21_cX0_mostSettable_0 18 rfl rfl) (rdSeg sd_21_cX0_mostSettable_0 19 rfl rfl) (rdSeg sd_21_cX0_mostSettable_0 20 rfl rfl) rfl
theorem dX0_mostSettable_21 : decode cX0_mostSettable 21 = .ok (.ifCond .eq 12, 3) := op_153 (rdSeg sd_21_cX0_mostSettable_0 21 rfl rfl) (rdSeg sd_21_cX0_mostSettable_0 22 rfl rfl) (rdSeg sd_21_cX0_mostSettable_0 23 rfl rfl) (by decide +kernel)
theorem dX0_mostSettable_24 : decode cX0_mostSettable 24 = .ok (.aload_n 0, 1) := op_42 (rdSeg sd_21_cX0_mostSettable_0 24 rfl rfl)
theorem dX0_mostSettable_25 : decode cX0_mostSettable 25 = .ok (.iload_n 1, 1) := op_27 (rdSeg sd_21_cX0_mostSettable_0 25 rfl rfl)
theorem dX0_mostSettable_26 : decode cX0_mostSettable 26 = .ok (.iconst 2, 1) := op_5 (rdSeg sd_21_cX0_mostSettable_0 26 rfl rfl)
theorem dX0_mostSettable_27 : decode cX0_mostSettable 27 = .ok (.invokevirtual 36, 3) := op_182 (rdSeg sd_21_cX0_mostSettable_0 27 rfl rfl) (rdSeg sd_21_cX0_mostSettable_0 28 rfl rfl) (rdSeg sd_21_cX0_mostSettable_0 29 rfl rfl) rfl
theorem dX0_mostSettable_30 : decode cX0_mostSettable 30 = .ok (.goto 4, 3) := op_167 (rdSeg sd_21_cX0_mostSettable_0 30 rfl rfl) (rdSeg sd_21_cX0_mostSettable_0 31 rfl rfl) (rdSeg sd_21_cX0_mostSettable_1 0 rfl rfl) (by decide +kernel)
theorem dX0_mostSettable_33 : decode cX0_mostSettable 33 = .ok (.iconst (-1), 1) := op_2 (rdSeg sd_21_cX0_mostSettable_1 1 rfl rfl)
theorem dX0_mostSettable_34 : decode cX0_mostSettable 34 = .ok (.ireturn, 1) := op_172 (rdSeg sd_21_cX0_mostSettable_1 2 rfl rfl)
def sg_21_cX0_allGrams_0 : List UInt8 := [0x03, 0x3c, 0x03, 0x3d, 0x1c, 0x2a, 0xb4, 0x00, 0x13, 0xa2, 0x00, 0x12, 0x1b, 0x2a, 0x1c, 0x05, 0xb6, 0x00, 0x24, 0x60, 0x3c, 0x84, 0x02, 0x01, 0xa7, 0xff, 0xec, 0x1b, 0xac]
set_option maxRecDepth 100000 in
theorem sd_21_cX0_allGrams_0 : cX0_allGrams.data.toList.drop 0 = sg_21_cX0_allGrams_0 := by decide +kernel
theorem dX0_allGrams_0 : decode cX0_allGrams 0 = .ok (.iconst 0, 1) := op_3 (rdSeg sd_21_cX0_allGrams_0 0 rfl rfl)
theorem dX0_allGrams_1 : decode cX0_allGrams 1 = .ok (.istore_n 1, 1) := op_60 (rdSeg sd_21_cX0_allGrams_0 1 rfl rfl)
theorem dX0_allGrams_2 : decode cX0_allGrams 2 = .ok (.iconst 0, 1) := op_3 (rdSeg sd_21_cX0_allGrams_0 2 rfl rfl)
theorem dX0_allGrams_3 : decode cX0_allGrams 3 = .ok (.istore_n 2, 1) := op_61 (rdSeg sd_21_cX0_allGrams_0 3 rfl rfl)
theorem dX0_allGrams_4 : decode cX0_allGrams 4 = .ok (.iload_n 2, 1) := op_28 (rdSeg sd_21_cX0_allGrams_0 4 rfl rfl)
theorem dX0_allGrams_5 : decode cX0_allGrams 5 = .ok (.aload_n 0, 1) := op_42 (rdSeg sd_21_cX0_allGrams_0 5 rfl rfl)
theorem dX0_allGrams_6 : decode cX0_allGrams 6 = .ok (.getfield 19, 3) := op_180 (rdSeg sd_21_cX0_allGrams_0 6 rfl rfl) (rdSeg sd_21_cX0_allGrams_0 7 rfl rfl) (rdSeg sd_21_cX0_allGrams_0 8 rfl rfl) rfl
theorem dX0_allGrams_9 : decode cX0_allGrams 9 = .ok (.if_icmp .ge 18, 3) := op_162 (rdSeg sd_21_cX0_allGrams_0 9 rfl rfl) (rdSeg sd_21_cX0_allGrams_0 10 rfl rfl) (rdSeg sd_21_cX0_allGrams_0 11 rfl rfl) (by decide +kernel)
theorem dX0_allGrams_12 : decode cX0_allGrams 12 = .ok (.iload_n 1, 1) := op_27 (rdSeg sd_21_cX0_allGrams_0 12 rfl rfl)
theorem dX0_allGrams_13 : decode cX0_allGrams 13 = .ok (.aload_n 0, 1) := op_42 (rdSeg sd_21_cX0_allGrams_0 13 rfl rfl)
theorem dX0_allGrams_14 : decode cX0_allGrams 14 = .ok (.iload_n 2, 1) := op_28 (rdSeg sd_21_cX0_allGrams_0 14 rfl rfl)
theorem dX0_allGrams_15 : decode cX0_allGrams 15 = .ok (.iconst 2, 1) := op_5 (rdSeg sd_21_cX0_allGrams_0 15 rfl rfl)
theorem dX0_allGrams_16 : decode cX0_allGrams 16 = .ok (.invokevirtual 36, 3) := op_182 (rdSeg sd_21_cX0_allGrams_0 16 rfl rfl) (rdSeg sd_21_cX0_allGrams_0 17 rfl rfl) (rdSeg sd_21_cX0_allGrams_0 18 rfl rfl) rfl
theorem dX0_allGrams_19 : decode cX0_allGrams 19 = .ok (.iadd, 1) := op_96 (rdSeg sd_21_cX0_allGrams_0 19 rfl rfl)
theorem dX0_allGrams_20 : decode cX0_allGrams 20 = .ok (.istore_n 1, 1) := op_60 (rdSeg sd_21_cX0_allGrams_0 20 rfl rfl)
theorem dX0_allGrams_21 : decode cX0_allGrams 21 = .ok (.iinc 2 1, 3) := op_132 (rdSeg sd_21_cX0_allGrams_0 21 rfl rfl) (rdSeg sd_21_cX0_allGrams_0 22 rfl rfl) (rdSeg sd_21_cX0_allGrams_0 23 rfl rfl) (by decide +kernel)
theorem dX0_allGrams_24 : decode cX0_allGrams 24 = .ok (.goto (-20), 3) := op_167 (rdSeg sd_21_cX0_allGrams_0 24 rfl rfl) (rdSeg sd_21_cX0_allGrams_0 25 rfl rfl) (rdSeg sd_21_cX0_allGrams_0 26 rfl rfl) (by decide +kernel)
theorem dX0_allGrams_27 : decode cX0_allGrams 27 = .ok (.iload_n 1, 1) := op_27 (rdSeg sd_21_cX0_allGrams_0 27 rfl rfl)
theorem dX0_allGrams_28 : decode cX0_allGrams 28 = .ok (.ireturn, 1) := op_172 (rdSeg sd_21_cX0_allGrams_0 28 rfl rfl)
def sg_21_cX0_copyFrom_2 : List UInt8 := [0xb1]
def sg_21_cX0_copyFrom_1 : List UInt8 := 0x2a :: 0x2b :: 0xb4 :: 0x00 :: 0x13 :: 0xb5 :: 0x00 :: 0x13 :: 0x2a :: 0x2b :: 0xb4 :: 0x00 :: 0x16 :: 0xb5 :: 0x00 :: 0x16 :: 0x2a :: 0x2b :: 0xb4 :: 0x00 :: 0x19 :: 0xb5 :: 0x00 :: 0x19 :: 0x2a :: 0x2b :: 0xb4 :: 0x00 :: 0x0f :: 0xb5 :: 0x00 :: 0x0f :: sg_21_cX0_copyFrom_2
def sg_21_cX0_copyFrom_0 : List UInt8 := 0x2b :: 0xb4 :: 0x00 :: 0x09 :: 0xbe :: 0x2a :: 0xb4 :: 0x00 :: 0x09 :: 0xbe :: 0x9f :: 0x00 :: 0x04 :: 0xb1 :: 0x2b :: 0xb4 :: 0x00 :: 0x09 :: 0x03 :: 0x2a :: 0xb4 :: 0x00 :: 0x09 :: 0x03 :: 0x2a :: 0xb4 :: 0x00 :: 0x09 :: 0xbe :: 0xb8 :: 0x00 :: 0x27 :: sg_21_cX0_copyFrom_1
set_option maxRecDepth 100000 in
theorem sd_21_cX0_copyFrom_0 : cX0_copyFrom.data.toList.drop 0 = sg_21_cX0_copyFrom_0 := by decide +kernel
theorem sd_21_cX0_copyFrom_1 : cX0_copyFrom.data.toList.drop 32 = sg_21_cX0_copyFrom_1 := sg_next sd_21_cX0_copyFrom_0 rfl
theorem sd_21_cX0_copyFrom_2 : cX0_copyFrom.data.toList.drop 64 = sg_21_cX0_copyFrom_2 := sg_next sd_21_cX0_copyFrom_1 rfl
theorem dX0_copyFrom_0 : decode cX0_copyFrom 0 = .ok (.aload_n 1, 1) := op_43 (rdSeg sd_21_cX0_copyFrom_0 0 rfl rfl)
theorem dX0_copyFrom_1 : decode cX0_copyFrom 1 = .ok (.getfield 9, 3) := op_180 (rdSeg sd_21_cX0_copyFrom_0 1 rfl rfl) (rdSeg sd_21_cX0_copyFrom_0 2 rfl rfl) (rdSeg sd_21_cX0_copyFrom_0 3 rfl rfl) rfl
theorem dX0_copyFrom_4 : decode cX0_copyFrom 4 = .ok (.arraylength, 1) := op_190 (rdSeg sd_21_cX0_copyFrom_0 4 rfl rfl)
theorem dX0_copyFrom_5 : decode cX0_copyFrom 5 = .ok (.aload_n 0, 1) := op_42 (rdSeg sd_21_cX0_copyFrom_0 5 rfl rfl)
theorem dX0_copyFrom_6 : decode cX0_copyFrom 6 = .ok (.getfield 9, 3) := op_180 (rdSeg sd_21_cX0_copyFrom_0 6 rfl rfl) (rdSeg sd_21_cX0_copyFrom_0 7 rfl rfl) (rdSeg sd_21_cX0_copyFrom_0 8 rfl rfl) rfl
theorem dX0_copyFrom_9 : decode cX0_copyFrom 9 = .ok (.arraylength, 1) := op_190 (rdSeg sd_21_cX0_copyFrom_0 9 rfl rfl)
theorem dX0_copyFrom_10 : decode cX0_copyFrom 10 = .ok (.if_icmp .eq 4, 3) := op_159 (rdSeg sd_21_cX0_copyFrom_0 10 rfl rfl) (rdSeg sd_21_cX0_copyFrom_0 11 rfl rfl) (rdSeg sd_21_cX0_copyFrom_0 12 rfl rfl) (by decide +kernel)
theorem dX0_copyFrom_13 : decode cX0_copyFrom 13 = .ok (.return_, 1) := op_177 (rdSeg sd_21_cX0_copyFrom_0 13 rfl rfl)
theorem dX0_copyFrom_14 : decode cX0_copyFrom 14 = .ok (.aload_n 1, 1) := op_43 (rdSeg sd_21_cX0_copyFrom_0 14 rfl rfl)
theorem dX0_copyFrom_15 : decode cX0_copyFrom 15 = .ok (.getfield 9, 3) := op_180 (rdSeg sd_21_cX0_copyFrom_0 15 rfl rfl) (rdSeg sd_21_cX0_copyFrom_0 16 rfl rfl) (rdSeg sd_21_cX0_copyFrom_0 17 rfl rfl) rfl
theorem dX0_copyFrom_18 : decode cX0_copyFrom 18 = .ok (.iconst 0, 1) := op_3 (rdSeg sd_21_cX0_copyFrom_0 18 rfl rfl)
theorem dX0_copyFrom_19 : decode cX0_copyFrom 19 = .ok (.aload_n 0, 1) := op_42 (rdSeg sd_21_cX0_copyFrom_0 19 rfl rfl)
theorem dX0_copyFrom_20 : decode cX0_copyFrom 20 = .ok (.getfield 9, 3) := op_180 (rdSeg sd_21_cX0_copyFrom_0 20 rfl rfl) (rdSeg sd_21_cX0_copyFrom_0 21 rfl rfl) (rdSeg sd_21_cX0_copyFrom_0 22 rfl rfl) rfl
theorem dX0_copyFrom_23 : decode cX0_copyFrom 23 = .ok (.iconst 0, 1) := op_3 (rdSeg sd_21_cX0_copyFrom_0 23 rfl rfl)
theorem dX0_copyFrom_24 : decode cX0_copyFrom 24 = .ok (.aload_n 0, 1) := op_42 (rdSeg sd_21_cX0_copyFrom_0 24 rfl rfl)
theorem dX0_copyFrom_25 : decode cX0_copyFrom 25 = .ok (.getfield 9, 3) := op_180 (rdSeg sd_21_cX0_copyFrom_0 25 rfl rfl) (rdSeg sd_21_cX0_copyFrom_0 26 rfl rfl) (rdSeg sd_21_cX0_copyFrom_0 27 rfl rfl) rfl
theorem dX0_copyFrom_28 : decode cX0_copyFrom 28 = .ok (.arraylength, 1) := op_190 (rdSeg sd_21_cX0_copyFrom_0 28 rfl rfl)
theorem dX0_copyFrom_29 : decode cX0_copyFrom 29 = .ok (.invokestatic 39, 3) := op_184 (rdSeg sd_21_cX0_copyFrom_0 29 rfl rfl) (rdSeg sd_21_cX0_copyFrom_0 30 rfl rfl) (rdSeg sd_21_cX0_copyFrom_0 31 rfl rfl) rfl
theorem dX0_copyFrom_32 : decode cX0_copyFrom 32 = .ok (.aload_n 0, 1) := op_42 (rdSeg sd_21_cX0_copyFrom_1 0 rfl rfl)
theorem dX0_copyFrom_33 : decode cX0_copyFrom 33 = .ok (.aload_n 1, 1) := op_43 (rdSeg sd_21_cX0_copyFrom_1 1 rfl rfl)
theorem dX0_copyFrom_34 : decode cX0_copyFrom 34 = .ok (.getfield 19, 3) := op_180 (rdSeg sd_21_cX0_copyFrom_1 2 rfl rfl) (rdSeg sd_21_cX0_copyFrom_1 3 rfl rfl) (rdSeg sd_21_cX0_copyFrom_1 4 rfl rfl) rfl
theorem dX0_copyFrom_37 : decode cX0_copyFrom 37 = .ok (.putfield 19, 3) := op_181 (rdSeg sd_21_cX0_copyFrom_1 5 rfl rfl) (rdSeg sd_21_cX0_copyFrom_1 6 rfl rfl) (rdSeg sd_21_cX0_copyFrom_1 7 rfl rfl) rfl
theorem dX0_copyFrom_40 : decode cX0_copyFrom 40 = .ok (.aload_n 0, 1) := op_42 (rdSeg sd_21_cX0_copyFrom_1 8 rfl rfl)
theorem dX0_copyFrom_41 : decode cX0_copyFrom 41 = .ok (.aload_n 1, 1) := op_43 (rdSeg sd_21_cX0_copyFrom_1 9 rfl rfl)
theorem dX0_copyFrom_42 : decode cX0_copyFrom 42 = .ok (.getfield 22, 3) := op_180 (rdSeg sd_21_cX0_copyFrom_1 10 rfl rfl) (rdSeg sd_21_cX0_copyFrom_1 11 rfl rfl) (rdSeg sd_21_cX0_copyFrom_1 12 rfl rfl) rfl
theorem dX0_copyFrom_45 : decode cX0_copyFrom 45 = .ok (.putfield 22, 3) := op_181 (rdSeg sd_21_cX0_copyFrom_1 13 rfl rfl) (rdSeg sd_21_cX0_copyFrom_1 14 rfl rfl) (rdSeg sd_21_cX0_copyFrom_1 15 rfl rfl) rfl
theorem dX0_copyFrom_48 : decode cX0_copyFrom 48 = .ok (.aload_n 0, 1) := op_42 (rdSeg sd_21_cX0_copyFrom_1 16 rfl rfl)
theorem dX0_copyFrom_49 : decode cX0_copyFrom 49 = .ok (.aload_n 1, 1) := op_43 (rdSeg sd_21_cX0_copyFrom_1 17 rfl rfl)
theorem dX0_copyFrom_50 : decode cX0_copyFrom 50 = .ok (.getfield 25, 3) := op_180 (rdSeg sd_21_cX0_copyFrom_1 18 rfl rfl) (rdSeg sd_21_cX0_copyFrom_1 19 rfl rfl) (rdSeg sd_21_cX0_copyFrom_1 20 rfl rfl) rfl
theorem dX0_copyFrom_53 : decode cX0_copyFrom 53 = .ok (.putfield 25, 3) := op_181 (rdSeg sd_21_cX0_copyFrom_1 21 rfl rfl) (rdSeg sd_21_cX0_copyFrom_1 22 rfl rfl) (rdSeg sd_21_cX0_copyFrom_1 23 rfl rfl) rfl
theorem dX0_copyFrom_56 : decode cX0_copyFrom 56 = .ok (.aload_n 0, 1) := op_42 (rdSeg sd_21_cX0_copyFrom_1 24 rfl rfl)
theorem dX0_copyFrom_57 : decode cX0_copyFrom 57 = .ok (.aload_n 1, 1) := op_43 (rdSeg sd_21_cX0_copyFrom_1 25 rfl rfl)
theorem dX0_copyFrom_58 : decode cX0_copyFrom 58 = .ok (.getfield 15, 3) := op_180 (rdSeg sd_21_cX0_copyFrom_1 26 rfl rfl) (rdSeg sd_21_cX0_copyFrom_1 27 rfl rfl) (rdSeg sd_21_cX0_copyFrom_1 28 rfl rfl) rfl
theorem dX0_copyFrom_61 : decode cX0_copyFrom 61 = .ok (.putfield 15, 3) := op_181 (rdSeg sd_21_cX0_copyFrom_1 29 rfl rfl) (rdSeg sd_21_cX0_copyFrom_1 30 rfl rfl) (rdSeg sd_21_cX0_copyFrom_1 31 rfl rfl) rfl
theorem dX0_copyFrom_64 : decode cX0_copyFrom 64 = .ok (.return_, 1) := op_177 (rdSeg sd_21_cX0_copyFrom_2 0 rfl rfl)
def sg_21_cX0_add_1 : List UInt8 := [0x1c, 0x03, 0x1b, 0x10, 0x64, 0x6c, 0xb6, 0x00, 0x35, 0x2a, 0x1c, 0x04, 0x1b, 0x10, 0x64, 0x70, 0xb6, 0x00, 0x35, 0x1c, 0xac]
def sg_21_cX0_add_0 : List UInt8 := 0x2a :: 0xb6 :: 0x00 :: 0x2d :: 0x04 :: 0xa2 :: 0x00 :: 0x05 :: 0x02 :: 0xac :: 0x2a :: 0xb4 :: 0x00 :: 0x13 :: 0x3d :: 0x2a :: 0x59 :: 0xb4 :: 0x00 :: 0x13 :: 0x04 :: 0x60 :: 0xb5 :: 0x00 :: 0x13 :: 0x2a :: 0x1c :: 0x03 :: 0xb6 :: 0x00 :: 0x31 :: 0x2a :: sg_21_cX0_add_1
set_option maxRecDepth 100000 in
theorem sd_21_cX0_add_0 : cX0_add.data.toList.drop 0 = sg_21_cX0_add_0 := by decide +kernel
theorem sd_21_cX0_add_1 : cX0_add.data.toList.drop 32 = sg_21_cX0_add_1 := sg_next sd_21_cX0_add_0 rfl
theorem dX0_add_0 : decode cX0_add 0 = .ok (.aload_n 0, 1) := op_42 (rdSeg sd_21_cX0_add_0 0 rfl rfl)
theorem dX0_add_1 : decode cX0_add 1 = .ok (.invokevirtual 45, 3) := op_182 (rdSeg sd_21_cX0_add_0 1 rfl rfl) (rdSeg sd_21_cX0_add_0 2 rfl rfl) (rdSeg sd_21_cX0_add_0 3 rfl rfl) rfl
theorem dX0_add_4 : decode cX0_add 4 = .ok (.iconst 1, 1) := op_4 (rdSeg sd_21_cX0_add_0 4 rfl rfl)
theorem dX0_add_5 : decode cX0_add 5 = .ok (.if_icmp .ge 5, 3) := op_162 (rdSeg sd_21_cX0_add_0 5 rfl rfl) (rdSeg sd_21_cX0_add_0 6 rfl rfl) (rdSeg sd_21_cX0_add_0 7 rfl rfl) (by decide +kernel)
theorem dX0_add_8 : decode cX0_add 8 = .ok (.iconst (-1), 1) := op_2 (rdSeg sd_21_cX0_add_0 8 rfl rfl)
theorem dX0_add_9 : decode cX0_add 9 = .ok (.ireturn, 1) := op_172 (rdSeg sd_21_cX0_add_0 9 rfl rfl)
theorem dX0_add_10 : decode cX0_add 10 = .ok (.aload_n 0, 1) := op_42 (rdSeg sd_21_cX0_add_0 10 rfl rfl)
theorem dX0_add_11 : decode cX0_add 11 = .ok (.getfield 19, 3) := op_180 (rdSeg sd_21_cX0_add_0 11 rfl rfl) (rdSeg sd_21_cX0_add_0 12 rfl rfl) (rdSeg sd_21_cX0_add_0 13 rfl rfl) rfl
theorem dX0_add_14 : decode cX0_add 14 = .ok (.istore_n 2, 1) := op_61 (rdSeg sd_21_cX0_add_0 14 rfl rfl)
theorem dX0_add_15 : decode cX0_add 15 = .ok (.aload_n 0, 1) := op_42 (rdSeg sd_21_cX0_add_0 15 rfl rfl)
theorem dX0_add_16 : decode cX0_add 16 = .ok (.dup, 1) := op_89 (rdSeg sd_21_cX0_add_0 16 rfl rfl)
theorem dX0_add_17 : decode cX0_add 17 = .ok (.getfield 19, 3) := op_180 (rdSeg sd_21_cX0_add_0 17 rfl rfl) (rdSeg sd_21_cX0_add_0 18 rfl rfl) (rdSeg sd_21_cX0_add_0 19 rfl rfl) rfl
theorem dX0_add_20 : decode cX0_add 20 = .ok (.iconst 1, 1) := op_4 (rdSeg sd_21_cX0_add_0 20 rfl rfl)
theorem dX0_add_21 : decode cX0_add 21 = .ok (.iadd, 1) := op_96 (rdSeg sd_21_cX0_add_0 21 rfl rfl)
theorem dX0_add_22 : decode cX0_add 22 = .ok (.putfield 19, 3) := op_181 (rdSeg sd_21_cX0_add_0 22 rfl rfl) (rdSeg sd_21_cX0_add_0 23 rfl rfl) (rdSeg sd_21_cX0_add_0 24 rfl rfl) rfl
theorem dX0_add_25 : decode cX0_add 25 = .ok (.aload_n 0, 1) := op_42 (rdSeg sd_21_cX0_add_0 25 rfl rfl)
theorem dX0_add_26 : decode cX0_add 26 = .ok (.iload_n 2, 1) := op_28 (rdSeg sd_21_cX0_add_0 26 rfl rfl)
theorem dX0_add_27 : decode cX0_add 27 = .ok (.iconst 0, 1) := op_3 (rdSeg sd_21_cX0_add_0 27 rfl rfl)
theorem dX0_add_28 : decode cX0_add 28 = .ok (.invokevirtual 49, 3) := op_182 (rdSeg sd_21_cX0_add_0 28 rfl rfl) (rdSeg sd_21_cX0_add_0 29 rfl rfl) (rdSeg sd_21_cX0_add_0 30 rfl rfl) rfl
theorem dX0_add_31 : decode cX0_add 31 = .ok (.aload_n 0, 1) := op_42 (rdSeg sd_21_cX0_add_0 31 rfl rfl)
theorem dX0_add_32 : decode cX0_add 32 = .ok (.iload_n 2, 1) := op_28 (rdSeg sd_21_cX0_add_1 0 rfl rfl)
theorem dX0_add_33 : decode cX0_add 33 = .ok (.iconst 0, 1) := op_3 (rdSeg sd_21_cX0_add_1 1 rfl rfl)
theorem dX0_add_34 : decode cX0_add 34 = .ok (.iload_n 1, 1) := op_27 (rdSeg sd_21_cX0_add_1 2 rfl rfl)
theorem dX0_add_35 : decode cX0_add 35 = .ok (.bipush 100, 2) := op_16 (rdSeg sd_21_cX0_add_1 3 rfl rfl) (rdSeg sd_21_cX0_add_1 4 rfl rfl) (by decide +kernel)
theorem dX0_add_37 : decode cX0_add 37 = .ok (.idiv, 1) := op_108 (rdSeg sd_21_cX0_add_1 5 rfl rfl)
theorem dX0_add_38 : decode cX0_add 38 = .ok (.invokevirtual 53, 3) := op_182 (rdSeg sd_21_cX0_add_1 6 rfl rfl) (rdSeg sd_21_cX0_add_1 7 rfl rfl) (rdSeg sd_21_cX0_add_1 8 rfl rfl) rfl
theorem dX0_add_41 : decode cX0_add 41 = .ok (.aload_n 0, 1) := op_42 (rdSeg sd_21_cX0_add_1 9 rfl rfl)
theorem dX0_add_42 : decode cX0_add 42 = .ok (.iload_n 2, 1) := op_28 (rdSeg sd_21_cX0_add_1 10 rfl rfl)
theorem dX0_add_43 : decode cX0_add 43 = .ok (.iconst 1, 1) := op_4 (rdSeg sd_21_cX0_add_1 11 rfl rfl)
theorem dX0_add_44 : decode cX0_add 44 = .ok (.iload_n 1, 1) := op_27 (rdSeg sd_21_cX0_add_1 12 rfl rfl)
theorem dX0_add_45 : decode cX0_add 45 = .ok (.bipush 100, 2) := op_16 (rdSeg sd_21_cX0_add_1 13 rfl rfl) (rdSeg sd_21_cX0_add_1 14 rfl rfl) (by decide +kernel)
theorem dX0_add_47 : decode cX0_add 47 = .ok (.irem, 1) := op_112 (rdSeg sd_21_cX0_add_1 15 rfl rfl)
theorem dX0_add_48 : decode cX0_add 48 = .ok (.invokevirtual 53, 3) := op_182 (rdSeg sd_21_cX0_add_1 16 rfl rfl) (rdSeg sd_21_cX0_add_1 17 rfl rfl) (rdSeg sd_21_cX0_add_1 18 rfl rfl) rfl
theorem dX0_add_51 : decode cX0_add 51 = .ok (.iload_n 2, 1) := op_28 (rdSeg sd_21_cX0_add_1 19 rfl rfl)
theorem dX0_add_52 : decode cX0_add 52 = .ok (.ireturn, 1) := op_172 (rdSeg sd_21_cX0_add_1 20 rfl rfl)
def sg_21_cX0_fill_0 : List UInt8 := [0x03, 0x3e, 0x1d, 0x10, 0x0a, 0xa2, 0x00, 0x10, 0x2a, 0x1b, 0x1d, 0x1c, 0xb6, 0x00, 0x35, 0x84, 0x03, 0x01, 0xa7, 0xff, 0xf0, 0xb1]
set_option maxRecDepth 100000 in
theorem sd_21_cX0_fill_0 : cX0_fill.data.toList.drop 0 = sg_21_cX0_fill_0 := by decide +kernel
theorem dX0_fill_0 : decode cX0_fill 0 = .ok (.iconst 0, 1) := op_3 (rdSeg sd_21_cX0_fill_0 0 rfl rfl)
theorem dX0_fill_1 : decode cX0_fill 1 = .ok (.istore_n 3, 1) := op_62 (rdSeg sd_21_cX0_fill_0 1 rfl rfl)
theorem dX0_fill_2 : decode cX0_fill 2 = .ok (.iload_n 3, 1) := op_29 (rdSeg sd_21_cX0_fill_0 2 rfl rfl)
theorem dX0_fill_3 : decode cX0_fill 3 = .ok (.bipush 10, 2) := op_16 (rdSeg sd_21_cX0_fill_0 3 rfl rfl) (rdSeg sd_21_cX0_fill_0 4 rfl rfl) (by decide +kernel)
theorem dX0_fill_5 : decode cX0_fill 5 = .ok (.if_icmp .ge 16, 3) := op_162 (rdSeg sd_21_cX0_fill_0 5 rfl rfl) (rdSeg sd_21_cX0_fill_0 6 rfl rfl) (rdSeg sd_21_cX0_fill_0 7 rfl rfl) (by decide +kernel)
theorem dX0_fill_8 : decode cX0_fill 8 = .ok (.aload_n 0, 1) := op_42 (rdSeg sd_21_cX0_fill_0 8 rfl rfl)
theorem dX0_fill_9 : decode cX0_fill 9 = .ok (.iload_n 1, 1) := op_27 (rdSeg sd_21_cX0_fill_0 9 rfl rfl)
theorem dX0_fill_10 : decode cX0_fill 10 = .ok (.iload_n 3, 1) := op_29 (rdSeg sd_21_cX0_fill_0 10 rfl rfl)
theorem dX0_fill_11 : decode cX0_fill 11 = .ok (.iload_n 2, 1) := op_28 (rdSeg sd_21_cX0_fill_0 11 rfl rfl)
theorem dX0_fill_12 : decode cX0_fill 12 = .ok (.invokevirtual 53, 3) := op_182 (rdSeg sd_21_cX0_fill_0 12 rfl rfl) (rdSeg sd_21_cX0_fill_0 13 rfl rfl) (rdSeg sd_21_cX0_fill_0 14 rfl rfl) rfl
theorem dX0_fill_15 : decode cX0_fill 15 = .ok (.iinc 3 1, 3) := op_132 (rdSeg sd_21_cX0_fill_0 15 rfl rfl) (rdSeg sd_21_cX0_fill_0 16 rfl rfl) (rdSeg sd_21_cX0_fill_0 17 rfl rfl) (by decide +kernel)
theorem dX0_fill_18 : decode cX0_fill 18 = .ok (.goto (-16), 3) := op_167 (rdSeg sd_21_cX0_fill_0 18 rfl rfl) (rdSeg sd_21_cX0_fill_0 19 rfl rfl) (rdSeg sd_21_cX0_fill_0 20 rfl rfl) (by decide +kernel)
theorem dX0_fill_21 : decode cX0_fill 21 = .ok (.return_, 1) := op_177 (rdSeg sd_21_cX0_fill_0 21 rfl rfl)
def sg_21_cX0_addFirst_1 : List UInt8 := [0xb6, 0x00, 0x35, 0x2a, 0x59, 0xb4, 0x00, 0x16, 0x04, 0x60, 0xb5, 0x00, 0x16, 0x1d, 0xac]
def sg_21_cX0_addFirst_0 : List UInt8 := 0x2a :: 0x1b :: 0xb6 :: 0x00 :: 0x39 :: 0x3e :: 0x2a :: 0x1d :: 0x05 :: 0x1c :: 0xb6 :: 0x00 :: 0x35 :: 0x2a :: 0xb4 :: 0x00 :: 0x16 :: 0x07 :: 0xa2 :: 0x00 :: 0x1b :: 0x2a :: 0x1d :: 0x10 :: 0x06 :: 0x2a :: 0xb4 :: 0x00 :: 0x16 :: 0x60 :: 0x12 :: 0x3d :: sg_21_cX0_addFirst_1
set_option maxRecDepth 100000 in
theorem sd_21_cX0_addFirst_0 : cX0_addFirst.data.toList.drop 0 = sg_21_cX0_addFirst_0 := by decide +kernel
theorem sd_21_cX0_addFirst_1 : cX0_addFirst.data.toList.drop 32 = sg_21_cX0_addFirst_1 := sg_next sd_21_cX0_addFirst_0 rfl
theorem dX0_addFirst_0 : decode cX0_addFirst 0 = .ok (.aload_n 0, 1) := op_42 (rdSeg sd_21_cX0_addFirst_0 0 rfl rfl)
theorem dX0_addFirst_1 : decode cX0_addFirst 1 = .ok (.iload_n 1, 1) := op_27 (rdSeg sd_21_cX0_addFirst_0 1 rfl rfl)
theorem dX0_addFirst_2 : decode cX0_addFirst 2 = .ok (.invokevirtual 57, 3) := op_182 (rdSeg sd_21_cX0_addFirst_0 2 rfl rfl) (rdSeg sd_21_cX0_addFirst_0 3 rfl rfl) (rdSeg sd_21_cX0_addFirst_0 4 rfl rfl) rfl
theorem dX0_addFirst_5 : decode cX0_addFirst 5 = .ok (.istore_n 3, 1) := op_62 (rdSeg sd_21_cX0_addFirst_0 5 rfl rfl)
theorem dX0_addFirst_6 : decode cX0_addFirst 6 = .ok (.aload_n 0, 1) := op_42 (rdSeg sd_21_cX0_addFirst_0 6 rfl rfl)
theorem dX0_addFirst_7 : decode cX0_addFirst 7 = .ok (.iload_n 3, 1) := op_29 (rdSeg sd_21_cX0_addFirst_0 7 rfl rfl)
theorem dX0_addFirst_8 : decode cX0_addFirst 8 = .ok (.iconst 2, 1) := op_5 (rdSeg sd_21_cX0_addFirst_0 8 rfl rfl)
theorem dX0_addFirst_9 : decode cX0_addFirst 9 = .ok (.iload_n 2, 1) := op_28 (rdSeg sd_21_cX0_addFirst_0 9 rfl rfl)
theorem dX0_addFirst_10 : decode cX0_addFirst 10 = .ok (.invokevirtual 53, 3) := op_182 (rdSeg sd_21_cX0_addFirst_0 10 rfl rfl) (rdSeg sd_21_cX0_addFirst_0 11 rfl rfl) (rdSeg sd_21_cX0_addFirst_0 12 rfl rfl) rfl
theorem dX0_addFirst_13 : decode cX0_addFirst 13 = .ok (.aload_n 0, 1) := op_42 (rdSeg sd_21_cX0_addFirst_0 13 rfl rfl)
theorem dX0_addFirst_14 : decode cX0_addFirst 14 = .ok (.getfield 22, 3) := op_180 (rdSeg sd_21_cX0_addFirst_0 14 rfl rfl) (rdSeg sd_21_cX0_addFirst_0 15 rfl rfl) (rdSeg sd_21_cX0_addFirst_0 16 rfl rfl) rfl
theorem dX0_addFirst_17 : decode cX0_addFirst 17 = .ok (.iconst 4, 1) := op_7 (rdSeg sd_21_cX0_addFirst_0 17 rfl rfl)
theorem dX0_addFirst_18 : decode cX0_addFirst 18 = .ok (.if_icmp .ge 27, 3) := op_162 (rdSeg sd_21_cX0_addFirst_0 18 rfl rfl) (rdSeg sd_21_cX0_addFirst_0 19 rfl rfl) (rdSeg sd_21_cX0_addFirst_0 20 rfl rfl) (by decide +kernel)
theorem dX0_addFirst_21 : decode cX0_addFirst 21 = .ok (.aload_n 0, 1) := op_42 (rdSeg sd_21_cX0_addFirst_0 21 rfl rfl)
theorem dX0_addFirst_22 : decode cX0_addFirst 22 = .ok (.iload_n 3, 1) := op_29 (rdSeg sd_21_cX0_addFirst_0 22 rfl rfl)
theorem dX0_addFirst_23 : decode cX0_addFirst 23 = .ok (.bipush 6, 2) := op_16 (rdSeg sd_21_cX0_addFirst_0 23 rfl rfl) (rdSeg sd_21_cX0_addFirst_0 24 rfl rfl) (by decide +kernel)
theorem dX0_addFirst_25 : decode cX0_addFirst 25 = .ok (.aload_n 0, 1) := op_42 (rdSeg sd_21_cX0_addFirst_0 25 rfl rfl)
theorem dX0_addFirst_26 : decode cX0_addFirst 26 = .ok (.getfield 22, 3) := op_180 (rdSeg sd_21_cX0_addFirst_0 26 rfl rfl) (rdSeg sd_21_cX0_addFirst_0 27 rfl rfl) (rdSeg sd_21_cX0_addFirst_0 28 rfl rfl) rfl
theorem dX0_addFirst_29 : decode cX0_addFirst 29 = .ok (.iadd, 1) := op_96 (rdSeg sd_21_cX0_addFirst_0 29 rfl rfl)
theorem dX0_addFirst_30 : decode cX0_addFirst 30 = .ok (.ldc 61, 2) := op_18 (rdSeg sd_21_cX0_addFirst_0 30 rfl rfl) (rdSeg sd_21_cX0_addFirst_0 31 rfl rfl)
theorem dX0_addFirst_32 : decode cX0_addFirst 32 = .ok (.invokevirtual 53, 3) := op_182 (rdSeg sd_21_cX0_addFirst_1 0 rfl rfl) (rdSeg sd_21_cX0_addFirst_1 1 rfl rfl) (rdSeg sd_21_cX0_addFirst_1 2 rfl rfl) rfl
theorem dX0_addFirst_35 : decode cX0_addFirst 35 = .ok (.aload_n 0, 1) := op_42 (rdSeg sd_21_cX0_addFirst_1 3 rfl rfl)
theorem dX0_addFirst_36 : decode cX0_addFirst 36 = .ok (.dup, 1) := op_89 (rdSeg sd_21_cX0_addFirst_1 4 rfl rfl)
theorem dX0_addFirst_37 : decode cX0_addFirst 37 = .ok (.getfield 22, 3) := op_180 (rdSeg sd_21_cX0_addFirst_1 5 rfl rfl) (rdSeg sd_21_cX0_addFirst_1 6 rfl rfl) (rdSeg sd_21_cX0_addFirst_1 7 rfl rfl) rfl
theorem dX0_addFirst_40 : decode cX0_addFirst 40 = .ok (.iconst 1, 1) := op_4 (rdSeg sd_21_cX0_addFirst_1 8 rfl rfl)
theorem dX0_addFirst_41 : decode cX0_addFirst 41 = .ok (.iadd, 1) := op_96 (rdSeg sd_21_cX0_addFirst_1 9 rfl rfl)
theorem dX0_addFirst_42 : decode cX0_addFirst 42 = .ok (.putfield 22, 3) := op_181 (rdSeg sd_21_cX0_addFirst_1 10 rfl rfl) (rdSeg sd_21_cX0_addFirst_1 11 rfl rfl) (rdSeg sd_21_cX0_addFirst_1 12 rfl rfl) rfl
theorem dX0_addFirst_45 : decode cX0_addFirst 45 = .ok (.iload_n 3, 1) := op_29 (rdSeg sd_21_cX0_addFirst_1 13 rfl rfl)
theorem dX0_addFirst_46 : decode cX0_addFirst 46 = .ok (.ireturn, 1) := op_172 (rdSeg sd_21_cX0_addFirst_1 14 rfl rfl)
def sg_21_cX0_pour_5 : List UInt8 := [0xb6, 0x00, 0x4c, 0xb1]
def sg_21_cX0_pour_4 : List UInt8 := 0x08 :: 0xb6 :: 0x00 :: 0x3e :: 0x60 :: 0x36 :: 0x08 :: 0x2a :: 0x1c :: 0x15 :: 0x07 :: 0x15 :: 0x06 :: 0x15 :: 0x08 :: 0xb8 :: 0x00 :: 0x47 :: 0xb6 :: 0x00 :: 0x35 :: 0x84 :: 0x07 :: 0x01 :: 0xa7 :: 0xff :: 0xd4 :: 0x2a :: 0x1b :: 0x1d :: 0x10 :: 0x08 :: sg_21_cX0_pour_5
def sg_21_cX0_pour_3 : List UInt8 := 0x06 :: 0x2a :: 0x1c :: 0x05 :: 0x15 :: 0x06 :: 0xb6 :: 0x00 :: 0x35 :: 0x06 :: 0x36 :: 0x07 :: 0x15 :: 0x07 :: 0x10 :: 0x06 :: 0xa2 :: 0x00 :: 0x2b :: 0x2a :: 0x1c :: 0x15 :: 0x07 :: 0xb6 :: 0x00 :: 0x24 :: 0x2a :: 0x1b :: 0x15 :: 0x07 :: 0x1d :: 0x10 :: sg_21_cX0_pour_4
def sg_21_cX0_pour_2 : List UInt8 := 0x16 :: 0x09 :: 0x61 :: 0x15 :: 0x04 :: 0x15 :: 0x05 :: 0x60 :: 0x85 :: 0xb8 :: 0x00 :: 0x42 :: 0xb6 :: 0x00 :: 0x35 :: 0x84 :: 0x06 :: 0x01 :: 0xa7 :: 0xff :: 0xc5 :: 0x12 :: 0x46 :: 0x15 :: 0x05 :: 0x15 :: 0x04 :: 0x60 :: 0xb8 :: 0x00 :: 0x47 :: 0x36 :: sg_21_cX0_pour_3
def sg_21_cX0_pour_1 : List UInt8 := 0x85 :: 0x2a :: 0x1b :: 0x15 :: 0x06 :: 0xb6 :: 0x00 :: 0x24 :: 0x85 :: 0x69 :: 0x37 :: 0x07 :: 0x15 :: 0x05 :: 0x85 :: 0x2a :: 0x1c :: 0x15 :: 0x06 :: 0xb6 :: 0x00 :: 0x24 :: 0x85 :: 0x69 :: 0x37 :: 0x09 :: 0x2a :: 0x1c :: 0x15 :: 0x06 :: 0x16 :: 0x07 :: sg_21_cX0_pour_2
def sg_21_cX0_pour_0 : List UInt8 := 0x2a :: 0x1b :: 0x05 :: 0x1d :: 0x10 :: 0x08 :: 0xb6 :: 0x00 :: 0x3e :: 0x36 :: 0x04 :: 0x2a :: 0x1c :: 0x05 :: 0xb6 :: 0x00 :: 0x24 :: 0x36 :: 0x05 :: 0x10 :: 0x06 :: 0x36 :: 0x06 :: 0x15 :: 0x06 :: 0x10 :: 0x0a :: 0xa2 :: 0x00 :: 0x3a :: 0x15 :: 0x04 :: sg_21_cX0_pour_1
set_option maxRecDepth 100000 in
theorem sd_21_cX0_pour_0 : cX0_pour.data.toList.drop 0 = sg_21_cX0_pour_0 := by decide +kernel
theorem sd_21_cX0_pour_1 : cX0_pour.data.toList.drop 32 = sg_21_cX0_pour_1 := sg_next sd_21_cX0_pour_0 rfl
theorem sd_21_cX0_pour_2 : cX0_pour.data.toList.drop 64 = sg_21_cX0_pour_2 := sg_next sd_21_cX0_pour_1 rfl
theorem sd_21_cX0_pour_3 : cX0_pour.data.toList.drop 96 = sg_21_cX0_pour_3 := sg_next sd_21_cX0_pour_2 rfl
theorem sd_21_cX0_pour_4 : cX0_pour.data.toList.drop 128 = sg_21_cX0_pour_4 := sg_next sd_21_cX0_pour_3 rfl
theorem sd_21_cX0_pour_5 : cX0_pour.data.toList.drop 160 = sg_21_cX0_pour_5 := sg_next sd_21_cX0_pour_4 rfl
theorem dX0_pour_0 : decode cX0_pour 0 = .ok (.aload_n 0, 1) := op_42 (rdSeg sd_21_cX0_pour_0 0 rfl rfl)
theorem dX0_pour_1 : decode cX0_pour 1 = .ok (.iload_n 1, 1) := op_27 (rdSeg sd_21_cX0_pour_0 1 rfl rfl)
theorem dX0_pour_2 : decode cX0_pour 2 = .ok (.iconst 2, 1) := op_5 (rdSeg sd_21_cX0_pour_0 2 rfl rfl)
theorem dX0_pour_3 : decode cX0_pour 3 = .ok (.iload_n 3, 1) := op_29 (rdSeg sd_21_cX0_pour_0 3 rfl rfl)
theorem dX0_pour_4 : decode cX0_pour 4 = .ok (.bipush 8, 2) := op_16 (rdSeg sd_21_cX0_pour_0 4 rfl rfl) (rdSeg sd_21_cX0_pour_0 5 rfl rfl) (by decide +kernel)
theorem dX0_pour_6 : decode cX0_pour 6 = .ok (.invokevirtual 62, 3) := op_182 (rdSeg sd_21_cX0_pour_0 6 rfl rfl) (rdSeg sd_21_cX0_pour_0 7 rfl rfl) (rdSeg sd_21_cX0_pour_0 8 rfl rfl) rfl
theorem dX0_pour_9 : decode cX0_pour 9 = .ok (.istore 4, 2) := op_54 (rdSeg sd_21_cX0_pour_0 9 rfl rfl) (rdSeg sd_21_cX0_pour_0 10 rfl rfl)
theorem dX0_pour_11 : decode cX0_pour 11 = .ok (.aload_n 0, 1) := op_42 (rdSeg sd_21_cX0_pour_0 11 rfl rfl)
theorem dX0_pour_12 : decode cX0_pour 12 = .ok (.iload_n 2, 1) := op_28 (rdSeg sd_21_cX0_pour_0 12 rfl rfl)
theorem dX0_pour_13 : decode cX0_pour 13 = .ok (.iconst 2, 1) := op_5 (rdSeg sd_21_cX0_pour_0 13 rfl rfl)
theorem dX0_pour_14 : decode cX0_pour 14 = .ok (.invokevirtual 36, 3) := op_182 (rdSeg sd_21_cX0_pour_0 14 rfl rfl) (rdSeg sd_21_cX0_pour_0 15 rfl rfl) (rdSeg sd_21_cX0_pour_0 16 rfl rfl) rfl
theorem dX0_pour_17 : decode cX0_pour 17 = .ok (.istore 5, 2) := op_54 (rdSeg sd_21_cX0_pour_0 17 rfl rfl) (rdSeg sd_21_cX0_pour_0 18 rfl rfl)
theorem dX0_pour_19 : decode cX0_pour 19 = .ok (.bipush 6, 2) := op_16 (rdSeg sd_21_cX0_pour_0 19 rfl rfl) (rdSeg sd_21_cX0_pour_0 20 rfl rfl) (by decide +kernel)
theorem dX0_pour_21 : decode cX0_pour 21 = .ok (.istore 6, 2) := op_54 (rdSeg sd_21_cX0_pour_0 21 rfl rfl) (rdSeg sd_21_cX0_pour_0 22 rfl rfl)
theorem dX0_pour_23 : decode cX0_pour 23 = .ok (.iload 6, 2) := op_21 (rdSeg sd_21_cX0_pour_0 23 rfl rfl) (rdSeg sd_21_cX0_pour_0 24 rfl rfl)
theorem dX0_pour_25 : decode cX0_pour 25 = .ok (.bipush 10, 2) := op_16 (rdSeg sd_21_cX0_pour_0 25 rfl rfl) (rdSeg sd_21_cX0_pour_0 26 rfl rfl) (by decide +kernel)
theorem dX0_pour_27 : decode cX0_pour 27 = .ok (.if_icmp .ge 58, 3) := op_162 (rdSeg sd_21_cX0_pour_0 27 rfl rfl) (rdSeg sd_21_cX0_pour_0 28 rfl rfl) (rdSeg sd_21_cX0_pour_0 29 rfl rfl) (by decide +kernel)
theorem dX0_pour_30 : decode cX0_pour 30 = .ok (.iload 4, 2) := op_21 (rdSeg sd_21_cX0_pour_0 30 rfl rfl) (rdSeg sd_21_cX0_pour_0 31 rfl rfl)
theorem dX0_pour_32 : decode cX0_pour 32 = .ok (.i2l, 1) := op_133 (rdSeg sd_21_cX0_pour_1 0 rfl rfl)
theorem dX0_pour_33 : decode cX0_pour 33 = .ok (.aload_n 0, 1) := op_42 (rdSeg sd_21_cX0_pour_1 1 rfl rfl)
theorem dX0_pour_34 : decode cX0_pour 34 = .ok (.iload_n 1, 1) := op_27 (rdSeg sd_21_cX0_pour_1 2 rfl rfl)
theorem dX0_pour_35 : decode cX0_pour 35 = .ok (.iload 6, 2) := op_21 (rdSeg sd_21_cX0_pour_1 3 rfl rfl) (rdSeg sd_21_cX0_pour_1 4 rfl rfl)
theorem dX0_pour_37 : decode cX0_pour 37 = .ok (.invokevirtual 36, 3) := op_182 (rdSeg sd_21_cX0_pour_1 5 rfl rfl) (rdSeg sd_21_cX0_pour_1 6 rfl rfl) (rdSeg sd_21_cX0_pour_1 7 rfl rfl) rfl
theorem dX0_pour_40 : decode cX0_pour 40 = .ok (.i2l, 1) := op_133 (rdSeg sd_21_cX0_pour_1 8 rfl rfl)
theorem dX0_pour_41 : decode cX0_pour 41 = .ok (.lmul, 1) := op_105 (rdSeg sd_21_cX0_pour_1 9 rfl rfl)
theorem dX0_pour_42 : decode cX0_pour 42 = .ok (.lstore 7, 2) := op_55 (rdSeg sd_21_cX0_pour_1 10 rfl rfl) (rdSeg sd_21_cX0_pour_1 11 rfl rfl)
theorem dX0_pour_44 : decode cX0_pour 44 = .ok (.iload 5, 2) := op_21 (rdSeg sd_21_cX0_pour_1 12 rfl rfl) (rdSeg sd_21_cX0_pour_1 13 rfl rfl)
theorem dX0_pour_46 : decode cX0_pour 46 = .ok (.i2l, 1) := op_133 (rdSeg sd_21_cX0_pour_1 14 rfl rfl)
theorem dX0_pour_47 : decode cX0_pour 47 = .ok (.aload_n 0, 1) := op_42 (rdSeg sd_21_cX0_pour_1 15 rfl rfl)
theorem dX0_pour_48 : decode cX0_pour 48 = .ok (.iload_n 2, 1) := op_28 (rdSeg sd_21_cX0_pour_1 16 rfl rfl)
theorem dX0_pour_49 : decode cX0_pour 49 = .ok (.iload 6, 2) := op_21 (rdSeg sd_21_cX0_pour_1 17 rfl rfl) (rdSeg sd_21_cX0_pour_1 18 rfl rfl)
theorem dX0_pour_51 : decode cX0_pour 51 = .ok (.invokevirtual 36, 3) := op_182 (rdSeg sd_21_cX0_pour_1 19 rfl rfl) (rdSeg sd_21_cX0_pour_1 20 rfl rfl) (rdSeg sd_21_cX0_pour_1 21 rfl rfl) rfl
theorem dX0_pour_54 : decode cX0_pour 54 = .ok (.i2l, 1) := op_133 (rdSeg sd_21_cX0_pour_1 22 rfl rfl)
theorem dX0_pour_55 : decode cX0_pour 55 = .ok (.lmul, 1) := op_105 (rdSeg sd_21_cX0_pour_1 23 rfl rfl)
theorem dX0_pour_56 : decode cX0_pour 56 = .ok (.lstore 9, 2) := op_55 (rdSeg sd_21_cX0_pour_1 24 rfl rfl) (rdSeg sd_21_cX0_pour_1 25 rfl rfl)
theorem dX0_pour_58 : decode cX0_pour 58 = .ok (.aload_n 0, 1) := op_42 (rdSeg sd_21_cX0_pour_1 26 rfl rfl)
theorem dX0_pour_59 : decode cX0_pour 59 = .ok (.iload_n 2, 1) := op_28 (rdSeg sd_21_cX0_pour_1 27 rfl rfl)
theorem dX0_pour_60 : decode cX0_pour 60 = .ok (.iload 6, 2) := op_21 (rdSeg sd_21_cX0_pour_1 28 rfl rfl) (rdSeg sd_21_cX0_pour_1 29 rfl rfl)
theorem dX0_pour_62 : decode cX0_pour 62 = .ok (.lload 7, 2) := op_22 (rdSeg sd_21_cX0_pour_1 30 rfl rfl) (rdSeg sd_21_cX0_pour_1 31 rfl rfl)
theorem dX0_pour_64 : decode cX0_pour 64 = .ok (.lload 9, 2) := op_22 (rdSeg sd_21_cX0_pour_2 0 rfl rfl) (rdSeg sd_21_cX0_pour_2 1 rfl rfl)
theorem dX0_pour_66 : decode cX0_pour 66 = .ok (.ladd, 1) := op_97 (rdSeg sd_21_cX0_pour_2 2 rfl rfl)
theorem dX0_pour_67 : decode cX0_pour 67 = .ok (.iload 4, 2) := op_21 (rdSeg sd_21_cX0_pour_2 3 rfl rfl) (rdSeg sd_21_cX0_pour_2 4 rfl rfl)
theorem dX0_pour_69 : decode cX0_pour 69 = .ok (.iload 5, 2) := op_21 (rdSeg sd_21_cX0_pour_2 5 rfl rfl) (rdSeg sd_21_cX0_pour_2 6 rfl rfl)
theorem dX0_pour_71 : decode cX0_pour 71 = .ok (.iadd, 1) := op_96 (rdSeg sd_21_cX0_pour_2 7 rfl rfl)
theorem dX0_pour_72 : decode cX0_pour 72 = .ok (.i2l, 1) := op_133 (rdSeg sd_21_cX0_pour_2 8 rfl rfl)
theorem dX0_pour_73 : decode cX0_pour 73 = .ok (.invokestatic 66, 3) := op_184 (rdSeg sd_21_cX0_pour_2 9 rfl rfl) (rdSeg sd_21_cX0_pour_2 10 rfl rfl) (rdSeg sd_21_cX0_pour_2 11 rfl rfl) rfl
theorem dX0_pour_76 : decode cX0_pour 76 = .ok (.invokevirtual 53, 3) := op_182 (rdSeg sd_21_cX0_pour_2 12 rfl rfl) (rdSeg sd_21_cX0_pour_2 13 rfl rfl) (rdSeg sd_21_cX0_pour_2 14 rfl rfl) rfl
theorem dX0_pour_79 : decode cX0_pour 79 = .ok (.iinc 6 1, 3) := op_132 (rdSeg sd_21_cX0_pour_2 15 rfl rfl) (rdSeg sd_21_cX0_pour_2 16 rfl rfl) (rdSeg sd_21_cX0_pour_2 17 rfl rfl) (by decide +kernel)
theorem dX0_pour_82 : decode cX0_pour 82 = .ok (.goto (-59), 3) := op_167 (rdSeg sd_21_cX0_pour_2 18 rfl rfl) (rdSeg sd_21_cX0_pour_2 19 rfl rfl) (rdSeg sd_21_cX0_pour_2 20 rfl rfl) (by decide +kernel)
theorem dX0_pour_85 : decode cX0_pour 85 = .ok (.ldc 70, 2) := op_18 (rdSeg sd_21_cX0_pour_2 21 rfl rfl) (rdSeg sd_21_cX0_pour_2 22 rfl rfl)
theorem dX0_pour_87 : decode cX0_pour 87 = .ok (.iload 5, 2) := op_21 (rdSeg sd_21_cX0_pour_2 23 rfl rfl) (rdSeg sd_21_cX0_pour_2 24 rfl rfl)
theorem dX0_pour_89 : decode cX0_pour 89 = .ok (.iload 4, 2) := op_21 (rdSeg sd_21_cX0_pour_2 25 rfl rfl) (rdSeg sd_21_cX0_pour_2 26 rfl rfl)
theorem dX0_pour_91 : decode cX0_pour 91 = .ok (.iadd, 1) := op_96 (rdSeg sd_21_cX0_pour_2 27 rfl rfl)
theorem dX0_pour_92 : decode cX0_pour 92 = .ok (.invokestatic 71, 3) := op_184 (rdSeg sd_21_cX0_pour_2 28 rfl rfl) (rdSeg sd_21_cX0_pour_2 29 rfl rfl) (rdSeg sd_21_cX0_pour_2 30 rfl rfl) rfl
theorem dX0_pour_95 : decode cX0_pour 95 = .ok (.istore 6, 2) := op_54 (rdSeg sd_21_cX0_pour_2 31 rfl rfl) (rdSeg sd_21_cX0_pour_3 0 rfl rfl)
theorem dX0_pour_97 : decode cX0_pour 97 = .ok (.aload_n 0, 1) := op_42 (rdSeg sd_21_cX0_pour_3 1 rfl rfl)
theorem dX0_pour_98 : decode cX0_pour 98 = .ok (.iload_n 2, 1) := op_28 (rdSeg sd_21_cX0_pour_3 2 rfl rfl)
theorem dX0_pour_99 : decode cX0_pour 99 = .ok (.iconst 2, 1) := op_5 (rdSeg sd_21_cX0_pour_3 3 rfl rfl)
theorem dX0_pour_100 : decode cX0_pour 100 = .ok (.iload 6, 2) := op_21 (rdSeg sd_21_cX0_pour_3 4 rfl rfl) (rdSeg sd_21_cX0_pour_3 5 rfl rfl)
theorem dX0_pour_102 : decode cX0_pour 102 = .ok (.invokevirtual 53, 3) := op_182 (rdSeg sd_21_cX0_pour_3 6 rfl rfl) (rdSeg sd_21_cX0_pour_3 7 rfl rfl) (rdSeg sd_21_cX0_pour_3 8 rfl rfl) rfl
theorem dX0_pour_105 : decode cX0_pour 105 = .ok (.iconst 3, 1) := op_6 (rdSeg sd_21_cX0_pour_3 9 rfl rfl)
theorem dX0_pour_106 : decode cX0_pour 106 = .ok (.istore 7, 2) := op_54 (rdSeg sd_21_cX0_pour_3 10 rfl rfl) (rdSeg sd_21_cX0_pour_3 11 rfl rfl)
theorem dX0_pour_108 : decode cX0_pour 108 = .ok (.iload 7, 2) := op_21 (rdSeg sd_21_cX0_pour_3 12 rfl rfl) (rdSeg sd_21_cX0_pour_3 13 rfl rfl)
theorem dX0_pour_110 : decode cX0_pour 110 = .ok (.bipush 6, 2) := op_16 (rdSeg sd_21_cX0_pour_3 14 rfl rfl) (rdSeg sd_21_cX0_pour_3 15 rfl rfl) (by decide +kernel)
theorem dX0_pour_112 : decode cX0_pour 112 = .ok (.if_icmp .ge 43, 3) := op_162 (rdSeg sd_21_cX0_pour_3 16 rfl rfl) (rdSeg sd_21_cX0_pour_3 17 rfl rfl) (rdSeg sd_21_cX0_pour_3 18 rfl rfl) (by decide +kernel)
theorem dX0_pour_115 : decode cX0_pour 115 = .ok (.aload_n 0, 1) := op_42 (rdSeg sd_21_cX0_pour_3 19 rfl rfl)
theorem dX0_pour_116 : decode cX0_pour 116 = .ok (.iload_n 2, 1) := op_28 (rdSeg sd_21_cX0_pour_3 20 rfl rfl)
theorem dX0_pour_117 : decode cX0_pour 117 = .ok (.iload 7, 2) := op_21 (rdSeg sd_21_cX0_pour_3 21 rfl rfl) (rdSeg sd_21_cX0_pour_3 22 rfl rfl)
theorem dX0_pour_119 : decode cX0_pour 119 = .ok (.invokevirtual 36, 3) := op_182 (rdSeg sd_21_cX0_pour_3 23 rfl rfl) (rdSeg sd_21_cX0_pour_3 24 rfl rfl) (rdSeg sd_21_cX0_pour_3 25 rfl rfl) rfl
theorem dX0_pour_122 : decode cX0_pour 122 = .ok (.aload_n 0, 1) := op_42 (rdSeg sd_21_cX0_pour_3 26 rfl rfl)
theorem dX0_pour_123 : decode cX0_pour 123 = .ok (.iload_n 1, 1) := op_27 (rdSeg sd_21_cX0_pour_3 27 rfl rfl)
theorem dX0_pour_124 : decode cX0_pour 124 = .ok (.iload 7, 2) := op_21 (rdSeg sd_21_cX0_pour_3 28 rfl rfl) (rdSeg sd_21_cX0_pour_3 29 rfl rfl)
theorem dX0_pour_126 : decode cX0_pour 126 = .ok (.iload_n 3, 1) := op_29 (rdSeg sd_21_cX0_pour_3 30 rfl rfl)
theorem dX0_pour_127 : decode cX0_pour 127 = .ok (.bipush 8, 2) := op_16 (rdSeg sd_21_cX0_pour_3 31 rfl rfl) (rdSeg sd_21_cX0_pour_4 0 rfl rfl) (by decide +kernel)
theorem dX0_pour_129 : decode cX0_pour 129 = .ok (.invokevirtual 62, 3) := op_182 (rdSeg sd_21_cX0_pour_4 1 rfl rfl) (rdSeg sd_21_cX0_pour_4 2 rfl rfl) (rdSeg sd_21_cX0_pour_4 3 rfl rfl) rfl
theorem dX0_pour_132 : decode cX0_pour 132 = .ok (.iadd, 1) := op_96 (rdSeg sd_21_cX0_pour_4 4 rfl rfl)
theorem dX0_pour_133 : decode cX0_pour 133 = .ok (.istore 8, 2) := op_54 (rdSeg sd_21_cX0_pour_4 5 rfl rfl) (rdSeg sd_21_cX0_pour_4 6 rfl rfl)
theorem dX0_pour_135 : decode cX0_pour 135 = .ok (.aload_n 0, 1) := op_42 (rdSeg sd_21_cX0_pour_4 7 rfl rfl)
theorem dX0_pour_136 : decode cX0_pour 136 = .ok (.iload_n 2, 1) := op_28 (rdSeg sd_21_cX0_pour_4 8 rfl rfl)
theorem dX0_pour_137 : decode cX0_pour 137 = .ok (.iload 7, 2) := op_21 (rdSeg sd_21_cX0_pour_4 9 rfl rfl) (rdSeg sd_21_cX0_pour_4 10 rfl rfl)
theorem dX0_pour_139 : decode cX0_pour 139 = .ok (.iload 6, 2) := op_21 (rdSeg sd_21_cX0_pour_4 11 rfl rfl) (rdSeg sd_21_cX0_pour_4 12 rfl rfl)
theorem dX0_pour_141 : decode cX0_pour 141 = .ok (.iload 8, 2) := op_21 (rdSeg sd_21_cX0_pour_4 13 rfl rfl) (rdSeg sd_21_cX0_pour_4 14 rfl rfl)
theorem dX0_pour_143 : decode cX0_pour 143 = .ok (.invokestatic 71, 3) := op_184 (rdSeg sd_21_cX0_pour_4 15 rfl rfl) (rdSeg sd_21_cX0_pour_4 16 rfl rfl) (rdSeg sd_21_cX0_pour_4 17 rfl rfl) rfl
theorem dX0_pour_146 : decode cX0_pour 146 = .ok (.invokevirtual 53, 3) := op_182 (rdSeg sd_21_cX0_pour_4 18 rfl rfl) (rdSeg sd_21_cX0_pour_4 19 rfl rfl) (rdSeg sd_21_cX0_pour_4 20 rfl rfl) rfl
theorem dX0_pour_149 : decode cX0_pour 149 = .ok (.iinc 7 1, 3) := op_132 (rdSeg sd_21_cX0_pour_4 21 rfl rfl) (rdSeg sd_21_cX0_pour_4 22 rfl rfl) (rdSeg sd_21_cX0_pour_4 23 rfl rfl) (by decide +kernel)
theorem dX0_pour_152 : decode cX0_pour 152 = .ok (.goto (-44), 3) := op_167 (rdSeg sd_21_cX0_pour_4 24 rfl rfl) (rdSeg sd_21_cX0_pour_4 25 rfl rfl) (rdSeg sd_21_cX0_pour_4 26 rfl rfl) (by decide +kernel)
theorem dX0_pour_155 : decode cX0_pour 155 = .ok (.aload_n 0, 1) := op_42 (rdSeg sd_21_cX0_pour_4 27 rfl rfl)
theorem dX0_pour_156 : decode cX0_pour 156 = .ok (.iload_n 1, 1) := op_27 (rdSeg sd_21_cX0_pour_4 28 rfl rfl)
theorem dX0_pour_157 : decode cX0_pour 157 = .ok (.iload_n 3, 1) := op_29 (rdSeg sd_21_cX0_pour_4 29 rfl rfl)
theorem dX0_pour_158 : decode cX0_pour 158 = .ok (.bipush 8, 2) := op_16 (rdSeg sd_21_cX0_pour_4 30 rfl rfl) (rdSeg sd_21_cX0_pour_4 31 rfl rfl) (by decide +kernel)
theorem dX0_pour_160 : decode cX0_pour 160 = .ok (.invokevirtual 76, 3) := op_182 (rdSeg sd_21_cX0_pour_5 0 rfl rfl) (rdSeg sd_21_cX0_pour_5 1 rfl rfl) (rdSeg sd_21_cX0_pour_5 2 rfl rfl) rfl
theorem dX0_pour_163 : decode cX0_pour 163 = .ok (.return_, 1) := op_177 (rdSeg sd_21_cX0_pour_5 3 rfl rfl)
def sg_21_cX0_partOf_0 : List UInt8 := [0x2a, 0x1b, 0x1c, 0xb6, 0x00, 0x24, 0x85, 0x1d, 0x85, 0x69, 0x15, 0x04, 0x85, 0xb8, 0x00, 0x42, 0xac]
set_option maxRecDepth 100000 in
theorem sd_21_cX0_partOf_0 : cX0_partOf.data.toList.drop 0 = sg_21_cX0_partOf_0 := by decide +kernel
theorem dX0_partOf_0 : decode cX0_partOf 0 = .ok (.aload_n 0, 1) := op_42 (rdSeg sd_21_cX0_partOf_0 0 rfl rfl)
theorem dX0_partOf_1 : decode cX0_partOf 1 = .ok (.iload_n 1, 1) := op_27 (rdSeg sd_21_cX0_partOf_0 1 rfl rfl)
theorem dX0_partOf_2 : decode cX0_partOf 2 = .ok (.iload_n 2, 1) := op_28 (rdSeg sd_21_cX0_partOf_0 2 rfl rfl)
theorem dX0_partOf_3 : decode cX0_partOf 3 = .ok (.invokevirtual 36, 3) := op_182 (rdSeg sd_21_cX0_partOf_0 3 rfl rfl) (rdSeg sd_21_cX0_partOf_0 4 rfl rfl) (rdSeg sd_21_cX0_partOf_0 5 rfl rfl) rfl
theorem dX0_partOf_6 : decode cX0_partOf 6 = .ok (.i2l, 1) := op_133 (rdSeg sd_21_cX0_partOf_0 6 rfl rfl)
theorem dX0_partOf_7 : decode cX0_partOf 7 = .ok (.iload_n 3, 1) := op_29 (rdSeg sd_21_cX0_partOf_0 7 rfl rfl)
theorem dX0_partOf_8 : decode cX0_partOf 8 = .ok (.i2l, 1) := op_133 (rdSeg sd_21_cX0_partOf_0 8 rfl rfl)
theorem dX0_partOf_9 : decode cX0_partOf 9 = .ok (.lmul, 1) := op_105 (rdSeg sd_21_cX0_partOf_0 9 rfl rfl)
theorem dX0_partOf_10 : decode cX0_partOf 10 = .ok (.iload 4, 2) := op_21 (rdSeg sd_21_cX0_partOf_0 10 rfl rfl) (rdSeg sd_21_cX0_partOf_0 11 rfl rfl)
theorem dX0_partOf_12 : decode cX0_partOf 12 = .ok (.i2l, 1) := op_133 (rdSeg sd_21_cX0_partOf_0 12 rfl rfl)
theorem dX0_partOf_13 : decode cX0_partOf 13 = .ok (.invokestatic 66, 3) := op_184 (rdSeg sd_21_cX0_partOf_0 13 rfl rfl) (rdSeg sd_21_cX0_partOf_0 14 rfl rfl) (rdSeg sd_21_cX0_partOf_0 15 rfl rfl) rfl
theorem dX0_partOf_16 : decode cX0_partOf 16 = .ok (.ireturn, 1) := op_172 (rdSeg sd_21_cX0_partOf_0 16 rfl rfl)
def sg_21_cX0_lose_1 : List UInt8 := [0x00, 0x35, 0x84, 0x04, 0x01, 0xa7, 0xff, 0xde, 0xb1]
def sg_21_cX0_lose_0 : List UInt8 := 0x05 :: 0x36 :: 0x04 :: 0x15 :: 0x04 :: 0x10 :: 0x06 :: 0xa2 :: 0x00 :: 0x21 :: 0x2a :: 0x1b :: 0x15 :: 0x04 :: 0x2a :: 0x1b :: 0x15 :: 0x04 :: 0xb6 :: 0x00 :: 0x24 :: 0x2a :: 0x1b :: 0x15 :: 0x04 :: 0x1c :: 0x1d :: 0xb6 :: 0x00 :: 0x3e :: 0x64 :: 0xb6 :: sg_21_cX0_lose_1
set_option maxRecDepth 100000 in
theorem sd_21_cX0_lose_0 : cX0_lose.data.toList.drop 0 = sg_21_cX0_lose_0 := by decide +kernel
theorem sd_21_cX0_lose_1 : cX0_lose.data.toList.drop 32 = sg_21_cX0_lose_1 := sg_next sd_21_cX0_lose_0 rfl
theorem dX0_lose_0 : decode cX0_lose 0 = .ok (.iconst 2, 1) := op_5 (rdSeg sd_21_cX0_lose_0 0 rfl rfl)
theorem dX0_lose_1 : decode cX0_lose 1 = .ok (.istore 4, 2) := op_54 (rdSeg sd_21_cX0_lose_0 1 rfl rfl) (rdSeg sd_21_cX0_lose_0 2 rfl rfl)
theorem dX0_lose_3 : decode cX0_lose 3 = .ok (.iload 4, 2) := op_21 (rdSeg sd_21_cX0_lose_0 3 rfl rfl) (rdSeg sd_21_cX0_lose_0 4 rfl rfl)
theorem dX0_lose_5 : decode cX0_lose 5 = .ok (.bipush 6, 2) := op_16 (rdSeg sd_21_cX0_lose_0 5 rfl rfl) (rdSeg sd_21_cX0_lose_0 6 rfl rfl) (by decide +kernel)
theorem dX0_lose_7 : decode cX0_lose 7 = .ok (.if_icmp .ge 33, 3) := op_162 (rdSeg sd_21_cX0_lose_0 7 rfl rfl) (rdSeg sd_21_cX0_lose_0 8 rfl rfl) (rdSeg sd_21_cX0_lose_0 9 rfl rfl) (by decide +kernel)
theorem dX0_lose_10 : decode cX0_lose 10 = .ok (.aload_n 0, 1) := op_42 (rdSeg sd_21_cX0_lose_0 10 rfl rfl)
theorem dX0_lose_11 : decode cX0_lose 11 = .ok (.iload_n 1, 1) := op_27 (rdSeg sd_21_cX0_lose_0 11 rfl rfl)
theorem dX0_lose_12 : decode cX0_lose 12 = .ok (.iload 4, 2) := op_21 (rdSeg sd_21_cX0_lose_0 12 rfl rfl) (rdSeg sd_21_cX0_lose_0 13 rfl rfl)
theorem dX0_lose_14 : decode cX0_lose 14 = .ok (.aload_n 0, 1) := op_42 (rdSeg sd_21_cX0_lose_0 14 rfl rfl)
theorem dX0_lose_15 : decode cX0_lose 15 = .ok (.iload_n 1, 1) := op_27 (rdSeg sd_21_cX0_lose_0 15 rfl rfl)
theorem dX0_lose_16 : decode cX0_lose 16 = .ok (.iload 4, 2) := op_21 (rdSeg sd_21_cX0_lose_0 16 rfl rfl) (rdSeg sd_21_cX0_lose_0 17 rfl rfl)
theorem dX0_lose_18 : decode cX0_lose 18 = .ok (.invokevirtual 36, 3) := op_182 (rdSeg sd_21_cX0_lose_0 18 rfl rfl) (rdSeg sd_21_cX0_lose_0 19 rfl rfl) (rdSeg sd_21_cX0_lose_0 20 rfl rfl) rfl
theorem dX0_lose_21 : decode cX0_lose 21 = .ok (.aload_n 0, 1) := op_42 (rdSeg sd_21_cX0_lose_0 21 rfl rfl)
theorem dX0_lose_22 : decode cX0_lose 22 = .ok (.iload_n 1, 1) := op_27 (rdSeg sd_21_cX0_lose_0 22 rfl rfl)
theorem dX0_lose_23 : decode cX0_lose 23 = .ok (.iload 4, 2) := op_21 (rdSeg sd_21_cX0_lose_0 23 rfl rfl) (rdSeg sd_21_cX0_lose_0 24 rfl rfl)
theorem dX0_lose_25 : decode cX0_lose 25 = .ok (.iload_n 2, 1) := op_28 (rdSeg sd_21_cX0_lose_0 25 rfl rfl)
theorem dX0_lose_26 : decode cX0_lose 26 = .ok (.iload_n 3, 1) := op_29 (rdSeg sd_21_cX0_lose_0 26 rfl rfl)
theorem dX0_lose_27 : decode cX0_lose 27 = .ok (.invokevirtual 62, 3) := op_182 (rdSeg sd_21_cX0_lose_0 27 rfl rfl) (rdSeg sd_21_cX0_lose_0 28 rfl rfl) (rdSeg sd_21_cX0_lose_0 29 rfl rfl) rfl
theorem dX0_lose_30 : decode cX0_lose 30 = .ok (.isub, 1) := op_100 (rdSeg sd_21_cX0_lose_0 30 rfl rfl)
theorem dX0_lose_31 : decode cX0_lose 31 = .ok (.invokevirtual 53, 3) := op_182 (rdSeg sd_21_cX0_lose_0 31 rfl rfl) (rdSeg sd_21_cX0_lose_1 0 rfl rfl) (rdSeg sd_21_cX0_lose_1 1 rfl rfl) rfl
theorem dX0_lose_34 : decode cX0_lose 34 = .ok (.iinc 4 1, 3) := op_132 (rdSeg sd_21_cX0_lose_1 2 rfl rfl) (rdSeg sd_21_cX0_lose_1 3 rfl rfl) (rdSeg sd_21_cX0_lose_1 4 rfl rfl) (by decide +kernel)
theorem dX0_lose_37 : decode cX0_lose 37 = .ok (.goto (-34), 3) := op_167 (rdSeg sd_21_cX0_lose_1 5 rfl rfl) (rdSeg sd_21_cX0_lose_1 6 rfl rfl) (rdSeg sd_21_cX0_lose_1 7 rfl rfl) (by decide +kernel)
theorem dX0_lose_40 : decode cX0_lose 40 = .ok (.return_, 1) := op_177 (rdSeg sd_21_cX0_lose_1 8 rfl rfl)
def sg_21_cX0_addTin_2 : List UInt8 := [0x85, 0x1c, 0x85, 0x69, 0x37, 0x05, 0x2a, 0x10, 0x0c, 0x15, 0x04, 0x16, 0x05, 0x1d, 0x85, 0xb8, 0x00, 0x42, 0xb6, 0x00, 0x35, 0x84, 0x04, 0x01, 0xa7, 0xff, 0xd9, 0xb1]
def sg_21_cX0_addTin_1 : List UInt8 := 0x0c :: 0x06 :: 0xb6 :: 0x00 :: 0x24 :: 0x1b :: 0x60 :: 0xb8 :: 0x00 :: 0x47 :: 0xb6 :: 0x00 :: 0x35 :: 0x10 :: 0x06 :: 0x36 :: 0x04 :: 0x15 :: 0x04 :: 0x10 :: 0x0a :: 0xa2 :: 0x00 :: 0x26 :: 0x2a :: 0x10 :: 0x0c :: 0x15 :: 0x04 :: 0xb6 :: 0x00 :: 0x24 :: sg_21_cX0_addTin_2
def sg_21_cX0_addTin_0 : List UInt8 := 0x2a :: 0x10 :: 0x0c :: 0x05 :: 0xb6 :: 0x00 :: 0x24 :: 0x3d :: 0x12 :: 0x46 :: 0x1c :: 0x1b :: 0x60 :: 0xb8 :: 0x00 :: 0x47 :: 0x3e :: 0x2a :: 0x10 :: 0x0c :: 0x05 :: 0x1d :: 0xb6 :: 0x00 :: 0x35 :: 0x2a :: 0x10 :: 0x0c :: 0x06 :: 0x1d :: 0x2a :: 0x10 :: sg_21_cX0_addTin_1
set_option maxRecDepth 100000 in
theorem sd_21_cX0_addTin_0 : cX0_addTin.data.toList.drop 0 = sg_21_cX0_addTin_0 := by decide +kernel
theorem sd_21_cX0_addTin_1 : cX0_addTin.data.toList.drop 32 = sg_21_cX0_addTin_1 := sg_next sd_21_cX0_addTin_0 rfl
theorem sd_21_cX0_addTin_2 : cX0_addTin.data.toList.drop 64 = sg_21_cX0_addTin_2 := sg_next sd_21_cX0_addTin_1 rfl
theorem dX0_addTin_0 : decode cX0_addTin 0 = .ok (.aload_n 0, 1) := op_42 (rdSeg sd_21_cX0_addTin_0 0 rfl rfl)
theorem dX0_addTin_1 : decode cX0_addTin 1 = .ok (.bipush 12, 2) := op_16 (rdSeg sd_21_cX0_addTin_0 1 rfl rfl) (rdSeg sd_21_cX0_addTin_0 2 rfl rfl) (by decide +kernel)
theorem dX0_addTin_3 : decode cX0_addTin 3 = .ok (.iconst 2, 1) := op_5 (rdSeg sd_21_cX0_addTin_0 3 rfl rfl)
theorem dX0_addTin_4 : decode cX0_addTin 4 = .ok (.invokevirtual 36, 3) := op_182 (rdSeg sd_21_cX0_addTin_0 4 rfl rfl) (rdSeg sd_21_cX0_addTin_0 5 rfl rfl) (rdSeg sd_21_cX0_addTin_0 6 rfl rfl) rfl
theorem dX0_addTin_7 : decode cX0_addTin 7 = .ok (.istore_n 2, 1) := op_61 (rdSeg sd_21_cX0_addTin_0 7 rfl rfl)
theorem dX0_addTin_8 : decode cX0_addTin 8 = .ok (.ldc 70, 2) := op_18 (rdSeg sd_21_cX0_addTin_0 8 rfl rfl) (rdSeg sd_21_cX0_addTin_0 9 rfl rfl)
theorem dX0_addTin_10 : decode cX0_addTin 10 = .ok (.iload_n 2, 1) := op_28 (rdSeg sd_21_cX0_addTin_0 10 rfl rfl)
theorem dX0_addTin_11 : decode cX0_addTin 11 = .ok (.iload_n 1, 1) := op_27 (rdSeg sd_21_cX0_addTin_0 11 rfl rfl)
theorem dX0_addTin_12 : decode cX0_addTin 12 = .ok (.iadd, 1) := op_96 (rdSeg sd_21_cX0_addTin_0 12 rfl rfl)
theorem dX0_addTin_13 : decode cX0_addTin 13 = .ok (.invokestatic 71, 3) := op_184 (rdSeg sd_21_cX0_addTin_0 13 rfl rfl) (rdSeg sd_21_cX0_addTin_0 14 rfl rfl) (rdSeg sd_21_cX0_addTin_0 15 rfl rfl) rfl
theorem dX0_addTin_16 : decode cX0_addTin 16 = .ok (.istore_n 3, 1) := op_62 (rdSeg sd_21_cX0_addTin_0 16 rfl rfl)
theorem dX0_addTin_17 : decode cX0_addTin 17 = .ok (.aload_n 0, 1) := op_42 (rdSeg sd_21_cX0_addTin_0 17 rfl rfl)
theorem dX0_addTin_18 : decode cX0_addTin 18 = .ok (.bipush 12, 2) := op_16 (rdSeg sd_21_cX0_addTin_0 18 rfl rfl) (rdSeg sd_21_cX0_addTin_0 19 rfl rfl) (by decide +kernel)
theorem dX0_addTin_20 : decode cX0_addTin 20 = .ok (.iconst 2, 1) := op_5 (rdSeg sd_21_cX0_addTin_0 20 rfl rfl)
theorem dX0_addTin_21 : decode cX0_addTin 21 = .ok (.iload_n 3, 1) := op_29 (rdSeg sd_21_cX0_addTin_0 21 rfl rfl)
theorem dX0_addTin_22 : decode cX0_addTin 22 = .ok (.invokevirtual 53, 3) := op_182 (rdSeg sd_21_cX0_addTin_0 22 rfl rfl) (rdSeg sd_21_cX0_addTin_0 23 rfl rfl) (rdSeg sd_21_cX0_addTin_0 24 rfl rfl) rfl
theorem dX0_addTin_25 : decode cX0_addTin 25 = .ok (.aload_n 0, 1) := op_42 (rdSeg sd_21_cX0_addTin_0 25 rfl rfl)
theorem dX0_addTin_26 : decode cX0_addTin 26 = .ok (.bipush 12, 2) := op_16 (rdSeg sd_21_cX0_addTin_0 26 rfl rfl) (rdSeg sd_21_cX0_addTin_0 27 rfl rfl) (by decide +kernel)
theorem dX0_addTin_28 : decode cX0_addTin 28 = .ok (.iconst 3, 1) := op_6 (rdSeg sd_21_cX0_addTin_0 28 rfl rfl)
theorem dX0_addTin_29 : decode cX0_addTin 29 = .ok (.iload_n 3, 1) := op_29 (rdSeg sd_21_cX0_addTin_0 29 rfl rfl)
theorem dX0_addTin_30 : decode cX0_addTin 30 = .ok (.aload_n 0, 1) := op_42 (rdSeg sd_21_cX0_addTin_0 30 rfl rfl)
theorem dX0_addTin_31 : decode cX0_addTin 31 = .ok (.bipush 12, 2) := op_16 (rdSeg sd_21_cX0_addTin_0 31 rfl rfl) (rdSeg sd_21_cX0_addTin_1 0 rfl rfl) (by decide +kernel)
theorem dX0_addTin_33 : decode cX0_addTin 33 = .ok (.iconst 3, 1) := op_6 (rdSeg sd_21_cX0_addTin_1 1 rfl rfl)
theorem dX0_addTin_34 : decode cX0_addTin 34 = .ok (.invokevirtual 36, 3) := op_182 (rdSeg sd_21_cX0_addTin_1 2 rfl rfl) (rdSeg sd_21_cX0_addTin_1 3 rfl rfl) (rdSeg sd_21_cX0_addTin_1 4 rfl rfl) rfl
theorem dX0_addTin_37 : decode cX0_addTin 37 = .ok (.iload_n 1, 1) := op_27 (rdSeg sd_21_cX0_addTin_1 5 rfl rfl)
theorem dX0_addTin_38 : decode cX0_addTin 38 = .ok (.iadd, 1) := op_96 (rdSeg sd_21_cX0_addTin_1 6 rfl rfl)
theorem dX0_addTin_39 : decode cX0_addTin 39 = .ok (.invokestatic 71, 3) := op_184 (rdSeg sd_21_cX0_addTin_1 7 rfl rfl) (rdSeg sd_21_cX0_addTin_1 8 rfl rfl) (rdSeg sd_21_cX0_addTin_1 9 rfl rfl) rfl
theorem dX0_addTin_42 : decode cX0_addTin 42 = .ok (.invokevirtual 53, 3) := op_182 (rdSeg sd_21_cX0_addTin_1 10 rfl rfl) (rdSeg sd_21_cX0_addTin_1 11 rfl rfl) (rdSeg sd_21_cX0_addTin_1 12 rfl rfl) rfl
theorem dX0_addTin_45 : decode cX0_addTin 45 = .ok (.bipush 6, 2) := op_16 (rdSeg sd_21_cX0_addTin_1 13 rfl rfl) (rdSeg sd_21_cX0_addTin_1 14 rfl rfl) (by decide +kernel)
theorem dX0_addTin_47 : decode cX0_addTin 47 = .ok (.istore 4, 2) := op_54 (rdSeg sd_21_cX0_addTin_1 15 rfl rfl) (rdSeg sd_21_cX0_addTin_1 16 rfl rfl)
theorem dX0_addTin_49 : decode cX0_addTin 49 = .ok (.iload 4, 2) := op_21 (rdSeg sd_21_cX0_addTin_1 17 rfl rfl) (rdSeg sd_21_cX0_addTin_1 18 rfl rfl)
theorem dX0_addTin_51 : decode cX0_addTin 51 = .ok (.bipush 10, 2) := op_16 (rdSeg sd_21_cX0_addTin_1 19 rfl rfl) (rdSeg sd_21_cX0_addTin_1 20 rfl rfl) (by decide +kernel)
theorem dX0_addTin_53 : decode cX0_addTin 53 = .ok (.if_icmp .ge 38, 3) := op_162 (rdSeg sd_21_cX0_addTin_1 21 rfl rfl) (rdSeg sd_21_cX0_addTin_1 22 rfl rfl) (rdSeg sd_21_cX0_addTin_1 23 rfl rfl) (by decide +kernel)
theorem dX0_addTin_56 : decode cX0_addTin 56 = .ok (.aload_n 0, 1) := op_42 (rdSeg sd_21_cX0_addTin_1 24 rfl rfl)
theorem dX0_addTin_57 : decode cX0_addTin 57 = .ok (.bipush 12, 2) := op_16 (rdSeg sd_21_cX0_addTin_1 25 rfl rfl) (rdSeg sd_21_cX0_addTin_1 26 rfl rfl) (by decide +kernel)
theorem dX0_addTin_59 : decode cX0_addTin 59 = .ok (.iload 4, 2) := op_21 (rdSeg sd_21_cX0_addTin_1 27 rfl rfl) (rdSeg sd_21_cX0_addTin_1 28 rfl rfl)
theorem dX0_addTin_61 : decode cX0_addTin 61 = .ok (.invokevirtual 36, 3) := op_182 (rdSeg sd_21_cX0_addTin_1 29 rfl rfl) (rdSeg sd_21_cX0_addTin_1 30 rfl rfl) (rdSeg sd_21_cX0_addTin_1 31 rfl rfl) rfl
theorem dX0_addTin_64 : decode cX0_addTin 64 = .ok (.i2l, 1) := op_133 (rdSeg sd_21_cX0_addTin_2 0 rfl rfl)
theorem dX0_addTin_65 : decode cX0_addTin 65 = .ok (.iload_n 2, 1) := op_28 (rdSeg sd_21_cX0_addTin_2 1 rfl rfl)
theorem dX0_addTin_66 : decode cX0_addTin 66 = .ok (.i2l, 1) := op_133 (rdSeg sd_21_cX0_addTin_2 2 rfl rfl)
theorem dX0_addTin_67 : decode cX0_addTin 67 = .ok (.lmul, 1) := op_105 (rdSeg sd_21_cX0_addTin_2 3 rfl rfl)
theorem dX0_addTin_68 : decode cX0_addTin 68 = .ok (.lstore 5, 2) := op_55 (rdSeg sd_21_cX0_addTin_2 4 rfl rfl) (rdSeg sd_21_cX0_addTin_2 5 rfl rfl)
theorem dX0_addTin_70 : decode cX0_addTin 70 = .ok (.aload_n 0, 1) := op_42 (rdSeg sd_21_cX0_addTin_2 6 rfl rfl)
theorem dX0_addTin_71 : decode cX0_addTin 71 = .ok (.bipush 12, 2) := op_16 (rdSeg sd_21_cX0_addTin_2 7 rfl rfl) (rdSeg sd_21_cX0_addTin_2 8 rfl rfl) (by decide +kernel)
theorem dX0_addTin_73 : decode cX0_addTin 73 = .ok (.iload 4, 2) := op_21 (rdSeg sd_21_cX0_addTin_2 9 rfl rfl) (rdSeg sd_21_cX0_addTin_2 10 rfl rfl)
theorem dX0_addTin_75 : decode cX0_addTin 75 = .ok (.lload 5, 2) := op_22 (rdSeg sd_21_cX0_addTin_2 11 rfl rfl) (rdSeg sd_21_cX0_addTin_2 12 rfl rfl)
theorem dX0_addTin_77 : decode cX0_addTin 77 = .ok (.iload_n 3, 1) := op_29 (rdSeg sd_21_cX0_addTin_2 13 rfl rfl)
theorem dX0_addTin_78 : decode cX0_addTin 78 = .ok (.i2l, 1) := op_133 (rdSeg sd_21_cX0_addTin_2 14 rfl rfl)
theorem dX0_addTin_79 : decode cX0_addTin 79 = .ok (.invokestatic 66, 3) := op_184 (rdSeg sd_21_cX0_addTin_2 15 rfl rfl) (rdSeg sd_21_cX0_addTin_2 16 rfl rfl) (rdSeg sd_21_cX0_addTin_2 17 rfl rfl) rfl
theorem dX0_addTin_82 : decode cX0_addTin 82 = .ok (.invokevirtual 53, 3) := op_182 (rdSeg sd_21_cX0_addTin_2 18 rfl rfl) (rdSeg sd_21_cX0_addTin_2 19 rfl rfl) (rdSeg sd_21_cX0_addTin_2 20 rfl rfl) rfl
theorem dX0_addTin_85 : decode cX0_addTin 85 = .ok (.iinc 4 1, 3) := op_132 (rdSeg sd_21_cX0_addTin_2 21 rfl rfl) (rdSeg sd_21_cX0_addTin_2 22 rfl rfl) (rdSeg sd_21_cX0_addTin_2 23 rfl rfl) (by decide +kernel)
theorem dX0_addTin_88 : decode cX0_addTin 88 = .ok (.goto (-39), 3) := op_167 (rdSeg sd_21_cX0_addTin_2 24 rfl rfl) (rdSeg sd_21_cX0_addTin_2 25 rfl rfl) (rdSeg sd_21_cX0_addTin_2 26 rfl rfl) (by decide +kernel)
theorem dX0_addTin_91 : decode cX0_addTin 91 = .ok (.return_, 1) := op_177 (rdSeg sd_21_cX0_addTin_2 27 rfl rfl)
def sg_21_cX0_addCast_3 : List UInt8 := [0x15, 0x08, 0x64, 0xb6, 0x00, 0x35, 0x2a, 0x15, 0x04, 0x15, 0x05, 0x15, 0x08, 0xb6, 0x00, 0x35, 0x84, 0x05, 0x01, 0xa7, 0xff, 0xa7, 0x2a, 0x10, 0x0c, 0x03, 0xb6, 0x00, 0x31, 0x1d, 0xac]
def sg_21_cX0_addCast_2 : List UInt8 := 0xa7 :: 0x00 :: 0x0e :: 0x2a :: 0x10 :: 0x0c :: 0x15 :: 0x05 :: 0x1c :: 0x10 :: 0x0a :: 0xb6 :: 0x00 :: 0x3e :: 0x36 :: 0x08 :: 0x2a :: 0x1d :: 0x15 :: 0x05 :: 0x15 :: 0x06 :: 0x99 :: 0x00 :: 0x08 :: 0x15 :: 0x07 :: 0xa7 :: 0x00 :: 0x08 :: 0x15 :: 0x07 :: sg_21_cX0_addCast_3
def sg_21_cX0_addCast_1 : List UInt8 := 0x58 :: 0x15 :: 0x05 :: 0x10 :: 0x06 :: 0xa1 :: 0x00 :: 0x07 :: 0x04 :: 0xa7 :: 0x00 :: 0x04 :: 0x03 :: 0x36 :: 0x06 :: 0x2a :: 0x10 :: 0x0c :: 0x15 :: 0x05 :: 0xb6 :: 0x00 :: 0x24 :: 0x36 :: 0x07 :: 0x15 :: 0x06 :: 0x99 :: 0x00 :: 0x08 :: 0x15 :: 0x07 :: sg_21_cX0_addCast_2
def sg_21_cX0_addCast_0 : List UInt8 := 0x2a :: 0x1b :: 0xb6 :: 0x00 :: 0x39 :: 0x3e :: 0x1c :: 0x9e :: 0x00 :: 0x0d :: 0x2a :: 0x11 :: 0x02 :: 0x58 :: 0xb6 :: 0x00 :: 0x39 :: 0xa7 :: 0x00 :: 0x04 :: 0x02 :: 0x36 :: 0x04 :: 0x05 :: 0x36 :: 0x05 :: 0x15 :: 0x05 :: 0x10 :: 0x0a :: 0xa2 :: 0x00 :: sg_21_cX0_addCast_1
set_option maxRecDepth 100000 in
theorem sd_21_cX0_addCast_0 : cX0_addCast.data.toList.drop 0 = sg_21_cX0_addCast_0 := by decide +kernel
theorem sd_21_cX0_addCast_1 : cX0_addCast.data.toList.drop 32 = sg_21_cX0_addCast_1 := sg_next sd_21_cX0_addCast_0 rfl
theorem sd_21_cX0_addCast_2 : cX0_addCast.data.toList.drop 64 = sg_21_cX0_addCast_2 := sg_next sd_21_cX0_addCast_1 rfl
theorem sd_21_cX0_addCast_3 : cX0_addCast.data.toList.drop 96 = sg_21_cX0_addCast_3 := sg_next sd_21_cX0_addCast_2 rfl
theorem dX0_addCast_0 : decode cX0_addCast 0 = .ok (.aload_n 0, 1) := op_42 (rdSeg sd_21_cX0_addCast_0 0 rfl rfl)
theorem dX0_addCast_1 : decode cX0_addCast 1 = .ok (.iload_n 1, 1) := op_27 (rdSeg sd_21_cX0_addCast_0 1 rfl rfl)
theorem dX0_addCast_2 : decode cX0_addCast 2 = .ok (.invokevirtual 57, 3) := op_182 (rdSeg sd_21_cX0_addCast_0 2 rfl rfl) (rdSeg sd_21_cX0_addCast_0 3 rfl rfl) (rdSeg sd_21_cX0_addCast_0 4 rfl rfl) rfl
theorem dX0_addCast_5 : decode cX0_addCast 5 = .ok (.istore_n 3, 1) := op_62 (rdSeg sd_21_cX0_addCast_0 5 rfl rfl)
theorem dX0_addCast_6 : decode cX0_addCast 6 = .ok (.iload_n 2, 1) := op_28 (rdSeg sd_21_cX0_addCast_0 6 rfl rfl)
theorem dX0_addCast_7 : decode cX0_addCast 7 = .ok (.ifCond .le 13, 3) := op_158 (rdSeg sd_21_cX0_addCast_0 7 rfl rfl) (rdSeg sd_21_cX0_addCast_0 8 rfl rfl) (rdSeg sd_21_cX0_addCast_0 9 rfl rfl) (by decide +kernel)
theorem dX0_addCast_10 : decode cX0_addCast 10 = .ok (.aload_n 0, 1) := op_42 (rdSeg sd_21_cX0_addCast_0 10 rfl rfl)
theorem dX0_addCast_11 : decode cX0_addCast 11 = .ok (.sipush 600, 3) := op_17 (rdSeg sd_21_cX0_addCast_0 11 rfl rfl) (rdSeg sd_21_cX0_addCast_0 12 rfl rfl) (rdSeg sd_21_cX0_addCast_0 13 rfl rfl) (by decide +kernel)
theorem dX0_addCast_14 : decode cX0_addCast 14 = .ok (.invokevirtual 57, 3) := op_182 (rdSeg sd_21_cX0_addCast_0 14 rfl rfl) (rdSeg sd_21_cX0_addCast_0 15 rfl rfl) (rdSeg sd_21_cX0_addCast_0 16 rfl rfl) rfl
theorem dX0_addCast_17 : decode cX0_addCast 17 = .ok (.goto 4, 3) := op_167 (rdSeg sd_21_cX0_addCast_0 17 rfl rfl) (rdSeg sd_21_cX0_addCast_0 18 rfl rfl) (rdSeg sd_21_cX0_addCast_0 19 rfl rfl) (by decide +kernel)
theorem dX0_addCast_20 : decode cX0_addCast 20 = .ok (.iconst (-1), 1) := op_2 (rdSeg sd_21_cX0_addCast_0 20 rfl rfl)
theorem dX0_addCast_21 : decode cX0_addCast 21 = .ok (.istore 4, 2) := op_54 (rdSeg sd_21_cX0_addCast_0 21 rfl rfl) (rdSeg sd_21_cX0_addCast_0 22 rfl rfl)
theorem dX0_addCast_23 : decode cX0_addCast 23 = .ok (.iconst 2, 1) := op_5 (rdSeg sd_21_cX0_addCast_0 23 rfl rfl)
theorem dX0_addCast_24 : decode cX0_addCast 24 = .ok (.istore 5, 2) := op_54 (rdSeg sd_21_cX0_addCast_0 24 rfl rfl) (rdSeg sd_21_cX0_addCast_0 25 rfl rfl)
theorem dX0_addCast_26 : decode cX0_addCast 26 = .ok (.iload 5, 2) := op_21 (rdSeg sd_21_cX0_addCast_0 26 rfl rfl) (rdSeg sd_21_cX0_addCast_0 27 rfl rfl)
theorem dX0_addCast_28 : decode cX0_addCast 28 = .ok (.bipush 10, 2) := op_16 (rdSeg sd_21_cX0_addCast_0 28 rfl rfl) (rdSeg sd_21_cX0_addCast_0 29 rfl rfl) (by decide +kernel)
theorem dX0_addCast_30 : decode cX0_addCast 30 = .ok (.if_icmp .ge 88, 3) := op_162 (rdSeg sd_21_cX0_addCast_0 30 rfl rfl) (rdSeg sd_21_cX0_addCast_0 31 rfl rfl) (rdSeg sd_21_cX0_addCast_1 0 rfl rfl) (by decide +kernel)
theorem dX0_addCast_33 : decode cX0_addCast 33 = .ok (.iload 5, 2) := op_21 (rdSeg sd_21_cX0_addCast_1 1 rfl rfl) (rdSeg sd_21_cX0_addCast_1 2 rfl rfl)
theorem dX0_addCast_35 : decode cX0_addCast 35 = .ok (.bipush 6, 2) := op_16 (rdSeg sd_21_cX0_addCast_1 3 rfl rfl) (rdSeg sd_21_cX0_addCast_1 4 rfl rfl) (by decide +kernel)
theorem dX0_addCast_37 : decode cX0_addCast 37 = .ok (.if_icmp .lt 7, 3) := op_161 (rdSeg sd_21_cX0_addCast_1 5 rfl rfl) (rdSeg sd_21_cX0_addCast_1 6 rfl rfl) (rdSeg sd_21_cX0_addCast_1 7 rfl rfl) (by decide +kernel)
theorem dX0_addCast_40 : decode cX0_addCast 40 = .ok (.iconst 1, 1) := op_4 (rdSeg sd_21_cX0_addCast_1 8 rfl rfl)
theorem dX0_addCast_41 : decode cX0_addCast 41 = .ok (.goto 4, 3) := op_167 (rdSeg sd_21_cX0_addCast_1 9 rfl rfl) (rdSeg sd_21_cX0_addCast_1 10 rfl rfl) (rdSeg sd_21_cX0_addCast_1 11 rfl rfl) (by decide +kernel)
theorem dX0_addCast_44 : decode cX0_addCast 44 = .ok (.iconst 0, 1) := op_3 (rdSeg sd_21_cX0_addCast_1 12 rfl rfl)
theorem dX0_addCast_45 : decode cX0_addCast 45 = .ok (.istore 6, 2) := op_54 (rdSeg sd_21_cX0_addCast_1 13 rfl rfl) (rdSeg sd_21_cX0_addCast_1 14 rfl rfl)
theorem dX0_addCast_47 : decode cX0_addCast 47 = .ok (.aload_n 0, 1) := op_42 (rdSeg sd_21_cX0_addCast_1 15 rfl rfl)
theorem dX0_addCast_48 : decode cX0_addCast 48 = .ok (.bipush 12, 2) := op_16 (rdSeg sd_21_cX0_addCast_1 16 rfl rfl) (rdSeg sd_21_cX0_addCast_1 17 rfl rfl) (by decide +kernel)
theorem dX0_addCast_50 : decode cX0_addCast 50 = .ok (.iload 5, 2) := op_21 (rdSeg sd_21_cX0_addCast_1 18 rfl rfl) (rdSeg sd_21_cX0_addCast_1 19 rfl rfl)
theorem dX0_addCast_52 : decode cX0_addCast 52 = .ok (.invokevirtual 36, 3) := op_182 (rdSeg sd_21_cX0_addCast_1 20 rfl rfl) (rdSeg sd_21_cX0_addCast_1 21 rfl rfl) (rdSeg sd_21_cX0_addCast_1 22 rfl rfl) rfl
theorem dX0_addCast_55 : decode cX0_addCast 55 = .ok (.istore 7, 2) := op_54 (rdSeg sd_21_cX0_addCast_1 23 rfl rfl) (rdSeg sd_21_cX0_addCast_1 24 rfl rfl)
theorem dX0_addCast_57 : decode cX0_addCast 57 = .ok (.iload 6, 2) := op_21 (rdSeg sd_21_cX0_addCast_1 25 rfl rfl) (rdSeg sd_21_cX0_addCast_1 26 rfl rfl)
theorem dX0_addCast_59 : decode cX0_addCast 59 = .ok (.ifCond .eq 8, 3) := op_153 (rdSeg sd_21_cX0_addCast_1 27 rfl rfl) (rdSeg sd_21_cX0_addCast_1 28 rfl rfl) (rdSeg sd_21_cX0_addCast_1 29 rfl rfl) (by decide +kernel)
theorem dX0_addCast_62 : decode cX0_addCast 62 = .ok (.iload 7, 2) := op_21 (rdSeg sd_21_cX0_addCast_1 30 rfl rfl) (rdSeg sd_21_cX0_addCast_1 31 rfl rfl)
theorem dX0_addCast_64 : decode cX0_addCast 64 = .ok (.goto 14, 3) := op_167 (rdSeg sd_21_cX0_addCast_2 0 rfl rfl) (rdSeg sd_21_cX0_addCast_2 1 rfl rfl) (rdSeg sd_21_cX0_addCast_2 2 rfl rfl) (by decide +kernel)
theorem dX0_addCast_67 : decode cX0_addCast 67 = .ok (.aload_n 0, 1) := op_42 (rdSeg sd_21_cX0_addCast_2 3 rfl rfl)
theorem dX0_addCast_68 : decode cX0_addCast 68 = .ok (.bipush 12, 2) := op_16 (rdSeg sd_21_cX0_addCast_2 4 rfl rfl) (rdSeg sd_21_cX0_addCast_2 5 rfl rfl) (by decide +kernel)
theorem dX0_addCast_70 : decode cX0_addCast 70 = .ok (.iload 5, 2) := op_21 (rdSeg sd_21_cX0_addCast_2 6 rfl rfl) (rdSeg sd_21_cX0_addCast_2 7 rfl rfl)
theorem dX0_addCast_72 : decode cX0_addCast 72 = .ok (.iload_n 2, 1) := op_28 (rdSeg sd_21_cX0_addCast_2 8 rfl rfl)
theorem dX0_addCast_73 : decode cX0_addCast 73 = .ok (.bipush 10, 2) := op_16 (rdSeg sd_21_cX0_addCast_2 9 rfl rfl) (rdSeg sd_21_cX0_addCast_2 10 rfl rfl) (by decide +kernel)
theorem dX0_addCast_75 : decode cX0_addCast 75 = .ok (.invokevirtual 62, 3) := op_182 (rdSeg sd_21_cX0_addCast_2 11 rfl rfl) (rdSeg sd_21_cX0_addCast_2 12 rfl rfl) (rdSeg sd_21_cX0_addCast_2 13 rfl rfl) rfl
theorem dX0_addCast_78 : decode cX0_addCast 78 = .ok (.istore 8, 2) := op_54 (rdSeg sd_21_cX0_addCast_2 14 rfl rfl) (rdSeg sd_21_cX0_addCast_2 15 rfl rfl)
theorem dX0_addCast_80 : decode cX0_addCast 80 = .ok (.aload_n 0, 1) := op_42 (rdSeg sd_21_cX0_addCast_2 16 rfl rfl)
theorem dX0_addCast_81 : decode cX0_addCast 81 = .ok (.iload_n 3, 1) := op_29 (rdSeg sd_21_cX0_addCast_2 17 rfl rfl)
theorem dX0_addCast_82 : decode cX0_addCast 82 = .ok (.iload 5, 2) := op_21 (rdSeg sd_21_cX0_addCast_2 18 rfl rfl) (rdSeg sd_21_cX0_addCast_2 19 rfl rfl)
theorem dX0_addCast_84 : decode cX0_addCast 84 = .ok (.iload 6, 2) := op_21 (rdSeg sd_21_cX0_addCast_2 20 rfl rfl) (rdSeg sd_21_cX0_addCast_2 21 rfl rfl)
theorem dX0_addCast_86 : decode cX0_addCast 86 = .ok (.ifCond .eq 8, 3) := op_153 (rdSeg sd_21_cX0_addCast_2 22 rfl rfl) (rdSeg sd_21_cX0_addCast_2 23 rfl rfl) (rdSeg sd_21_cX0_addCast_2 24 rfl rfl) (by decide +kernel)
theorem dX0_addCast_89 : decode cX0_addCast 89 = .ok (.iload 7, 2) := op_21 (rdSeg sd_21_cX0_addCast_2 25 rfl rfl) (rdSeg sd_21_cX0_addCast_2 26 rfl rfl)
theorem dX0_addCast_91 : decode cX0_addCast 91 = .ok (.goto 8, 3) := op_167 (rdSeg sd_21_cX0_addCast_2 27 rfl rfl) (rdSeg sd_21_cX0_addCast_2 28 rfl rfl) (rdSeg sd_21_cX0_addCast_2 29 rfl rfl) (by decide +kernel)
theorem dX0_addCast_94 : decode cX0_addCast 94 = .ok (.iload 7, 2) := op_21 (rdSeg sd_21_cX0_addCast_2 30 rfl rfl) (rdSeg sd_21_cX0_addCast_2 31 rfl rfl)
theorem dX0_addCast_96 : decode cX0_addCast 96 = .ok (.iload 8, 2) := op_21 (rdSeg sd_21_cX0_addCast_3 0 rfl rfl) (rdSeg sd_21_cX0_addCast_3 1 rfl rfl)
theorem dX0_addCast_98 : decode cX0_addCast 98 = .ok (.isub, 1) := op_100 (rdSeg sd_21_cX0_addCast_3 2 rfl rfl)
theorem dX0_addCast_99 : decode cX0_addCast 99 = .ok (.invokevirtual 53, 3) := op_182 (rdSeg sd_21_cX0_addCast_3 3 rfl rfl) (rdSeg sd_21_cX0_addCast_3 4 rfl rfl) (rdSeg sd_21_cX0_addCast_3 5 rfl rfl) rfl
theorem dX0_addCast_102 : decode cX0_addCast 102 = .ok (.aload_n 0, 1) := op_42 (rdSeg sd_21_cX0_addCast_3 6 rfl rfl)
theorem dX0_addCast_103 : decode cX0_addCast 103 = .ok (.iload 4, 2) := op_21 (rdSeg sd_21_cX0_addCast_3 7 rfl rfl) (rdSeg sd_21_cX0_addCast_3 8 rfl rfl)
theorem dX0_addCast_105 : decode cX0_addCast 105 = .ok (.iload 5, 2) := op_21 (rdSeg sd_21_cX0_addCast_3 9 rfl rfl) (rdSeg sd_21_cX0_addCast_3 10 rfl rfl)
theorem dX0_addCast_107 : decode cX0_addCast 107 = .ok (.iload 8, 2) := op_21 (rdSeg sd_21_cX0_addCast_3 11 rfl rfl) (rdSeg sd_21_cX0_addCast_3 12 rfl rfl)
theorem dX0_addCast_109 : decode cX0_addCast 109 = .ok (.invokevirtual 53, 3) := op_182 (rdSeg sd_21_cX0_addCast_3 13 rfl rfl) (rdSeg sd_21_cX0_addCast_3 14 rfl rfl) (rdSeg sd_21_cX0_addCast_3 15 rfl rfl) rfl
theorem dX0_addCast_112 : decode cX0_addCast 112 = .ok (.iinc 5 1, 3) := op_132 (rdSeg sd_21_cX0_addCast_3 16 rfl rfl) (rdSeg sd_21_cX0_addCast_3 17 rfl rfl) (rdSeg sd_21_cX0_addCast_3 18 rfl rfl) (by decide +kernel)
theorem dX0_addCast_115 : decode cX0_addCast 115 = .ok (.goto (-89), 3) := op_167 (rdSeg sd_21_cX0_addCast_3 19 rfl rfl) (rdSeg sd_21_cX0_addCast_3 20 rfl rfl) (rdSeg sd_21_cX0_addCast_3 21 rfl rfl) (by decide +kernel)
theorem dX0_addCast_118 : decode cX0_addCast 118 = .ok (.aload_n 0, 1) := op_42 (rdSeg sd_21_cX0_addCast_3 22 rfl rfl)
theorem dX0_addCast_119 : decode cX0_addCast 119 = .ok (.bipush 12, 2) := op_16 (rdSeg sd_21_cX0_addCast_3 23 rfl rfl) (rdSeg sd_21_cX0_addCast_3 24 rfl rfl) (by decide +kernel)
theorem dX0_addCast_121 : decode cX0_addCast 121 = .ok (.iconst 0, 1) := op_3 (rdSeg sd_21_cX0_addCast_3 25 rfl rfl)
theorem dX0_addCast_122 : decode cX0_addCast 122 = .ok (.invokevirtual 49, 3) := op_182 (rdSeg sd_21_cX0_addCast_3 26 rfl rfl) (rdSeg sd_21_cX0_addCast_3 27 rfl rfl) (rdSeg sd_21_cX0_addCast_3 28 rfl rfl) rfl
theorem dX0_addCast_125 : decode cX0_addCast 125 = .ok (.iload_n 3, 1) := op_29 (rdSeg sd_21_cX0_addCast_3 29 rfl rfl)
theorem dX0_addCast_126 : decode cX0_addCast 126 = .ok (.ireturn, 1) := op_172 (rdSeg sd_21_cX0_addCast_3 30 rfl rfl)
def sg_21_cX0_passYears_0 : List UInt8 := [0x03, 0x3d, 0x1c, 0x1b, 0xa2, 0x00, 0x0d, 0x2a, 0xb6, 0x00, 0x4f, 0x84, 0x02, 0x01, 0xa7, 0xff, 0xf4, 0xb1]
set_option maxRecDepth 100000 in
theorem sd_21_cX0_passYears_0 : cX0_passYears.data.toList.drop 0 = sg_21_cX0_passYears_0 := by decide +kernel
theorem dX0_passYears_0 : decode cX0_passYears 0 = .ok (.iconst 0, 1) := op_3 (rdSeg sd_21_cX0_passYears_0 0 rfl rfl)
theorem dX0_passYears_1 : decode cX0_passYears 1 = .ok (.istore_n 2, 1) := op_61 (rdSeg sd_21_cX0_passYears_0 1 rfl rfl)
theorem dX0_passYears_2 : decode cX0_passYears 2 = .ok (.iload_n 2, 1) := op_28 (rdSeg sd_21_cX0_passYears_0 2 rfl rfl)
theorem dX0_passYears_3 : decode cX0_passYears 3 = .ok (.iload_n 1, 1) := op_27 (rdSeg sd_21_cX0_passYears_0 3 rfl rfl)
theorem dX0_passYears_4 : decode cX0_passYears 4 = .ok (.if_icmp .ge 13, 3) := op_162 (rdSeg sd_21_cX0_passYears_0 4 rfl rfl) (rdSeg sd_21_cX0_passYears_0 5 rfl rfl) (rdSeg sd_21_cX0_passYears_0 6 rfl rfl) (by decide +kernel)
theorem dX0_passYears_7 : decode cX0_passYears 7 = .ok (.aload_n 0, 1) := op_42 (rdSeg sd_21_cX0_passYears_0 7 rfl rfl)
theorem dX0_passYears_8 : decode cX0_passYears 8 = .ok (.invokevirtual 79, 3) := op_182 (rdSeg sd_21_cX0_passYears_0 8 rfl rfl) (rdSeg sd_21_cX0_passYears_0 9 rfl rfl) (rdSeg sd_21_cX0_passYears_0 10 rfl rfl) rfl
theorem dX0_passYears_11 : decode cX0_passYears 11 = .ok (.iinc 2 1, 3) := op_132 (rdSeg sd_21_cX0_passYears_0 11 rfl rfl) (rdSeg sd_21_cX0_passYears_0 12 rfl rfl) (rdSeg sd_21_cX0_passYears_0 13 rfl rfl) (by decide +kernel)
theorem dX0_passYears_14 : decode cX0_passYears 14 = .ok (.goto (-12), 3) := op_167 (rdSeg sd_21_cX0_passYears_0 14 rfl rfl) (rdSeg sd_21_cX0_passYears_0 15 rfl rfl) (rdSeg sd_21_cX0_passYears_0 16 rfl rfl) (by decide +kernel)
theorem dX0_passYears_17 : decode cX0_passYears 17 = .ok (.return_, 1) := op_177 (rdSeg sd_21_cX0_passYears_0 17 rfl rfl)
def sg_21_cX0_passYear_2 : List UInt8 := [0x01, 0xa7, 0xff, 0xcb, 0xb1]
def sg_21_cX0_passYear_1 : List UInt8 := 0xb5 :: 0x00 :: 0x0f :: 0x2a :: 0xb4 :: 0x00 :: 0x0f :: 0x10 :: 0x08 :: 0x7c :: 0x10 :: 0x64 :: 0x70 :: 0x2a :: 0x1b :: 0x04 :: 0xb6 :: 0x00 :: 0x24 :: 0xa2 :: 0x00 :: 0x0b :: 0x2a :: 0x1b :: 0x04 :: 0x10 :: 0x64 :: 0xb6 :: 0x00 :: 0x4c :: 0x84 :: 0x01 :: sg_21_cX0_passYear_2
def sg_21_cX0_passYear_0 : List UInt8 := 0x2a :: 0x59 :: 0xb4 :: 0x00 :: 0x19 :: 0x04 :: 0x60 :: 0xb5 :: 0x00 :: 0x19 :: 0x03 :: 0x3c :: 0x1b :: 0x2a :: 0xb4 :: 0x00 :: 0x13 :: 0xa2 :: 0x00 :: 0x33 :: 0x2a :: 0x2a :: 0xb4 :: 0x00 :: 0x0f :: 0x12 :: 0x52 :: 0x68 :: 0x11 :: 0x30 :: 0x39 :: 0x60 :: sg_21_cX0_passYear_1
set_option maxRecDepth 100000 in
theorem sd_21_cX0_passYear_0 : cX0_passYear.data.toList.drop 0 = sg_21_cX0_passYear_0 := by decide +kernel
theorem sd_21_cX0_passYear_1 : cX0_passYear.data.toList.drop 32 = sg_21_cX0_passYear_1 := sg_next sd_21_cX0_passYear_0 rfl
theorem sd_21_cX0_passYear_2 : cX0_passYear.data.toList.drop 64 = sg_21_cX0_passYear_2 := sg_next sd_21_cX0_passYear_1 rfl
theorem dX0_passYear_0 : decode cX0_passYear 0 = .ok (.aload_n 0, 1) := op_42 (rdSeg sd_21_cX0_passYear_0 0 rfl rfl)
theorem dX0_passYear_1 : decode cX0_passYear 1 = .ok (.dup, 1) := op_89 (rdSeg sd_21_cX0_passYear_0 1 rfl rfl)
theorem dX0_passYear_2 : decode cX0_passYear 2 = .ok (.getfield 25, 3) := op_180 (rdSeg sd_21_cX0_passYear_0 2 rfl rfl) (rdSeg sd_21_cX0_passYear_0 3 rfl rfl) (rdSeg sd_21_cX0_passYear_0 4 rfl rfl) rfl
theorem dX0_passYear_5 : decode cX0_passYear 5 = .ok (.iconst 1, 1) := op_4 (rdSeg sd_21_cX0_passYear_0 5 rfl rfl)
theorem dX0_passYear_6 : decode cX0_passYear 6 = .ok (.iadd, 1) := op_96 (rdSeg sd_21_cX0_passYear_0 6 rfl rfl)
theorem dX0_passYear_7 : decode cX0_passYear 7 = .ok (.putfield 25, 3) := op_181 (rdSeg sd_21_cX0_passYear_0 7 rfl rfl) (rdSeg sd_21_cX0_passYear_0 8 rfl rfl) (rdSeg sd_21_cX0_passYear_0 9 rfl rfl) rfl
theorem dX0_passYear_10 : decode cX0_passYear 10 = .ok (.iconst 0, 1) := op_3 (rdSeg sd_21_cX0_passYear_0 10 rfl rfl)
theorem dX0_passYear_11 : decode cX0_passYear 11 = .ok (.istore_n 1, 1) := op_60 (rdSeg sd_21_cX0_passYear_0 11 rfl rfl)
theorem dX0_passYear_12 : decode cX0_passYear 12 = .ok (.iload_n 1, 1) := op_27 (rdSeg sd_21_cX0_passYear_0 12 rfl rfl)
theorem dX0_passYear_13 : decode cX0_passYear 13 = .ok (.aload_n 0, 1) := op_42 (rdSeg sd_21_cX0_passYear_0 13 rfl rfl)
theorem dX0_passYear_14 : decode cX0_passYear 14 = .ok (.getfield 19, 3) := op_180 (rdSeg sd_21_cX0_passYear_0 14 rfl rfl) (rdSeg sd_21_cX0_passYear_0 15 rfl rfl) (rdSeg sd_21_cX0_passYear_0 16 rfl rfl) rfl
theorem dX0_passYear_17 : decode cX0_passYear 17 = .ok (.if_icmp .ge 51, 3) := op_162 (rdSeg sd_21_cX0_passYear_0 17 rfl rfl) (rdSeg sd_21_cX0_passYear_0 18 rfl rfl) (rdSeg sd_21_cX0_passYear_0 19 rfl rfl) (by decide +kernel)
theorem dX0_passYear_20 : decode cX0_passYear 20 = .ok (.aload_n 0, 1) := op_42 (rdSeg sd_21_cX0_passYear_0 20 rfl rfl)
theorem dX0_passYear_21 : decode cX0_passYear 21 = .ok (.aload_n 0, 1) := op_42 (rdSeg sd_21_cX0_passYear_0 21 rfl rfl)
theorem dX0_passYear_22 : decode cX0_passYear 22 = .ok (.getfield 15, 3) := op_180 (rdSeg sd_21_cX0_passYear_0 22 rfl rfl) (rdSeg sd_21_cX0_passYear_0 23 rfl rfl) (rdSeg sd_21_cX0_passYear_0 24 rfl rfl) rfl
theorem dX0_passYear_25 : decode cX0_passYear 25 = .ok (.ldc 82, 2) := op_18 (rdSeg sd_21_cX0_passYear_0 25 rfl rfl) (rdSeg sd_21_cX0_passYear_0 26 rfl rfl)
theorem dX0_passYear_27 : decode cX0_passYear 27 = .ok (.imul, 1) := op_104 (rdSeg sd_21_cX0_passYear_0 27 rfl rfl)
theorem dX0_passYear_28 : decode cX0_passYear 28 = .ok (.sipush 12345, 3) := op_17 (rdSeg sd_21_cX0_passYear_0 28 rfl rfl) (rdSeg sd_21_cX0_passYear_0 29 rfl rfl) (rdSeg sd_21_cX0_passYear_0 30 rfl rfl) (by decide +kernel)
theorem dX0_passYear_31 : decode cX0_passYear 31 = .ok (.iadd, 1) := op_96 (rdSeg sd_21_cX0_passYear_0 31 rfl rfl)
theorem dX0_passYear_32 : decode cX0_passYear 32 = .ok (.putfield 15, 3) := op_181 (rdSeg sd_21_cX0_passYear_1 0 rfl rfl) (rdSeg sd_21_cX0_passYear_1 1 rfl rfl) (rdSeg sd_21_cX0_passYear_1 2 rfl rfl) rfl
theorem dX0_passYear_35 : decode cX0_passYear 35 = .ok (.aload_n 0, 1) := op_42 (rdSeg sd_21_cX0_passYear_1 3 rfl rfl)
theorem dX0_passYear_36 : decode cX0_passYear 36 = .ok (.getfield 15, 3) := op_180 (rdSeg sd_21_cX0_passYear_1 4 rfl rfl) (rdSeg sd_21_cX0_passYear_1 5 rfl rfl) (rdSeg sd_21_cX0_passYear_1 6 rfl rfl) rfl
theorem dX0_passYear_39 : decode cX0_passYear 39 = .ok (.bipush 8, 2) := op_16 (rdSeg sd_21_cX0_passYear_1 7 rfl rfl) (rdSeg sd_21_cX0_passYear_1 8 rfl rfl) (by decide +kernel)
theorem dX0_passYear_41 : decode cX0_passYear 41 = .ok (.iushr, 1) := op_124 (rdSeg sd_21_cX0_passYear_1 9 rfl rfl)
theorem dX0_passYear_42 : decode cX0_passYear 42 = .ok (.bipush 100, 2) := op_16 (rdSeg sd_21_cX0_passYear_1 10 rfl rfl) (rdSeg sd_21_cX0_passYear_1 11 rfl rfl) (by decide +kernel)
theorem dX0_passYear_44 : decode cX0_passYear 44 = .ok (.irem, 1) := op_112 (rdSeg sd_21_cX0_passYear_1 12 rfl rfl)
theorem dX0_passYear_45 : decode cX0_passYear 45 = .ok (.aload_n 0, 1) := op_42 (rdSeg sd_21_cX0_passYear_1 13 rfl rfl)
theorem dX0_passYear_46 : decode cX0_passYear 46 = .ok (.iload_n 1, 1) := op_27 (rdSeg sd_21_cX0_passYear_1 14 rfl rfl)
theorem dX0_passYear_47 : decode cX0_passYear 47 = .ok (.iconst 1, 1) := op_4 (rdSeg sd_21_cX0_passYear_1 15 rfl rfl)
theorem dX0_passYear_48 : decode cX0_passYear 48 = .ok (.invokevirtual 36, 3) := op_182 (rdSeg sd_21_cX0_passYear_1 16 rfl rfl) (rdSeg sd_21_cX0_passYear_1 17 rfl rfl) (rdSeg sd_21_cX0_passYear_1 18 rfl rfl) rfl
theorem dX0_passYear_51 : decode cX0_passYear 51 = .ok (.if_icmp .ge 11, 3) := op_162 (rdSeg sd_21_cX0_passYear_1 19 rfl rfl) (rdSeg sd_21_cX0_passYear_1 20 rfl rfl) (rdSeg sd_21_cX0_passYear_1 21 rfl rfl) (by decide +kernel)
theorem dX0_passYear_54 : decode cX0_passYear 54 = .ok (.aload_n 0, 1) := op_42 (rdSeg sd_21_cX0_passYear_1 22 rfl rfl)
theorem dX0_passYear_55 : decode cX0_passYear 55 = .ok (.iload_n 1, 1) := op_27 (rdSeg sd_21_cX0_passYear_1 23 rfl rfl)
theorem dX0_passYear_56 : decode cX0_passYear 56 = .ok (.iconst 1, 1) := op_4 (rdSeg sd_21_cX0_passYear_1 24 rfl rfl)
theorem dX0_passYear_57 : decode cX0_passYear 57 = .ok (.bipush 100, 2) := op_16 (rdSeg sd_21_cX0_passYear_1 25 rfl rfl) (rdSeg sd_21_cX0_passYear_1 26 rfl rfl) (by decide +kernel)
theorem dX0_passYear_59 : decode cX0_passYear 59 = .ok (.invokevirtual 76, 3) := op_182 (rdSeg sd_21_cX0_passYear_1 27 rfl rfl) (rdSeg sd_21_cX0_passYear_1 28 rfl rfl) (rdSeg sd_21_cX0_passYear_1 29 rfl rfl) rfl
theorem dX0_passYear_62 : decode cX0_passYear 62 = .ok (.iinc 1 1, 3) := op_132 (rdSeg sd_21_cX0_passYear_1 30 rfl rfl) (rdSeg sd_21_cX0_passYear_1 31 rfl rfl) (rdSeg sd_21_cX0_passYear_2 0 rfl rfl) (by decide +kernel)
theorem dX0_passYear_65 : decode cX0_passYear 65 = .ok (.goto (-53), 3) := op_167 (rdSeg sd_21_cX0_passYear_2 1 rfl rfl) (rdSeg sd_21_cX0_passYear_2 2 rfl rfl) (rdSeg sd_21_cX0_passYear_2 3 rfl rfl) (by decide +kernel)
theorem dX0_passYear_68 : decode cX0_passYear 68 = .ok (.return_, 1) := op_177 (rdSeg sd_21_cX0_passYear_2 4 rfl rfl)
def sg_21_cX0_mostOf_2 : List UInt8 := [0x53, 0xa2, 0x00, 0x0a, 0x15, 0x05, 0x3e, 0x15, 0x07, 0x36, 0x04, 0x84, 0x05, 0x01, 0xa7, 0xff, 0xba, 0x1d, 0xac]
def sg_21_cX0_mostOf_1 : List UInt8 := 0x2a :: 0x15 :: 0x05 :: 0x1b :: 0xb6 :: 0x00 :: 0x58 :: 0xa7 :: 0x00 :: 0x04 :: 0x02 :: 0x36 :: 0x07 :: 0x15 :: 0x07 :: 0x15 :: 0x04 :: 0xa3 :: 0x00 :: 0x13 :: 0x15 :: 0x07 :: 0x15 :: 0x04 :: 0xa0 :: 0x00 :: 0x13 :: 0x15 :: 0x06 :: 0x1d :: 0xb8 :: 0x00 :: sg_21_cX0_mostOf_2
def sg_21_cX0_mostOf_0 : List UInt8 := 0x03 :: 0x3e :: 0x03 :: 0x36 :: 0x04 :: 0x04 :: 0x36 :: 0x05 :: 0x15 :: 0x05 :: 0x04 :: 0x2a :: 0xb4 :: 0x00 :: 0x13 :: 0x78 :: 0xa2 :: 0x00 :: 0x41 :: 0x15 :: 0x05 :: 0xb8 :: 0x00 :: 0x53 :: 0x36 :: 0x06 :: 0x15 :: 0x06 :: 0x1c :: 0xa3 :: 0x00 :: 0x0d :: sg_21_cX0_mostOf_1
set_option maxRecDepth 100000 in
theorem sd_21_cX0_mostOf_0 : cX0_mostOf.data.toList.drop 0 = sg_21_cX0_mostOf_0 := by decide +kernel
theorem sd_21_cX0_mostOf_1 : cX0_mostOf.data.toList.drop 32 = sg_21_cX0_mostOf_1 := sg_next sd_21_cX0_mostOf_0 rfl
theorem sd_21_cX0_mostOf_2 : cX0_mostOf.data.toList.drop 64 = sg_21_cX0_mostOf_2 := sg_next sd_21_cX0_mostOf_1 rfl
theorem dX0_mostOf_0 : decode cX0_mostOf 0 = .ok (.iconst 0, 1) := op_3 (rdSeg sd_21_cX0_mostOf_0 0 rfl rfl)
theorem dX0_mostOf_1 : decode cX0_mostOf 1 = .ok (.istore_n 3, 1) := op_62 (rdSeg sd_21_cX0_mostOf_0 1 rfl rfl)
theorem dX0_mostOf_2 : decode cX0_mostOf 2 = .ok (.iconst 0, 1) := op_3 (rdSeg sd_21_cX0_mostOf_0 2 rfl rfl)
theorem dX0_mostOf_3 : decode cX0_mostOf 3 = .ok (.istore 4, 2) := op_54 (rdSeg sd_21_cX0_mostOf_0 3 rfl rfl) (rdSeg sd_21_cX0_mostOf_0 4 rfl rfl)
theorem dX0_mostOf_5 : decode cX0_mostOf 5 = .ok (.iconst 1, 1) := op_4 (rdSeg sd_21_cX0_mostOf_0 5 rfl rfl)
theorem dX0_mostOf_6 : decode cX0_mostOf 6 = .ok (.istore 5, 2) := op_54 (rdSeg sd_21_cX0_mostOf_0 6 rfl rfl) (rdSeg sd_21_cX0_mostOf_0 7 rfl rfl)
theorem dX0_mostOf_8 : decode cX0_mostOf 8 = .ok (.iload 5, 2) := op_21 (rdSeg sd_21_cX0_mostOf_0 8 rfl rfl) (rdSeg sd_21_cX0_mostOf_0 9 rfl rfl)
theorem dX0_mostOf_10 : decode cX0_mostOf 10 = .ok (.iconst 1, 1) := op_4 (rdSeg sd_21_cX0_mostOf_0 10 rfl rfl)
theorem dX0_mostOf_11 : decode cX0_mostOf 11 = .ok (.aload_n 0, 1) := op_42 (rdSeg sd_21_cX0_mostOf_0 11 rfl rfl)
theorem dX0_mostOf_12 : decode cX0_mostOf 12 = .ok (.getfield 19, 3) := op_180 (rdSeg sd_21_cX0_mostOf_0 12 rfl rfl) (rdSeg sd_21_cX0_mostOf_0 13 rfl rfl) (rdSeg sd_21_cX0_mostOf_0 14 rfl rfl) rfl
theorem dX0_mostOf_15 : decode cX0_mostOf 15 = .ok (.ishl, 1) := op_120 (rdSeg sd_21_cX0_mostOf_0 15 rfl rfl)
theorem dX0_mostOf_16 : decode cX0_mostOf 16 = .ok (.if_icmp .ge 65, 3) := op_162 (rdSeg sd_21_cX0_mostOf_0 16 rfl rfl) (rdSeg sd_21_cX0_mostOf_0 17 rfl rfl) (rdSeg sd_21_cX0_mostOf_0 18 rfl rfl) (by decide +kernel)
theorem dX0_mostOf_19 : decode cX0_mostOf 19 = .ok (.iload 5, 2) := op_21 (rdSeg sd_21_cX0_mostOf_0 19 rfl rfl) (rdSeg sd_21_cX0_mostOf_0 20 rfl rfl)
theorem dX0_mostOf_21 : decode cX0_mostOf 21 = .ok (.invokestatic 83, 3) := op_184 (rdSeg sd_21_cX0_mostOf_0 21 rfl rfl) (rdSeg sd_21_cX0_mostOf_0 22 rfl rfl) (rdSeg sd_21_cX0_mostOf_0 23 rfl rfl) rfl
theorem dX0_mostOf_24 : decode cX0_mostOf 24 = .ok (.istore 6, 2) := op_54 (rdSeg sd_21_cX0_mostOf_0 24 rfl rfl) (rdSeg sd_21_cX0_mostOf_0 25 rfl rfl)
theorem dX0_mostOf_26 : decode cX0_mostOf 26 = .ok (.iload 6, 2) := op_21 (rdSeg sd_21_cX0_mostOf_0 26 rfl rfl) (rdSeg sd_21_cX0_mostOf_0 27 rfl rfl)
theorem dX0_mostOf_28 : decode cX0_mostOf 28 = .ok (.iload_n 2, 1) := op_28 (rdSeg sd_21_cX0_mostOf_0 28 rfl rfl)
theorem dX0_mostOf_29 : decode cX0_mostOf 29 = .ok (.if_icmp .gt 13, 3) := op_163 (rdSeg sd_21_cX0_mostOf_0 29 rfl rfl) (rdSeg sd_21_cX0_mostOf_0 30 rfl rfl) (rdSeg sd_21_cX0_mostOf_0 31 rfl rfl) (by decide +kernel)
theorem dX0_mostOf_32 : decode cX0_mostOf 32 = .ok (.aload_n 0, 1) := op_42 (rdSeg sd_21_cX0_mostOf_1 0 rfl rfl)
theorem dX0_mostOf_33 : decode cX0_mostOf 33 = .ok (.iload 5, 2) := op_21 (rdSeg sd_21_cX0_mostOf_1 1 rfl rfl) (rdSeg sd_21_cX0_mostOf_1 2 rfl rfl)
theorem dX0_mostOf_35 : decode cX0_mostOf 35 = .ok (.iload_n 1, 1) := op_27 (rdSeg sd_21_cX0_mostOf_1 3 rfl rfl)
theorem dX0_mostOf_36 : decode cX0_mostOf 36 = .ok (.invokevirtual 88, 3) := op_182 (rdSeg sd_21_cX0_mostOf_1 4 rfl rfl) (rdSeg sd_21_cX0_mostOf_1 5 rfl rfl) (rdSeg sd_21_cX0_mostOf_1 6 rfl rfl) rfl
theorem dX0_mostOf_39 : decode cX0_mostOf 39 = .ok (.goto 4, 3) := op_167 (rdSeg sd_21_cX0_mostOf_1 7 rfl rfl) (rdSeg sd_21_cX0_mostOf_1 8 rfl rfl) (rdSeg sd_21_cX0_mostOf_1 9 rfl rfl) (by decide +kernel)
theorem dX0_mostOf_42 : decode cX0_mostOf 42 = .ok (.iconst (-1), 1) := op_2 (rdSeg sd_21_cX0_mostOf_1 10 rfl rfl)
theorem dX0_mostOf_43 : decode cX0_mostOf 43 = .ok (.istore 7, 2) := op_54 (rdSeg sd_21_cX0_mostOf_1 11 rfl rfl) (rdSeg sd_21_cX0_mostOf_1 12 rfl rfl)
theorem dX0_mostOf_45 : decode cX0_mostOf 45 = .ok (.iload 7, 2) := op_21 (rdSeg sd_21_cX0_mostOf_1 13 rfl rfl) (rdSeg sd_21_cX0_mostOf_1 14 rfl rfl)
theorem dX0_mostOf_47 : decode cX0_mostOf 47 = .ok (.iload 4, 2) := op_21 (rdSeg sd_21_cX0_mostOf_1 15 rfl rfl) (rdSeg sd_21_cX0_mostOf_1 16 rfl rfl)
theorem dX0_mostOf_49 : decode cX0_mostOf 49 = .ok (.if_icmp .gt 19, 3) := op_163 (rdSeg sd_21_cX0_mostOf_1 17 rfl rfl) (rdSeg sd_21_cX0_mostOf_1 18 rfl rfl) (rdSeg sd_21_cX0_mostOf_1 19 rfl rfl) (by decide +kernel)
theorem dX0_mostOf_52 : decode cX0_mostOf 52 = .ok (.iload 7, 2) := op_21 (rdSeg sd_21_cX0_mostOf_1 20 rfl rfl) (rdSeg sd_21_cX0_mostOf_1 21 rfl rfl)
theorem dX0_mostOf_54 : decode cX0_mostOf 54 = .ok (.iload 4, 2) := op_21 (rdSeg sd_21_cX0_mostOf_1 22 rfl rfl) (rdSeg sd_21_cX0_mostOf_1 23 rfl rfl)
theorem dX0_mostOf_56 : decode cX0_mostOf 56 = .ok (.if_icmp .ne 19, 3) := op_160 (rdSeg sd_21_cX0_mostOf_1 24 rfl rfl) (rdSeg sd_21_cX0_mostOf_1 25 rfl rfl) (rdSeg sd_21_cX0_mostOf_1 26 rfl rfl) (by decide +kernel)
theorem dX0_mostOf_59 : decode cX0_mostOf 59 = .ok (.iload 6, 2) := op_21 (rdSeg sd_21_cX0_mostOf_1 27 rfl rfl) (rdSeg sd_21_cX0_mostOf_1 28 rfl rfl)
theorem dX0_mostOf_61 : decode cX0_mostOf 61 = .ok (.iload_n 3, 1) := op_29 (rdSeg sd_21_cX0_mostOf_1 29 rfl rfl)
theorem dX0_mostOf_62 : decode cX0_mostOf 62 = .ok (.invokestatic 83, 3) := op_184 (rdSeg sd_21_cX0_mostOf_1 30 rfl rfl) (rdSeg sd_21_cX0_mostOf_1 31 rfl rfl) (rdSeg sd_21_cX0_mostOf_2 0 rfl rfl) rfl
theorem dX0_mostOf_65 : decode cX0_mostOf 65 = .ok (.if_icmp .ge 10, 3) := op_162 (rdSeg sd_21_cX0_mostOf_2 1 rfl rfl) (rdSeg sd_21_cX0_mostOf_2 2 rfl rfl) (rdSeg sd_21_cX0_mostOf_2 3 rfl rfl) (by decide +kernel)
theorem dX0_mostOf_68 : decode cX0_mostOf 68 = .ok (.iload 5, 2) := op_21 (rdSeg sd_21_cX0_mostOf_2 4 rfl rfl) (rdSeg sd_21_cX0_mostOf_2 5 rfl rfl)
theorem dX0_mostOf_70 : decode cX0_mostOf 70 = .ok (.istore_n 3, 1) := op_62 (rdSeg sd_21_cX0_mostOf_2 6 rfl rfl)
theorem dX0_mostOf_71 : decode cX0_mostOf 71 = .ok (.iload 7, 2) := op_21 (rdSeg sd_21_cX0_mostOf_2 7 rfl rfl) (rdSeg sd_21_cX0_mostOf_2 8 rfl rfl)
theorem dX0_mostOf_73 : decode cX0_mostOf 73 = .ok (.istore 4, 2) := op_54 (rdSeg sd_21_cX0_mostOf_2 9 rfl rfl) (rdSeg sd_21_cX0_mostOf_2 10 rfl rfl)
theorem dX0_mostOf_75 : decode cX0_mostOf 75 = .ok (.iinc 5 1, 3) := op_132 (rdSeg sd_21_cX0_mostOf_2 11 rfl rfl) (rdSeg sd_21_cX0_mostOf_2 12 rfl rfl) (rdSeg sd_21_cX0_mostOf_2 13 rfl rfl) (by decide +kernel)
theorem dX0_mostOf_78 : decode cX0_mostOf 78 = .ok (.goto (-70), 3) := op_167 (rdSeg sd_21_cX0_mostOf_2 14 rfl rfl) (rdSeg sd_21_cX0_mostOf_2 15 rfl rfl) (rdSeg sd_21_cX0_mostOf_2 16 rfl rfl) (by decide +kernel)
theorem dX0_mostOf_81 : decode cX0_mostOf 81 = .ok (.iload_n 3, 1) := op_29 (rdSeg sd_21_cX0_mostOf_2 17 rfl rfl)
theorem dX0_mostOf_82 : decode cX0_mostOf 82 = .ok (.ireturn, 1) := op_172 (rdSeg sd_21_cX0_mostOf_2 18 rfl rfl)
def sg_21_cX0_together_2 : List UInt8 := [0x37, 0x05, 0x84, 0x07, 0x01, 0xa7, 0xff, 0xc3, 0x16, 0x05, 0x09, 0x94, 0x9a, 0x00, 0x07, 0x02, 0xa7, 0x00, 0x09, 0x21, 0x16, 0x05, 0xb8, 0x00, 0x42, 0xac]
def sg_21_cX0_together_1 : List UInt8 := 0x04 :: 0xa0 :: 0x00 :: 0x21 :: 0x15 :: 0x08 :: 0x9a :: 0x00 :: 0x05 :: 0x02 :: 0xac :: 0x21 :: 0x15 :: 0x08 :: 0x85 :: 0x2a :: 0x15 :: 0x07 :: 0x1c :: 0xb6 :: 0x00 :: 0x24 :: 0x85 :: 0x69 :: 0x61 :: 0x42 :: 0x16 :: 0x05 :: 0x15 :: 0x08 :: 0x85 :: 0x61 :: sg_21_cX0_together_2
def sg_21_cX0_together_0 : List UInt8 := 0x09 :: 0x42 :: 0x09 :: 0x37 :: 0x05 :: 0x03 :: 0x36 :: 0x07 :: 0x15 :: 0x07 :: 0x2a :: 0xb4 :: 0x00 :: 0x13 :: 0xa2 :: 0x00 :: 0x3a :: 0x2a :: 0x15 :: 0x07 :: 0x05 :: 0xb6 :: 0x00 :: 0x24 :: 0x36 :: 0x08 :: 0x1b :: 0x15 :: 0x07 :: 0x7a :: 0x04 :: 0x7e :: sg_21_cX0_together_1
set_option maxRecDepth 100000 in
theorem sd_21_cX0_together_0 : cX0_together.data.toList.drop 0 = sg_21_cX0_together_0 := by decide +kernel
theorem sd_21_cX0_together_1 : cX0_together.data.toList.drop 32 = sg_21_cX0_together_1 := sg_next sd_21_cX0_together_0 rfl
theorem sd_21_cX0_together_2 : cX0_together.data.toList.drop 64 = sg_21_cX0_together_2 := sg_next sd_21_cX0_together_1 rfl
theorem dX0_together_0 : decode cX0_together 0 = .ok (.lconst 0, 1) := op_9 (rdSeg sd_21_cX0_together_0 0 rfl rfl)
theorem dX0_together_1 : decode cX0_together 1 = .ok (.lstore_n 3, 1) := op_66 (rdSeg sd_21_cX0_together_0 1 rfl rfl)
theorem dX0_together_2 : decode cX0_together 2 = .ok (.lconst 0, 1) := op_9 (rdSeg sd_21_cX0_together_0 2 rfl rfl)
theorem dX0_together_3 : decode cX0_together 3 = .ok (.lstore 5, 2) := op_55 (rdSeg sd_21_cX0_together_0 3 rfl rfl) (rdSeg sd_21_cX0_together_0 4 rfl rfl)
theorem dX0_together_5 : decode cX0_together 5 = .ok (.iconst 0, 1) := op_3 (rdSeg sd_21_cX0_together_0 5 rfl rfl)
theorem dX0_together_6 : decode cX0_together 6 = .ok (.istore 7, 2) := op_54 (rdSeg sd_21_cX0_together_0 6 rfl rfl) (rdSeg sd_21_cX0_together_0 7 rfl rfl)
theorem dX0_together_8 : decode cX0_together 8 = .ok (.iload 7, 2) := op_21 (rdSeg sd_21_cX0_together_0 8 rfl rfl) (rdSeg sd_21_cX0_together_0 9 rfl rfl)
theorem dX0_together_10 : decode cX0_together 10 = .ok (.aload_n 0, 1) := op_42 (rdSeg sd_21_cX0_together_0 10 rfl rfl)
theorem dX0_together_11 : decode cX0_together 11 = .ok (.getfield 19, 3) := op_180 (rdSeg sd_21_cX0_together_0 11 rfl rfl) (rdSeg sd_21_cX0_together_0 12 rfl rfl) (rdSeg sd_21_cX0_together_0 13 rfl rfl) rfl
theorem dX0_together_14 : decode cX0_together 14 = .ok (.if_icmp .ge 58, 3) := op_162 (rdSeg sd_21_cX0_together_0 14 rfl rfl) (rdSeg sd_21_cX0_together_0 15 rfl rfl) (rdSeg sd_21_cX0_together_0 16 rfl rfl) (by decide +kernel)
theorem dX0_together_17 : decode cX0_together 17 = .ok (.aload_n 0, 1) := op_42 (rdSeg sd_21_cX0_together_0 17 rfl rfl)
theorem dX0_together_18 : decode cX0_together 18 = .ok (.iload 7, 2) := op_21 (rdSeg sd_21_cX0_together_0 18 rfl rfl) (rdSeg sd_21_cX0_together_0 19 rfl rfl)
theorem dX0_together_20 : decode cX0_together 20 = .ok (.iconst 2, 1) := op_5 (rdSeg sd_21_cX0_together_0 20 rfl rfl)
theorem dX0_together_21 : decode cX0_together 21 = .ok (.invokevirtual 36, 3) := op_182 (rdSeg sd_21_cX0_together_0 21 rfl rfl) (rdSeg sd_21_cX0_together_0 22 rfl rfl) (rdSeg sd_21_cX0_together_0 23 rfl rfl) rfl
theorem dX0_together_24 : decode cX0_together 24 = .ok (.istore 8, 2) := op_54 (rdSeg sd_21_cX0_together_0 24 rfl rfl) (rdSeg sd_21_cX0_together_0 25 rfl rfl)
theorem dX0_together_26 : decode cX0_together 26 = .ok (.iload_n 1, 1) := op_27 (rdSeg sd_21_cX0_together_0 26 rfl rfl)
theorem dX0_together_27 : decode cX0_together 27 = .ok (.iload 7, 2) := op_21 (rdSeg sd_21_cX0_together_0 27 rfl rfl) (rdSeg sd_21_cX0_together_0 28 rfl rfl)
theorem dX0_together_29 : decode cX0_together 29 = .ok (.ishr, 1) := op_122 (rdSeg sd_21_cX0_together_0 29 rfl rfl)
theorem dX0_together_30 : decode cX0_together 30 = .ok (.iconst 1, 1) := op_4 (rdSeg sd_21_cX0_together_0 30 rfl rfl)
theorem dX0_together_31 : decode cX0_together 31 = .ok (.iand, 1) := op_126 (rdSeg sd_21_cX0_together_0 31 rfl rfl)
theorem dX0_together_32 : decode cX0_together 32 = .ok (.iconst 1, 1) := op_4 (rdSeg sd_21_cX0_together_1 0 rfl rfl)
theorem dX0_together_33 : decode cX0_together 33 = .ok (.if_icmp .ne 33, 3) := op_160 (rdSeg sd_21_cX0_together_1 1 rfl rfl) (rdSeg sd_21_cX0_together_1 2 rfl rfl) (rdSeg sd_21_cX0_together_1 3 rfl rfl) (by decide +kernel)
theorem dX0_together_36 : decode cX0_together 36 = .ok (.iload 8, 2) := op_21 (rdSeg sd_21_cX0_together_1 4 rfl rfl) (rdSeg sd_21_cX0_together_1 5 rfl rfl)
theorem dX0_together_38 : decode cX0_together 38 = .ok (.ifCond .ne 5, 3) := op_154 (rdSeg sd_21_cX0_together_1 6 rfl rfl) (rdSeg sd_21_cX0_together_1 7 rfl rfl) (rdSeg sd_21_cX0_together_1 8 rfl rfl) (by decide +kernel)
theorem dX0_together_41 : decode cX0_together 41 = .ok (.iconst (-1), 1) := op_2 (rdSeg sd_21_cX0_together_1 9 rfl rfl)
theorem dX0_together_42 : decode cX0_together 42 = .ok (.ireturn, 1) := op_172 (rdSeg sd_21_cX0_together_1 10 rfl rfl)
theorem dX0_together_43 : decode cX0_together 43 = .ok (.lload_n 3, 1) := op_33 (rdSeg sd_21_cX0_together_1 11 rfl rfl)
theorem dX0_together_44 : decode cX0_together 44 = .ok (.iload 8, 2) := op_21 (rdSeg sd_21_cX0_together_1 12 rfl rfl) (rdSeg sd_21_cX0_together_1 13 rfl rfl)
theorem dX0_together_46 : decode cX0_together 46 = .ok (.i2l, 1) := op_133 (rdSeg sd_21_cX0_together_1 14 rfl rfl)
theorem dX0_together_47 : decode cX0_together 47 = .ok (.aload_n 0, 1) := op_42 (rdSeg sd_21_cX0_together_1 15 rfl rfl)
theorem dX0_together_48 : decode cX0_together 48 = .ok (.iload 7, 2) := op_21 (rdSeg sd_21_cX0_together_1 16 rfl rfl) (rdSeg sd_21_cX0_together_1 17 rfl rfl)
theorem dX0_together_50 : decode cX0_together 50 = .ok (.iload_n 2, 1) := op_28 (rdSeg sd_21_cX0_together_1 18 rfl rfl)
theorem dX0_together_51 : decode cX0_together 51 = .ok (.invokevirtual 36, 3) := op_182 (rdSeg sd_21_cX0_together_1 19 rfl rfl) (rdSeg sd_21_cX0_together_1 20 rfl rfl) (rdSeg sd_21_cX0_together_1 21 rfl rfl) rfl
theorem dX0_together_54 : decode cX0_together 54 = .ok (.i2l, 1) := op_133 (rdSeg sd_21_cX0_together_1 22 rfl rfl)
theorem dX0_together_55 : decode cX0_together 55 = .ok (.lmul, 1) := op_105 (rdSeg sd_21_cX0_together_1 23 rfl rfl)
theorem dX0_together_56 : decode cX0_together 56 = .ok (.ladd, 1) := op_97 (rdSeg sd_21_cX0_together_1 24 rfl rfl)
theorem dX0_together_57 : decode cX0_together 57 = .ok (.lstore_n 3, 1) := op_66 (rdSeg sd_21_cX0_together_1 25 rfl rfl)
theorem dX0_together_58 : decode cX0_together 58 = .ok (.lload 5, 2) := op_22 (rdSeg sd_21_cX0_together_1 26 rfl rfl) (rdSeg sd_21_cX0_together_1 27 rfl rfl)
theorem dX0_together_60 : decode cX0_together 60 = .ok (.iload 8, 2) := op_21 (rdSeg sd_21_cX0_together_1 28 rfl rfl) (rdSeg sd_21_cX0_together_1 29 rfl rfl)
theorem dX0_together_62 : decode cX0_together 62 = .ok (.i2l, 1) := op_133 (rdSeg sd_21_cX0_together_1 30 rfl rfl)
theorem dX0_together_63 : decode cX0_together 63 = .ok (.ladd, 1) := op_97 (rdSeg sd_21_cX0_together_1 31 rfl rfl)
theorem dX0_together_64 : decode cX0_together 64 = .ok (.lstore 5, 2) := op_55 (rdSeg sd_21_cX0_together_2 0 rfl rfl) (rdSeg sd_21_cX0_together_2 1 rfl rfl)
theorem dX0_together_66 : decode cX0_together 66 = .ok (.iinc 7 1, 3) := op_132 (rdSeg sd_21_cX0_together_2 2 rfl rfl) (rdSeg sd_21_cX0_together_2 3 rfl rfl) (rdSeg sd_21_cX0_together_2 4 rfl rfl) (by decide +kernel)
theorem dX0_together_69 : decode cX0_together 69 = .ok (.goto (-61), 3) := op_167 (rdSeg sd_21_cX0_together_2 5 rfl rfl) (rdSeg sd_21_cX0_together_2 6 rfl rfl) (rdSeg sd_21_cX0_together_2 7 rfl rfl) (by decide +kernel)
theorem dX0_together_72 : decode cX0_together 72 = .ok (.lload 5, 2) := op_22 (rdSeg sd_21_cX0_together_2 8 rfl rfl) (rdSeg sd_21_cX0_together_2 9 rfl rfl)
theorem dX0_together_74 : decode cX0_together 74 = .ok (.lconst 0, 1) := op_9 (rdSeg sd_21_cX0_together_2 10 rfl rfl)
theorem dX0_together_75 : decode cX0_together 75 = .ok (.lcmp, 1) := op_148 (rdSeg sd_21_cX0_together_2 11 rfl rfl)
theorem dX0_together_76 : decode cX0_together 76 = .ok (.ifCond .ne 7, 3) := op_154 (rdSeg sd_21_cX0_together_2 12 rfl rfl) (rdSeg sd_21_cX0_together_2 13 rfl rfl) (rdSeg sd_21_cX0_together_2 14 rfl rfl) (by decide +kernel)
theorem dX0_together_79 : decode cX0_together 79 = .ok (.iconst (-1), 1) := op_2 (rdSeg sd_21_cX0_together_2 15 rfl rfl)
theorem dX0_together_80 : decode cX0_together 80 = .ok (.goto 9, 3) := op_167 (rdSeg sd_21_cX0_together_2 16 rfl rfl) (rdSeg sd_21_cX0_together_2 17 rfl rfl) (rdSeg sd_21_cX0_together_2 18 rfl rfl) (by decide +kernel)
theorem dX0_together_83 : decode cX0_together 83 = .ok (.lload_n 3, 1) := op_33 (rdSeg sd_21_cX0_together_2 19 rfl rfl)
theorem dX0_together_84 : decode cX0_together 84 = .ok (.lload 5, 2) := op_22 (rdSeg sd_21_cX0_together_2 20 rfl rfl) (rdSeg sd_21_cX0_together_2 21 rfl rfl)
theorem dX0_together_86 : decode cX0_together 86 = .ok (.invokestatic 66, 3) := op_184 (rdSeg sd_21_cX0_together_2 22 rfl rfl) (rdSeg sd_21_cX0_together_2 23 rfl rfl) (rdSeg sd_21_cX0_together_2 24 rfl rfl) rfl
theorem dX0_together_89 : decode cX0_together 89 = .ok (.ireturn, 1) := op_172 (rdSeg sd_21_cX0_together_2 25 rfl rfl)
def sg_21_cX1_init_3 : List UInt8 := [0xb5, 0x00, 0x27, 0x2a, 0xbb, 0x00, 0x12, 0x59, 0x10, 0x3c, 0x04, 0xb7, 0x00, 0x14, 0xb5, 0x00, 0x2a, 0x2a, 0xbb, 0x00, 0x2d, 0x59, 0xb7, 0x00, 0x2f, 0xb5, 0x00, 0x30, 0xb1]
def sg_21_cX1_init_2 : List UInt8 := 0x06 :: 0xb7 :: 0x00 :: 0x14 :: 0xb5 :: 0x00 :: 0x21 :: 0x2a :: 0xbb :: 0x00 :: 0x12 :: 0x59 :: 0x10 :: 0x18 :: 0x04 :: 0xb7 :: 0x00 :: 0x14 :: 0xb5 :: 0x00 :: 0x24 :: 0x2a :: 0xbb :: 0x00 :: 0x12 :: 0x59 :: 0x10 :: 0x3c :: 0x04 :: 0xb7 :: 0x00 :: 0x14 :: sg_21_cX1_init_3
def sg_21_cX1_init_1 : List UInt8 := 0x12 :: 0x59 :: 0x10 :: 0x0a :: 0x05 :: 0xb7 :: 0x00 :: 0x14 :: 0xb5 :: 0x00 :: 0x1b :: 0x2a :: 0xbb :: 0x00 :: 0x12 :: 0x59 :: 0x10 :: 0x06 :: 0x06 :: 0xb7 :: 0x00 :: 0x14 :: 0xb5 :: 0x00 :: 0x1e :: 0x2a :: 0xbb :: 0x00 :: 0x12 :: 0x59 :: 0x10 :: 0x08 :: sg_21_cX1_init_2
def sg_21_cX1_init_0 : List UInt8 := 0x2a :: 0xb7 :: 0x00 :: 0x03 :: 0x2a :: 0xbb :: 0x00 :: 0x09 :: 0x59 :: 0xb7 :: 0x00 :: 0x0b :: 0xb5 :: 0x00 :: 0x0c :: 0x2a :: 0xbb :: 0x00 :: 0x12 :: 0x59 :: 0x10 :: 0x3c :: 0x04 :: 0xb7 :: 0x00 :: 0x14 :: 0xb5 :: 0x00 :: 0x17 :: 0x2a :: 0xbb :: 0x00 :: sg_21_cX1_init_1
set_option maxRecDepth 100000 in
theorem sd_21_cX1_init_0 : cX1_init.data.toList.drop 0 = sg_21_cX1_init_0 := by decide +kernel
theorem sd_21_cX1_init_1 : cX1_init.data.toList.drop 32 = sg_21_cX1_init_1 := sg_next sd_21_cX1_init_0 rfl
theorem sd_21_cX1_init_2 : cX1_init.data.toList.drop 64 = sg_21_cX1_init_2 := sg_next sd_21_cX1_init_1 rfl
theorem sd_21_cX1_init_3 : cX1_init.data.toList.drop 96 = sg_21_cX1_init_3 := sg_next sd_21_cX1_init_2 rfl
theorem dX1_init_0 : decode cX1_init 0 = .ok (.aload_n 0, 1) := op_42 (rdSeg sd_21_cX1_init_0 0 rfl rfl)
theorem dX1_init_1 : decode cX1_init 1 = .ok (.invokespecial 3, 3) := op_183 (rdSeg sd_21_cX1_init_0 1 rfl rfl) (rdSeg sd_21_cX1_init_0 2 rfl rfl) (rdSeg sd_21_cX1_init_0 3 rfl rfl) rfl
theorem dX1_init_4 : decode cX1_init 4 = .ok (.aload_n 0, 1) := op_42 (rdSeg sd_21_cX1_init_0 4 rfl rfl)
theorem dX1_init_5 : decode cX1_init 5 = .ok (.new 9, 3) := op_187 (rdSeg sd_21_cX1_init_0 5 rfl rfl) (rdSeg sd_21_cX1_init_0 6 rfl rfl) (rdSeg sd_21_cX1_init_0 7 rfl rfl) rfl
theorem dX1_init_8 : decode cX1_init 8 = .ok (.dup, 1) := op_89 (rdSeg sd_21_cX1_init_0 8 rfl rfl)
theorem dX1_init_9 : decode cX1_init 9 = .ok (.invokespecial 11, 3) := op_183 (rdSeg sd_21_cX1_init_0 9 rfl rfl) (rdSeg sd_21_cX1_init_0 10 rfl rfl) (rdSeg sd_21_cX1_init_0 11 rfl rfl) rfl
theorem dX1_init_12 : decode cX1_init 12 = .ok (.putfield 12, 3) := op_181 (rdSeg sd_21_cX1_init_0 12 rfl rfl) (rdSeg sd_21_cX1_init_0 13 rfl rfl) (rdSeg sd_21_cX1_init_0 14 rfl rfl) rfl
theorem dX1_init_15 : decode cX1_init 15 = .ok (.aload_n 0, 1) := op_42 (rdSeg sd_21_cX1_init_0 15 rfl rfl)
theorem dX1_init_16 : decode cX1_init 16 = .ok (.new 18, 3) := op_187 (rdSeg sd_21_cX1_init_0 16 rfl rfl) (rdSeg sd_21_cX1_init_0 17 rfl rfl) (rdSeg sd_21_cX1_init_0 18 rfl rfl) rfl
theorem dX1_init_19 : decode cX1_init 19 = .ok (.dup, 1) := op_89 (rdSeg sd_21_cX1_init_0 19 rfl rfl)
theorem dX1_init_20 : decode cX1_init 20 = .ok (.bipush 60, 2) := op_16 (rdSeg sd_21_cX1_init_0 20 rfl rfl) (rdSeg sd_21_cX1_init_0 21 rfl rfl) (by decide +kernel)
theorem dX1_init_22 : decode cX1_init 22 = .ok (.iconst 1, 1) := op_4 (rdSeg sd_21_cX1_init_0 22 rfl rfl)
theorem dX1_init_23 : decode cX1_init 23 = .ok (.invokespecial 20, 3) := op_183 (rdSeg sd_21_cX1_init_0 23 rfl rfl) (rdSeg sd_21_cX1_init_0 24 rfl rfl) (rdSeg sd_21_cX1_init_0 25 rfl rfl) rfl
theorem dX1_init_26 : decode cX1_init 26 = .ok (.putfield 23, 3) := op_181 (rdSeg sd_21_cX1_init_0 26 rfl rfl) (rdSeg sd_21_cX1_init_0 27 rfl rfl) (rdSeg sd_21_cX1_init_0 28 rfl rfl) rfl
theorem dX1_init_29 : decode cX1_init 29 = .ok (.aload_n 0, 1) := op_42 (rdSeg sd_21_cX1_init_0 29 rfl rfl)
theorem dX1_init_30 : decode cX1_init 30 = .ok (.new 18, 3) := op_187 (rdSeg sd_21_cX1_init_0 30 rfl rfl) (rdSeg sd_21_cX1_init_0 31 rfl rfl) (rdSeg sd_21_cX1_init_1 0 rfl rfl) rfl
theorem dX1_init_33 : decode cX1_init 33 = .ok (.dup, 1) := op_89 (rdSeg sd_21_cX1_init_1 1 rfl rfl)
theorem dX1_init_34 : decode cX1_init 34 = .ok (.bipush 10, 2) := op_16 (rdSeg sd_21_cX1_init_1 2 rfl rfl) (rdSeg sd_21_cX1_init_1 3 rfl rfl) (by decide +kernel)
theorem dX1_init_36 : decode cX1_init 36 = .ok (.iconst 2, 1) := op_5 (rdSeg sd_21_cX1_init_1 4 rfl rfl)
theorem dX1_init_37 : decode cX1_init 37 = .ok (.invokespecial 20, 3) := op_183 (rdSeg sd_21_cX1_init_1 5 rfl rfl) (rdSeg sd_21_cX1_init_1 6 rfl rfl) (rdSeg sd_21_cX1_init_1 7 rfl rfl) rfl
theorem dX1_init_40 : decode cX1_init 40 = .ok (.putfield 27, 3) := op_181 (rdSeg sd_21_cX1_init_1 8 rfl rfl) (rdSeg sd_21_cX1_init_1 9 rfl rfl) (rdSeg sd_21_cX1_init_1 10 rfl rfl) rfl
theorem dX1_init_43 : decode cX1_init 43 = .ok (.aload_n 0, 1) := op_42 (rdSeg sd_21_cX1_init_1 11 rfl rfl)
theorem dX1_init_44 : decode cX1_init 44 = .ok (.new 18, 3) := op_187 (rdSeg sd_21_cX1_init_1 12 rfl rfl) (rdSeg sd_21_cX1_init_1 13 rfl rfl) (rdSeg sd_21_cX1_init_1 14 rfl rfl) rfl
theorem dX1_init_47 : decode cX1_init 47 = .ok (.dup, 1) := op_89 (rdSeg sd_21_cX1_init_1 15 rfl rfl)
theorem dX1_init_48 : decode cX1_init 48 = .ok (.bipush 6, 2) := op_16 (rdSeg sd_21_cX1_init_1 16 rfl rfl) (rdSeg sd_21_cX1_init_1 17 rfl rfl) (by decide +kernel)
theorem dX1_init_50 : decode cX1_init 50 = .ok (.iconst 3, 1) := op_6 (rdSeg sd_21_cX1_init_1 18 rfl rfl)
theorem dX1_init_51 : decode cX1_init 51 = .ok (.invokespecial 20, 3) := op_183 (rdSeg sd_21_cX1_init_1 19 rfl rfl) (rdSeg sd_21_cX1_init_1 20 rfl rfl) (rdSeg sd_21_cX1_init_1 21 rfl rfl) rfl
theorem dX1_init_54 : decode cX1_init 54 = .ok (.putfield 30, 3) := op_181 (rdSeg sd_21_cX1_init_1 22 rfl rfl) (rdSeg sd_21_cX1_init_1 23 rfl rfl) (rdSeg sd_21_cX1_init_1 24 rfl rfl) rfl
theorem dX1_init_57 : decode cX1_init 57 = .ok (.aload_n 0, 1) := op_42 (rdSeg sd_21_cX1_init_1 25 rfl rfl)
theorem dX1_init_58 : decode cX1_init 58 = .ok (.new 18, 3) := op_187 (rdSeg sd_21_cX1_init_1 26 rfl rfl) (rdSeg sd_21_cX1_init_1 27 rfl rfl) (rdSeg sd_21_cX1_init_1 28 rfl rfl) rfl
theorem dX1_init_61 : decode cX1_init 61 = .ok (.dup, 1) := op_89 (rdSeg sd_21_cX1_init_1 29 rfl rfl)
theorem dX1_init_62 : decode cX1_init 62 = .ok (.bipush 8, 2) := op_16 (rdSeg sd_21_cX1_init_1 30 rfl rfl) (rdSeg sd_21_cX1_init_1 31 rfl rfl) (by decide +kernel)
theorem dX1_init_64 : decode cX1_init 64 = .ok (.iconst 3, 1) := op_6 (rdSeg sd_21_cX1_init_2 0 rfl rfl)
theorem dX1_init_65 : decode cX1_init 65 = .ok (.invokespecial 20, 3) := op_183 (rdSeg sd_21_cX1_init_2 1 rfl rfl) (rdSeg sd_21_cX1_init_2 2 rfl rfl) (rdSeg sd_21_cX1_init_2 3 rfl rfl) rfl
theorem dX1_init_68 : decode cX1_init 68 = .ok (.putfield 33, 3) := op_181 (rdSeg sd_21_cX1_init_2 4 rfl rfl) (rdSeg sd_21_cX1_init_2 5 rfl rfl) (rdSeg sd_21_cX1_init_2 6 rfl rfl) rfl
theorem dX1_init_71 : decode cX1_init 71 = .ok (.aload_n 0, 1) := op_42 (rdSeg sd_21_cX1_init_2 7 rfl rfl)
theorem dX1_init_72 : decode cX1_init 72 = .ok (.new 18, 3) := op_187 (rdSeg sd_21_cX1_init_2 8 rfl rfl) (rdSeg sd_21_cX1_init_2 9 rfl rfl) (rdSeg sd_21_cX1_init_2 10 rfl rfl) rfl
theorem dX1_init_75 : decode cX1_init 75 = .ok (.dup, 1) := op_89 (rdSeg sd_21_cX1_init_2 11 rfl rfl)
theorem dX1_init_76 : decode cX1_init 76 = .ok (.bipush 24, 2) := op_16 (rdSeg sd_21_cX1_init_2 12 rfl rfl) (rdSeg sd_21_cX1_init_2 13 rfl rfl) (by decide +kernel)
theorem dX1_init_78 : decode cX1_init 78 = .ok (.iconst 1, 1) := op_4 (rdSeg sd_21_cX1_init_2 14 rfl rfl)
theorem dX1_init_79 : decode cX1_init 79 = .ok (.invokespecial 20, 3) := op_183 (rdSeg sd_21_cX1_init_2 15 rfl rfl) (rdSeg sd_21_cX1_init_2 16 rfl rfl) (rdSeg sd_21_cX1_init_2 17 rfl rfl) rfl
theorem dX1_init_82 : decode cX1_init 82 = .ok (.putfield 36, 3) := op_181 (rdSeg sd_21_cX1_init_2 18 rfl rfl) (rdSeg sd_21_cX1_init_2 19 rfl rfl) (rdSeg sd_21_cX1_init_2 20 rfl rfl) rfl
theorem dX1_init_85 : decode cX1_init 85 = .ok (.aload_n 0, 1) := op_42 (rdSeg sd_21_cX1_init_2 21 rfl rfl)
theorem dX1_init_86 : decode cX1_init 86 = .ok (.new 18, 3) := op_187 (rdSeg sd_21_cX1_init_2 22 rfl rfl) (rdSeg sd_21_cX1_init_2 23 rfl rfl) (rdSeg sd_21_cX1_init_2 24 rfl rfl) rfl
theorem dX1_init_89 : decode cX1_init 89 = .ok (.dup, 1) := op_89 (rdSeg sd_21_cX1_init_2 25 rfl rfl)
theorem dX1_init_90 : decode cX1_init 90 = .ok (.bipush 60, 2) := op_16 (rdSeg sd_21_cX1_init_2 26 rfl rfl) (rdSeg sd_21_cX1_init_2 27 rfl rfl) (by decide +kernel)
theorem dX1_init_92 : decode cX1_init 92 = .ok (.iconst 1, 1) := op_4 (rdSeg sd_21_cX1_init_2 28 rfl rfl)
theorem dX1_init_93 : decode cX1_init 93 = .ok (.invokespecial 20, 3) := op_183 (rdSeg sd_21_cX1_init_2 29 rfl rfl) (rdSeg sd_21_cX1_init_2 30 rfl rfl) (rdSeg sd_21_cX1_init_2 31 rfl rfl) rfl
theorem dX1_init_96 : decode cX1_init 96 = .ok (.putfield 39, 3) := op_181 (rdSeg sd_21_cX1_init_3 0 rfl rfl) (rdSeg sd_21_cX1_init_3 1 rfl rfl) (rdSeg sd_21_cX1_init_3 2 rfl rfl) rfl
theorem dX1_init_99 : decode cX1_init 99 = .ok (.aload_n 0, 1) := op_42 (rdSeg sd_21_cX1_init_3 3 rfl rfl)
theorem dX1_init_100 : decode cX1_init 100 = .ok (.new 18, 3) := op_187 (rdSeg sd_21_cX1_init_3 4 rfl rfl) (rdSeg sd_21_cX1_init_3 5 rfl rfl) (rdSeg sd_21_cX1_init_3 6 rfl rfl) rfl
theorem dX1_init_103 : decode cX1_init 103 = .ok (.dup, 1) := op_89 (rdSeg sd_21_cX1_init_3 7 rfl rfl)
theorem dX1_init_104 : decode cX1_init 104 = .ok (.bipush 60, 2) := op_16 (rdSeg sd_21_cX1_init_3 8 rfl rfl) (rdSeg sd_21_cX1_init_3 9 rfl rfl) (by decide +kernel)
theorem dX1_init_106 : decode cX1_init 106 = .ok (.iconst 1, 1) := op_4 (rdSeg sd_21_cX1_init_3 10 rfl rfl)
theorem dX1_init_107 : decode cX1_init 107 = .ok (.invokespecial 20, 3) := op_183 (rdSeg sd_21_cX1_init_3 11 rfl rfl) (rdSeg sd_21_cX1_init_3 12 rfl rfl) (rdSeg sd_21_cX1_init_3 13 rfl rfl) rfl
theorem dX1_init_110 : decode cX1_init 110 = .ok (.putfield 42, 3) := op_181 (rdSeg sd_21_cX1_init_3 14 rfl rfl) (rdSeg sd_21_cX1_init_3 15 rfl rfl) (rdSeg sd_21_cX1_init_3 16 rfl rfl) rfl
theorem dX1_init_113 : decode cX1_init 113 = .ok (.aload_n 0, 1) := op_42 (rdSeg sd_21_cX1_init_3 17 rfl rfl)
theorem dX1_init_114 : decode cX1_init 114 = .ok (.new 45, 3) := op_187 (rdSeg sd_21_cX1_init_3 18 rfl rfl) (rdSeg sd_21_cX1_init_3 19 rfl rfl) (rdSeg sd_21_cX1_init_3 20 rfl rfl) rfl
theorem dX1_init_117 : decode cX1_init 117 = .ok (.dup, 1) := op_89 (rdSeg sd_21_cX1_init_3 21 rfl rfl)
theorem dX1_init_118 : decode cX1_init 118 = .ok (.invokespecial 47, 3) := op_183 (rdSeg sd_21_cX1_init_3 22 rfl rfl) (rdSeg sd_21_cX1_init_3 23 rfl rfl) (rdSeg sd_21_cX1_init_3 24 rfl rfl) rfl
theorem dX1_init_121 : decode cX1_init 121 = .ok (.putfield 48, 3) := op_181 (rdSeg sd_21_cX1_init_3 25 rfl rfl) (rdSeg sd_21_cX1_init_3 26 rfl rfl) (rdSeg sd_21_cX1_init_3 27 rfl rfl) rfl
theorem dX1_init_124 : decode cX1_init 124 = .ok (.return_, 1) := op_177 (rdSeg sd_21_cX1_init_3 28 rfl rfl)
def sg_21_cX1_copyFrom_2 : List UInt8 := [0x00, 0x38, 0x2a, 0xb4, 0x00, 0x27, 0x2b, 0xb4, 0x00, 0x27, 0xb6, 0x00, 0x38, 0x2a, 0xb4, 0x00, 0x2a, 0x2b, 0xb4, 0x00, 0x2a, 0xb6, 0x00, 0x38, 0xb1]
def sg_21_cX1_copyFrom_1 : List UInt8 := 0x38 :: 0x2a :: 0xb4 :: 0x00 :: 0x1e :: 0x2b :: 0xb4 :: 0x00 :: 0x1e :: 0xb6 :: 0x00 :: 0x38 :: 0x2a :: 0xb4 :: 0x00 :: 0x21 :: 0x2b :: 0xb4 :: 0x00 :: 0x21 :: 0xb6 :: 0x00 :: 0x38 :: 0x2a :: 0xb4 :: 0x00 :: 0x24 :: 0x2b :: 0xb4 :: 0x00 :: 0x24 :: 0xb6 :: sg_21_cX1_copyFrom_2
def sg_21_cX1_copyFrom_0 : List UInt8 := 0x2a :: 0xb4 :: 0x00 :: 0x0c :: 0x2b :: 0xb4 :: 0x00 :: 0x0c :: 0xb6 :: 0x00 :: 0x34 :: 0x2a :: 0xb4 :: 0x00 :: 0x17 :: 0x2b :: 0xb4 :: 0x00 :: 0x17 :: 0xb6 :: 0x00 :: 0x38 :: 0x2a :: 0xb4 :: 0x00 :: 0x1b :: 0x2b :: 0xb4 :: 0x00 :: 0x1b :: 0xb6 :: 0x00 :: sg_21_cX1_copyFrom_1
set_option maxRecDepth 100000 in
theorem sd_21_cX1_copyFrom_0 : cX1_copyFrom.data.toList.drop 0 = sg_21_cX1_copyFrom_0 := by decide +kernel
theorem sd_21_cX1_copyFrom_1 : cX1_copyFrom.data.toList.drop 32 = sg_21_cX1_copyFrom_1 := sg_next sd_21_cX1_copyFrom_0 rfl
theorem sd_21_cX1_copyFrom_2 : cX1_copyFrom.data.toList.drop 64 = sg_21_cX1_copyFrom_2 := sg_next sd_21_cX1_copyFrom_1 rfl
theorem dX1_copyFrom_0 : decode cX1_copyFrom 0 = .ok (.aload_n 0, 1) := op_42 (rdSeg sd_21_cX1_copyFrom_0 0 rfl rfl)
theorem dX1_copyFrom_1 : decode cX1_copyFrom 1 = .ok (.getfield 12, 3) := op_180 (rdSeg sd_21_cX1_copyFrom_0 1 rfl rfl) (rdSeg sd_21_cX1_copyFrom_0 2 rfl rfl) (rdSeg sd_21_cX1_copyFrom_0 3 rfl rfl) rfl
theorem dX1_copyFrom_4 : decode cX1_copyFrom 4 = .ok (.aload_n 1, 1) := op_43 (rdSeg sd_21_cX1_copyFrom_0 4 rfl rfl)
theorem dX1_copyFrom_5 : decode cX1_copyFrom 5 = .ok (.getfield 12, 3) := op_180 (rdSeg sd_21_cX1_copyFrom_0 5 rfl rfl) (rdSeg sd_21_cX1_copyFrom_0 6 rfl rfl) (rdSeg sd_21_cX1_copyFrom_0 7 rfl rfl) rfl
theorem dX1_copyFrom_8 : decode cX1_copyFrom 8 = .ok (.invokevirtual 52, 3) := op_182 (rdSeg sd_21_cX1_copyFrom_0 8 rfl rfl) (rdSeg sd_21_cX1_copyFrom_0 9 rfl rfl) (rdSeg sd_21_cX1_copyFrom_0 10 rfl rfl) rfl
theorem dX1_copyFrom_11 : decode cX1_copyFrom 11 = .ok (.aload_n 0, 1) := op_42 (rdSeg sd_21_cX1_copyFrom_0 11 rfl rfl)
theorem dX1_copyFrom_12 : decode cX1_copyFrom 12 = .ok (.getfield 23, 3) := op_180 (rdSeg sd_21_cX1_copyFrom_0 12 rfl rfl) (rdSeg sd_21_cX1_copyFrom_0 13 rfl rfl) (rdSeg sd_21_cX1_copyFrom_0 14 rfl rfl) rfl
theorem dX1_copyFrom_15 : decode cX1_copyFrom 15 = .ok (.aload_n 1, 1) := op_43 (rdSeg sd_21_cX1_copyFrom_0 15 rfl rfl)
theorem dX1_copyFrom_16 : decode cX1_copyFrom 16 = .ok (.getfield 23, 3) := op_180 (rdSeg sd_21_cX1_copyFrom_0 16 rfl rfl) (rdSeg sd_21_cX1_copyFrom_0 17 rfl rfl) (rdSeg sd_21_cX1_copyFrom_0 18 rfl rfl) rfl
theorem dX1_copyFrom_19 : decode cX1_copyFrom 19 = .ok (.invokevirtual 56, 3) := op_182 (rdSeg sd_21_cX1_copyFrom_0 19 rfl rfl) (rdSeg sd_21_cX1_copyFrom_0 20 rfl rfl) (rdSeg sd_21_cX1_copyFrom_0 21 rfl rfl) rfl
theorem dX1_copyFrom_22 : decode cX1_copyFrom 22 = .ok (.aload_n 0, 1) := op_42 (rdSeg sd_21_cX1_copyFrom_0 22 rfl rfl)
theorem dX1_copyFrom_23 : decode cX1_copyFrom 23 = .ok (.getfield 27, 3) := op_180 (rdSeg sd_21_cX1_copyFrom_0 23 rfl rfl) (rdSeg sd_21_cX1_copyFrom_0 24 rfl rfl) (rdSeg sd_21_cX1_copyFrom_0 25 rfl rfl) rfl
theorem dX1_copyFrom_26 : decode cX1_copyFrom 26 = .ok (.aload_n 1, 1) := op_43 (rdSeg sd_21_cX1_copyFrom_0 26 rfl rfl)
theorem dX1_copyFrom_27 : decode cX1_copyFrom 27 = .ok (.getfield 27, 3) := op_180 (rdSeg sd_21_cX1_copyFrom_0 27 rfl rfl) (rdSeg sd_21_cX1_copyFrom_0 28 rfl rfl) (rdSeg sd_21_cX1_copyFrom_0 29 rfl rfl) rfl
theorem dX1_copyFrom_30 : decode cX1_copyFrom 30 = .ok (.invokevirtual 56, 3) := op_182 (rdSeg sd_21_cX1_copyFrom_0 30 rfl rfl) (rdSeg sd_21_cX1_copyFrom_0 31 rfl rfl) (rdSeg sd_21_cX1_copyFrom_1 0 rfl rfl) rfl
theorem dX1_copyFrom_33 : decode cX1_copyFrom 33 = .ok (.aload_n 0, 1) := op_42 (rdSeg sd_21_cX1_copyFrom_1 1 rfl rfl)
theorem dX1_copyFrom_34 : decode cX1_copyFrom 34 = .ok (.getfield 30, 3) := op_180 (rdSeg sd_21_cX1_copyFrom_1 2 rfl rfl) (rdSeg sd_21_cX1_copyFrom_1 3 rfl rfl) (rdSeg sd_21_cX1_copyFrom_1 4 rfl rfl) rfl
theorem dX1_copyFrom_37 : decode cX1_copyFrom 37 = .ok (.aload_n 1, 1) := op_43 (rdSeg sd_21_cX1_copyFrom_1 5 rfl rfl)
theorem dX1_copyFrom_38 : decode cX1_copyFrom 38 = .ok (.getfield 30, 3) := op_180 (rdSeg sd_21_cX1_copyFrom_1 6 rfl rfl) (rdSeg sd_21_cX1_copyFrom_1 7 rfl rfl) (rdSeg sd_21_cX1_copyFrom_1 8 rfl rfl) rfl
theorem dX1_copyFrom_41 : decode cX1_copyFrom 41 = .ok (.invokevirtual 56, 3) := op_182 (rdSeg sd_21_cX1_copyFrom_1 9 rfl rfl) (rdSeg sd_21_cX1_copyFrom_1 10 rfl rfl) (rdSeg sd_21_cX1_copyFrom_1 11 rfl rfl) rfl
theorem dX1_copyFrom_44 : decode cX1_copyFrom 44 = .ok (.aload_n 0, 1) := op_42 (rdSeg sd_21_cX1_copyFrom_1 12 rfl rfl)
theorem dX1_copyFrom_45 : decode cX1_copyFrom 45 = .ok (.getfield 33, 3) := op_180 (rdSeg sd_21_cX1_copyFrom_1 13 rfl rfl) (rdSeg sd_21_cX1_copyFrom_1 14 rfl rfl) (rdSeg sd_21_cX1_copyFrom_1 15 rfl rfl) rfl
theorem dX1_copyFrom_48 : decode cX1_copyFrom 48 = .ok (.aload_n 1, 1) := op_43 (rdSeg sd_21_cX1_copyFrom_1 16 rfl rfl)
theorem dX1_copyFrom_49 : decode cX1_copyFrom 49 = .ok (.getfield 33, 3) := op_180 (rdSeg sd_21_cX1_copyFrom_1 17 rfl rfl) (rdSeg sd_21_cX1_copyFrom_1 18 rfl rfl) (rdSeg sd_21_cX1_copyFrom_1 19 rfl rfl) rfl
theorem dX1_copyFrom_52 : decode cX1_copyFrom 52 = .ok (.invokevirtual 56, 3) := op_182 (rdSeg sd_21_cX1_copyFrom_1 20 rfl rfl) (rdSeg sd_21_cX1_copyFrom_1 21 rfl rfl) (rdSeg sd_21_cX1_copyFrom_1 22 rfl rfl) rfl
theorem dX1_copyFrom_55 : decode cX1_copyFrom 55 = .ok (.aload_n 0, 1) := op_42 (rdSeg sd_21_cX1_copyFrom_1 23 rfl rfl)
theorem dX1_copyFrom_56 : decode cX1_copyFrom 56 = .ok (.getfield 36, 3) := op_180 (rdSeg sd_21_cX1_copyFrom_1 24 rfl rfl) (rdSeg sd_21_cX1_copyFrom_1 25 rfl rfl) (rdSeg sd_21_cX1_copyFrom_1 26 rfl rfl) rfl
theorem dX1_copyFrom_59 : decode cX1_copyFrom 59 = .ok (.aload_n 1, 1) := op_43 (rdSeg sd_21_cX1_copyFrom_1 27 rfl rfl)
theorem dX1_copyFrom_60 : decode cX1_copyFrom 60 = .ok (.getfield 36, 3) := op_180 (rdSeg sd_21_cX1_copyFrom_1 28 rfl rfl) (rdSeg sd_21_cX1_copyFrom_1 29 rfl rfl) (rdSeg sd_21_cX1_copyFrom_1 30 rfl rfl) rfl
theorem dX1_copyFrom_63 : decode cX1_copyFrom 63 = .ok (.invokevirtual 56, 3) := op_182 (rdSeg sd_21_cX1_copyFrom_1 31 rfl rfl) (rdSeg sd_21_cX1_copyFrom_2 0 rfl rfl) (rdSeg sd_21_cX1_copyFrom_2 1 rfl rfl) rfl
theorem dX1_copyFrom_66 : decode cX1_copyFrom 66 = .ok (.aload_n 0, 1) := op_42 (rdSeg sd_21_cX1_copyFrom_2 2 rfl rfl)
theorem dX1_copyFrom_67 : decode cX1_copyFrom 67 = .ok (.getfield 39, 3) := op_180 (rdSeg sd_21_cX1_copyFrom_2 3 rfl rfl) (rdSeg sd_21_cX1_copyFrom_2 4 rfl rfl) (rdSeg sd_21_cX1_copyFrom_2 5 rfl rfl) rfl
theorem dX1_copyFrom_70 : decode cX1_copyFrom 70 = .ok (.aload_n 1, 1) := op_43 (rdSeg sd_21_cX1_copyFrom_2 6 rfl rfl)
theorem dX1_copyFrom_71 : decode cX1_copyFrom 71 = .ok (.getfield 39, 3) := op_180 (rdSeg sd_21_cX1_copyFrom_2 7 rfl rfl) (rdSeg sd_21_cX1_copyFrom_2 8 rfl rfl) (rdSeg sd_21_cX1_copyFrom_2 9 rfl rfl) rfl
theorem dX1_copyFrom_74 : decode cX1_copyFrom 74 = .ok (.invokevirtual 56, 3) := op_182 (rdSeg sd_21_cX1_copyFrom_2 10 rfl rfl) (rdSeg sd_21_cX1_copyFrom_2 11 rfl rfl) (rdSeg sd_21_cX1_copyFrom_2 12 rfl rfl) rfl
theorem dX1_copyFrom_77 : decode cX1_copyFrom 77 = .ok (.aload_n 0, 1) := op_42 (rdSeg sd_21_cX1_copyFrom_2 13 rfl rfl)
theorem dX1_copyFrom_78 : decode cX1_copyFrom 78 = .ok (.getfield 42, 3) := op_180 (rdSeg sd_21_cX1_copyFrom_2 14 rfl rfl) (rdSeg sd_21_cX1_copyFrom_2 15 rfl rfl) (rdSeg sd_21_cX1_copyFrom_2 16 rfl rfl) rfl
theorem dX1_copyFrom_81 : decode cX1_copyFrom 81 = .ok (.aload_n 1, 1) := op_43 (rdSeg sd_21_cX1_copyFrom_2 17 rfl rfl)
theorem dX1_copyFrom_82 : decode cX1_copyFrom 82 = .ok (.getfield 42, 3) := op_180 (rdSeg sd_21_cX1_copyFrom_2 18 rfl rfl) (rdSeg sd_21_cX1_copyFrom_2 19 rfl rfl) (rdSeg sd_21_cX1_copyFrom_2 20 rfl rfl) rfl
theorem dX1_copyFrom_85 : decode cX1_copyFrom 85 = .ok (.invokevirtual 56, 3) := op_182 (rdSeg sd_21_cX1_copyFrom_2 21 rfl rfl) (rdSeg sd_21_cX1_copyFrom_2 22 rfl rfl) (rdSeg sd_21_cX1_copyFrom_2 23 rfl rfl) rfl
theorem dX1_copyFrom_88 : decode cX1_copyFrom 88 = .ok (.return_, 1) := op_177 (rdSeg sd_21_cX1_copyFrom_2 24 rfl rfl)
def sg_21_cX1_textOf_0 : List UInt8 := [0x1b, 0x9a, 0x00, 0x0a, 0x2a, 0xb4, 0x00, 0x27, 0xa7, 0x00, 0x07, 0x2a, 0xb4, 0x00, 0x2a, 0xb0]
set_option maxRecDepth 100000 in
theorem sd_21_cX1_textOf_0 : cX1_textOf.data.toList.drop 0 = sg_21_cX1_textOf_0 := by decide +kernel
theorem dX1_textOf_0 : decode cX1_textOf 0 = .ok (.iload_n 1, 1) := op_27 (rdSeg sd_21_cX1_textOf_0 0 rfl rfl)
theorem dX1_textOf_1 : decode cX1_textOf 1 = .ok (.ifCond .ne 10, 3) := op_154 (rdSeg sd_21_cX1_textOf_0 1 rfl rfl) (rdSeg sd_21_cX1_textOf_0 2 rfl rfl) (rdSeg sd_21_cX1_textOf_0 3 rfl rfl) (by decide +kernel)
theorem dX1_textOf_4 : decode cX1_textOf 4 = .ok (.aload_n 0, 1) := op_42 (rdSeg sd_21_cX1_textOf_0 4 rfl rfl)
theorem dX1_textOf_5 : decode cX1_textOf 5 = .ok (.getfield 39, 3) := op_180 (rdSeg sd_21_cX1_textOf_0 5 rfl rfl) (rdSeg sd_21_cX1_textOf_0 6 rfl rfl) (rdSeg sd_21_cX1_textOf_0 7 rfl rfl) rfl
theorem dX1_textOf_8 : decode cX1_textOf 8 = .ok (.goto 7, 3) := op_167 (rdSeg sd_21_cX1_textOf_0 8 rfl rfl) (rdSeg sd_21_cX1_textOf_0 9 rfl rfl) (rdSeg sd_21_cX1_textOf_0 10 rfl rfl) (by decide +kernel)
theorem dX1_textOf_11 : decode cX1_textOf 11 = .ok (.aload_n 0, 1) := op_42 (rdSeg sd_21_cX1_textOf_0 11 rfl rfl)
theorem dX1_textOf_12 : decode cX1_textOf 12 = .ok (.getfield 42, 3) := op_180 (rdSeg sd_21_cX1_textOf_0 12 rfl rfl) (rdSeg sd_21_cX1_textOf_0 13 rfl rfl) (rdSeg sd_21_cX1_textOf_0 14 rfl rfl) rfl
theorem dX1_textOf_15 : decode cX1_textOf 15 = .ok (.areturn, 1) := op_176 (rdSeg sd_21_cX1_textOf_0 15 rfl rfl)
def sg_21_cX1_numberOf_0 : List UInt8 := [0x1d, 0x10, 0x0a, 0xa0, 0x00, 0x0c, 0x2a, 0x2b, 0x1c, 0xb6, 0x00, 0x3b, 0xa7, 0x00, 0x09, 0x2b, 0x1c, 0x1d, 0xb6, 0x00, 0x3f, 0xac]
set_option maxRecDepth 100000 in
theorem sd_21_cX1_numberOf_0 : cX1_numberOf.data.toList.drop 0 = sg_21_cX1_numberOf_0 := by decide +kernel
theorem dX1_numberOf_0 : decode cX1_numberOf 0 = .ok (.iload_n 3, 1) := op_29 (rdSeg sd_21_cX1_numberOf_0 0 rfl rfl)
theorem dX1_numberOf_1 : decode cX1_numberOf 1 = .ok (.bipush 10, 2) := op_16 (rdSeg sd_21_cX1_numberOf_0 1 rfl rfl) (rdSeg sd_21_cX1_numberOf_0 2 rfl rfl) (by decide +kernel)
theorem dX1_numberOf_3 : decode cX1_numberOf 3 = .ok (.if_icmp .ne 12, 3) := op_160 (rdSeg sd_21_cX1_numberOf_0 3 rfl rfl) (rdSeg sd_21_cX1_numberOf_0 4 rfl rfl) (rdSeg sd_21_cX1_numberOf_0 5 rfl rfl) (by decide +kernel)
theorem dX1_numberOf_6 : decode cX1_numberOf 6 = .ok (.aload_n 0, 1) := op_42 (rdSeg sd_21_cX1_numberOf_0 6 rfl rfl)
theorem dX1_numberOf_7 : decode cX1_numberOf 7 = .ok (.aload_n 1, 1) := op_43 (rdSeg sd_21_cX1_numberOf_0 7 rfl rfl)
theorem dX1_numberOf_8 : decode cX1_numberOf 8 = .ok (.iload_n 2, 1) := op_28 (rdSeg sd_21_cX1_numberOf_0 8 rfl rfl)
theorem dX1_numberOf_9 : decode cX1_numberOf 9 = .ok (.invokevirtual 59, 3) := op_182 (rdSeg sd_21_cX1_numberOf_0 9 rfl rfl) (rdSeg sd_21_cX1_numberOf_0 10 rfl rfl) (rdSeg sd_21_cX1_numberOf_0 11 rfl rfl) rfl
theorem dX1_numberOf_12 : decode cX1_numberOf 12 = .ok (.goto 9, 3) := op_167 (rdSeg sd_21_cX1_numberOf_0 12 rfl rfl) (rdSeg sd_21_cX1_numberOf_0 13 rfl rfl) (rdSeg sd_21_cX1_numberOf_0 14 rfl rfl) (by decide +kernel)
theorem dX1_numberOf_15 : decode cX1_numberOf 15 = .ok (.aload_n 1, 1) := op_43 (rdSeg sd_21_cX1_numberOf_0 15 rfl rfl)
theorem dX1_numberOf_16 : decode cX1_numberOf 16 = .ok (.iload_n 2, 1) := op_28 (rdSeg sd_21_cX1_numberOf_0 16 rfl rfl)
theorem dX1_numberOf_17 : decode cX1_numberOf 17 = .ok (.iload_n 3, 1) := op_29 (rdSeg sd_21_cX1_numberOf_0 17 rfl rfl)
theorem dX1_numberOf_18 : decode cX1_numberOf 18 = .ok (.invokevirtual 63, 3) := op_182 (rdSeg sd_21_cX1_numberOf_0 18 rfl rfl) (rdSeg sd_21_cX1_numberOf_0 19 rfl rfl) (rdSeg sd_21_cX1_numberOf_0 20 rfl rfl) rfl
theorem dX1_numberOf_21 : decode cX1_numberOf 21 = .ok (.ireturn, 1) := op_172 (rdSeg sd_21_cX1_numberOf_0 21 rfl rfl)
def sg_21_cX1_tone_4 : List UInt8 := [0x6c, 0x15, 0x04, 0x60, 0x1d, 0x11, 0x03, 0xe8, 0x6c, 0x60, 0xac, 0x03, 0x15, 0x06, 0x05, 0x15, 0x04, 0x68, 0x64, 0x64, 0xac, 0x15, 0x06, 0xac]
def sg_21_cX1_tone_3 : List UInt8 := 0x05 :: 0x6c :: 0x15 :: 0x04 :: 0x60 :: 0xac :: 0x15 :: 0x06 :: 0x05 :: 0x15 :: 0x04 :: 0x68 :: 0x64 :: 0xac :: 0x2a :: 0x1d :: 0x15 :: 0x05 :: 0x15 :: 0x04 :: 0xb6 :: 0x00 :: 0x49 :: 0x05 :: 0x15 :: 0x04 :: 0x68 :: 0x60 :: 0xac :: 0x15 :: 0x06 :: 0x05 :: sg_21_cX1_tone_4
def sg_21_cX1_tone_2 : List UInt8 := 0x00 :: 0x00 :: 0x00 :: 0x2f :: 0x00 :: 0x00 :: 0x00 :: 0x37 :: 0x00 :: 0x00 :: 0x00 :: 0x3f :: 0x00 :: 0x00 :: 0x00 :: 0x4e :: 0x00 :: 0x00 :: 0x00 :: 0x5c :: 0x2a :: 0x1d :: 0x15 :: 0x05 :: 0x15 :: 0x04 :: 0xb6 :: 0x00 :: 0x49 :: 0xac :: 0x15 :: 0x06 :: sg_21_cX1_tone_3
def sg_21_cX1_tone_1 : List UInt8 := 0x05 :: 0x11 :: 0x03 :: 0xe8 :: 0x15 :: 0x05 :: 0x64 :: 0x36 :: 0x06 :: 0x2b :: 0x1c :: 0x03 :: 0xb6 :: 0x00 :: 0x3f :: 0xaa :: 0x00 :: 0x00 :: 0x00 :: 0x66 :: 0x00 :: 0x00 :: 0x00 :: 0x01 :: 0x00 :: 0x00 :: 0x00 :: 0x06 :: 0x00 :: 0x00 :: 0x00 :: 0x25 :: sg_21_cX1_tone_2
def sg_21_cX1_tone_0 : List UInt8 := 0x2b :: 0x1c :: 0x05 :: 0xb6 :: 0x00 :: 0x3f :: 0x3e :: 0x2b :: 0x1c :: 0x04 :: 0xb6 :: 0x00 :: 0x3f :: 0x36 :: 0x04 :: 0x14 :: 0x00 :: 0x43 :: 0x2b :: 0x1c :: 0x06 :: 0xb6 :: 0x00 :: 0x3f :: 0x85 :: 0x69 :: 0x1d :: 0x85 :: 0xb8 :: 0x00 :: 0x45 :: 0x36 :: sg_21_cX1_tone_1
set_option maxRecDepth 100000 in
theorem sd_21_cX1_tone_0 : cX1_tone.data.toList.drop 0 = sg_21_cX1_tone_0 := by decide +kernel
theorem sd_21_cX1_tone_1 : cX1_tone.data.toList.drop 32 = sg_21_cX1_tone_1 := sg_next sd_21_cX1_tone_0 rfl
theorem sd_21_cX1_tone_2 : cX1_tone.data.toList.drop 64 = sg_21_cX1_tone_2 := sg_next sd_21_cX1_tone_1 rfl
theorem sd_21_cX1_tone_3 : cX1_tone.data.toList.drop 96 = sg_21_cX1_tone_3 := sg_next sd_21_cX1_tone_2 rfl
theorem sd_21_cX1_tone_4 : cX1_tone.data.toList.drop 128 = sg_21_cX1_tone_4 := sg_next sd_21_cX1_tone_3 rfl
theorem dX1_tone_0 : decode cX1_tone 0 = .ok (.aload_n 1, 1) := op_43 (rdSeg sd_21_cX1_tone_0 0 rfl rfl)
theorem dX1_tone_1 : decode cX1_tone 1 = .ok (.iload_n 2, 1) := op_28 (rdSeg sd_21_cX1_tone_0 1 rfl rfl)
theorem dX1_tone_2 : decode cX1_tone 2 = .ok (.iconst 2, 1) := op_5 (rdSeg sd_21_cX1_tone_0 2 rfl rfl)
theorem dX1_tone_3 : decode cX1_tone 3 = .ok (.invokevirtual 63, 3) := op_182 (rdSeg sd_21_cX1_tone_0 3 rfl rfl) (rdSeg sd_21_cX1_tone_0 4 rfl rfl) (rdSeg sd_21_cX1_tone_0 5 rfl rfl) rfl
theorem dX1_tone_6 : decode cX1_tone 6 = .ok (.istore_n 3, 1) := op_62 (rdSeg sd_21_cX1_tone_0 6 rfl rfl)
theorem dX1_tone_7 : decode cX1_tone 7 = .ok (.aload_n 1, 1) := op_43 (rdSeg sd_21_cX1_tone_0 7 rfl rfl)
theorem dX1_tone_8 : decode cX1_tone 8 = .ok (.iload_n 2, 1) := op_28 (rdSeg sd_21_cX1_tone_0 8 rfl rfl)
theorem dX1_tone_9 : decode cX1_tone 9 = .ok (.iconst 1, 1) := op_4 (rdSeg sd_21_cX1_tone_0 9 rfl rfl)
theorem dX1_tone_10 : decode cX1_tone 10 = .ok (.invokevirtual 63, 3) := op_182 (rdSeg sd_21_cX1_tone_0 10 rfl rfl) (rdSeg sd_21_cX1_tone_0 11 rfl rfl) (rdSeg sd_21_cX1_tone_0 12 rfl rfl) rfl
theorem dX1_tone_13 : decode cX1_tone 13 = .ok (.istore 4, 2) := op_54 (rdSeg sd_21_cX1_tone_0 13 rfl rfl) (rdSeg sd_21_cX1_tone_0 14 rfl rfl)
theorem dX1_tone_15 : decode cX1_tone 15 = .ok (.ldc2_w 67, 3) := op_20 (rdSeg sd_21_cX1_tone_0 15 rfl rfl) (rdSeg sd_21_cX1_tone_0 16 rfl rfl) (rdSeg sd_21_cX1_tone_0 17 rfl rfl) rfl
theorem dX1_tone_18 : decode cX1_tone 18 = .ok (.aload_n 1, 1) := op_43 (rdSeg sd_21_cX1_tone_0 18 rfl rfl)
theorem dX1_tone_19 : decode cX1_tone 19 = .ok (.iload_n 2, 1) := op_28 (rdSeg sd_21_cX1_tone_0 19 rfl rfl)
theorem dX1_tone_20 : decode cX1_tone 20 = .ok (.iconst 3, 1) := op_6 (rdSeg sd_21_cX1_tone_0 20 rfl rfl)
theorem dX1_tone_21 : decode cX1_tone 21 = .ok (.invokevirtual 63, 3) := op_182 (rdSeg sd_21_cX1_tone_0 21 rfl rfl) (rdSeg sd_21_cX1_tone_0 22 rfl rfl) (rdSeg sd_21_cX1_tone_0 23 rfl rfl) rfl
theorem dX1_tone_24 : decode cX1_tone 24 = .ok (.i2l, 1) := op_133 (rdSeg sd_21_cX1_tone_0 24 rfl rfl)
theorem dX1_tone_25 : decode cX1_tone 25 = .ok (.lmul, 1) := op_105 (rdSeg sd_21_cX1_tone_0 25 rfl rfl)
theorem dX1_tone_26 : decode cX1_tone 26 = .ok (.iload_n 3, 1) := op_29 (rdSeg sd_21_cX1_tone_0 26 rfl rfl)
theorem dX1_tone_27 : decode cX1_tone 27 = .ok (.i2l, 1) := op_133 (rdSeg sd_21_cX1_tone_0 27 rfl rfl)
theorem dX1_tone_28 : decode cX1_tone 28 = .ok (.invokestatic 69, 3) := op_184 (rdSeg sd_21_cX1_tone_0 28 rfl rfl) (rdSeg sd_21_cX1_tone_0 29 rfl rfl) (rdSeg sd_21_cX1_tone_0 30 rfl rfl) rfl
theorem dX1_tone_31 : decode cX1_tone 31 = .ok (.istore 5, 2) := op_54 (rdSeg sd_21_cX1_tone_0 31 rfl rfl) (rdSeg sd_21_cX1_tone_1 0 rfl rfl)
theorem dX1_tone_33 : decode cX1_tone 33 = .ok (.sipush 1000, 3) := op_17 (rdSeg sd_21_cX1_tone_1 1 rfl rfl) (rdSeg sd_21_cX1_tone_1 2 rfl rfl) (rdSeg sd_21_cX1_tone_1 3 rfl rfl) (by decide +kernel)
theorem dX1_tone_36 : decode cX1_tone 36 = .ok (.iload 5, 2) := op_21 (rdSeg sd_21_cX1_tone_1 4 rfl rfl) (rdSeg sd_21_cX1_tone_1 5 rfl rfl)
theorem dX1_tone_38 : decode cX1_tone 38 = .ok (.isub, 1) := op_100 (rdSeg sd_21_cX1_tone_1 6 rfl rfl)
theorem dX1_tone_39 : decode cX1_tone 39 = .ok (.istore 6, 2) := op_54 (rdSeg sd_21_cX1_tone_1 7 rfl rfl) (rdSeg sd_21_cX1_tone_1 8 rfl rfl)
theorem dX1_tone_41 : decode cX1_tone 41 = .ok (.aload_n 1, 1) := op_43 (rdSeg sd_21_cX1_tone_1 9 rfl rfl)
theorem dX1_tone_42 : decode cX1_tone 42 = .ok (.iload_n 2, 1) := op_28 (rdSeg sd_21_cX1_tone_1 10 rfl rfl)
theorem dX1_tone_43 : decode cX1_tone 43 = .ok (.iconst 0, 1) := op_3 (rdSeg sd_21_cX1_tone_1 11 rfl rfl)
theorem dX1_tone_44 : decode cX1_tone 44 = .ok (.invokevirtual 63, 3) := op_182 (rdSeg sd_21_cX1_tone_1 12 rfl rfl) (rdSeg sd_21_cX1_tone_1 13 rfl rfl) (rdSeg sd_21_cX1_tone_1 14 rfl rfl) rfl
theorem dX1_tone_47 : decode cX1_tone 47 = .ok (.tableswitch 102 1 6 #[37, 47, 55, 63, 78, 92], 37) := by decide +kernel
theorem dX1_tone_84 : decode cX1_tone 84 = .ok (.aload_n 0, 1) := op_42 (rdSeg sd_21_cX1_tone_2 20 rfl rfl)
theorem dX1_tone_85 : decode cX1_tone 85 = .ok (.iload_n 3, 1) := op_29 (rdSeg sd_21_cX1_tone_2 21 rfl rfl)
theorem dX1_tone_86 : decode cX1_tone 86 = .ok (.iload 5, 2) := op_21 (rdSeg sd_21_cX1_tone_2 22 rfl rfl) (rdSeg sd_21_cX1_tone_2 23 rfl rfl)
theorem dX1_tone_88 : decode cX1_tone 88 = .ok (.iload 4, 2) := op_21 (rdSeg sd_21_cX1_tone_2 24 rfl rfl) (rdSeg sd_21_cX1_tone_2 25 rfl rfl)
theorem dX1_tone_90 : decode cX1_tone 90 = .ok (.invokevirtual 73, 3) := op_182 (rdSeg sd_21_cX1_tone_2 26 rfl rfl) (rdSeg sd_21_cX1_tone_2 27 rfl rfl) (rdSeg sd_21_cX1_tone_2 28 rfl rfl) rfl
theorem dX1_tone_93 : decode cX1_tone 93 = .ok (.ireturn, 1) := op_172 (rdSeg sd_21_cX1_tone_2 29 rfl rfl)
theorem dX1_tone_94 : decode cX1_tone 94 = .ok (.iload 6, 2) := op_21 (rdSeg sd_21_cX1_tone_2 30 rfl rfl) (rdSeg sd_21_cX1_tone_2 31 rfl rfl)
theorem dX1_tone_96 : decode cX1_tone 96 = .ok (.iconst 2, 1) := op_5 (rdSeg sd_21_cX1_tone_3 0 rfl rfl)
theorem dX1_tone_97 : decode cX1_tone 97 = .ok (.idiv, 1) := op_108 (rdSeg sd_21_cX1_tone_3 1 rfl rfl)
theorem dX1_tone_98 : decode cX1_tone 98 = .ok (.iload 4, 2) := op_21 (rdSeg sd_21_cX1_tone_3 2 rfl rfl) (rdSeg sd_21_cX1_tone_3 3 rfl rfl)
theorem dX1_tone_100 : decode cX1_tone 100 = .ok (.iadd, 1) := op_96 (rdSeg sd_21_cX1_tone_3 4 rfl rfl)
theorem dX1_tone_101 : decode cX1_tone 101 = .ok (.ireturn, 1) := op_172 (rdSeg sd_21_cX1_tone_3 5 rfl rfl)
theorem dX1_tone_102 : decode cX1_tone 102 = .ok (.iload 6, 2) := op_21 (rdSeg sd_21_cX1_tone_3 6 rfl rfl) (rdSeg sd_21_cX1_tone_3 7 rfl rfl)
theorem dX1_tone_104 : decode cX1_tone 104 = .ok (.iconst 2, 1) := op_5 (rdSeg sd_21_cX1_tone_3 8 rfl rfl)
theorem dX1_tone_105 : decode cX1_tone 105 = .ok (.iload 4, 2) := op_21 (rdSeg sd_21_cX1_tone_3 9 rfl rfl) (rdSeg sd_21_cX1_tone_3 10 rfl rfl)
theorem dX1_tone_107 : decode cX1_tone 107 = .ok (.imul, 1) := op_104 (rdSeg sd_21_cX1_tone_3 11 rfl rfl)
theorem dX1_tone_108 : decode cX1_tone 108 = .ok (.isub, 1) := op_100 (rdSeg sd_21_cX1_tone_3 12 rfl rfl)
theorem dX1_tone_109 : decode cX1_tone 109 = .ok (.ireturn, 1) := op_172 (rdSeg sd_21_cX1_tone_3 13 rfl rfl)
theorem dX1_tone_110 : decode cX1_tone 110 = .ok (.aload_n 0, 1) := op_42 (rdSeg sd_21_cX1_tone_3 14 rfl rfl)
theorem dX1_tone_111 : decode cX1_tone 111 = .ok (.iload_n 3, 1) := op_29 (rdSeg sd_21_cX1_tone_3 15 rfl rfl)
theorem dX1_tone_112 : decode cX1_tone 112 = .ok (.iload 5, 2) := op_21 (rdSeg sd_21_cX1_tone_3 16 rfl rfl) (rdSeg sd_21_cX1_tone_3 17 rfl rfl)
theorem dX1_tone_114 : decode cX1_tone 114 = .ok (.iload 4, 2) := op_21 (rdSeg sd_21_cX1_tone_3 18 rfl rfl) (rdSeg sd_21_cX1_tone_3 19 rfl rfl)
theorem dX1_tone_116 : decode cX1_tone 116 = .ok (.invokevirtual 73, 3) := op_182 (rdSeg sd_21_cX1_tone_3 20 rfl rfl) (rdSeg sd_21_cX1_tone_3 21 rfl rfl) (rdSeg sd_21_cX1_tone_3 22 rfl rfl) rfl
theorem dX1_tone_119 : decode cX1_tone 119 = .ok (.iconst 2, 1) := op_5 (rdSeg sd_21_cX1_tone_3 23 rfl rfl)
theorem dX1_tone_120 : decode cX1_tone 120 = .ok (.iload 4, 2) := op_21 (rdSeg sd_21_cX1_tone_3 24 rfl rfl) (rdSeg sd_21_cX1_tone_3 25 rfl rfl)
theorem dX1_tone_122 : decode cX1_tone 122 = .ok (.imul, 1) := op_104 (rdSeg sd_21_cX1_tone_3 26 rfl rfl)
theorem dX1_tone_123 : decode cX1_tone 123 = .ok (.iadd, 1) := op_96 (rdSeg sd_21_cX1_tone_3 27 rfl rfl)
theorem dX1_tone_124 : decode cX1_tone 124 = .ok (.ireturn, 1) := op_172 (rdSeg sd_21_cX1_tone_3 28 rfl rfl)
theorem dX1_tone_125 : decode cX1_tone 125 = .ok (.iload 6, 2) := op_21 (rdSeg sd_21_cX1_tone_3 29 rfl rfl) (rdSeg sd_21_cX1_tone_3 30 rfl rfl)
theorem dX1_tone_127 : decode cX1_tone 127 = .ok (.iconst 2, 1) := op_5 (rdSeg sd_21_cX1_tone_3 31 rfl rfl)
theorem dX1_tone_128 : decode cX1_tone 128 = .ok (.idiv, 1) := op_108 (rdSeg sd_21_cX1_tone_4 0 rfl rfl)
theorem dX1_tone_129 : decode cX1_tone 129 = .ok (.iload 4, 2) := op_21 (rdSeg sd_21_cX1_tone_4 1 rfl rfl) (rdSeg sd_21_cX1_tone_4 2 rfl rfl)
theorem dX1_tone_131 : decode cX1_tone 131 = .ok (.iadd, 1) := op_96 (rdSeg sd_21_cX1_tone_4 3 rfl rfl)
theorem dX1_tone_132 : decode cX1_tone 132 = .ok (.iload_n 3, 1) := op_29 (rdSeg sd_21_cX1_tone_4 4 rfl rfl)
theorem dX1_tone_133 : decode cX1_tone 133 = .ok (.sipush 1000, 3) := op_17 (rdSeg sd_21_cX1_tone_4 5 rfl rfl) (rdSeg sd_21_cX1_tone_4 6 rfl rfl) (rdSeg sd_21_cX1_tone_4 7 rfl rfl) (by decide +kernel)
theorem dX1_tone_136 : decode cX1_tone 136 = .ok (.idiv, 1) := op_108 (rdSeg sd_21_cX1_tone_4 8 rfl rfl)
theorem dX1_tone_137 : decode cX1_tone 137 = .ok (.iadd, 1) := op_96 (rdSeg sd_21_cX1_tone_4 9 rfl rfl)
theorem dX1_tone_138 : decode cX1_tone 138 = .ok (.ireturn, 1) := op_172 (rdSeg sd_21_cX1_tone_4 10 rfl rfl)
theorem dX1_tone_139 : decode cX1_tone 139 = .ok (.iconst 0, 1) := op_3 (rdSeg sd_21_cX1_tone_4 11 rfl rfl)
theorem dX1_tone_140 : decode cX1_tone 140 = .ok (.iload 6, 2) := op_21 (rdSeg sd_21_cX1_tone_4 12 rfl rfl) (rdSeg sd_21_cX1_tone_4 13 rfl rfl)
theorem dX1_tone_142 : decode cX1_tone 142 = .ok (.iconst 2, 1) := op_5 (rdSeg sd_21_cX1_tone_4 14 rfl rfl)
theorem dX1_tone_143 : decode cX1_tone 143 = .ok (.iload 4, 2) := op_21 (rdSeg sd_21_cX1_tone_4 15 rfl rfl) (rdSeg sd_21_cX1_tone_4 16 rfl rfl)
theorem dX1_tone_145 : decode cX1_tone 145 = .ok (.imul, 1) := op_104 (rdSeg sd_21_cX1_tone_4 17 rfl rfl)
theorem dX1_tone_146 : decode cX1_tone 146 = .ok (.isub, 1) := op_100 (rdSeg sd_21_cX1_tone_4 18 rfl rfl)
theorem dX1_tone_147 : decode cX1_tone 147 = .ok (.isub, 1) := op_100 (rdSeg sd_21_cX1_tone_4 19 rfl rfl)
theorem dX1_tone_148 : decode cX1_tone 148 = .ok (.ireturn, 1) := op_172 (rdSeg sd_21_cX1_tone_4 20 rfl rfl)
theorem dX1_tone_149 : decode cX1_tone 149 = .ok (.iload 6, 2) := op_21 (rdSeg sd_21_cX1_tone_4 21 rfl rfl) (rdSeg sd_21_cX1_tone_4 22 rfl rfl)
theorem dX1_tone_151 : decode cX1_tone 151 = .ok (.ireturn, 1) := op_172 (rdSeg sd_21_cX1_tone_4 23 rfl rfl)
def sg_21_cX1_ring_1 : List UInt8 := [0x11, 0x27, 0x0f, 0xb8, 0x00, 0x55, 0xac]
def sg_21_cX1_ring_0 : List UInt8 := 0x2a :: 0xb4 :: 0x00 :: 0x27 :: 0xb6 :: 0x00 :: 0x4d :: 0x9a :: 0x00 :: 0x0b :: 0x11 :: 0x03 :: 0xe8 :: 0x1c :: 0x64 :: 0x1d :: 0x60 :: 0xac :: 0x2a :: 0xb4 :: 0x00 :: 0x30 :: 0x2a :: 0xb4 :: 0x00 :: 0x27 :: 0x1b :: 0x1c :: 0x1d :: 0xb6 :: 0x00 :: 0x51 :: sg_21_cX1_ring_1
set_option maxRecDepth 100000 in
theorem sd_21_cX1_ring_0 : cX1_ring.data.toList.drop 0 = sg_21_cX1_ring_0 := by decide +kernel
theorem sd_21_cX1_ring_1 : cX1_ring.data.toList.drop 32 = sg_21_cX1_ring_1 := sg_next sd_21_cX1_ring_0 rfl
theorem dX1_ring_0 : decode cX1_ring 0 = .ok (.aload_n 0, 1) := op_42 (rdSeg sd_21_cX1_ring_0 0 rfl rfl)
theorem dX1_ring_1 : decode cX1_ring 1 = .ok (.getfield 39, 3) := op_180 (rdSeg sd_21_cX1_ring_0 1 rfl rfl) (rdSeg sd_21_cX1_ring_0 2 rfl rfl) (rdSeg sd_21_cX1_ring_0 3 rfl rfl) rfl
theorem dX1_ring_4 : decode cX1_ring 4 = .ok (.invokevirtual 77, 3) := op_182 (rdSeg sd_21_cX1_ring_0 4 rfl rfl) (rdSeg sd_21_cX1_ring_0 5 rfl rfl) (rdSeg sd_21_cX1_ring_0 6 rfl rfl) rfl
theorem dX1_ring_7 : decode cX1_ring 7 = .ok (.ifCond .ne 11, 3) := op_154 (rdSeg sd_21_cX1_ring_0 7 rfl rfl) (rdSeg sd_21_cX1_ring_0 8 rfl rfl) (rdSeg sd_21_cX1_ring_0 9 rfl rfl) (by decide +kernel)
theorem dX1_ring_10 : decode cX1_ring 10 = .ok (.sipush 1000, 3) := op_17 (rdSeg sd_21_cX1_ring_0 10 rfl rfl) (rdSeg sd_21_cX1_ring_0 11 rfl rfl) (rdSeg sd_21_cX1_ring_0 12 rfl rfl) (by decide +kernel)
theorem dX1_ring_13 : decode cX1_ring 13 = .ok (.iload_n 2, 1) := op_28 (rdSeg sd_21_cX1_ring_0 13 rfl rfl)
theorem dX1_ring_14 : decode cX1_ring 14 = .ok (.isub, 1) := op_100 (rdSeg sd_21_cX1_ring_0 14 rfl rfl)
theorem dX1_ring_15 : decode cX1_ring 15 = .ok (.iload_n 3, 1) := op_29 (rdSeg sd_21_cX1_ring_0 15 rfl rfl)
theorem dX1_ring_16 : decode cX1_ring 16 = .ok (.iadd, 1) := op_96 (rdSeg sd_21_cX1_ring_0 16 rfl rfl)
theorem dX1_ring_17 : decode cX1_ring 17 = .ok (.ireturn, 1) := op_172 (rdSeg sd_21_cX1_ring_0 17 rfl rfl)
theorem dX1_ring_18 : decode cX1_ring 18 = .ok (.aload_n 0, 1) := op_42 (rdSeg sd_21_cX1_ring_0 18 rfl rfl)
theorem dX1_ring_19 : decode cX1_ring 19 = .ok (.getfield 48, 3) := op_180 (rdSeg sd_21_cX1_ring_0 19 rfl rfl) (rdSeg sd_21_cX1_ring_0 20 rfl rfl) (rdSeg sd_21_cX1_ring_0 21 rfl rfl) rfl
theorem dX1_ring_22 : decode cX1_ring 22 = .ok (.aload_n 0, 1) := op_42 (rdSeg sd_21_cX1_ring_0 22 rfl rfl)
theorem dX1_ring_23 : decode cX1_ring 23 = .ok (.getfield 39, 3) := op_180 (rdSeg sd_21_cX1_ring_0 23 rfl rfl) (rdSeg sd_21_cX1_ring_0 24 rfl rfl) (rdSeg sd_21_cX1_ring_0 25 rfl rfl) rfl
theorem dX1_ring_26 : decode cX1_ring 26 = .ok (.iload_n 1, 1) := op_27 (rdSeg sd_21_cX1_ring_0 26 rfl rfl)
theorem dX1_ring_27 : decode cX1_ring 27 = .ok (.iload_n 2, 1) := op_28 (rdSeg sd_21_cX1_ring_0 27 rfl rfl)
theorem dX1_ring_28 : decode cX1_ring 28 = .ok (.iload_n 3, 1) := op_29 (rdSeg sd_21_cX1_ring_0 28 rfl rfl)
theorem dX1_ring_29 : decode cX1_ring 29 = .ok (.invokevirtual 81, 3) := op_182 (rdSeg sd_21_cX1_ring_0 29 rfl rfl) (rdSeg sd_21_cX1_ring_0 30 rfl rfl) (rdSeg sd_21_cX1_ring_0 31 rfl rfl) rfl
theorem dX1_ring_32 : decode cX1_ring 32 = .ok (.sipush 9999, 3) := op_17 (rdSeg sd_21_cX1_ring_1 0 rfl rfl) (rdSeg sd_21_cX1_ring_1 1 rfl rfl) (rdSeg sd_21_cX1_ring_1 2 rfl rfl) (by decide +kernel)
theorem dX1_ring_35 : decode cX1_ring 35 = .ok (.invokestatic 85, 3) := op_184 (rdSeg sd_21_cX1_ring_1 3 rfl rfl) (rdSeg sd_21_cX1_ring_1 4 rfl rfl) (rdSeg sd_21_cX1_ring_1 5 rfl rfl) rfl
theorem dX1_ring_38 : decode cX1_ring 38 = .ok (.ireturn, 1) := op_172 (rdSeg sd_21_cX1_ring_1 6 rfl rfl)
def sg_21_cX1_held_0 : List UInt8 := [0x03, 0x1b, 0x1a, 0xb8, 0x00, 0x58, 0xb8, 0x00, 0x5d, 0xac]
set_option maxRecDepth 100000 in
theorem sd_21_cX1_held_0 : cX1_held.data.toList.drop 0 = sg_21_cX1_held_0 := by decide +kernel
theorem dX1_held_0 : decode cX1_held 0 = .ok (.iconst 0, 1) := op_3 (rdSeg sd_21_cX1_held_0 0 rfl rfl)
theorem dX1_held_1 : decode cX1_held 1 = .ok (.iload_n 1, 1) := op_27 (rdSeg sd_21_cX1_held_0 1 rfl rfl)
theorem dX1_held_2 : decode cX1_held 2 = .ok (.iload_n 0, 1) := op_26 (rdSeg sd_21_cX1_held_0 2 rfl rfl)
theorem dX1_held_3 : decode cX1_held 3 = .ok (.invokestatic 88, 3) := op_184 (rdSeg sd_21_cX1_held_0 3 rfl rfl) (rdSeg sd_21_cX1_held_0 4 rfl rfl) (rdSeg sd_21_cX1_held_0 5 rfl rfl) rfl
theorem dX1_held_6 : decode cX1_held 6 = .ok (.invokestatic 93, 3) := op_184 (rdSeg sd_21_cX1_held_0 6 rfl rfl) (rdSeg sd_21_cX1_held_0 7 rfl rfl) (rdSeg sd_21_cX1_held_0 8 rfl rfl) rfl
theorem dX1_held_9 : decode cX1_held 9 = .ok (.ireturn, 1) := op_172 (rdSeg sd_21_cX1_held_0 9 rfl rfl)
def sg_21_cX1_counted_2 : List UInt8 := [0x00, 0x55, 0xac]
def sg_21_cX1_counted_1 : List UInt8 := 0x2a :: 0xb4 :: 0x00 :: 0x0c :: 0x1d :: 0x05 :: 0xb6 :: 0x00 :: 0x3f :: 0x36 :: 0x04 :: 0x2a :: 0xb4 :: 0x00 :: 0x30 :: 0x2a :: 0xb4 :: 0x00 :: 0x2a :: 0x1c :: 0x15 :: 0x04 :: 0x2a :: 0x1d :: 0xb6 :: 0x00 :: 0x63 :: 0xb6 :: 0x00 :: 0x51 :: 0x1c :: 0xb8 :: sg_21_cX1_counted_2
def sg_21_cX1_counted_0 : List UInt8 := 0x2a :: 0xb4 :: 0x00 :: 0x1b :: 0x1b :: 0x04 :: 0xb6 :: 0x00 :: 0x60 :: 0x3d :: 0x2a :: 0xb4 :: 0x00 :: 0x2a :: 0xb6 :: 0x00 :: 0x4d :: 0x9a :: 0x00 :: 0x05 :: 0x1c :: 0xac :: 0x2a :: 0xb4 :: 0x00 :: 0x1b :: 0x1b :: 0x03 :: 0xb6 :: 0x00 :: 0x60 :: 0x3e :: sg_21_cX1_counted_1
set_option maxRecDepth 100000 in
theorem sd_21_cX1_counted_0 : cX1_counted.data.toList.drop 0 = sg_21_cX1_counted_0 := by decide +kernel
theorem sd_21_cX1_counted_1 : cX1_counted.data.toList.drop 32 = sg_21_cX1_counted_1 := sg_next sd_21_cX1_counted_0 rfl
theorem sd_21_cX1_counted_2 : cX1_counted.data.toList.drop 64 = sg_21_cX1_counted_2 := sg_next sd_21_cX1_counted_1 rfl
theorem dX1_counted_0 : decode cX1_counted 0 = .ok (.aload_n 0, 1) := op_42 (rdSeg sd_21_cX1_counted_0 0 rfl rfl)
theorem dX1_counted_1 : decode cX1_counted 1 = .ok (.getfield 27, 3) := op_180 (rdSeg sd_21_cX1_counted_0 1 rfl rfl) (rdSeg sd_21_cX1_counted_0 2 rfl rfl) (rdSeg sd_21_cX1_counted_0 3 rfl rfl) rfl
theorem dX1_counted_4 : decode cX1_counted 4 = .ok (.iload_n 1, 1) := op_27 (rdSeg sd_21_cX1_counted_0 4 rfl rfl)
theorem dX1_counted_5 : decode cX1_counted 5 = .ok (.iconst 1, 1) := op_4 (rdSeg sd_21_cX1_counted_0 5 rfl rfl)
theorem dX1_counted_6 : decode cX1_counted 6 = .ok (.invokevirtual 96, 3) := op_182 (rdSeg sd_21_cX1_counted_0 6 rfl rfl) (rdSeg sd_21_cX1_counted_0 7 rfl rfl) (rdSeg sd_21_cX1_counted_0 8 rfl rfl) rfl
theorem dX1_counted_9 : decode cX1_counted 9 = .ok (.istore_n 2, 1) := op_61 (rdSeg sd_21_cX1_counted_0 9 rfl rfl)
theorem dX1_counted_10 : decode cX1_counted 10 = .ok (.aload_n 0, 1) := op_42 (rdSeg sd_21_cX1_counted_0 10 rfl rfl)
theorem dX1_counted_11 : decode cX1_counted 11 = .ok (.getfield 42, 3) := op_180 (rdSeg sd_21_cX1_counted_0 11 rfl rfl) (rdSeg sd_21_cX1_counted_0 12 rfl rfl) (rdSeg sd_21_cX1_counted_0 13 rfl rfl) rfl
theorem dX1_counted_14 : decode cX1_counted 14 = .ok (.invokevirtual 77, 3) := op_182 (rdSeg sd_21_cX1_counted_0 14 rfl rfl) (rdSeg sd_21_cX1_counted_0 15 rfl rfl) (rdSeg sd_21_cX1_counted_0 16 rfl rfl) rfl
theorem dX1_counted_17 : decode cX1_counted 17 = .ok (.ifCond .ne 5, 3) := op_154 (rdSeg sd_21_cX1_counted_0 17 rfl rfl) (rdSeg sd_21_cX1_counted_0 18 rfl rfl) (rdSeg sd_21_cX1_counted_0 19 rfl rfl) (by decide +kernel)
theorem dX1_counted_20 : decode cX1_counted 20 = .ok (.iload_n 2, 1) := op_28 (rdSeg sd_21_cX1_counted_0 20 rfl rfl)
theorem dX1_counted_21 : decode cX1_counted 21 = .ok (.ireturn, 1) := op_172 (rdSeg sd_21_cX1_counted_0 21 rfl rfl)
theorem dX1_counted_22 : decode cX1_counted 22 = .ok (.aload_n 0, 1) := op_42 (rdSeg sd_21_cX1_counted_0 22 rfl rfl)
theorem dX1_counted_23 : decode cX1_counted 23 = .ok (.getfield 27, 3) := op_180 (rdSeg sd_21_cX1_counted_0 23 rfl rfl) (rdSeg sd_21_cX1_counted_0 24 rfl rfl) (rdSeg sd_21_cX1_counted_0 25 rfl rfl) rfl
theorem dX1_counted_26 : decode cX1_counted 26 = .ok (.iload_n 1, 1) := op_27 (rdSeg sd_21_cX1_counted_0 26 rfl rfl)
theorem dX1_counted_27 : decode cX1_counted 27 = .ok (.iconst 0, 1) := op_3 (rdSeg sd_21_cX1_counted_0 27 rfl rfl)
theorem dX1_counted_28 : decode cX1_counted 28 = .ok (.invokevirtual 96, 3) := op_182 (rdSeg sd_21_cX1_counted_0 28 rfl rfl) (rdSeg sd_21_cX1_counted_0 29 rfl rfl) (rdSeg sd_21_cX1_counted_0 30 rfl rfl) rfl
theorem dX1_counted_31 : decode cX1_counted 31 = .ok (.istore_n 3, 1) := op_62 (rdSeg sd_21_cX1_counted_0 31 rfl rfl)
theorem dX1_counted_32 : decode cX1_counted 32 = .ok (.aload_n 0, 1) := op_42 (rdSeg sd_21_cX1_counted_1 0 rfl rfl)
theorem dX1_counted_33 : decode cX1_counted 33 = .ok (.getfield 12, 3) := op_180 (rdSeg sd_21_cX1_counted_1 1 rfl rfl) (rdSeg sd_21_cX1_counted_1 2 rfl rfl) (rdSeg sd_21_cX1_counted_1 3 rfl rfl) rfl
theorem dX1_counted_36 : decode cX1_counted 36 = .ok (.iload_n 3, 1) := op_29 (rdSeg sd_21_cX1_counted_1 4 rfl rfl)
theorem dX1_counted_37 : decode cX1_counted 37 = .ok (.iconst 2, 1) := op_5 (rdSeg sd_21_cX1_counted_1 5 rfl rfl)
theorem dX1_counted_38 : decode cX1_counted 38 = .ok (.invokevirtual 63, 3) := op_182 (rdSeg sd_21_cX1_counted_1 6 rfl rfl) (rdSeg sd_21_cX1_counted_1 7 rfl rfl) (rdSeg sd_21_cX1_counted_1 8 rfl rfl) rfl
theorem dX1_counted_41 : decode cX1_counted 41 = .ok (.istore 4, 2) := op_54 (rdSeg sd_21_cX1_counted_1 9 rfl rfl) (rdSeg sd_21_cX1_counted_1 10 rfl rfl)
theorem dX1_counted_43 : decode cX1_counted 43 = .ok (.aload_n 0, 1) := op_42 (rdSeg sd_21_cX1_counted_1 11 rfl rfl)
theorem dX1_counted_44 : decode cX1_counted 44 = .ok (.getfield 48, 3) := op_180 (rdSeg sd_21_cX1_counted_1 12 rfl rfl) (rdSeg sd_21_cX1_counted_1 13 rfl rfl) (rdSeg sd_21_cX1_counted_1 14 rfl rfl) rfl
theorem dX1_counted_47 : decode cX1_counted 47 = .ok (.aload_n 0, 1) := op_42 (rdSeg sd_21_cX1_counted_1 15 rfl rfl)
theorem dX1_counted_48 : decode cX1_counted 48 = .ok (.getfield 42, 3) := op_180 (rdSeg sd_21_cX1_counted_1 16 rfl rfl) (rdSeg sd_21_cX1_counted_1 17 rfl rfl) (rdSeg sd_21_cX1_counted_1 18 rfl rfl) rfl
theorem dX1_counted_51 : decode cX1_counted 51 = .ok (.iload_n 2, 1) := op_28 (rdSeg sd_21_cX1_counted_1 19 rfl rfl)
theorem dX1_counted_52 : decode cX1_counted 52 = .ok (.iload 4, 2) := op_21 (rdSeg sd_21_cX1_counted_1 20 rfl rfl) (rdSeg sd_21_cX1_counted_1 21 rfl rfl)
theorem dX1_counted_54 : decode cX1_counted 54 = .ok (.aload_n 0, 1) := op_42 (rdSeg sd_21_cX1_counted_1 22 rfl rfl)
theorem dX1_counted_55 : decode cX1_counted 55 = .ok (.iload_n 3, 1) := op_29 (rdSeg sd_21_cX1_counted_1 23 rfl rfl)
theorem dX1_counted_56 : decode cX1_counted 56 = .ok (.invokevirtual 99, 3) := op_182 (rdSeg sd_21_cX1_counted_1 24 rfl rfl) (rdSeg sd_21_cX1_counted_1 25 rfl rfl) (rdSeg sd_21_cX1_counted_1 26 rfl rfl) rfl
theorem dX1_counted_59 : decode cX1_counted 59 = .ok (.invokevirtual 81, 3) := op_182 (rdSeg sd_21_cX1_counted_1 27 rfl rfl) (rdSeg sd_21_cX1_counted_1 28 rfl rfl) (rdSeg sd_21_cX1_counted_1 29 rfl rfl) rfl
theorem dX1_counted_62 : decode cX1_counted 62 = .ok (.iload_n 2, 1) := op_28 (rdSeg sd_21_cX1_counted_1 30 rfl rfl)
theorem dX1_counted_63 : decode cX1_counted 63 = .ok (.invokestatic 85, 3) := op_184 (rdSeg sd_21_cX1_counted_1 31 rfl rfl) (rdSeg sd_21_cX1_counted_2 0 rfl rfl) (rdSeg sd_21_cX1_counted_2 1 rfl rfl) rfl
theorem dX1_counted_66 : decode cX1_counted 66 = .ok (.ireturn, 1) := op_172 (rdSeg sd_21_cX1_counted_2 2 rfl rfl)
def sg_21_cX1_claimants_1 : List UInt8 := [0x03, 0x01, 0xa7, 0xff, 0xe2, 0x1c, 0xac]
def sg_21_cX1_claimants_0 : List UInt8 := 0x03 :: 0x3d :: 0x03 :: 0x3e :: 0x1d :: 0x2a :: 0xb4 :: 0x00 :: 0x1b :: 0xb6 :: 0x00 :: 0x4d :: 0xa2 :: 0x00 :: 0x19 :: 0x2a :: 0xb4 :: 0x00 :: 0x1b :: 0x1d :: 0x03 :: 0xb6 :: 0x00 :: 0x60 :: 0x1b :: 0xa0 :: 0x00 :: 0x06 :: 0x84 :: 0x02 :: 0x01 :: 0x84 :: sg_21_cX1_claimants_1
set_option maxRecDepth 100000 in
theorem sd_21_cX1_claimants_0 : cX1_claimants.data.toList.drop 0 = sg_21_cX1_claimants_0 := by decide +kernel
theorem sd_21_cX1_claimants_1 : cX1_claimants.data.toList.drop 32 = sg_21_cX1_claimants_1 := sg_next sd_21_cX1_claimants_0 rfl
theorem dX1_claimants_0 : decode cX1_claimants 0 = .ok (.iconst 0, 1) := op_3 (rdSeg sd_21_cX1_claimants_0 0 rfl rfl)
theorem dX1_claimants_1 : decode cX1_claimants 1 = .ok (.istore_n 2, 1) := op_61 (rdSeg sd_21_cX1_claimants_0 1 rfl rfl)
theorem dX1_claimants_2 : decode cX1_claimants 2 = .ok (.iconst 0, 1) := op_3 (rdSeg sd_21_cX1_claimants_0 2 rfl rfl)
theorem dX1_claimants_3 : decode cX1_claimants 3 = .ok (.istore_n 3, 1) := op_62 (rdSeg sd_21_cX1_claimants_0 3 rfl rfl)
theorem dX1_claimants_4 : decode cX1_claimants 4 = .ok (.iload_n 3, 1) := op_29 (rdSeg sd_21_cX1_claimants_0 4 rfl rfl)
theorem dX1_claimants_5 : decode cX1_claimants 5 = .ok (.aload_n 0, 1) := op_42 (rdSeg sd_21_cX1_claimants_0 5 rfl rfl)
theorem dX1_claimants_6 : decode cX1_claimants 6 = .ok (.getfield 27, 3) := op_180 (rdSeg sd_21_cX1_claimants_0 6 rfl rfl) (rdSeg sd_21_cX1_claimants_0 7 rfl rfl) (rdSeg sd_21_cX1_claimants_0 8 rfl rfl) rfl
theorem dX1_claimants_9 : decode cX1_claimants 9 = .ok (.invokevirtual 77, 3) := op_182 (rdSeg sd_21_cX1_claimants_0 9 rfl rfl) (rdSeg sd_21_cX1_claimants_0 10 rfl rfl) (rdSeg sd_21_cX1_claimants_0 11 rfl rfl) rfl
theorem dX1_claimants_12 : decode cX1_claimants 12 = .ok (.if_icmp .ge 25, 3) := op_162 (rdSeg sd_21_cX1_claimants_0 12 rfl rfl) (rdSeg sd_21_cX1_claimants_0 13 rfl rfl) (rdSeg sd_21_cX1_claimants_0 14 rfl rfl) (by decide +kernel)
theorem dX1_claimants_15 : decode cX1_claimants 15 = .ok (.aload_n 0, 1) := op_42 (rdSeg sd_21_cX1_claimants_0 15 rfl rfl)
theorem dX1_claimants_16 : decode cX1_claimants 16 = .ok (.getfield 27, 3) := op_180 (rdSeg sd_21_cX1_claimants_0 16 rfl rfl) (rdSeg sd_21_cX1_claimants_0 17 rfl rfl) (rdSeg sd_21_cX1_claimants_0 18 rfl rfl) rfl
theorem dX1_claimants_19 : decode cX1_claimants 19 = .ok (.iload_n 3, 1) := op_29 (rdSeg sd_21_cX1_claimants_0 19 rfl rfl)
theorem dX1_claimants_20 : decode cX1_claimants 20 = .ok (.iconst 0, 1) := op_3 (rdSeg sd_21_cX1_claimants_0 20 rfl rfl)
theorem dX1_claimants_21 : decode cX1_claimants 21 = .ok (.invokevirtual 96, 3) := op_182 (rdSeg sd_21_cX1_claimants_0 21 rfl rfl) (rdSeg sd_21_cX1_claimants_0 22 rfl rfl) (rdSeg sd_21_cX1_claimants_0 23 rfl rfl) rfl
theorem dX1_claimants_24 : decode cX1_claimants 24 = .ok (.iload_n 1, 1) := op_27 (rdSeg sd_21_cX1_claimants_0 24 rfl rfl)
theorem dX1_claimants_25 : decode cX1_claimants 25 = .ok (.if_icmp .ne 6, 3) := op_160 (rdSeg sd_21_cX1_claimants_0 25 rfl rfl) (rdSeg sd_21_cX1_claimants_0 26 rfl rfl) (rdSeg sd_21_cX1_claimants_0 27 rfl rfl) (by decide +kernel)
theorem dX1_claimants_28 : decode cX1_claimants 28 = .ok (.iinc 2 1, 3) := op_132 (rdSeg sd_21_cX1_claimants_0 28 rfl rfl) (rdSeg sd_21_cX1_claimants_0 29 rfl rfl) (rdSeg sd_21_cX1_claimants_0 30 rfl rfl) (by decide +kernel)
theorem dX1_claimants_31 : decode cX1_claimants 31 = .ok (.iinc 3 1, 3) := op_132 (rdSeg sd_21_cX1_claimants_0 31 rfl rfl) (rdSeg sd_21_cX1_claimants_1 0 rfl rfl) (rdSeg sd_21_cX1_claimants_1 1 rfl rfl) (by decide +kernel)
theorem dX1_claimants_34 : decode cX1_claimants 34 = .ok (.goto (-30), 3) := op_167 (rdSeg sd_21_cX1_claimants_1 2 rfl rfl) (rdSeg sd_21_cX1_claimants_1 3 rfl rfl) (rdSeg sd_21_cX1_claimants_1 4 rfl rfl) (by decide +kernel)
theorem dX1_claimants_37 : decode cX1_claimants 37 = .ok (.iload_n 2, 1) := op_28 (rdSeg sd_21_cX1_claimants_1 5 rfl rfl)
theorem dX1_claimants_38 : decode cX1_claimants 38 = .ok (.ireturn, 1) := op_172 (rdSeg sd_21_cX1_claimants_1 6 rfl rfl)
def sg_21_cX1_countedBelow_1 : List UInt8 := [0x60, 0x1b, 0xa0, 0x00, 0x0c, 0x1d, 0x2a, 0x15, 0x04, 0xb6, 0x00, 0x67, 0x60, 0x3e, 0x84, 0x04, 0x01, 0xa7, 0xff, 0xd4, 0x1d, 0xac]
def sg_21_cX1_countedBelow_0 : List UInt8 := 0x03 :: 0x3e :: 0x03 :: 0x36 :: 0x04 :: 0x15 :: 0x04 :: 0x1c :: 0xa2 :: 0x00 :: 0x2c :: 0x15 :: 0x04 :: 0x2a :: 0xb4 :: 0x00 :: 0x1b :: 0xb6 :: 0x00 :: 0x4d :: 0xa2 :: 0x00 :: 0x20 :: 0x2a :: 0xb4 :: 0x00 :: 0x1b :: 0x15 :: 0x04 :: 0x03 :: 0xb6 :: 0x00 :: sg_21_cX1_countedBelow_1
set_option maxRecDepth 100000 in
theorem sd_21_cX1_countedBelow_0 : cX1_countedBelow.data.toList.drop 0 = sg_21_cX1_countedBelow_0 := by decide +kernel
theorem sd_21_cX1_countedBelow_1 : cX1_countedBelow.data.toList.drop 32 = sg_21_cX1_countedBelow_1 := sg_next sd_21_cX1_countedBelow_0 rfl
theorem dX1_countedBelow_0 : decode cX1_countedBelow 0 = .ok (.iconst 0, 1) := op_3 (rdSeg sd_21_cX1_countedBelow_0 0 rfl rfl)
theorem dX1_countedBelow_1 : decode cX1_countedBelow 1 = .ok (.istore_n 3, 1) := op_62 (rdSeg sd_21_cX1_countedBelow_0 1 rfl rfl)
theorem dX1_countedBelow_2 : decode cX1_countedBelow 2 = .ok (.iconst 0, 1) := op_3 (rdSeg sd_21_cX1_countedBelow_0 2 rfl rfl)
theorem dX1_countedBelow_3 : decode cX1_countedBelow 3 = .ok (.istore 4, 2) := op_54 (rdSeg sd_21_cX1_countedBelow_0 3 rfl rfl) (rdSeg sd_21_cX1_countedBelow_0 4 rfl rfl)
theorem dX1_countedBelow_5 : decode cX1_countedBelow 5 = .ok (.iload 4, 2) := op_21 (rdSeg sd_21_cX1_countedBelow_0 5 rfl rfl) (rdSeg sd_21_cX1_countedBelow_0 6 rfl rfl)
theorem dX1_countedBelow_7 : decode cX1_countedBelow 7 = .ok (.iload_n 2, 1) := op_28 (rdSeg sd_21_cX1_countedBelow_0 7 rfl rfl)
theorem dX1_countedBelow_8 : decode cX1_countedBelow 8 = .ok (.if_icmp .ge 44, 3) := op_162 (rdSeg sd_21_cX1_countedBelow_0 8 rfl rfl) (rdSeg sd_21_cX1_countedBelow_0 9 rfl rfl) (rdSeg sd_21_cX1_countedBelow_0 10 rfl rfl) (by decide +kernel)
theorem dX1_countedBelow_11 : decode cX1_countedBelow 11 = .ok (.iload 4, 2) := op_21 (rdSeg sd_21_cX1_countedBelow_0 11 rfl rfl) (rdSeg sd_21_cX1_countedBelow_0 12 rfl rfl)
theorem dX1_countedBelow_13 : decode cX1_countedBelow 13 = .ok (.aload_n 0, 1) := op_42 (rdSeg sd_21_cX1_countedBelow_0 13 rfl rfl)
theorem dX1_countedBelow_14 : decode cX1_countedBelow 14 = .ok (.getfield 27, 3) := op_180 (rdSeg sd_21_cX1_countedBelow_0 14 rfl rfl) (rdSeg sd_21_cX1_countedBelow_0 15 rfl rfl) (rdSeg sd_21_cX1_countedBelow_0 16 rfl rfl) rfl
theorem dX1_countedBelow_17 : decode cX1_countedBelow 17 = .ok (.invokevirtual 77, 3) := op_182 (rdSeg sd_21_cX1_countedBelow_0 17 rfl rfl) (rdSeg sd_21_cX1_countedBelow_0 18 rfl rfl) (rdSeg sd_21_cX1_countedBelow_0 19 rfl rfl) rfl
theorem dX1_countedBelow_20 : decode cX1_countedBelow 20 = .ok (.if_icmp .ge 32, 3) := op_162 (rdSeg sd_21_cX1_countedBelow_0 20 rfl rfl) (rdSeg sd_21_cX1_countedBelow_0 21 rfl rfl) (rdSeg sd_21_cX1_countedBelow_0 22 rfl rfl) (by decide +kernel)
theorem dX1_countedBelow_23 : decode cX1_countedBelow 23 = .ok (.aload_n 0, 1) := op_42 (rdSeg sd_21_cX1_countedBelow_0 23 rfl rfl)
theorem dX1_countedBelow_24 : decode cX1_countedBelow 24 = .ok (.getfield 27, 3) := op_180 (rdSeg sd_21_cX1_countedBelow_0 24 rfl rfl) (rdSeg sd_21_cX1_countedBelow_0 25 rfl rfl) (rdSeg sd_21_cX1_countedBelow_0 26 rfl rfl) rfl
theorem dX1_countedBelow_27 : decode cX1_countedBelow 27 = .ok (.iload 4, 2) := op_21 (rdSeg sd_21_cX1_countedBelow_0 27 rfl rfl) (rdSeg sd_21_cX1_countedBelow_0 28 rfl rfl)
theorem dX1_countedBelow_29 : decode cX1_countedBelow 29 = .ok (.iconst 0, 1) := op_3 (rdSeg sd_21_cX1_countedBelow_0 29 rfl rfl)
theorem dX1_countedBelow_30 : decode cX1_countedBelow 30 = .ok (.invokevirtual 96, 3) := op_182 (rdSeg sd_21_cX1_countedBelow_0 30 rfl rfl) (rdSeg sd_21_cX1_countedBelow_0 31 rfl rfl) (rdSeg sd_21_cX1_countedBelow_1 0 rfl rfl) rfl
theorem dX1_countedBelow_33 : decode cX1_countedBelow 33 = .ok (.iload_n 1, 1) := op_27 (rdSeg sd_21_cX1_countedBelow_1 1 rfl rfl)
theorem dX1_countedBelow_34 : decode cX1_countedBelow 34 = .ok (.if_icmp .ne 12, 3) := op_160 (rdSeg sd_21_cX1_countedBelow_1 2 rfl rfl) (rdSeg sd_21_cX1_countedBelow_1 3 rfl rfl) (rdSeg sd_21_cX1_countedBelow_1 4 rfl rfl) (by decide +kernel)
theorem dX1_countedBelow_37 : decode cX1_countedBelow 37 = .ok (.iload_n 3, 1) := op_29 (rdSeg sd_21_cX1_countedBelow_1 5 rfl rfl)
theorem dX1_countedBelow_38 : decode cX1_countedBelow 38 = .ok (.aload_n 0, 1) := op_42 (rdSeg sd_21_cX1_countedBelow_1 6 rfl rfl)
theorem dX1_countedBelow_39 : decode cX1_countedBelow 39 = .ok (.iload 4, 2) := op_21 (rdSeg sd_21_cX1_countedBelow_1 7 rfl rfl) (rdSeg sd_21_cX1_countedBelow_1 8 rfl rfl)
theorem dX1_countedBelow_41 : decode cX1_countedBelow 41 = .ok (.invokevirtual 103, 3) := op_182 (rdSeg sd_21_cX1_countedBelow_1 9 rfl rfl) (rdSeg sd_21_cX1_countedBelow_1 10 rfl rfl) (rdSeg sd_21_cX1_countedBelow_1 11 rfl rfl) rfl
theorem dX1_countedBelow_44 : decode cX1_countedBelow 44 = .ok (.iadd, 1) := op_96 (rdSeg sd_21_cX1_countedBelow_1 12 rfl rfl)
theorem dX1_countedBelow_45 : decode cX1_countedBelow 45 = .ok (.istore_n 3, 1) := op_62 (rdSeg sd_21_cX1_countedBelow_1 13 rfl rfl)
theorem dX1_countedBelow_46 : decode cX1_countedBelow 46 = .ok (.iinc 4 1, 3) := op_132 (rdSeg sd_21_cX1_countedBelow_1 14 rfl rfl) (rdSeg sd_21_cX1_countedBelow_1 15 rfl rfl) (rdSeg sd_21_cX1_countedBelow_1 16 rfl rfl) (by decide +kernel)
theorem dX1_countedBelow_49 : decode cX1_countedBelow 49 = .ok (.goto (-44), 3) := op_167 (rdSeg sd_21_cX1_countedBelow_1 17 rfl rfl) (rdSeg sd_21_cX1_countedBelow_1 18 rfl rfl) (rdSeg sd_21_cX1_countedBelow_1 19 rfl rfl) (by decide +kernel)
theorem dX1_countedBelow_52 : decode cX1_countedBelow 52 = .ok (.iload_n 3, 1) := op_29 (rdSeg sd_21_cX1_countedBelow_1 20 rfl rfl)
theorem dX1_countedBelow_53 : decode cX1_countedBelow 53 = .ok (.ireturn, 1) := op_172 (rdSeg sd_21_cX1_countedBelow_1 21 rfl rfl)
def sg_21_cX1_shareOf_3 : List UInt8 := [0x04, 0x2a, 0x1d, 0x1b, 0xb6, 0x00, 0x6a, 0x64, 0x15, 0x05, 0xb8, 0x00, 0x55, 0xac]
def sg_21_cX1_shareOf_2 : List UInt8 := 0xb6 :: 0x00 :: 0x6a :: 0x36 :: 0x06 :: 0x15 :: 0x06 :: 0x15 :: 0x04 :: 0xa3 :: 0x00 :: 0x08 :: 0x15 :: 0x05 :: 0xa7 :: 0x00 :: 0x10 :: 0x15 :: 0x04 :: 0x85 :: 0x15 :: 0x05 :: 0x85 :: 0x69 :: 0x15 :: 0x06 :: 0x85 :: 0xb8 :: 0x00 :: 0x45 :: 0xac :: 0x15 :: sg_21_cX1_shareOf_3
def sg_21_cX1_shareOf_1 : List UInt8 := 0x15 :: 0x05 :: 0x15 :: 0x04 :: 0x85 :: 0x2a :: 0x1d :: 0xb6 :: 0x00 :: 0x63 :: 0x85 :: 0xb8 :: 0x00 :: 0x45 :: 0xb8 :: 0x00 :: 0x58 :: 0xac :: 0x1c :: 0x04 :: 0xa0 :: 0x00 :: 0x2b :: 0x2a :: 0x1d :: 0x2a :: 0xb4 :: 0x00 :: 0x1b :: 0xb6 :: 0x00 :: 0x4d :: sg_21_cX1_shareOf_2
def sg_21_cX1_shareOf_0 : List UInt8 := 0x2a :: 0xb4 :: 0x00 :: 0x1b :: 0x1b :: 0x03 :: 0xb6 :: 0x00 :: 0x60 :: 0x3e :: 0x2a :: 0xb4 :: 0x00 :: 0x0c :: 0x1d :: 0x05 :: 0xb6 :: 0x00 :: 0x3f :: 0x36 :: 0x04 :: 0x2a :: 0x1b :: 0xb6 :: 0x00 :: 0x67 :: 0x36 :: 0x05 :: 0x1c :: 0x9a :: 0x00 :: 0x15 :: sg_21_cX1_shareOf_1
set_option maxRecDepth 100000 in
theorem sd_21_cX1_shareOf_0 : cX1_shareOf.data.toList.drop 0 = sg_21_cX1_shareOf_0 := by decide +kernel
theorem sd_21_cX1_shareOf_1 : cX1_shareOf.data.toList.drop 32 = sg_21_cX1_shareOf_1 := sg_next sd_21_cX1_shareOf_0 rfl
theorem sd_21_cX1_shareOf_2 : cX1_shareOf.data.toList.drop 64 = sg_21_cX1_shareOf_2 := sg_next sd_21_cX1_shareOf_1 rfl
theorem sd_21_cX1_shareOf_3 : cX1_shareOf.data.toList.drop 96 = sg_21_cX1_shareOf_3 := sg_next sd_21_cX1_shareOf_2 rfl
theorem dX1_shareOf_0 : decode cX1_shareOf 0 = .ok (.aload_n 0, 1) := op_42 (rdSeg sd_21_cX1_shareOf_0 0 rfl rfl)
theorem dX1_shareOf_1 : decode cX1_shareOf 1 = .ok (.getfield 27, 3) := op_180 (rdSeg sd_21_cX1_shareOf_0 1 rfl rfl) (rdSeg sd_21_cX1_shareOf_0 2 rfl rfl) (rdSeg sd_21_cX1_shareOf_0 3 rfl rfl) rfl
theorem dX1_shareOf_4 : decode cX1_shareOf 4 = .ok (.iload_n 1, 1) := op_27 (rdSeg sd_21_cX1_shareOf_0 4 rfl rfl)
theorem dX1_shareOf_5 : decode cX1_shareOf 5 = .ok (.iconst 0, 1) := op_3 (rdSeg sd_21_cX1_shareOf_0 5 rfl rfl)
theorem dX1_shareOf_6 : decode cX1_shareOf 6 = .ok (.invokevirtual 96, 3) := op_182 (rdSeg sd_21_cX1_shareOf_0 6 rfl rfl) (rdSeg sd_21_cX1_shareOf_0 7 rfl rfl) (rdSeg sd_21_cX1_shareOf_0 8 rfl rfl) rfl
theorem dX1_shareOf_9 : decode cX1_shareOf 9 = .ok (.istore_n 3, 1) := op_62 (rdSeg sd_21_cX1_shareOf_0 9 rfl rfl)
theorem dX1_shareOf_10 : decode cX1_shareOf 10 = .ok (.aload_n 0, 1) := op_42 (rdSeg sd_21_cX1_shareOf_0 10 rfl rfl)
theorem dX1_shareOf_11 : decode cX1_shareOf 11 = .ok (.getfield 12, 3) := op_180 (rdSeg sd_21_cX1_shareOf_0 11 rfl rfl) (rdSeg sd_21_cX1_shareOf_0 12 rfl rfl) (rdSeg sd_21_cX1_shareOf_0 13 rfl rfl) rfl
theorem dX1_shareOf_14 : decode cX1_shareOf 14 = .ok (.iload_n 3, 1) := op_29 (rdSeg sd_21_cX1_shareOf_0 14 rfl rfl)
theorem dX1_shareOf_15 : decode cX1_shareOf 15 = .ok (.iconst 2, 1) := op_5 (rdSeg sd_21_cX1_shareOf_0 15 rfl rfl)
theorem dX1_shareOf_16 : decode cX1_shareOf 16 = .ok (.invokevirtual 63, 3) := op_182 (rdSeg sd_21_cX1_shareOf_0 16 rfl rfl) (rdSeg sd_21_cX1_shareOf_0 17 rfl rfl) (rdSeg sd_21_cX1_shareOf_0 18 rfl rfl) rfl
theorem dX1_shareOf_19 : decode cX1_shareOf 19 = .ok (.istore 4, 2) := op_54 (rdSeg sd_21_cX1_shareOf_0 19 rfl rfl) (rdSeg sd_21_cX1_shareOf_0 20 rfl rfl)
theorem dX1_shareOf_21 : decode cX1_shareOf 21 = .ok (.aload_n 0, 1) := op_42 (rdSeg sd_21_cX1_shareOf_0 21 rfl rfl)
theorem dX1_shareOf_22 : decode cX1_shareOf 22 = .ok (.iload_n 1, 1) := op_27 (rdSeg sd_21_cX1_shareOf_0 22 rfl rfl)
theorem dX1_shareOf_23 : decode cX1_shareOf 23 = .ok (.invokevirtual 103, 3) := op_182 (rdSeg sd_21_cX1_shareOf_0 23 rfl rfl) (rdSeg sd_21_cX1_shareOf_0 24 rfl rfl) (rdSeg sd_21_cX1_shareOf_0 25 rfl rfl) rfl
theorem dX1_shareOf_26 : decode cX1_shareOf 26 = .ok (.istore 5, 2) := op_54 (rdSeg sd_21_cX1_shareOf_0 26 rfl rfl) (rdSeg sd_21_cX1_shareOf_0 27 rfl rfl)
theorem dX1_shareOf_28 : decode cX1_shareOf 28 = .ok (.iload_n 2, 1) := op_28 (rdSeg sd_21_cX1_shareOf_0 28 rfl rfl)
theorem dX1_shareOf_29 : decode cX1_shareOf 29 = .ok (.ifCond .ne 21, 3) := op_154 (rdSeg sd_21_cX1_shareOf_0 29 rfl rfl) (rdSeg sd_21_cX1_shareOf_0 30 rfl rfl) (rdSeg sd_21_cX1_shareOf_0 31 rfl rfl) (by decide +kernel)
theorem dX1_shareOf_32 : decode cX1_shareOf 32 = .ok (.iload 5, 2) := op_21 (rdSeg sd_21_cX1_shareOf_1 0 rfl rfl) (rdSeg sd_21_cX1_shareOf_1 1 rfl rfl)
theorem dX1_shareOf_34 : decode cX1_shareOf 34 = .ok (.iload 4, 2) := op_21 (rdSeg sd_21_cX1_shareOf_1 2 rfl rfl) (rdSeg sd_21_cX1_shareOf_1 3 rfl rfl)
theorem dX1_shareOf_36 : decode cX1_shareOf 36 = .ok (.i2l, 1) := op_133 (rdSeg sd_21_cX1_shareOf_1 4 rfl rfl)
theorem dX1_shareOf_37 : decode cX1_shareOf 37 = .ok (.aload_n 0, 1) := op_42 (rdSeg sd_21_cX1_shareOf_1 5 rfl rfl)
theorem dX1_shareOf_38 : decode cX1_shareOf 38 = .ok (.iload_n 3, 1) := op_29 (rdSeg sd_21_cX1_shareOf_1 6 rfl rfl)
theorem dX1_shareOf_39 : decode cX1_shareOf 39 = .ok (.invokevirtual 99, 3) := op_182 (rdSeg sd_21_cX1_shareOf_1 7 rfl rfl) (rdSeg sd_21_cX1_shareOf_1 8 rfl rfl) (rdSeg sd_21_cX1_shareOf_1 9 rfl rfl) rfl
theorem dX1_shareOf_42 : decode cX1_shareOf 42 = .ok (.i2l, 1) := op_133 (rdSeg sd_21_cX1_shareOf_1 10 rfl rfl)
theorem dX1_shareOf_43 : decode cX1_shareOf 43 = .ok (.invokestatic 69, 3) := op_184 (rdSeg sd_21_cX1_shareOf_1 11 rfl rfl) (rdSeg sd_21_cX1_shareOf_1 12 rfl rfl) (rdSeg sd_21_cX1_shareOf_1 13 rfl rfl) rfl
theorem dX1_shareOf_46 : decode cX1_shareOf 46 = .ok (.invokestatic 88, 3) := op_184 (rdSeg sd_21_cX1_shareOf_1 14 rfl rfl) (rdSeg sd_21_cX1_shareOf_1 15 rfl rfl) (rdSeg sd_21_cX1_shareOf_1 16 rfl rfl) rfl
theorem dX1_shareOf_49 : decode cX1_shareOf 49 = .ok (.ireturn, 1) := op_172 (rdSeg sd_21_cX1_shareOf_1 17 rfl rfl)
theorem dX1_shareOf_50 : decode cX1_shareOf 50 = .ok (.iload_n 2, 1) := op_28 (rdSeg sd_21_cX1_shareOf_1 18 rfl rfl)
theorem dX1_shareOf_51 : decode cX1_shareOf 51 = .ok (.iconst 1, 1) := op_4 (rdSeg sd_21_cX1_shareOf_1 19 rfl rfl)
theorem dX1_shareOf_52 : decode cX1_shareOf 52 = .ok (.if_icmp .ne 43, 3) := op_160 (rdSeg sd_21_cX1_shareOf_1 20 rfl rfl) (rdSeg sd_21_cX1_shareOf_1 21 rfl rfl) (rdSeg sd_21_cX1_shareOf_1 22 rfl rfl) (by decide +kernel)
theorem dX1_shareOf_55 : decode cX1_shareOf 55 = .ok (.aload_n 0, 1) := op_42 (rdSeg sd_21_cX1_shareOf_1 23 rfl rfl)
theorem dX1_shareOf_56 : decode cX1_shareOf 56 = .ok (.iload_n 3, 1) := op_29 (rdSeg sd_21_cX1_shareOf_1 24 rfl rfl)
theorem dX1_shareOf_57 : decode cX1_shareOf 57 = .ok (.aload_n 0, 1) := op_42 (rdSeg sd_21_cX1_shareOf_1 25 rfl rfl)
theorem dX1_shareOf_58 : decode cX1_shareOf 58 = .ok (.getfield 27, 3) := op_180 (rdSeg sd_21_cX1_shareOf_1 26 rfl rfl) (rdSeg sd_21_cX1_shareOf_1 27 rfl rfl) (rdSeg sd_21_cX1_shareOf_1 28 rfl rfl) rfl
theorem dX1_shareOf_61 : decode cX1_shareOf 61 = .ok (.invokevirtual 77, 3) := op_182 (rdSeg sd_21_cX1_shareOf_1 29 rfl rfl) (rdSeg sd_21_cX1_shareOf_1 30 rfl rfl) (rdSeg sd_21_cX1_shareOf_1 31 rfl rfl) rfl
theorem dX1_shareOf_64 : decode cX1_shareOf 64 = .ok (.invokevirtual 106, 3) := op_182 (rdSeg sd_21_cX1_shareOf_2 0 rfl rfl) (rdSeg sd_21_cX1_shareOf_2 1 rfl rfl) (rdSeg sd_21_cX1_shareOf_2 2 rfl rfl) rfl
theorem dX1_shareOf_67 : decode cX1_shareOf 67 = .ok (.istore 6, 2) := op_54 (rdSeg sd_21_cX1_shareOf_2 3 rfl rfl) (rdSeg sd_21_cX1_shareOf_2 4 rfl rfl)
end
section
-- decode rows of the class
def sg_22_cX1_shareOf_3 : List UInt8 := [0x04, 0x2a, 0x1d, 0x1b, 0xb6, 0x00, 0x6a, 0x64, 0x15, 0x05, 0xb8, 0x00, 0x55, 0xac]
def sg_22_cX1_shareOf_2 : List UInt8 := 0xb6 :: 0x00 :: 0x6a :: 0x36 :: 0x06 :: 0x15 :: 0x06 :: 0x15 :: 0x04 :: 0xa3 :: 0x00 :: 0x08 :: 0x15 :: 0x05 :: 0xa7 :: 0x00 :: 0x10 :: 0x15 :: 0x04 :: 0x85 :: 0x15 :: 0x05 :: 0x85 :: 0x69 :: 0x15 :: 0x06 :: 0x85 :: 0xb8 :: 0x00 :: 0x45 :: 0xac :: 0x15 :: sg_22_cX1_shareOf_3
def sg_22_cX1_shareOf_1 : List UInt8 := 0x15 :: 0x05 :: 0x15 :: 0x04 :: 0x85 :: 0x2a :: 0x1d :: 0xb6 :: 0x00 :: 0x63 :: 0x85 :: 0xb8 :: 0x00 :: 0x45 :: 0xb8 :: 0x00 :: 0x58 :: 0xac :: 0x1c :: 0x04 :: 0xa0 :: 0x00 :: 0x2b :: 0x2a :: 0x1d :: 0x2a :: 0xb4 :: 0x00 :: 0x1b :: 0xb6 :: 0x00 :: 0x4d :: sg_22_cX1_shareOf_2
def sg_22_cX1_shareOf_0 : List UInt8 := 0x2a :: 0xb4 :: 0x00 :: 0x1b :: 0x1b :: 0x03 :: 0xb6 :: 0x00 :: 0x60 :: 0x3e :: 0x2a :: 0xb4 :: 0x00 :: 0x0c :: 0x1d :: 0x05 :: 0xb6 :: 0x00 :: 0x3f :: 0x36 :: 0x04 :: 0x2a :: 0x1b :: 0xb6 :: 0x00 :: 0x67 :: 0x36 :: 0x05 :: 0x1c :: 0x9a :: 0x00 :: 0x15 :: sg_22_cX1_shareOf_1
set_option maxRecDepth 100000 in
theorem sd_22_cX1_shareOf_0 : cX1_shareOf.data.toList.drop 0 = sg_22_cX1_shareOf_0 := by decide +kernel
theorem sd_22_cX1_shareOf_1 : cX1_shareOf.data.toList.drop 32 = sg_22_cX1_shareOf_1 := sg_next sd_22_cX1_shareOf_0 rfl
theorem sd_22_cX1_shareOf_2 : cX1_shareOf.data.toList.drop 64 = sg_22_cX1_shareOf_2 := sg_next sd_22_cX1_shareOf_1 rfl
theorem sd_22_cX1_shareOf_3 : cX1_shareOf.data.toList.drop 96 = sg_22_cX1_shareOf_3 := sg_next sd_22_cX1_shareOf_2 rfl
theorem dX1_shareOf_69 : decode cX1_shareOf 69 = .ok (.iload 6, 2) := op_21 (rdSeg sd_22_cX1_shareOf_2 5 rfl rfl) (rdSeg sd_22_cX1_shareOf_2 6 rfl rfl)
theorem dX1_shareOf_71 : decode cX1_shareOf 71 = .ok (.iload 4, 2) := op_21 (rdSeg sd_22_cX1_shareOf_2 7 rfl rfl) (rdSeg sd_22_cX1_shareOf_2 8 rfl rfl)
theorem dX1_shareOf_73 : decode cX1_shareOf 73 = .ok (.if_icmp .gt 8, 3) := op_163 (rdSeg sd_22_cX1_shareOf_2 9 rfl rfl) (rdSeg sd_22_cX1_shareOf_2 10 rfl rfl) (rdSeg sd_22_cX1_shareOf_2 11 rfl rfl) (by decide +kernel)
theorem dX1_shareOf_76 : decode cX1_shareOf 76 = .ok (.iload 5, 2) := op_21 (rdSeg sd_22_cX1_shareOf_2 12 rfl rfl) (rdSeg sd_22_cX1_shareOf_2 13 rfl rfl)
theorem dX1_shareOf_78 : decode cX1_shareOf 78 = .ok (.goto 16, 3) := op_167 (rdSeg sd_22_cX1_shareOf_2 14 rfl rfl) (rdSeg sd_22_cX1_shareOf_2 15 rfl rfl) (rdSeg sd_22_cX1_shareOf_2 16 rfl rfl) (by decide +kernel)
theorem dX1_shareOf_81 : decode cX1_shareOf 81 = .ok (.iload 4, 2) := op_21 (rdSeg sd_22_cX1_shareOf_2 17 rfl rfl) (rdSeg sd_22_cX1_shareOf_2 18 rfl rfl)
theorem dX1_shareOf_83 : decode cX1_shareOf 83 = .ok (.i2l, 1) := op_133 (rdSeg sd_22_cX1_shareOf_2 19 rfl rfl)
theorem dX1_shareOf_84 : decode cX1_shareOf 84 = .ok (.iload 5, 2) := op_21 (rdSeg sd_22_cX1_shareOf_2 20 rfl rfl) (rdSeg sd_22_cX1_shareOf_2 21 rfl rfl)
theorem dX1_shareOf_86 : decode cX1_shareOf 86 = .ok (.i2l, 1) := op_133 (rdSeg sd_22_cX1_shareOf_2 22 rfl rfl)
theorem dX1_shareOf_87 : decode cX1_shareOf 87 = .ok (.lmul, 1) := op_105 (rdSeg sd_22_cX1_shareOf_2 23 rfl rfl)
theorem dX1_shareOf_88 : decode cX1_shareOf 88 = .ok (.iload 6, 2) := op_21 (rdSeg sd_22_cX1_shareOf_2 24 rfl rfl) (rdSeg sd_22_cX1_shareOf_2 25 rfl rfl)
theorem dX1_shareOf_90 : decode cX1_shareOf 90 = .ok (.i2l, 1) := op_133 (rdSeg sd_22_cX1_shareOf_2 26 rfl rfl)
theorem dX1_shareOf_91 : decode cX1_shareOf 91 = .ok (.invokestatic 69, 3) := op_184 (rdSeg sd_22_cX1_shareOf_2 27 rfl rfl) (rdSeg sd_22_cX1_shareOf_2 28 rfl rfl) (rdSeg sd_22_cX1_shareOf_2 29 rfl rfl) rfl
theorem dX1_shareOf_94 : decode cX1_shareOf 94 = .ok (.ireturn, 1) := op_172 (rdSeg sd_22_cX1_shareOf_2 30 rfl rfl)
theorem dX1_shareOf_95 : decode cX1_shareOf 95 = .ok (.iload 4, 2) := op_21 (rdSeg sd_22_cX1_shareOf_2 31 rfl rfl) (rdSeg sd_22_cX1_shareOf_3 0 rfl rfl)
theorem dX1_shareOf_97 : decode cX1_shareOf 97 = .ok (.aload_n 0, 1) := op_42 (rdSeg sd_22_cX1_shareOf_3 1 rfl rfl)
theorem dX1_shareOf_98 : decode cX1_shareOf 98 = .ok (.iload_n 3, 1) := op_29 (rdSeg sd_22_cX1_shareOf_3 2 rfl rfl)
theorem dX1_shareOf_99 : decode cX1_shareOf 99 = .ok (.iload_n 1, 1) := op_27 (rdSeg sd_22_cX1_shareOf_3 3 rfl rfl)
theorem dX1_shareOf_100 : decode cX1_shareOf 100 = .ok (.invokevirtual 106, 3) := op_182 (rdSeg sd_22_cX1_shareOf_3 4 rfl rfl) (rdSeg sd_22_cX1_shareOf_3 5 rfl rfl) (rdSeg sd_22_cX1_shareOf_3 6 rfl rfl) rfl
theorem dX1_shareOf_103 : decode cX1_shareOf 103 = .ok (.isub, 1) := op_100 (rdSeg sd_22_cX1_shareOf_3 7 rfl rfl)
theorem dX1_shareOf_104 : decode cX1_shareOf 104 = .ok (.iload 5, 2) := op_21 (rdSeg sd_22_cX1_shareOf_3 8 rfl rfl) (rdSeg sd_22_cX1_shareOf_3 9 rfl rfl)
theorem dX1_shareOf_106 : decode cX1_shareOf 106 = .ok (.invokestatic 85, 3) := op_184 (rdSeg sd_22_cX1_shareOf_3 10 rfl rfl) (rdSeg sd_22_cX1_shareOf_3 11 rfl rfl) (rdSeg sd_22_cX1_shareOf_3 12 rfl rfl) rfl
theorem dX1_shareOf_109 : decode cX1_shareOf 109 = .ok (.ireturn, 1) := op_172 (rdSeg sd_22_cX1_shareOf_3 13 rfl rfl)
def sg_22_cX1_leftOf_1 : List UInt8 := [0xb6, 0x00, 0x60, 0x1b, 0xa0, 0x00, 0x0d, 0x1d, 0x2a, 0x15, 0x04, 0x1c, 0xb6, 0x00, 0x6d, 0x64, 0x3e, 0x84, 0x04, 0x01, 0xa7, 0xff, 0xd9, 0x1d, 0xac]
def sg_22_cX1_leftOf_0 : List UInt8 := 0x2a :: 0xb4 :: 0x00 :: 0x0c :: 0x1b :: 0x05 :: 0xb6 :: 0x00 :: 0x3f :: 0x3e :: 0x03 :: 0x36 :: 0x04 :: 0x15 :: 0x04 :: 0x2a :: 0xb4 :: 0x00 :: 0x1b :: 0xb6 :: 0x00 :: 0x4d :: 0xa2 :: 0x00 :: 0x21 :: 0x2a :: 0xb4 :: 0x00 :: 0x1b :: 0x15 :: 0x04 :: 0x03 :: sg_22_cX1_leftOf_1
set_option maxRecDepth 100000 in
theorem sd_22_cX1_leftOf_0 : cX1_leftOf.data.toList.drop 0 = sg_22_cX1_leftOf_0 := by decide +kernel
theorem sd_22_cX1_leftOf_1 : cX1_leftOf.data.toList.drop 32 = sg_22_cX1_leftOf_1 := sg_next sd_22_cX1_leftOf_0 rfl
theorem dX1_leftOf_0 : decode cX1_leftOf 0 = .ok (.aload_n 0, 1) := op_42 (rdSeg sd_22_cX1_leftOf_0 0 rfl rfl)
theorem dX1_leftOf_1 : decode cX1_leftOf 1 = .ok (.getfield 12, 3) := op_180 (rdSeg sd_22_cX1_leftOf_0 1 rfl rfl) (rdSeg sd_22_cX1_leftOf_0 2 rfl rfl) (rdSeg sd_22_cX1_leftOf_0 3 rfl rfl) rfl
theorem dX1_leftOf_4 : decode cX1_leftOf 4 = .ok (.iload_n 1, 1) := op_27 (rdSeg sd_22_cX1_leftOf_0 4 rfl rfl)
theorem dX1_leftOf_5 : decode cX1_leftOf 5 = .ok (.iconst 2, 1) := op_5 (rdSeg sd_22_cX1_leftOf_0 5 rfl rfl)
theorem dX1_leftOf_6 : decode cX1_leftOf 6 = .ok (.invokevirtual 63, 3) := op_182 (rdSeg sd_22_cX1_leftOf_0 6 rfl rfl) (rdSeg sd_22_cX1_leftOf_0 7 rfl rfl) (rdSeg sd_22_cX1_leftOf_0 8 rfl rfl) rfl
theorem dX1_leftOf_9 : decode cX1_leftOf 9 = .ok (.istore_n 3, 1) := op_62 (rdSeg sd_22_cX1_leftOf_0 9 rfl rfl)
theorem dX1_leftOf_10 : decode cX1_leftOf 10 = .ok (.iconst 0, 1) := op_3 (rdSeg sd_22_cX1_leftOf_0 10 rfl rfl)
theorem dX1_leftOf_11 : decode cX1_leftOf 11 = .ok (.istore 4, 2) := op_54 (rdSeg sd_22_cX1_leftOf_0 11 rfl rfl) (rdSeg sd_22_cX1_leftOf_0 12 rfl rfl)
theorem dX1_leftOf_13 : decode cX1_leftOf 13 = .ok (.iload 4, 2) := op_21 (rdSeg sd_22_cX1_leftOf_0 13 rfl rfl) (rdSeg sd_22_cX1_leftOf_0 14 rfl rfl)
theorem dX1_leftOf_15 : decode cX1_leftOf 15 = .ok (.aload_n 0, 1) := op_42 (rdSeg sd_22_cX1_leftOf_0 15 rfl rfl)
theorem dX1_leftOf_16 : decode cX1_leftOf 16 = .ok (.getfield 27, 3) := op_180 (rdSeg sd_22_cX1_leftOf_0 16 rfl rfl) (rdSeg sd_22_cX1_leftOf_0 17 rfl rfl) (rdSeg sd_22_cX1_leftOf_0 18 rfl rfl) rfl
theorem dX1_leftOf_19 : decode cX1_leftOf 19 = .ok (.invokevirtual 77, 3) := op_182 (rdSeg sd_22_cX1_leftOf_0 19 rfl rfl) (rdSeg sd_22_cX1_leftOf_0 20 rfl rfl) (rdSeg sd_22_cX1_leftOf_0 21 rfl rfl) rfl
theorem dX1_leftOf_22 : decode cX1_leftOf 22 = .ok (.if_icmp .ge 33, 3) := op_162 (rdSeg sd_22_cX1_leftOf_0 22 rfl rfl) (rdSeg sd_22_cX1_leftOf_0 23 rfl rfl) (rdSeg sd_22_cX1_leftOf_0 24 rfl rfl) (by decide +kernel)
theorem dX1_leftOf_25 : decode cX1_leftOf 25 = .ok (.aload_n 0, 1) := op_42 (rdSeg sd_22_cX1_leftOf_0 25 rfl rfl)
theorem dX1_leftOf_26 : decode cX1_leftOf 26 = .ok (.getfield 27, 3) := op_180 (rdSeg sd_22_cX1_leftOf_0 26 rfl rfl) (rdSeg sd_22_cX1_leftOf_0 27 rfl rfl) (rdSeg sd_22_cX1_leftOf_0 28 rfl rfl) rfl
theorem dX1_leftOf_29 : decode cX1_leftOf 29 = .ok (.iload 4, 2) := op_21 (rdSeg sd_22_cX1_leftOf_0 29 rfl rfl) (rdSeg sd_22_cX1_leftOf_0 30 rfl rfl)
theorem dX1_leftOf_31 : decode cX1_leftOf 31 = .ok (.iconst 0, 1) := op_3 (rdSeg sd_22_cX1_leftOf_0 31 rfl rfl)
theorem dX1_leftOf_32 : decode cX1_leftOf 32 = .ok (.invokevirtual 96, 3) := op_182 (rdSeg sd_22_cX1_leftOf_1 0 rfl rfl) (rdSeg sd_22_cX1_leftOf_1 1 rfl rfl) (rdSeg sd_22_cX1_leftOf_1 2 rfl rfl) rfl
theorem dX1_leftOf_35 : decode cX1_leftOf 35 = .ok (.iload_n 1, 1) := op_27 (rdSeg sd_22_cX1_leftOf_1 3 rfl rfl)
theorem dX1_leftOf_36 : decode cX1_leftOf 36 = .ok (.if_icmp .ne 13, 3) := op_160 (rdSeg sd_22_cX1_leftOf_1 4 rfl rfl) (rdSeg sd_22_cX1_leftOf_1 5 rfl rfl) (rdSeg sd_22_cX1_leftOf_1 6 rfl rfl) (by decide +kernel)
theorem dX1_leftOf_39 : decode cX1_leftOf 39 = .ok (.iload_n 3, 1) := op_29 (rdSeg sd_22_cX1_leftOf_1 7 rfl rfl)
theorem dX1_leftOf_40 : decode cX1_leftOf 40 = .ok (.aload_n 0, 1) := op_42 (rdSeg sd_22_cX1_leftOf_1 8 rfl rfl)
theorem dX1_leftOf_41 : decode cX1_leftOf 41 = .ok (.iload 4, 2) := op_21 (rdSeg sd_22_cX1_leftOf_1 9 rfl rfl) (rdSeg sd_22_cX1_leftOf_1 10 rfl rfl)
theorem dX1_leftOf_43 : decode cX1_leftOf 43 = .ok (.iload_n 2, 1) := op_28 (rdSeg sd_22_cX1_leftOf_1 11 rfl rfl)
theorem dX1_leftOf_44 : decode cX1_leftOf 44 = .ok (.invokevirtual 109, 3) := op_182 (rdSeg sd_22_cX1_leftOf_1 12 rfl rfl) (rdSeg sd_22_cX1_leftOf_1 13 rfl rfl) (rdSeg sd_22_cX1_leftOf_1 14 rfl rfl) rfl
theorem dX1_leftOf_47 : decode cX1_leftOf 47 = .ok (.isub, 1) := op_100 (rdSeg sd_22_cX1_leftOf_1 15 rfl rfl)
theorem dX1_leftOf_48 : decode cX1_leftOf 48 = .ok (.istore_n 3, 1) := op_62 (rdSeg sd_22_cX1_leftOf_1 16 rfl rfl)
theorem dX1_leftOf_49 : decode cX1_leftOf 49 = .ok (.iinc 4 1, 3) := op_132 (rdSeg sd_22_cX1_leftOf_1 17 rfl rfl) (rdSeg sd_22_cX1_leftOf_1 18 rfl rfl) (rdSeg sd_22_cX1_leftOf_1 19 rfl rfl) (by decide +kernel)
theorem dX1_leftOf_52 : decode cX1_leftOf 52 = .ok (.goto (-39), 3) := op_167 (rdSeg sd_22_cX1_leftOf_1 20 rfl rfl) (rdSeg sd_22_cX1_leftOf_1 21 rfl rfl) (rdSeg sd_22_cX1_leftOf_1 22 rfl rfl) (by decide +kernel)
theorem dX1_leftOf_55 : decode cX1_leftOf 55 = .ok (.iload_n 3, 1) := op_29 (rdSeg sd_22_cX1_leftOf_1 23 rfl rfl)
theorem dX1_leftOf_56 : decode cX1_leftOf 56 = .ok (.ireturn, 1) := op_172 (rdSeg sd_22_cX1_leftOf_1 24 rfl rfl)
def sg_22_cX2_init_1 : List UInt8 := [0x00, 0xbc, 0x0a, 0xb5, 0x00, 0x1b, 0xb1]
def sg_22_cX2_init_0 : List UInt8 := 0x2a :: 0xb7 :: 0x00 :: 0x03 :: 0x2a :: 0xbb :: 0x00 :: 0x09 :: 0x59 :: 0xb7 :: 0x00 :: 0x0b :: 0xb5 :: 0x00 :: 0x0c :: 0x2a :: 0xbb :: 0x00 :: 0x12 :: 0x59 :: 0x10 :: 0x40 :: 0x04 :: 0xb7 :: 0x00 :: 0x14 :: 0xb5 :: 0x00 :: 0x17 :: 0x2a :: 0x11 :: 0x03 :: sg_22_cX2_init_1
set_option maxRecDepth 100000 in
theorem sd_22_cX2_init_0 : cX2_init.data.toList.drop 0 = sg_22_cX2_init_0 := by decide +kernel
theorem sd_22_cX2_init_1 : cX2_init.data.toList.drop 32 = sg_22_cX2_init_1 := sg_next sd_22_cX2_init_0 rfl
theorem dX2_init_0 : decode cX2_init 0 = .ok (.aload_n 0, 1) := op_42 (rdSeg sd_22_cX2_init_0 0 rfl rfl)
theorem dX2_init_1 : decode cX2_init 1 = .ok (.invokespecial 3, 3) := op_183 (rdSeg sd_22_cX2_init_0 1 rfl rfl) (rdSeg sd_22_cX2_init_0 2 rfl rfl) (rdSeg sd_22_cX2_init_0 3 rfl rfl) rfl
theorem dX2_init_4 : decode cX2_init 4 = .ok (.aload_n 0, 1) := op_42 (rdSeg sd_22_cX2_init_0 4 rfl rfl)
theorem dX2_init_5 : decode cX2_init 5 = .ok (.new 9, 3) := op_187 (rdSeg sd_22_cX2_init_0 5 rfl rfl) (rdSeg sd_22_cX2_init_0 6 rfl rfl) (rdSeg sd_22_cX2_init_0 7 rfl rfl) rfl
theorem dX2_init_8 : decode cX2_init 8 = .ok (.dup, 1) := op_89 (rdSeg sd_22_cX2_init_0 8 rfl rfl)
theorem dX2_init_9 : decode cX2_init 9 = .ok (.invokespecial 11, 3) := op_183 (rdSeg sd_22_cX2_init_0 9 rfl rfl) (rdSeg sd_22_cX2_init_0 10 rfl rfl) (rdSeg sd_22_cX2_init_0 11 rfl rfl) rfl
theorem dX2_init_12 : decode cX2_init 12 = .ok (.putfield 12, 3) := op_181 (rdSeg sd_22_cX2_init_0 12 rfl rfl) (rdSeg sd_22_cX2_init_0 13 rfl rfl) (rdSeg sd_22_cX2_init_0 14 rfl rfl) rfl
theorem dX2_init_15 : decode cX2_init 15 = .ok (.aload_n 0, 1) := op_42 (rdSeg sd_22_cX2_init_0 15 rfl rfl)
theorem dX2_init_16 : decode cX2_init 16 = .ok (.new 18, 3) := op_187 (rdSeg sd_22_cX2_init_0 16 rfl rfl) (rdSeg sd_22_cX2_init_0 17 rfl rfl) (rdSeg sd_22_cX2_init_0 18 rfl rfl) rfl
theorem dX2_init_19 : decode cX2_init 19 = .ok (.dup, 1) := op_89 (rdSeg sd_22_cX2_init_0 19 rfl rfl)
theorem dX2_init_20 : decode cX2_init 20 = .ok (.bipush 64, 2) := op_16 (rdSeg sd_22_cX2_init_0 20 rfl rfl) (rdSeg sd_22_cX2_init_0 21 rfl rfl) (by decide +kernel)
theorem dX2_init_22 : decode cX2_init 22 = .ok (.iconst 1, 1) := op_4 (rdSeg sd_22_cX2_init_0 22 rfl rfl)
theorem dX2_init_23 : decode cX2_init 23 = .ok (.invokespecial 20, 3) := op_183 (rdSeg sd_22_cX2_init_0 23 rfl rfl) (rdSeg sd_22_cX2_init_0 24 rfl rfl) (rdSeg sd_22_cX2_init_0 25 rfl rfl) rfl
theorem dX2_init_26 : decode cX2_init 26 = .ok (.putfield 23, 3) := op_181 (rdSeg sd_22_cX2_init_0 26 rfl rfl) (rdSeg sd_22_cX2_init_0 27 rfl rfl) (rdSeg sd_22_cX2_init_0 28 rfl rfl) rfl
theorem dX2_init_29 : decode cX2_init 29 = .ok (.aload_n 0, 1) := op_42 (rdSeg sd_22_cX2_init_0 29 rfl rfl)
theorem dX2_init_30 : decode cX2_init 30 = .ok (.sipush 768, 3) := op_17 (rdSeg sd_22_cX2_init_0 30 rfl rfl) (rdSeg sd_22_cX2_init_0 31 rfl rfl) (rdSeg sd_22_cX2_init_1 0 rfl rfl) (by decide +kernel)
theorem dX2_init_33 : decode cX2_init 33 = .ok (.newarray .int, 2) := by decide +kernel
theorem dX2_init_35 : decode cX2_init 35 = .ok (.putfield 27, 3) := op_181 (rdSeg sd_22_cX2_init_1 3 rfl rfl) (rdSeg sd_22_cX2_init_1 4 rfl rfl) (rdSeg sd_22_cX2_init_1 5 rfl rfl) rfl
theorem dX2_init_38 : decode cX2_init 38 = .ok (.return_, 1) := op_177 (rdSeg sd_22_cX2_init_1 6 rfl rfl)
def sg_22_cX2_follow_2 : List UInt8 := [0x00, 0x33, 0x84, 0x04, 0x01, 0xa7, 0xff, 0xce, 0xb1]
def sg_22_cX2_follow_1 : List UInt8 := 0x04 :: 0x7e :: 0x04 :: 0xa0 :: 0x00 :: 0x1f :: 0x2a :: 0xb4 :: 0x00 :: 0x0c :: 0x2d :: 0x15 :: 0x04 :: 0x03 :: 0xb6 :: 0x00 :: 0x2f :: 0x2d :: 0x15 :: 0x04 :: 0x04 :: 0xb6 :: 0x00 :: 0x2f :: 0x2d :: 0x15 :: 0x04 :: 0x05 :: 0xb6 :: 0x00 :: 0x2f :: 0xb6 :: sg_22_cX2_follow_2
def sg_22_cX2_follow_0 : List UInt8 := 0x2a :: 0xb4 :: 0x00 :: 0x0c :: 0x2b :: 0xb4 :: 0x00 :: 0x1f :: 0xb6 :: 0x00 :: 0x24 :: 0x2b :: 0xb4 :: 0x00 :: 0x28 :: 0x4e :: 0x03 :: 0x36 :: 0x04 :: 0x15 :: 0x04 :: 0x2d :: 0xb6 :: 0x00 :: 0x2b :: 0xa2 :: 0x00 :: 0x2f :: 0x1c :: 0x15 :: 0x04 :: 0x7a :: sg_22_cX2_follow_1
set_option maxRecDepth 100000 in
theorem sd_22_cX2_follow_0 : cX2_follow.data.toList.drop 0 = sg_22_cX2_follow_0 := by decide +kernel
theorem sd_22_cX2_follow_1 : cX2_follow.data.toList.drop 32 = sg_22_cX2_follow_1 := sg_next sd_22_cX2_follow_0 rfl
theorem sd_22_cX2_follow_2 : cX2_follow.data.toList.drop 64 = sg_22_cX2_follow_2 := sg_next sd_22_cX2_follow_1 rfl
theorem dX2_follow_0 : decode cX2_follow 0 = .ok (.aload_n 0, 1) := op_42 (rdSeg sd_22_cX2_follow_0 0 rfl rfl)
theorem dX2_follow_1 : decode cX2_follow 1 = .ok (.getfield 12, 3) := op_180 (rdSeg sd_22_cX2_follow_0 1 rfl rfl) (rdSeg sd_22_cX2_follow_0 2 rfl rfl) (rdSeg sd_22_cX2_follow_0 3 rfl rfl) rfl
theorem dX2_follow_4 : decode cX2_follow 4 = .ok (.aload_n 1, 1) := op_43 (rdSeg sd_22_cX2_follow_0 4 rfl rfl)
theorem dX2_follow_5 : decode cX2_follow 5 = .ok (.getfield 31, 3) := op_180 (rdSeg sd_22_cX2_follow_0 5 rfl rfl) (rdSeg sd_22_cX2_follow_0 6 rfl rfl) (rdSeg sd_22_cX2_follow_0 7 rfl rfl) rfl
theorem dX2_follow_8 : decode cX2_follow 8 = .ok (.invokevirtual 36, 3) := op_182 (rdSeg sd_22_cX2_follow_0 8 rfl rfl) (rdSeg sd_22_cX2_follow_0 9 rfl rfl) (rdSeg sd_22_cX2_follow_0 10 rfl rfl) rfl
theorem dX2_follow_11 : decode cX2_follow 11 = .ok (.aload_n 1, 1) := op_43 (rdSeg sd_22_cX2_follow_0 11 rfl rfl)
theorem dX2_follow_12 : decode cX2_follow 12 = .ok (.getfield 40, 3) := op_180 (rdSeg sd_22_cX2_follow_0 12 rfl rfl) (rdSeg sd_22_cX2_follow_0 13 rfl rfl) (rdSeg sd_22_cX2_follow_0 14 rfl rfl) rfl
theorem dX2_follow_15 : decode cX2_follow 15 = .ok (.astore_n 3, 1) := op_78 (rdSeg sd_22_cX2_follow_0 15 rfl rfl)
theorem dX2_follow_16 : decode cX2_follow 16 = .ok (.iconst 0, 1) := op_3 (rdSeg sd_22_cX2_follow_0 16 rfl rfl)
theorem dX2_follow_17 : decode cX2_follow 17 = .ok (.istore 4, 2) := op_54 (rdSeg sd_22_cX2_follow_0 17 rfl rfl) (rdSeg sd_22_cX2_follow_0 18 rfl rfl)
theorem dX2_follow_19 : decode cX2_follow 19 = .ok (.iload 4, 2) := op_21 (rdSeg sd_22_cX2_follow_0 19 rfl rfl) (rdSeg sd_22_cX2_follow_0 20 rfl rfl)
theorem dX2_follow_21 : decode cX2_follow 21 = .ok (.aload_n 3, 1) := op_45 (rdSeg sd_22_cX2_follow_0 21 rfl rfl)
theorem dX2_follow_22 : decode cX2_follow 22 = .ok (.invokevirtual 43, 3) := op_182 (rdSeg sd_22_cX2_follow_0 22 rfl rfl) (rdSeg sd_22_cX2_follow_0 23 rfl rfl) (rdSeg sd_22_cX2_follow_0 24 rfl rfl) rfl
theorem dX2_follow_25 : decode cX2_follow 25 = .ok (.if_icmp .ge 47, 3) := op_162 (rdSeg sd_22_cX2_follow_0 25 rfl rfl) (rdSeg sd_22_cX2_follow_0 26 rfl rfl) (rdSeg sd_22_cX2_follow_0 27 rfl rfl) (by decide +kernel)
theorem dX2_follow_28 : decode cX2_follow 28 = .ok (.iload_n 2, 1) := op_28 (rdSeg sd_22_cX2_follow_0 28 rfl rfl)
theorem dX2_follow_29 : decode cX2_follow 29 = .ok (.iload 4, 2) := op_21 (rdSeg sd_22_cX2_follow_0 29 rfl rfl) (rdSeg sd_22_cX2_follow_0 30 rfl rfl)
theorem dX2_follow_31 : decode cX2_follow 31 = .ok (.ishr, 1) := op_122 (rdSeg sd_22_cX2_follow_0 31 rfl rfl)
theorem dX2_follow_32 : decode cX2_follow 32 = .ok (.iconst 1, 1) := op_4 (rdSeg sd_22_cX2_follow_1 0 rfl rfl)
theorem dX2_follow_33 : decode cX2_follow 33 = .ok (.iand, 1) := op_126 (rdSeg sd_22_cX2_follow_1 1 rfl rfl)
theorem dX2_follow_34 : decode cX2_follow 34 = .ok (.iconst 1, 1) := op_4 (rdSeg sd_22_cX2_follow_1 2 rfl rfl)
theorem dX2_follow_35 : decode cX2_follow 35 = .ok (.if_icmp .ne 31, 3) := op_160 (rdSeg sd_22_cX2_follow_1 3 rfl rfl) (rdSeg sd_22_cX2_follow_1 4 rfl rfl) (rdSeg sd_22_cX2_follow_1 5 rfl rfl) (by decide +kernel)
theorem dX2_follow_38 : decode cX2_follow 38 = .ok (.aload_n 0, 1) := op_42 (rdSeg sd_22_cX2_follow_1 6 rfl rfl)
theorem dX2_follow_39 : decode cX2_follow 39 = .ok (.getfield 12, 3) := op_180 (rdSeg sd_22_cX2_follow_1 7 rfl rfl) (rdSeg sd_22_cX2_follow_1 8 rfl rfl) (rdSeg sd_22_cX2_follow_1 9 rfl rfl) rfl
theorem dX2_follow_42 : decode cX2_follow 42 = .ok (.aload_n 3, 1) := op_45 (rdSeg sd_22_cX2_follow_1 10 rfl rfl)
theorem dX2_follow_43 : decode cX2_follow 43 = .ok (.iload 4, 2) := op_21 (rdSeg sd_22_cX2_follow_1 11 rfl rfl) (rdSeg sd_22_cX2_follow_1 12 rfl rfl)
theorem dX2_follow_45 : decode cX2_follow 45 = .ok (.iconst 0, 1) := op_3 (rdSeg sd_22_cX2_follow_1 13 rfl rfl)
theorem dX2_follow_46 : decode cX2_follow 46 = .ok (.invokevirtual 47, 3) := op_182 (rdSeg sd_22_cX2_follow_1 14 rfl rfl) (rdSeg sd_22_cX2_follow_1 15 rfl rfl) (rdSeg sd_22_cX2_follow_1 16 rfl rfl) rfl
theorem dX2_follow_49 : decode cX2_follow 49 = .ok (.aload_n 3, 1) := op_45 (rdSeg sd_22_cX2_follow_1 17 rfl rfl)
theorem dX2_follow_50 : decode cX2_follow 50 = .ok (.iload 4, 2) := op_21 (rdSeg sd_22_cX2_follow_1 18 rfl rfl) (rdSeg sd_22_cX2_follow_1 19 rfl rfl)
theorem dX2_follow_52 : decode cX2_follow 52 = .ok (.iconst 1, 1) := op_4 (rdSeg sd_22_cX2_follow_1 20 rfl rfl)
theorem dX2_follow_53 : decode cX2_follow 53 = .ok (.invokevirtual 47, 3) := op_182 (rdSeg sd_22_cX2_follow_1 21 rfl rfl) (rdSeg sd_22_cX2_follow_1 22 rfl rfl) (rdSeg sd_22_cX2_follow_1 23 rfl rfl) rfl
theorem dX2_follow_56 : decode cX2_follow 56 = .ok (.aload_n 3, 1) := op_45 (rdSeg sd_22_cX2_follow_1 24 rfl rfl)
theorem dX2_follow_57 : decode cX2_follow 57 = .ok (.iload 4, 2) := op_21 (rdSeg sd_22_cX2_follow_1 25 rfl rfl) (rdSeg sd_22_cX2_follow_1 26 rfl rfl)
theorem dX2_follow_59 : decode cX2_follow 59 = .ok (.iconst 2, 1) := op_5 (rdSeg sd_22_cX2_follow_1 27 rfl rfl)
theorem dX2_follow_60 : decode cX2_follow 60 = .ok (.invokevirtual 47, 3) := op_182 (rdSeg sd_22_cX2_follow_1 28 rfl rfl) (rdSeg sd_22_cX2_follow_1 29 rfl rfl) (rdSeg sd_22_cX2_follow_1 30 rfl rfl) rfl
theorem dX2_follow_63 : decode cX2_follow 63 = .ok (.invokevirtual 51, 3) := op_182 (rdSeg sd_22_cX2_follow_1 31 rfl rfl) (rdSeg sd_22_cX2_follow_2 0 rfl rfl) (rdSeg sd_22_cX2_follow_2 1 rfl rfl) rfl
theorem dX2_follow_66 : decode cX2_follow 66 = .ok (.iinc 4 1, 3) := op_132 (rdSeg sd_22_cX2_follow_2 2 rfl rfl) (rdSeg sd_22_cX2_follow_2 3 rfl rfl) (rdSeg sd_22_cX2_follow_2 4 rfl rfl) (by decide +kernel)
theorem dX2_follow_69 : decode cX2_follow 69 = .ok (.goto (-50), 3) := op_167 (rdSeg sd_22_cX2_follow_2 5 rfl rfl) (rdSeg sd_22_cX2_follow_2 6 rfl rfl) (rdSeg sd_22_cX2_follow_2 7 rfl rfl) (by decide +kernel)
theorem dX2_follow_72 : decode cX2_follow 72 = .ok (.return_, 1) := op_177 (rdSeg sd_22_cX2_follow_2 8 rfl rfl)
def sg_22_cX2_numberBehind_0 : List UInt8 := [0x2a, 0xb4, 0x00, 0x0c, 0x1b, 0x1c, 0xb6, 0x00, 0x37, 0xac]
set_option maxRecDepth 100000 in
theorem sd_22_cX2_numberBehind_0 : cX2_numberBehind.data.toList.drop 0 = sg_22_cX2_numberBehind_0 := by decide +kernel
theorem dX2_numberBehind_0 : decode cX2_numberBehind 0 = .ok (.aload_n 0, 1) := op_42 (rdSeg sd_22_cX2_numberBehind_0 0 rfl rfl)
theorem dX2_numberBehind_1 : decode cX2_numberBehind 1 = .ok (.getfield 12, 3) := op_180 (rdSeg sd_22_cX2_numberBehind_0 1 rfl rfl) (rdSeg sd_22_cX2_numberBehind_0 2 rfl rfl) (rdSeg sd_22_cX2_numberBehind_0 3 rfl rfl) rfl
theorem dX2_numberBehind_4 : decode cX2_numberBehind 4 = .ok (.iload_n 1, 1) := op_27 (rdSeg sd_22_cX2_numberBehind_0 4 rfl rfl)
theorem dX2_numberBehind_5 : decode cX2_numberBehind 5 = .ok (.iload_n 2, 1) := op_28 (rdSeg sd_22_cX2_numberBehind_0 5 rfl rfl)
theorem dX2_numberBehind_6 : decode cX2_numberBehind 6 = .ok (.invokevirtual 55, 3) := op_182 (rdSeg sd_22_cX2_numberBehind_0 6 rfl rfl) (rdSeg sd_22_cX2_numberBehind_0 7 rfl rfl) (rdSeg sd_22_cX2_numberBehind_0 8 rfl rfl) rfl
theorem dX2_numberBehind_9 : decode cX2_numberBehind 9 = .ok (.ireturn, 1) := op_172 (rdSeg sd_22_cX2_numberBehind_0 9 rfl rfl)
def sg_22_cX2_find_1 : List UInt8 := [0x41, 0xb6, 0x00, 0x44, 0x99, 0x00, 0x11, 0x2a, 0x2a, 0xb4, 0x00, 0x17, 0x1c, 0x03, 0x03, 0xb6, 0x00, 0x48, 0xb6, 0x00, 0x4c, 0x84, 0x02, 0x01, 0xa7, 0xff, 0xd1, 0xb1]
def sg_22_cX2_find_0 : List UInt8 := 0x2a :: 0xb4 :: 0x00 :: 0x17 :: 0xb6 :: 0x00 :: 0x3a :: 0x03 :: 0x3d :: 0x1c :: 0x04 :: 0x2b :: 0xb4 :: 0x00 :: 0x28 :: 0xb6 :: 0x00 :: 0x2b :: 0x78 :: 0xa2 :: 0x00 :: 0x28 :: 0x2a :: 0x2b :: 0x1c :: 0xb6 :: 0x00 :: 0x3d :: 0x2a :: 0x2b :: 0xb4 :: 0x00 :: sg_22_cX2_find_1
set_option maxRecDepth 100000 in
theorem sd_22_cX2_find_0 : cX2_find.data.toList.drop 0 = sg_22_cX2_find_0 := by decide +kernel
theorem sd_22_cX2_find_1 : cX2_find.data.toList.drop 32 = sg_22_cX2_find_1 := sg_next sd_22_cX2_find_0 rfl
theorem dX2_find_0 : decode cX2_find 0 = .ok (.aload_n 0, 1) := op_42 (rdSeg sd_22_cX2_find_0 0 rfl rfl)
theorem dX2_find_1 : decode cX2_find 1 = .ok (.getfield 23, 3) := op_180 (rdSeg sd_22_cX2_find_0 1 rfl rfl) (rdSeg sd_22_cX2_find_0 2 rfl rfl) (rdSeg sd_22_cX2_find_0 3 rfl rfl) rfl
theorem dX2_find_4 : decode cX2_find 4 = .ok (.invokevirtual 58, 3) := op_182 (rdSeg sd_22_cX2_find_0 4 rfl rfl) (rdSeg sd_22_cX2_find_0 5 rfl rfl) (rdSeg sd_22_cX2_find_0 6 rfl rfl) rfl
theorem dX2_find_7 : decode cX2_find 7 = .ok (.iconst 0, 1) := op_3 (rdSeg sd_22_cX2_find_0 7 rfl rfl)
theorem dX2_find_8 : decode cX2_find 8 = .ok (.istore_n 2, 1) := op_61 (rdSeg sd_22_cX2_find_0 8 rfl rfl)
theorem dX2_find_9 : decode cX2_find 9 = .ok (.iload_n 2, 1) := op_28 (rdSeg sd_22_cX2_find_0 9 rfl rfl)
theorem dX2_find_10 : decode cX2_find 10 = .ok (.iconst 1, 1) := op_4 (rdSeg sd_22_cX2_find_0 10 rfl rfl)
theorem dX2_find_11 : decode cX2_find 11 = .ok (.aload_n 1, 1) := op_43 (rdSeg sd_22_cX2_find_0 11 rfl rfl)
theorem dX2_find_12 : decode cX2_find 12 = .ok (.getfield 40, 3) := op_180 (rdSeg sd_22_cX2_find_0 12 rfl rfl) (rdSeg sd_22_cX2_find_0 13 rfl rfl) (rdSeg sd_22_cX2_find_0 14 rfl rfl) rfl
theorem dX2_find_15 : decode cX2_find 15 = .ok (.invokevirtual 43, 3) := op_182 (rdSeg sd_22_cX2_find_0 15 rfl rfl) (rdSeg sd_22_cX2_find_0 16 rfl rfl) (rdSeg sd_22_cX2_find_0 17 rfl rfl) rfl
theorem dX2_find_18 : decode cX2_find 18 = .ok (.ishl, 1) := op_120 (rdSeg sd_22_cX2_find_0 18 rfl rfl)
theorem dX2_find_19 : decode cX2_find 19 = .ok (.if_icmp .ge 40, 3) := op_162 (rdSeg sd_22_cX2_find_0 19 rfl rfl) (rdSeg sd_22_cX2_find_0 20 rfl rfl) (rdSeg sd_22_cX2_find_0 21 rfl rfl) (by decide +kernel)
theorem dX2_find_22 : decode cX2_find 22 = .ok (.aload_n 0, 1) := op_42 (rdSeg sd_22_cX2_find_0 22 rfl rfl)
theorem dX2_find_23 : decode cX2_find 23 = .ok (.aload_n 1, 1) := op_43 (rdSeg sd_22_cX2_find_0 23 rfl rfl)
theorem dX2_find_24 : decode cX2_find 24 = .ok (.iload_n 2, 1) := op_28 (rdSeg sd_22_cX2_find_0 24 rfl rfl)
theorem dX2_find_25 : decode cX2_find 25 = .ok (.invokevirtual 61, 3) := op_182 (rdSeg sd_22_cX2_find_0 25 rfl rfl) (rdSeg sd_22_cX2_find_0 26 rfl rfl) (rdSeg sd_22_cX2_find_0 27 rfl rfl) rfl
theorem dX2_find_28 : decode cX2_find 28 = .ok (.aload_n 0, 1) := op_42 (rdSeg sd_22_cX2_find_0 28 rfl rfl)
theorem dX2_find_29 : decode cX2_find 29 = .ok (.aload_n 1, 1) := op_43 (rdSeg sd_22_cX2_find_0 29 rfl rfl)
theorem dX2_find_30 : decode cX2_find 30 = .ok (.getfield 65, 3) := op_180 (rdSeg sd_22_cX2_find_0 30 rfl rfl) (rdSeg sd_22_cX2_find_0 31 rfl rfl) (rdSeg sd_22_cX2_find_1 0 rfl rfl) rfl
theorem dX2_find_33 : decode cX2_find 33 = .ok (.invokevirtual 68, 3) := op_182 (rdSeg sd_22_cX2_find_1 1 rfl rfl) (rdSeg sd_22_cX2_find_1 2 rfl rfl) (rdSeg sd_22_cX2_find_1 3 rfl rfl) rfl
theorem dX2_find_36 : decode cX2_find 36 = .ok (.ifCond .eq 17, 3) := op_153 (rdSeg sd_22_cX2_find_1 4 rfl rfl) (rdSeg sd_22_cX2_find_1 5 rfl rfl) (rdSeg sd_22_cX2_find_1 6 rfl rfl) (by decide +kernel)
theorem dX2_find_39 : decode cX2_find 39 = .ok (.aload_n 0, 1) := op_42 (rdSeg sd_22_cX2_find_1 7 rfl rfl)
theorem dX2_find_40 : decode cX2_find 40 = .ok (.aload_n 0, 1) := op_42 (rdSeg sd_22_cX2_find_1 8 rfl rfl)
theorem dX2_find_41 : decode cX2_find 41 = .ok (.getfield 23, 3) := op_180 (rdSeg sd_22_cX2_find_1 9 rfl rfl) (rdSeg sd_22_cX2_find_1 10 rfl rfl) (rdSeg sd_22_cX2_find_1 11 rfl rfl) rfl
theorem dX2_find_44 : decode cX2_find 44 = .ok (.iload_n 2, 1) := op_28 (rdSeg sd_22_cX2_find_1 12 rfl rfl)
theorem dX2_find_45 : decode cX2_find 45 = .ok (.iconst 0, 1) := op_3 (rdSeg sd_22_cX2_find_1 13 rfl rfl)
theorem dX2_find_46 : decode cX2_find 46 = .ok (.iconst 0, 1) := op_3 (rdSeg sd_22_cX2_find_1 14 rfl rfl)
theorem dX2_find_47 : decode cX2_find 47 = .ok (.invokevirtual 72, 3) := op_182 (rdSeg sd_22_cX2_find_1 15 rfl rfl) (rdSeg sd_22_cX2_find_1 16 rfl rfl) (rdSeg sd_22_cX2_find_1 17 rfl rfl) rfl
theorem dX2_find_50 : decode cX2_find 50 = .ok (.invokevirtual 76, 3) := op_182 (rdSeg sd_22_cX2_find_1 18 rfl rfl) (rdSeg sd_22_cX2_find_1 19 rfl rfl) (rdSeg sd_22_cX2_find_1 20 rfl rfl) rfl
theorem dX2_find_53 : decode cX2_find 53 = .ok (.iinc 2 1, 3) := op_132 (rdSeg sd_22_cX2_find_1 21 rfl rfl) (rdSeg sd_22_cX2_find_1 22 rfl rfl) (rdSeg sd_22_cX2_find_1 23 rfl rfl) (by decide +kernel)
theorem dX2_find_56 : decode cX2_find 56 = .ok (.goto (-47), 3) := op_167 (rdSeg sd_22_cX2_find_1 24 rfl rfl) (rdSeg sd_22_cX2_find_1 25 rfl rfl) (rdSeg sd_22_cX2_find_1 26 rfl rfl) (by decide +kernel)
theorem dX2_find_59 : decode cX2_find 59 = .ok (.return_, 1) := op_177 (rdSeg sd_22_cX2_find_1 27 rfl rfl)
def sg_22_cX2_isSo_1 : List UInt8 := [0x1d, 0xb8, 0x00, 0x50, 0x2b, 0x1c, 0x05, 0xb6, 0x00, 0x2f, 0xa4, 0x00, 0x05, 0x03, 0xac, 0x84, 0x02, 0x01, 0xa7, 0xff, 0xd0, 0x04, 0xac]
def sg_22_cX2_isSo_0 : List UInt8 := 0x03 :: 0x3d :: 0x1c :: 0x2b :: 0xb6 :: 0x00 :: 0x2b :: 0xa2 :: 0x00 :: 0x2e :: 0x2a :: 0xb4 :: 0x00 :: 0x0c :: 0x2b :: 0x1c :: 0x03 :: 0xb6 :: 0x00 :: 0x2f :: 0x05 :: 0xb6 :: 0x00 :: 0x37 :: 0x2b :: 0x1c :: 0x04 :: 0xb6 :: 0x00 :: 0x2f :: 0x64 :: 0x3e :: sg_22_cX2_isSo_1
set_option maxRecDepth 100000 in
theorem sd_22_cX2_isSo_0 : cX2_isSo.data.toList.drop 0 = sg_22_cX2_isSo_0 := by decide +kernel
theorem sd_22_cX2_isSo_1 : cX2_isSo.data.toList.drop 32 = sg_22_cX2_isSo_1 := sg_next sd_22_cX2_isSo_0 rfl
theorem dX2_isSo_0 : decode cX2_isSo 0 = .ok (.iconst 0, 1) := op_3 (rdSeg sd_22_cX2_isSo_0 0 rfl rfl)
theorem dX2_isSo_1 : decode cX2_isSo 1 = .ok (.istore_n 2, 1) := op_61 (rdSeg sd_22_cX2_isSo_0 1 rfl rfl)
theorem dX2_isSo_2 : decode cX2_isSo 2 = .ok (.iload_n 2, 1) := op_28 (rdSeg sd_22_cX2_isSo_0 2 rfl rfl)
theorem dX2_isSo_3 : decode cX2_isSo 3 = .ok (.aload_n 1, 1) := op_43 (rdSeg sd_22_cX2_isSo_0 3 rfl rfl)
theorem dX2_isSo_4 : decode cX2_isSo 4 = .ok (.invokevirtual 43, 3) := op_182 (rdSeg sd_22_cX2_isSo_0 4 rfl rfl) (rdSeg sd_22_cX2_isSo_0 5 rfl rfl) (rdSeg sd_22_cX2_isSo_0 6 rfl rfl) rfl
theorem dX2_isSo_7 : decode cX2_isSo 7 = .ok (.if_icmp .ge 46, 3) := op_162 (rdSeg sd_22_cX2_isSo_0 7 rfl rfl) (rdSeg sd_22_cX2_isSo_0 8 rfl rfl) (rdSeg sd_22_cX2_isSo_0 9 rfl rfl) (by decide +kernel)
theorem dX2_isSo_10 : decode cX2_isSo 10 = .ok (.aload_n 0, 1) := op_42 (rdSeg sd_22_cX2_isSo_0 10 rfl rfl)
theorem dX2_isSo_11 : decode cX2_isSo 11 = .ok (.getfield 12, 3) := op_180 (rdSeg sd_22_cX2_isSo_0 11 rfl rfl) (rdSeg sd_22_cX2_isSo_0 12 rfl rfl) (rdSeg sd_22_cX2_isSo_0 13 rfl rfl) rfl
theorem dX2_isSo_14 : decode cX2_isSo 14 = .ok (.aload_n 1, 1) := op_43 (rdSeg sd_22_cX2_isSo_0 14 rfl rfl)
theorem dX2_isSo_15 : decode cX2_isSo 15 = .ok (.iload_n 2, 1) := op_28 (rdSeg sd_22_cX2_isSo_0 15 rfl rfl)
theorem dX2_isSo_16 : decode cX2_isSo 16 = .ok (.iconst 0, 1) := op_3 (rdSeg sd_22_cX2_isSo_0 16 rfl rfl)
theorem dX2_isSo_17 : decode cX2_isSo 17 = .ok (.invokevirtual 47, 3) := op_182 (rdSeg sd_22_cX2_isSo_0 17 rfl rfl) (rdSeg sd_22_cX2_isSo_0 18 rfl rfl) (rdSeg sd_22_cX2_isSo_0 19 rfl rfl) rfl
theorem dX2_isSo_20 : decode cX2_isSo 20 = .ok (.iconst 2, 1) := op_5 (rdSeg sd_22_cX2_isSo_0 20 rfl rfl)
theorem dX2_isSo_21 : decode cX2_isSo 21 = .ok (.invokevirtual 55, 3) := op_182 (rdSeg sd_22_cX2_isSo_0 21 rfl rfl) (rdSeg sd_22_cX2_isSo_0 22 rfl rfl) (rdSeg sd_22_cX2_isSo_0 23 rfl rfl) rfl
theorem dX2_isSo_24 : decode cX2_isSo 24 = .ok (.aload_n 1, 1) := op_43 (rdSeg sd_22_cX2_isSo_0 24 rfl rfl)
theorem dX2_isSo_25 : decode cX2_isSo 25 = .ok (.iload_n 2, 1) := op_28 (rdSeg sd_22_cX2_isSo_0 25 rfl rfl)
theorem dX2_isSo_26 : decode cX2_isSo 26 = .ok (.iconst 1, 1) := op_4 (rdSeg sd_22_cX2_isSo_0 26 rfl rfl)
theorem dX2_isSo_27 : decode cX2_isSo 27 = .ok (.invokevirtual 47, 3) := op_182 (rdSeg sd_22_cX2_isSo_0 27 rfl rfl) (rdSeg sd_22_cX2_isSo_0 28 rfl rfl) (rdSeg sd_22_cX2_isSo_0 29 rfl rfl) rfl
theorem dX2_isSo_30 : decode cX2_isSo 30 = .ok (.isub, 1) := op_100 (rdSeg sd_22_cX2_isSo_0 30 rfl rfl)
theorem dX2_isSo_31 : decode cX2_isSo 31 = .ok (.istore_n 3, 1) := op_62 (rdSeg sd_22_cX2_isSo_0 31 rfl rfl)
theorem dX2_isSo_32 : decode cX2_isSo 32 = .ok (.iload_n 3, 1) := op_29 (rdSeg sd_22_cX2_isSo_1 0 rfl rfl)
theorem dX2_isSo_33 : decode cX2_isSo 33 = .ok (.invokestatic 80, 3) := op_184 (rdSeg sd_22_cX2_isSo_1 1 rfl rfl) (rdSeg sd_22_cX2_isSo_1 2 rfl rfl) (rdSeg sd_22_cX2_isSo_1 3 rfl rfl) rfl
theorem dX2_isSo_36 : decode cX2_isSo 36 = .ok (.aload_n 1, 1) := op_43 (rdSeg sd_22_cX2_isSo_1 4 rfl rfl)
theorem dX2_isSo_37 : decode cX2_isSo 37 = .ok (.iload_n 2, 1) := op_28 (rdSeg sd_22_cX2_isSo_1 5 rfl rfl)
theorem dX2_isSo_38 : decode cX2_isSo 38 = .ok (.iconst 2, 1) := op_5 (rdSeg sd_22_cX2_isSo_1 6 rfl rfl)
theorem dX2_isSo_39 : decode cX2_isSo 39 = .ok (.invokevirtual 47, 3) := op_182 (rdSeg sd_22_cX2_isSo_1 7 rfl rfl) (rdSeg sd_22_cX2_isSo_1 8 rfl rfl) (rdSeg sd_22_cX2_isSo_1 9 rfl rfl) rfl
theorem dX2_isSo_42 : decode cX2_isSo 42 = .ok (.if_icmp .le 5, 3) := op_164 (rdSeg sd_22_cX2_isSo_1 10 rfl rfl) (rdSeg sd_22_cX2_isSo_1 11 rfl rfl) (rdSeg sd_22_cX2_isSo_1 12 rfl rfl) (by decide +kernel)
theorem dX2_isSo_45 : decode cX2_isSo 45 = .ok (.iconst 0, 1) := op_3 (rdSeg sd_22_cX2_isSo_1 13 rfl rfl)
theorem dX2_isSo_46 : decode cX2_isSo 46 = .ok (.ireturn, 1) := op_172 (rdSeg sd_22_cX2_isSo_1 14 rfl rfl)
theorem dX2_isSo_47 : decode cX2_isSo 47 = .ok (.iinc 2 1, 3) := op_132 (rdSeg sd_22_cX2_isSo_1 15 rfl rfl) (rdSeg sd_22_cX2_isSo_1 16 rfl rfl) (rdSeg sd_22_cX2_isSo_1 17 rfl rfl) (by decide +kernel)
theorem dX2_isSo_50 : decode cX2_isSo 50 = .ok (.goto (-48), 3) := op_167 (rdSeg sd_22_cX2_isSo_1 18 rfl rfl) (rdSeg sd_22_cX2_isSo_1 19 rfl rfl) (rdSeg sd_22_cX2_isSo_1 20 rfl rfl) (by decide +kernel)
theorem dX2_isSo_53 : decode cX2_isSo 53 = .ok (.iconst 1, 1) := op_4 (rdSeg sd_22_cX2_isSo_1 21 rfl rfl)
theorem dX2_isSo_54 : decode cX2_isSo 54 = .ok (.ireturn, 1) := op_172 (rdSeg sd_22_cX2_isSo_1 22 rfl rfl)
def sg_22_cX2_noteGrams_1 : List UInt8 := [0x1d, 0x2a, 0xb4, 0x00, 0x0c, 0x1c, 0x05, 0xb6, 0x00, 0x37, 0x4f, 0x84, 0x02, 0x01, 0xa7, 0xff, 0xd4, 0xb1]
def sg_22_cX2_noteGrams_0 : List UInt8 := 0x03 :: 0x3d :: 0x1c :: 0x10 :: 0x0c :: 0xa2 :: 0x00 :: 0x2c :: 0x1b :: 0x10 :: 0x0c :: 0x68 :: 0x1c :: 0x60 :: 0x3e :: 0x1d :: 0x9b :: 0x00 :: 0x1b :: 0x1d :: 0x2a :: 0xb4 :: 0x00 :: 0x1b :: 0xbe :: 0xa2 :: 0x00 :: 0x12 :: 0x2a :: 0xb4 :: 0x00 :: 0x1b :: sg_22_cX2_noteGrams_1
set_option maxRecDepth 100000 in
theorem sd_22_cX2_noteGrams_0 : cX2_noteGrams.data.toList.drop 0 = sg_22_cX2_noteGrams_0 := by decide +kernel
theorem sd_22_cX2_noteGrams_1 : cX2_noteGrams.data.toList.drop 32 = sg_22_cX2_noteGrams_1 := sg_next sd_22_cX2_noteGrams_0 rfl
theorem dX2_noteGrams_0 : decode cX2_noteGrams 0 = .ok (.iconst 0, 1) := op_3 (rdSeg sd_22_cX2_noteGrams_0 0 rfl rfl)
theorem dX2_noteGrams_1 : decode cX2_noteGrams 1 = .ok (.istore_n 2, 1) := op_61 (rdSeg sd_22_cX2_noteGrams_0 1 rfl rfl)
theorem dX2_noteGrams_2 : decode cX2_noteGrams 2 = .ok (.iload_n 2, 1) := op_28 (rdSeg sd_22_cX2_noteGrams_0 2 rfl rfl)
theorem dX2_noteGrams_3 : decode cX2_noteGrams 3 = .ok (.bipush 12, 2) := op_16 (rdSeg sd_22_cX2_noteGrams_0 3 rfl rfl) (rdSeg sd_22_cX2_noteGrams_0 4 rfl rfl) (by decide +kernel)
theorem dX2_noteGrams_5 : decode cX2_noteGrams 5 = .ok (.if_icmp .ge 44, 3) := op_162 (rdSeg sd_22_cX2_noteGrams_0 5 rfl rfl) (rdSeg sd_22_cX2_noteGrams_0 6 rfl rfl) (rdSeg sd_22_cX2_noteGrams_0 7 rfl rfl) (by decide +kernel)
theorem dX2_noteGrams_8 : decode cX2_noteGrams 8 = .ok (.iload_n 1, 1) := op_27 (rdSeg sd_22_cX2_noteGrams_0 8 rfl rfl)
theorem dX2_noteGrams_9 : decode cX2_noteGrams 9 = .ok (.bipush 12, 2) := op_16 (rdSeg sd_22_cX2_noteGrams_0 9 rfl rfl) (rdSeg sd_22_cX2_noteGrams_0 10 rfl rfl) (by decide +kernel)
theorem dX2_noteGrams_11 : decode cX2_noteGrams 11 = .ok (.imul, 1) := op_104 (rdSeg sd_22_cX2_noteGrams_0 11 rfl rfl)
theorem dX2_noteGrams_12 : decode cX2_noteGrams 12 = .ok (.iload_n 2, 1) := op_28 (rdSeg sd_22_cX2_noteGrams_0 12 rfl rfl)
theorem dX2_noteGrams_13 : decode cX2_noteGrams 13 = .ok (.iadd, 1) := op_96 (rdSeg sd_22_cX2_noteGrams_0 13 rfl rfl)
theorem dX2_noteGrams_14 : decode cX2_noteGrams 14 = .ok (.istore_n 3, 1) := op_62 (rdSeg sd_22_cX2_noteGrams_0 14 rfl rfl)
theorem dX2_noteGrams_15 : decode cX2_noteGrams 15 = .ok (.iload_n 3, 1) := op_29 (rdSeg sd_22_cX2_noteGrams_0 15 rfl rfl)
theorem dX2_noteGrams_16 : decode cX2_noteGrams 16 = .ok (.ifCond .lt 27, 3) := op_155 (rdSeg sd_22_cX2_noteGrams_0 16 rfl rfl) (rdSeg sd_22_cX2_noteGrams_0 17 rfl rfl) (rdSeg sd_22_cX2_noteGrams_0 18 rfl rfl) (by decide +kernel)
theorem dX2_noteGrams_19 : decode cX2_noteGrams 19 = .ok (.iload_n 3, 1) := op_29 (rdSeg sd_22_cX2_noteGrams_0 19 rfl rfl)
theorem dX2_noteGrams_20 : decode cX2_noteGrams 20 = .ok (.aload_n 0, 1) := op_42 (rdSeg sd_22_cX2_noteGrams_0 20 rfl rfl)
theorem dX2_noteGrams_21 : decode cX2_noteGrams 21 = .ok (.getfield 27, 3) := op_180 (rdSeg sd_22_cX2_noteGrams_0 21 rfl rfl) (rdSeg sd_22_cX2_noteGrams_0 22 rfl rfl) (rdSeg sd_22_cX2_noteGrams_0 23 rfl rfl) rfl
theorem dX2_noteGrams_24 : decode cX2_noteGrams 24 = .ok (.arraylength, 1) := op_190 (rdSeg sd_22_cX2_noteGrams_0 24 rfl rfl)
theorem dX2_noteGrams_25 : decode cX2_noteGrams 25 = .ok (.if_icmp .ge 18, 3) := op_162 (rdSeg sd_22_cX2_noteGrams_0 25 rfl rfl) (rdSeg sd_22_cX2_noteGrams_0 26 rfl rfl) (rdSeg sd_22_cX2_noteGrams_0 27 rfl rfl) (by decide +kernel)
theorem dX2_noteGrams_28 : decode cX2_noteGrams 28 = .ok (.aload_n 0, 1) := op_42 (rdSeg sd_22_cX2_noteGrams_0 28 rfl rfl)
theorem dX2_noteGrams_29 : decode cX2_noteGrams 29 = .ok (.getfield 27, 3) := op_180 (rdSeg sd_22_cX2_noteGrams_0 29 rfl rfl) (rdSeg sd_22_cX2_noteGrams_0 30 rfl rfl) (rdSeg sd_22_cX2_noteGrams_0 31 rfl rfl) rfl
theorem dX2_noteGrams_32 : decode cX2_noteGrams 32 = .ok (.iload_n 3, 1) := op_29 (rdSeg sd_22_cX2_noteGrams_1 0 rfl rfl)
theorem dX2_noteGrams_33 : decode cX2_noteGrams 33 = .ok (.aload_n 0, 1) := op_42 (rdSeg sd_22_cX2_noteGrams_1 1 rfl rfl)
theorem dX2_noteGrams_34 : decode cX2_noteGrams 34 = .ok (.getfield 12, 3) := op_180 (rdSeg sd_22_cX2_noteGrams_1 2 rfl rfl) (rdSeg sd_22_cX2_noteGrams_1 3 rfl rfl) (rdSeg sd_22_cX2_noteGrams_1 4 rfl rfl) rfl
theorem dX2_noteGrams_37 : decode cX2_noteGrams 37 = .ok (.iload_n 2, 1) := op_28 (rdSeg sd_22_cX2_noteGrams_1 5 rfl rfl)
theorem dX2_noteGrams_38 : decode cX2_noteGrams 38 = .ok (.iconst 2, 1) := op_5 (rdSeg sd_22_cX2_noteGrams_1 6 rfl rfl)
theorem dX2_noteGrams_39 : decode cX2_noteGrams 39 = .ok (.invokevirtual 55, 3) := op_182 (rdSeg sd_22_cX2_noteGrams_1 7 rfl rfl) (rdSeg sd_22_cX2_noteGrams_1 8 rfl rfl) (rdSeg sd_22_cX2_noteGrams_1 9 rfl rfl) rfl
theorem dX2_noteGrams_42 : decode cX2_noteGrams 42 = .ok (.iastore, 1) := op_79 (rdSeg sd_22_cX2_noteGrams_1 10 rfl rfl)
theorem dX2_noteGrams_43 : decode cX2_noteGrams 43 = .ok (.iinc 2 1, 3) := op_132 (rdSeg sd_22_cX2_noteGrams_1 11 rfl rfl) (rdSeg sd_22_cX2_noteGrams_1 12 rfl rfl) (rdSeg sd_22_cX2_noteGrams_1 13 rfl rfl) (by decide +kernel)
theorem dX2_noteGrams_46 : decode cX2_noteGrams 46 = .ok (.goto (-44), 3) := op_167 (rdSeg sd_22_cX2_noteGrams_1 14 rfl rfl) (rdSeg sd_22_cX2_noteGrams_1 15 rfl rfl) (rdSeg sd_22_cX2_noteGrams_1 16 rfl rfl) (by decide +kernel)
theorem dX2_noteGrams_49 : decode cX2_noteGrams 49 = .ok (.return_, 1) := op_177 (rdSeg sd_22_cX2_noteGrams_1 17 rfl rfl)
def sg_22_cX2_notedGrams_0 : List UInt8 := [0x1b, 0x10, 0x0c, 0x68, 0x1c, 0x60, 0x3e, 0x1d, 0x9b, 0x00, 0x15, 0x1d, 0x2a, 0xb4, 0x00, 0x1b, 0xbe, 0xa2, 0x00, 0x0c, 0x2a, 0xb4, 0x00, 0x1b, 0x1d, 0x2e, 0xa7, 0x00, 0x04, 0x03, 0xac]
set_option maxRecDepth 100000 in
theorem sd_22_cX2_notedGrams_0 : cX2_notedGrams.data.toList.drop 0 = sg_22_cX2_notedGrams_0 := by decide +kernel
theorem dX2_notedGrams_0 : decode cX2_notedGrams 0 = .ok (.iload_n 1, 1) := op_27 (rdSeg sd_22_cX2_notedGrams_0 0 rfl rfl)
theorem dX2_notedGrams_1 : decode cX2_notedGrams 1 = .ok (.bipush 12, 2) := op_16 (rdSeg sd_22_cX2_notedGrams_0 1 rfl rfl) (rdSeg sd_22_cX2_notedGrams_0 2 rfl rfl) (by decide +kernel)
theorem dX2_notedGrams_3 : decode cX2_notedGrams 3 = .ok (.imul, 1) := op_104 (rdSeg sd_22_cX2_notedGrams_0 3 rfl rfl)
theorem dX2_notedGrams_4 : decode cX2_notedGrams 4 = .ok (.iload_n 2, 1) := op_28 (rdSeg sd_22_cX2_notedGrams_0 4 rfl rfl)
theorem dX2_notedGrams_5 : decode cX2_notedGrams 5 = .ok (.iadd, 1) := op_96 (rdSeg sd_22_cX2_notedGrams_0 5 rfl rfl)
theorem dX2_notedGrams_6 : decode cX2_notedGrams 6 = .ok (.istore_n 3, 1) := op_62 (rdSeg sd_22_cX2_notedGrams_0 6 rfl rfl)
theorem dX2_notedGrams_7 : decode cX2_notedGrams 7 = .ok (.iload_n 3, 1) := op_29 (rdSeg sd_22_cX2_notedGrams_0 7 rfl rfl)
theorem dX2_notedGrams_8 : decode cX2_notedGrams 8 = .ok (.ifCond .lt 21, 3) := op_155 (rdSeg sd_22_cX2_notedGrams_0 8 rfl rfl) (rdSeg sd_22_cX2_notedGrams_0 9 rfl rfl) (rdSeg sd_22_cX2_notedGrams_0 10 rfl rfl) (by decide +kernel)
theorem dX2_notedGrams_11 : decode cX2_notedGrams 11 = .ok (.iload_n 3, 1) := op_29 (rdSeg sd_22_cX2_notedGrams_0 11 rfl rfl)
theorem dX2_notedGrams_12 : decode cX2_notedGrams 12 = .ok (.aload_n 0, 1) := op_42 (rdSeg sd_22_cX2_notedGrams_0 12 rfl rfl)
theorem dX2_notedGrams_13 : decode cX2_notedGrams 13 = .ok (.getfield 27, 3) := op_180 (rdSeg sd_22_cX2_notedGrams_0 13 rfl rfl) (rdSeg sd_22_cX2_notedGrams_0 14 rfl rfl) (rdSeg sd_22_cX2_notedGrams_0 15 rfl rfl) rfl
theorem dX2_notedGrams_16 : decode cX2_notedGrams 16 = .ok (.arraylength, 1) := op_190 (rdSeg sd_22_cX2_notedGrams_0 16 rfl rfl)
theorem dX2_notedGrams_17 : decode cX2_notedGrams 17 = .ok (.if_icmp .ge 12, 3) := op_162 (rdSeg sd_22_cX2_notedGrams_0 17 rfl rfl) (rdSeg sd_22_cX2_notedGrams_0 18 rfl rfl) (rdSeg sd_22_cX2_notedGrams_0 19 rfl rfl) (by decide +kernel)
theorem dX2_notedGrams_20 : decode cX2_notedGrams 20 = .ok (.aload_n 0, 1) := op_42 (rdSeg sd_22_cX2_notedGrams_0 20 rfl rfl)
theorem dX2_notedGrams_21 : decode cX2_notedGrams 21 = .ok (.getfield 27, 3) := op_180 (rdSeg sd_22_cX2_notedGrams_0 21 rfl rfl) (rdSeg sd_22_cX2_notedGrams_0 22 rfl rfl) (rdSeg sd_22_cX2_notedGrams_0 23 rfl rfl) rfl
theorem dX2_notedGrams_24 : decode cX2_notedGrams 24 = .ok (.iload_n 3, 1) := op_29 (rdSeg sd_22_cX2_notedGrams_0 24 rfl rfl)
theorem dX2_notedGrams_25 : decode cX2_notedGrams 25 = .ok (.iaload, 1) := op_46 (rdSeg sd_22_cX2_notedGrams_0 25 rfl rfl)
theorem dX2_notedGrams_26 : decode cX2_notedGrams 26 = .ok (.goto 4, 3) := op_167 (rdSeg sd_22_cX2_notedGrams_0 26 rfl rfl) (rdSeg sd_22_cX2_notedGrams_0 27 rfl rfl) (rdSeg sd_22_cX2_notedGrams_0 28 rfl rfl) (by decide +kernel)
theorem dX2_notedGrams_29 : decode cX2_notedGrams 29 = .ok (.iconst 0, 1) := op_3 (rdSeg sd_22_cX2_notedGrams_0 29 rfl rfl)
theorem dX2_notedGrams_30 : decode cX2_notedGrams 30 = .ok (.ireturn, 1) := op_172 (rdSeg sd_22_cX2_notedGrams_0 30 rfl rfl)
def sg_22_cX2_size_0 : List UInt8 := [0x2a, 0xb4, 0x00, 0x17, 0xb6, 0x00, 0x2b, 0xac]
set_option maxRecDepth 100000 in
theorem sd_22_cX2_size_0 : cX2_size.data.toList.drop 0 = sg_22_cX2_size_0 := by decide +kernel
theorem dX2_size_0 : decode cX2_size 0 = .ok (.aload_n 0, 1) := op_42 (rdSeg sd_22_cX2_size_0 0 rfl rfl)
theorem dX2_size_1 : decode cX2_size 1 = .ok (.getfield 23, 3) := op_180 (rdSeg sd_22_cX2_size_0 1 rfl rfl) (rdSeg sd_22_cX2_size_0 2 rfl rfl) (rdSeg sd_22_cX2_size_0 3 rfl rfl) rfl
theorem dX2_size_4 : decode cX2_size 4 = .ok (.invokevirtual 43, 3) := op_182 (rdSeg sd_22_cX2_size_0 4 rfl rfl) (rdSeg sd_22_cX2_size_0 5 rfl rfl) (rdSeg sd_22_cX2_size_0 6 rfl rfl) rfl
theorem dX2_size_7 : decode cX2_size 7 = .ok (.ireturn, 1) := op_172 (rdSeg sd_22_cX2_size_0 7 rfl rfl)
def sg_22_cX2_fitting_0 : List UInt8 := [0x2a, 0xb4, 0x00, 0x17, 0x1b, 0x03, 0xb6, 0x00, 0x2f, 0xac]
set_option maxRecDepth 100000 in
theorem sd_22_cX2_fitting_0 : cX2_fitting.data.toList.drop 0 = sg_22_cX2_fitting_0 := by decide +kernel
theorem dX2_fitting_0 : decode cX2_fitting 0 = .ok (.aload_n 0, 1) := op_42 (rdSeg sd_22_cX2_fitting_0 0 rfl rfl)
theorem dX2_fitting_1 : decode cX2_fitting 1 = .ok (.getfield 23, 3) := op_180 (rdSeg sd_22_cX2_fitting_0 1 rfl rfl) (rdSeg sd_22_cX2_fitting_0 2 rfl rfl) (rdSeg sd_22_cX2_fitting_0 3 rfl rfl) rfl
theorem dX2_fitting_4 : decode cX2_fitting 4 = .ok (.iload_n 1, 1) := op_27 (rdSeg sd_22_cX2_fitting_0 4 rfl rfl)
theorem dX2_fitting_5 : decode cX2_fitting 5 = .ok (.iconst 0, 1) := op_3 (rdSeg sd_22_cX2_fitting_0 5 rfl rfl)
theorem dX2_fitting_6 : decode cX2_fitting 6 = .ok (.invokevirtual 47, 3) := op_182 (rdSeg sd_22_cX2_fitting_0 6 rfl rfl) (rdSeg sd_22_cX2_fitting_0 7 rfl rfl) (rdSeg sd_22_cX2_fitting_0 8 rfl rfl) rfl
theorem dX2_fitting_9 : decode cX2_fitting 9 = .ok (.ireturn, 1) := op_172 (rdSeg sd_22_cX2_fitting_0 9 rfl rfl)
def sg_22_cX2_inAll_0 : List UInt8 := [0x1b, 0x3d, 0x03, 0x3e, 0x1d, 0x2a, 0xb4, 0x00, 0x17, 0xb6, 0x00, 0x2b, 0xa2, 0x00, 0x11, 0x1c, 0x2a, 0x1d, 0xb6, 0x00, 0x56, 0x7e, 0x3d, 0x84, 0x03, 0x01, 0xa7, 0xff, 0xea, 0x1c, 0xac]
set_option maxRecDepth 100000 in
theorem sd_22_cX2_inAll_0 : cX2_inAll.data.toList.drop 0 = sg_22_cX2_inAll_0 := by decide +kernel
theorem dX2_inAll_0 : decode cX2_inAll 0 = .ok (.iload_n 1, 1) := op_27 (rdSeg sd_22_cX2_inAll_0 0 rfl rfl)
theorem dX2_inAll_1 : decode cX2_inAll 1 = .ok (.istore_n 2, 1) := op_61 (rdSeg sd_22_cX2_inAll_0 1 rfl rfl)
theorem dX2_inAll_2 : decode cX2_inAll 2 = .ok (.iconst 0, 1) := op_3 (rdSeg sd_22_cX2_inAll_0 2 rfl rfl)
theorem dX2_inAll_3 : decode cX2_inAll 3 = .ok (.istore_n 3, 1) := op_62 (rdSeg sd_22_cX2_inAll_0 3 rfl rfl)
theorem dX2_inAll_4 : decode cX2_inAll 4 = .ok (.iload_n 3, 1) := op_29 (rdSeg sd_22_cX2_inAll_0 4 rfl rfl)
theorem dX2_inAll_5 : decode cX2_inAll 5 = .ok (.aload_n 0, 1) := op_42 (rdSeg sd_22_cX2_inAll_0 5 rfl rfl)
theorem dX2_inAll_6 : decode cX2_inAll 6 = .ok (.getfield 23, 3) := op_180 (rdSeg sd_22_cX2_inAll_0 6 rfl rfl) (rdSeg sd_22_cX2_inAll_0 7 rfl rfl) (rdSeg sd_22_cX2_inAll_0 8 rfl rfl) rfl
theorem dX2_inAll_9 : decode cX2_inAll 9 = .ok (.invokevirtual 43, 3) := op_182 (rdSeg sd_22_cX2_inAll_0 9 rfl rfl) (rdSeg sd_22_cX2_inAll_0 10 rfl rfl) (rdSeg sd_22_cX2_inAll_0 11 rfl rfl) rfl
theorem dX2_inAll_12 : decode cX2_inAll 12 = .ok (.if_icmp .ge 17, 3) := op_162 (rdSeg sd_22_cX2_inAll_0 12 rfl rfl) (rdSeg sd_22_cX2_inAll_0 13 rfl rfl) (rdSeg sd_22_cX2_inAll_0 14 rfl rfl) (by decide +kernel)
theorem dX2_inAll_15 : decode cX2_inAll 15 = .ok (.iload_n 2, 1) := op_28 (rdSeg sd_22_cX2_inAll_0 15 rfl rfl)
theorem dX2_inAll_16 : decode cX2_inAll 16 = .ok (.aload_n 0, 1) := op_42 (rdSeg sd_22_cX2_inAll_0 16 rfl rfl)
theorem dX2_inAll_17 : decode cX2_inAll 17 = .ok (.iload_n 3, 1) := op_29 (rdSeg sd_22_cX2_inAll_0 17 rfl rfl)
theorem dX2_inAll_18 : decode cX2_inAll 18 = .ok (.invokevirtual 86, 3) := op_182 (rdSeg sd_22_cX2_inAll_0 18 rfl rfl) (rdSeg sd_22_cX2_inAll_0 19 rfl rfl) (rdSeg sd_22_cX2_inAll_0 20 rfl rfl) rfl
theorem dX2_inAll_21 : decode cX2_inAll 21 = .ok (.iand, 1) := op_126 (rdSeg sd_22_cX2_inAll_0 21 rfl rfl)
theorem dX2_inAll_22 : decode cX2_inAll 22 = .ok (.istore_n 2, 1) := op_61 (rdSeg sd_22_cX2_inAll_0 22 rfl rfl)
theorem dX2_inAll_23 : decode cX2_inAll 23 = .ok (.iinc 3 1, 3) := op_132 (rdSeg sd_22_cX2_inAll_0 23 rfl rfl) (rdSeg sd_22_cX2_inAll_0 24 rfl rfl) (rdSeg sd_22_cX2_inAll_0 25 rfl rfl) (by decide +kernel)
theorem dX2_inAll_26 : decode cX2_inAll 26 = .ok (.goto (-22), 3) := op_167 (rdSeg sd_22_cX2_inAll_0 26 rfl rfl) (rdSeg sd_22_cX2_inAll_0 27 rfl rfl) (rdSeg sd_22_cX2_inAll_0 28 rfl rfl) (by decide +kernel)
theorem dX2_inAll_29 : decode cX2_inAll 29 = .ok (.iload_n 2, 1) := op_28 (rdSeg sd_22_cX2_inAll_0 29 rfl rfl)
theorem dX2_inAll_30 : decode cX2_inAll 30 = .ok (.ireturn, 1) := op_172 (rdSeg sd_22_cX2_inAll_0 30 rfl rfl)
def sg_22_cX2_inAny_0 : List UInt8 := [0x03, 0x3c, 0x03, 0x3d, 0x1c, 0x2a, 0xb4, 0x00, 0x17, 0xb6, 0x00, 0x2b, 0xa2, 0x00, 0x11, 0x1b, 0x2a, 0x1c, 0xb6, 0x00, 0x56, 0x80, 0x3c, 0x84, 0x02, 0x01, 0xa7, 0xff, 0xea, 0x1b, 0xac]
set_option maxRecDepth 100000 in
theorem sd_22_cX2_inAny_0 : cX2_inAny.data.toList.drop 0 = sg_22_cX2_inAny_0 := by decide +kernel
theorem dX2_inAny_0 : decode cX2_inAny 0 = .ok (.iconst 0, 1) := op_3 (rdSeg sd_22_cX2_inAny_0 0 rfl rfl)
theorem dX2_inAny_1 : decode cX2_inAny 1 = .ok (.istore_n 1, 1) := op_60 (rdSeg sd_22_cX2_inAny_0 1 rfl rfl)
theorem dX2_inAny_2 : decode cX2_inAny 2 = .ok (.iconst 0, 1) := op_3 (rdSeg sd_22_cX2_inAny_0 2 rfl rfl)
theorem dX2_inAny_3 : decode cX2_inAny 3 = .ok (.istore_n 2, 1) := op_61 (rdSeg sd_22_cX2_inAny_0 3 rfl rfl)
theorem dX2_inAny_4 : decode cX2_inAny 4 = .ok (.iload_n 2, 1) := op_28 (rdSeg sd_22_cX2_inAny_0 4 rfl rfl)
theorem dX2_inAny_5 : decode cX2_inAny 5 = .ok (.aload_n 0, 1) := op_42 (rdSeg sd_22_cX2_inAny_0 5 rfl rfl)
theorem dX2_inAny_6 : decode cX2_inAny 6 = .ok (.getfield 23, 3) := op_180 (rdSeg sd_22_cX2_inAny_0 6 rfl rfl) (rdSeg sd_22_cX2_inAny_0 7 rfl rfl) (rdSeg sd_22_cX2_inAny_0 8 rfl rfl) rfl
theorem dX2_inAny_9 : decode cX2_inAny 9 = .ok (.invokevirtual 43, 3) := op_182 (rdSeg sd_22_cX2_inAny_0 9 rfl rfl) (rdSeg sd_22_cX2_inAny_0 10 rfl rfl) (rdSeg sd_22_cX2_inAny_0 11 rfl rfl) rfl
theorem dX2_inAny_12 : decode cX2_inAny 12 = .ok (.if_icmp .ge 17, 3) := op_162 (rdSeg sd_22_cX2_inAny_0 12 rfl rfl) (rdSeg sd_22_cX2_inAny_0 13 rfl rfl) (rdSeg sd_22_cX2_inAny_0 14 rfl rfl) (by decide +kernel)
theorem dX2_inAny_15 : decode cX2_inAny 15 = .ok (.iload_n 1, 1) := op_27 (rdSeg sd_22_cX2_inAny_0 15 rfl rfl)
theorem dX2_inAny_16 : decode cX2_inAny 16 = .ok (.aload_n 0, 1) := op_42 (rdSeg sd_22_cX2_inAny_0 16 rfl rfl)
theorem dX2_inAny_17 : decode cX2_inAny 17 = .ok (.iload_n 2, 1) := op_28 (rdSeg sd_22_cX2_inAny_0 17 rfl rfl)
theorem dX2_inAny_18 : decode cX2_inAny 18 = .ok (.invokevirtual 86, 3) := op_182 (rdSeg sd_22_cX2_inAny_0 18 rfl rfl) (rdSeg sd_22_cX2_inAny_0 19 rfl rfl) (rdSeg sd_22_cX2_inAny_0 20 rfl rfl) rfl
theorem dX2_inAny_21 : decode cX2_inAny 21 = .ok (.ior, 1) := op_128 (rdSeg sd_22_cX2_inAny_0 21 rfl rfl)
theorem dX2_inAny_22 : decode cX2_inAny 22 = .ok (.istore_n 1, 1) := op_60 (rdSeg sd_22_cX2_inAny_0 22 rfl rfl)
theorem dX2_inAny_23 : decode cX2_inAny 23 = .ok (.iinc 2 1, 3) := op_132 (rdSeg sd_22_cX2_inAny_0 23 rfl rfl) (rdSeg sd_22_cX2_inAny_0 24 rfl rfl) (rdSeg sd_22_cX2_inAny_0 25 rfl rfl) (by decide +kernel)
theorem dX2_inAny_26 : decode cX2_inAny 26 = .ok (.goto (-22), 3) := op_167 (rdSeg sd_22_cX2_inAny_0 26 rfl rfl) (rdSeg sd_22_cX2_inAny_0 27 rfl rfl) (rdSeg sd_22_cX2_inAny_0 28 rfl rfl) (by decide +kernel)
theorem dX2_inAny_29 : decode cX2_inAny 29 = .ok (.iload_n 1, 1) := op_27 (rdSeg sd_22_cX2_inAny_0 29 rfl rfl)
theorem dX2_inAny_30 : decode cX2_inAny 30 = .ok (.ireturn, 1) := op_172 (rdSeg sd_22_cX2_inAny_0 30 rfl rfl)
def sg_22_cX2_mostPapers_1 : List UInt8 := [0xff, 0xe5, 0x1b, 0xac]
def sg_22_cX2_mostPapers_0 : List UInt8 := 0x03 :: 0x3c :: 0x03 :: 0x3d :: 0x1c :: 0x2a :: 0xb4 :: 0x00 :: 0x17 :: 0xb6 :: 0x00 :: 0x2b :: 0xa2 :: 0x00 :: 0x16 :: 0x1b :: 0x2a :: 0x1c :: 0xb6 :: 0x00 :: 0x56 :: 0xb8 :: 0x00 :: 0x59 :: 0xb8 :: 0x00 :: 0x5e :: 0x3c :: 0x84 :: 0x02 :: 0x01 :: 0xa7 :: sg_22_cX2_mostPapers_1
set_option maxRecDepth 100000 in
theorem sd_22_cX2_mostPapers_0 : cX2_mostPapers.data.toList.drop 0 = sg_22_cX2_mostPapers_0 := by decide +kernel
theorem sd_22_cX2_mostPapers_1 : cX2_mostPapers.data.toList.drop 32 = sg_22_cX2_mostPapers_1 := sg_next sd_22_cX2_mostPapers_0 rfl
theorem dX2_mostPapers_0 : decode cX2_mostPapers 0 = .ok (.iconst 0, 1) := op_3 (rdSeg sd_22_cX2_mostPapers_0 0 rfl rfl)
theorem dX2_mostPapers_1 : decode cX2_mostPapers 1 = .ok (.istore_n 1, 1) := op_60 (rdSeg sd_22_cX2_mostPapers_0 1 rfl rfl)
theorem dX2_mostPapers_2 : decode cX2_mostPapers 2 = .ok (.iconst 0, 1) := op_3 (rdSeg sd_22_cX2_mostPapers_0 2 rfl rfl)
theorem dX2_mostPapers_3 : decode cX2_mostPapers 3 = .ok (.istore_n 2, 1) := op_61 (rdSeg sd_22_cX2_mostPapers_0 3 rfl rfl)
theorem dX2_mostPapers_4 : decode cX2_mostPapers 4 = .ok (.iload_n 2, 1) := op_28 (rdSeg sd_22_cX2_mostPapers_0 4 rfl rfl)
theorem dX2_mostPapers_5 : decode cX2_mostPapers 5 = .ok (.aload_n 0, 1) := op_42 (rdSeg sd_22_cX2_mostPapers_0 5 rfl rfl)
theorem dX2_mostPapers_6 : decode cX2_mostPapers 6 = .ok (.getfield 23, 3) := op_180 (rdSeg sd_22_cX2_mostPapers_0 6 rfl rfl) (rdSeg sd_22_cX2_mostPapers_0 7 rfl rfl) (rdSeg sd_22_cX2_mostPapers_0 8 rfl rfl) rfl
theorem dX2_mostPapers_9 : decode cX2_mostPapers 9 = .ok (.invokevirtual 43, 3) := op_182 (rdSeg sd_22_cX2_mostPapers_0 9 rfl rfl) (rdSeg sd_22_cX2_mostPapers_0 10 rfl rfl) (rdSeg sd_22_cX2_mostPapers_0 11 rfl rfl) rfl
theorem dX2_mostPapers_12 : decode cX2_mostPapers 12 = .ok (.if_icmp .ge 22, 3) := op_162 (rdSeg sd_22_cX2_mostPapers_0 12 rfl rfl) (rdSeg sd_22_cX2_mostPapers_0 13 rfl rfl) (rdSeg sd_22_cX2_mostPapers_0 14 rfl rfl) (by decide +kernel)
theorem dX2_mostPapers_15 : decode cX2_mostPapers 15 = .ok (.iload_n 1, 1) := op_27 (rdSeg sd_22_cX2_mostPapers_0 15 rfl rfl)
theorem dX2_mostPapers_16 : decode cX2_mostPapers 16 = .ok (.aload_n 0, 1) := op_42 (rdSeg sd_22_cX2_mostPapers_0 16 rfl rfl)
theorem dX2_mostPapers_17 : decode cX2_mostPapers 17 = .ok (.iload_n 2, 1) := op_28 (rdSeg sd_22_cX2_mostPapers_0 17 rfl rfl)
theorem dX2_mostPapers_18 : decode cX2_mostPapers 18 = .ok (.invokevirtual 86, 3) := op_182 (rdSeg sd_22_cX2_mostPapers_0 18 rfl rfl) (rdSeg sd_22_cX2_mostPapers_0 19 rfl rfl) (rdSeg sd_22_cX2_mostPapers_0 20 rfl rfl) rfl
theorem dX2_mostPapers_21 : decode cX2_mostPapers 21 = .ok (.invokestatic 89, 3) := op_184 (rdSeg sd_22_cX2_mostPapers_0 21 rfl rfl) (rdSeg sd_22_cX2_mostPapers_0 22 rfl rfl) (rdSeg sd_22_cX2_mostPapers_0 23 rfl rfl) rfl
theorem dX2_mostPapers_24 : decode cX2_mostPapers 24 = .ok (.invokestatic 94, 3) := op_184 (rdSeg sd_22_cX2_mostPapers_0 24 rfl rfl) (rdSeg sd_22_cX2_mostPapers_0 25 rfl rfl) (rdSeg sd_22_cX2_mostPapers_0 26 rfl rfl) rfl
theorem dX2_mostPapers_27 : decode cX2_mostPapers 27 = .ok (.istore_n 1, 1) := op_60 (rdSeg sd_22_cX2_mostPapers_0 27 rfl rfl)
theorem dX2_mostPapers_28 : decode cX2_mostPapers 28 = .ok (.iinc 2 1, 3) := op_132 (rdSeg sd_22_cX2_mostPapers_0 28 rfl rfl) (rdSeg sd_22_cX2_mostPapers_0 29 rfl rfl) (rdSeg sd_22_cX2_mostPapers_0 30 rfl rfl) (by decide +kernel)
theorem dX2_mostPapers_31 : decode cX2_mostPapers 31 = .ok (.goto (-27), 3) := op_167 (rdSeg sd_22_cX2_mostPapers_0 31 rfl rfl) (rdSeg sd_22_cX2_mostPapers_1 0 rfl rfl) (rdSeg sd_22_cX2_mostPapers_1 1 rfl rfl) (by decide +kernel)
theorem dX2_mostPapers_34 : decode cX2_mostPapers 34 = .ok (.iload_n 1, 1) := op_27 (rdSeg sd_22_cX2_mostPapers_1 2 rfl rfl)
theorem dX2_mostPapers_35 : decode cX2_mostPapers 35 = .ok (.ireturn, 1) := op_172 (rdSeg sd_22_cX2_mostPapers_1 3 rfl rfl)
def sg_22_cX2_outermost_2 : List UInt8 := [0xa2, 0x00, 0x07, 0x15, 0x07, 0x36, 0x05, 0x84, 0x06, 0x01, 0xa7, 0xff, 0xbc, 0x15, 0x05, 0xac]
def sg_22_cX2_outermost_1 : List UInt8 := 0x0c :: 0x1c :: 0x1d :: 0xb6 :: 0x00 :: 0x37 :: 0x36 :: 0x07 :: 0x15 :: 0x06 :: 0x99 :: 0x00 :: 0x19 :: 0x15 :: 0x04 :: 0x99 :: 0x00 :: 0x0d :: 0x15 :: 0x07 :: 0x15 :: 0x05 :: 0xa4 :: 0x00 :: 0x11 :: 0xa7 :: 0x00 :: 0x0a :: 0x15 :: 0x07 :: 0x15 :: 0x05 :: sg_22_cX2_outermost_2
def sg_22_cX2_outermost_0 : List UInt8 := 0x03 :: 0x36 :: 0x05 :: 0x03 :: 0x36 :: 0x06 :: 0x15 :: 0x06 :: 0x2a :: 0xb4 :: 0x00 :: 0x17 :: 0xb6 :: 0x00 :: 0x2b :: 0xa2 :: 0x00 :: 0x3e :: 0x2a :: 0x2b :: 0x2a :: 0x15 :: 0x06 :: 0xb6 :: 0x00 :: 0x56 :: 0xb6 :: 0x00 :: 0x3d :: 0x2a :: 0xb4 :: 0x00 :: sg_22_cX2_outermost_1
set_option maxRecDepth 100000 in
theorem sd_22_cX2_outermost_0 : cX2_outermost.data.toList.drop 0 = sg_22_cX2_outermost_0 := by decide +kernel
theorem sd_22_cX2_outermost_1 : cX2_outermost.data.toList.drop 32 = sg_22_cX2_outermost_1 := sg_next sd_22_cX2_outermost_0 rfl
theorem sd_22_cX2_outermost_2 : cX2_outermost.data.toList.drop 64 = sg_22_cX2_outermost_2 := sg_next sd_22_cX2_outermost_1 rfl
theorem dX2_outermost_0 : decode cX2_outermost 0 = .ok (.iconst 0, 1) := op_3 (rdSeg sd_22_cX2_outermost_0 0 rfl rfl)
theorem dX2_outermost_1 : decode cX2_outermost 1 = .ok (.istore 5, 2) := op_54 (rdSeg sd_22_cX2_outermost_0 1 rfl rfl) (rdSeg sd_22_cX2_outermost_0 2 rfl rfl)
theorem dX2_outermost_3 : decode cX2_outermost 3 = .ok (.iconst 0, 1) := op_3 (rdSeg sd_22_cX2_outermost_0 3 rfl rfl)
theorem dX2_outermost_4 : decode cX2_outermost 4 = .ok (.istore 6, 2) := op_54 (rdSeg sd_22_cX2_outermost_0 4 rfl rfl) (rdSeg sd_22_cX2_outermost_0 5 rfl rfl)
theorem dX2_outermost_6 : decode cX2_outermost 6 = .ok (.iload 6, 2) := op_21 (rdSeg sd_22_cX2_outermost_0 6 rfl rfl) (rdSeg sd_22_cX2_outermost_0 7 rfl rfl)
theorem dX2_outermost_8 : decode cX2_outermost 8 = .ok (.aload_n 0, 1) := op_42 (rdSeg sd_22_cX2_outermost_0 8 rfl rfl)
theorem dX2_outermost_9 : decode cX2_outermost 9 = .ok (.getfield 23, 3) := op_180 (rdSeg sd_22_cX2_outermost_0 9 rfl rfl) (rdSeg sd_22_cX2_outermost_0 10 rfl rfl) (rdSeg sd_22_cX2_outermost_0 11 rfl rfl) rfl
theorem dX2_outermost_12 : decode cX2_outermost 12 = .ok (.invokevirtual 43, 3) := op_182 (rdSeg sd_22_cX2_outermost_0 12 rfl rfl) (rdSeg sd_22_cX2_outermost_0 13 rfl rfl) (rdSeg sd_22_cX2_outermost_0 14 rfl rfl) rfl
theorem dX2_outermost_15 : decode cX2_outermost 15 = .ok (.if_icmp .ge 62, 3) := op_162 (rdSeg sd_22_cX2_outermost_0 15 rfl rfl) (rdSeg sd_22_cX2_outermost_0 16 rfl rfl) (rdSeg sd_22_cX2_outermost_0 17 rfl rfl) (by decide +kernel)
theorem dX2_outermost_18 : decode cX2_outermost 18 = .ok (.aload_n 0, 1) := op_42 (rdSeg sd_22_cX2_outermost_0 18 rfl rfl)
theorem dX2_outermost_19 : decode cX2_outermost 19 = .ok (.aload_n 1, 1) := op_43 (rdSeg sd_22_cX2_outermost_0 19 rfl rfl)
theorem dX2_outermost_20 : decode cX2_outermost 20 = .ok (.aload_n 0, 1) := op_42 (rdSeg sd_22_cX2_outermost_0 20 rfl rfl)
theorem dX2_outermost_21 : decode cX2_outermost 21 = .ok (.iload 6, 2) := op_21 (rdSeg sd_22_cX2_outermost_0 21 rfl rfl) (rdSeg sd_22_cX2_outermost_0 22 rfl rfl)
theorem dX2_outermost_23 : decode cX2_outermost 23 = .ok (.invokevirtual 86, 3) := op_182 (rdSeg sd_22_cX2_outermost_0 23 rfl rfl) (rdSeg sd_22_cX2_outermost_0 24 rfl rfl) (rdSeg sd_22_cX2_outermost_0 25 rfl rfl) rfl
theorem dX2_outermost_26 : decode cX2_outermost 26 = .ok (.invokevirtual 61, 3) := op_182 (rdSeg sd_22_cX2_outermost_0 26 rfl rfl) (rdSeg sd_22_cX2_outermost_0 27 rfl rfl) (rdSeg sd_22_cX2_outermost_0 28 rfl rfl) rfl
theorem dX2_outermost_29 : decode cX2_outermost 29 = .ok (.aload_n 0, 1) := op_42 (rdSeg sd_22_cX2_outermost_0 29 rfl rfl)
theorem dX2_outermost_30 : decode cX2_outermost 30 = .ok (.getfield 12, 3) := op_180 (rdSeg sd_22_cX2_outermost_0 30 rfl rfl) (rdSeg sd_22_cX2_outermost_0 31 rfl rfl) (rdSeg sd_22_cX2_outermost_1 0 rfl rfl) rfl
theorem dX2_outermost_33 : decode cX2_outermost 33 = .ok (.iload_n 2, 1) := op_28 (rdSeg sd_22_cX2_outermost_1 1 rfl rfl)
theorem dX2_outermost_34 : decode cX2_outermost 34 = .ok (.iload_n 3, 1) := op_29 (rdSeg sd_22_cX2_outermost_1 2 rfl rfl)
theorem dX2_outermost_35 : decode cX2_outermost 35 = .ok (.invokevirtual 55, 3) := op_182 (rdSeg sd_22_cX2_outermost_1 3 rfl rfl) (rdSeg sd_22_cX2_outermost_1 4 rfl rfl) (rdSeg sd_22_cX2_outermost_1 5 rfl rfl) rfl
theorem dX2_outermost_38 : decode cX2_outermost 38 = .ok (.istore 7, 2) := op_54 (rdSeg sd_22_cX2_outermost_1 6 rfl rfl) (rdSeg sd_22_cX2_outermost_1 7 rfl rfl)
theorem dX2_outermost_40 : decode cX2_outermost 40 = .ok (.iload 6, 2) := op_21 (rdSeg sd_22_cX2_outermost_1 8 rfl rfl) (rdSeg sd_22_cX2_outermost_1 9 rfl rfl)
theorem dX2_outermost_42 : decode cX2_outermost 42 = .ok (.ifCond .eq 25, 3) := op_153 (rdSeg sd_22_cX2_outermost_1 10 rfl rfl) (rdSeg sd_22_cX2_outermost_1 11 rfl rfl) (rdSeg sd_22_cX2_outermost_1 12 rfl rfl) (by decide +kernel)
theorem dX2_outermost_45 : decode cX2_outermost 45 = .ok (.iload 4, 2) := op_21 (rdSeg sd_22_cX2_outermost_1 13 rfl rfl) (rdSeg sd_22_cX2_outermost_1 14 rfl rfl)
theorem dX2_outermost_47 : decode cX2_outermost 47 = .ok (.ifCond .eq 13, 3) := op_153 (rdSeg sd_22_cX2_outermost_1 15 rfl rfl) (rdSeg sd_22_cX2_outermost_1 16 rfl rfl) (rdSeg sd_22_cX2_outermost_1 17 rfl rfl) (by decide +kernel)
theorem dX2_outermost_50 : decode cX2_outermost 50 = .ok (.iload 7, 2) := op_21 (rdSeg sd_22_cX2_outermost_1 18 rfl rfl) (rdSeg sd_22_cX2_outermost_1 19 rfl rfl)
theorem dX2_outermost_52 : decode cX2_outermost 52 = .ok (.iload 5, 2) := op_21 (rdSeg sd_22_cX2_outermost_1 20 rfl rfl) (rdSeg sd_22_cX2_outermost_1 21 rfl rfl)
theorem dX2_outermost_54 : decode cX2_outermost 54 = .ok (.if_icmp .le 17, 3) := op_164 (rdSeg sd_22_cX2_outermost_1 22 rfl rfl) (rdSeg sd_22_cX2_outermost_1 23 rfl rfl) (rdSeg sd_22_cX2_outermost_1 24 rfl rfl) (by decide +kernel)
theorem dX2_outermost_57 : decode cX2_outermost 57 = .ok (.goto 10, 3) := op_167 (rdSeg sd_22_cX2_outermost_1 25 rfl rfl) (rdSeg sd_22_cX2_outermost_1 26 rfl rfl) (rdSeg sd_22_cX2_outermost_1 27 rfl rfl) (by decide +kernel)
theorem dX2_outermost_60 : decode cX2_outermost 60 = .ok (.iload 7, 2) := op_21 (rdSeg sd_22_cX2_outermost_1 28 rfl rfl) (rdSeg sd_22_cX2_outermost_1 29 rfl rfl)
theorem dX2_outermost_62 : decode cX2_outermost 62 = .ok (.iload 5, 2) := op_21 (rdSeg sd_22_cX2_outermost_1 30 rfl rfl) (rdSeg sd_22_cX2_outermost_1 31 rfl rfl)
theorem dX2_outermost_64 : decode cX2_outermost 64 = .ok (.if_icmp .ge 7, 3) := op_162 (rdSeg sd_22_cX2_outermost_2 0 rfl rfl) (rdSeg sd_22_cX2_outermost_2 1 rfl rfl) (rdSeg sd_22_cX2_outermost_2 2 rfl rfl) (by decide +kernel)
theorem dX2_outermost_67 : decode cX2_outermost 67 = .ok (.iload 7, 2) := op_21 (rdSeg sd_22_cX2_outermost_2 3 rfl rfl) (rdSeg sd_22_cX2_outermost_2 4 rfl rfl)
theorem dX2_outermost_69 : decode cX2_outermost 69 = .ok (.istore 5, 2) := op_54 (rdSeg sd_22_cX2_outermost_2 5 rfl rfl) (rdSeg sd_22_cX2_outermost_2 6 rfl rfl)
theorem dX2_outermost_71 : decode cX2_outermost 71 = .ok (.iinc 6 1, 3) := op_132 (rdSeg sd_22_cX2_outermost_2 7 rfl rfl) (rdSeg sd_22_cX2_outermost_2 8 rfl rfl) (rdSeg sd_22_cX2_outermost_2 9 rfl rfl) (by decide +kernel)
theorem dX2_outermost_74 : decode cX2_outermost 74 = .ok (.goto (-68), 3) := op_167 (rdSeg sd_22_cX2_outermost_2 10 rfl rfl) (rdSeg sd_22_cX2_outermost_2 11 rfl rfl) (rdSeg sd_22_cX2_outermost_2 12 rfl rfl) (by decide +kernel)
theorem dX2_outermost_77 : decode cX2_outermost 77 = .ok (.iload 5, 2) := op_21 (rdSeg sd_22_cX2_outermost_2 13 rfl rfl) (rdSeg sd_22_cX2_outermost_2 14 rfl rfl)
theorem dX2_outermost_79 : decode cX2_outermost 79 = .ok (.ireturn, 1) := op_172 (rdSeg sd_22_cX2_outermost_2 15 rfl rfl)
def sg_22_cX2_bestParted_1 : List UInt8 := [0x05, 0x3e, 0x84, 0x04, 0x01, 0xa7, 0xff, 0xe3, 0x1c, 0xac]
def sg_22_cX2_bestParted_0 : List UInt8 := 0x03 :: 0x3d :: 0x10 :: 0x41 :: 0x3e :: 0x03 :: 0x36 :: 0x04 :: 0x15 :: 0x04 :: 0x1b :: 0xa2 :: 0x00 :: 0x1d :: 0x2a :: 0x15 :: 0x04 :: 0xb6 :: 0x00 :: 0x61 :: 0x36 :: 0x05 :: 0x15 :: 0x05 :: 0x1d :: 0xa2 :: 0x00 :: 0x09 :: 0x15 :: 0x04 :: 0x3d :: 0x15 :: sg_22_cX2_bestParted_1
set_option maxRecDepth 100000 in
theorem sd_22_cX2_bestParted_0 : cX2_bestParted.data.toList.drop 0 = sg_22_cX2_bestParted_0 := by decide +kernel
theorem sd_22_cX2_bestParted_1 : cX2_bestParted.data.toList.drop 32 = sg_22_cX2_bestParted_1 := sg_next sd_22_cX2_bestParted_0 rfl
theorem dX2_bestParted_0 : decode cX2_bestParted 0 = .ok (.iconst 0, 1) := op_3 (rdSeg sd_22_cX2_bestParted_0 0 rfl rfl)
theorem dX2_bestParted_1 : decode cX2_bestParted 1 = .ok (.istore_n 2, 1) := op_61 (rdSeg sd_22_cX2_bestParted_0 1 rfl rfl)
theorem dX2_bestParted_2 : decode cX2_bestParted 2 = .ok (.bipush 65, 2) := op_16 (rdSeg sd_22_cX2_bestParted_0 2 rfl rfl) (rdSeg sd_22_cX2_bestParted_0 3 rfl rfl) (by decide +kernel)
theorem dX2_bestParted_4 : decode cX2_bestParted 4 = .ok (.istore_n 3, 1) := op_62 (rdSeg sd_22_cX2_bestParted_0 4 rfl rfl)
theorem dX2_bestParted_5 : decode cX2_bestParted 5 = .ok (.iconst 0, 1) := op_3 (rdSeg sd_22_cX2_bestParted_0 5 rfl rfl)
theorem dX2_bestParted_6 : decode cX2_bestParted 6 = .ok (.istore 4, 2) := op_54 (rdSeg sd_22_cX2_bestParted_0 6 rfl rfl) (rdSeg sd_22_cX2_bestParted_0 7 rfl rfl)
theorem dX2_bestParted_8 : decode cX2_bestParted 8 = .ok (.iload 4, 2) := op_21 (rdSeg sd_22_cX2_bestParted_0 8 rfl rfl) (rdSeg sd_22_cX2_bestParted_0 9 rfl rfl)
theorem dX2_bestParted_10 : decode cX2_bestParted 10 = .ok (.iload_n 1, 1) := op_27 (rdSeg sd_22_cX2_bestParted_0 10 rfl rfl)
theorem dX2_bestParted_11 : decode cX2_bestParted 11 = .ok (.if_icmp .ge 29, 3) := op_162 (rdSeg sd_22_cX2_bestParted_0 11 rfl rfl) (rdSeg sd_22_cX2_bestParted_0 12 rfl rfl) (rdSeg sd_22_cX2_bestParted_0 13 rfl rfl) (by decide +kernel)
theorem dX2_bestParted_14 : decode cX2_bestParted 14 = .ok (.aload_n 0, 1) := op_42 (rdSeg sd_22_cX2_bestParted_0 14 rfl rfl)
theorem dX2_bestParted_15 : decode cX2_bestParted 15 = .ok (.iload 4, 2) := op_21 (rdSeg sd_22_cX2_bestParted_0 15 rfl rfl) (rdSeg sd_22_cX2_bestParted_0 16 rfl rfl)
theorem dX2_bestParted_17 : decode cX2_bestParted 17 = .ok (.invokevirtual 97, 3) := op_182 (rdSeg sd_22_cX2_bestParted_0 17 rfl rfl) (rdSeg sd_22_cX2_bestParted_0 18 rfl rfl) (rdSeg sd_22_cX2_bestParted_0 19 rfl rfl) rfl
theorem dX2_bestParted_20 : decode cX2_bestParted 20 = .ok (.istore 5, 2) := op_54 (rdSeg sd_22_cX2_bestParted_0 20 rfl rfl) (rdSeg sd_22_cX2_bestParted_0 21 rfl rfl)
theorem dX2_bestParted_22 : decode cX2_bestParted 22 = .ok (.iload 5, 2) := op_21 (rdSeg sd_22_cX2_bestParted_0 22 rfl rfl) (rdSeg sd_22_cX2_bestParted_0 23 rfl rfl)
theorem dX2_bestParted_24 : decode cX2_bestParted 24 = .ok (.iload_n 3, 1) := op_29 (rdSeg sd_22_cX2_bestParted_0 24 rfl rfl)
theorem dX2_bestParted_25 : decode cX2_bestParted 25 = .ok (.if_icmp .ge 9, 3) := op_162 (rdSeg sd_22_cX2_bestParted_0 25 rfl rfl) (rdSeg sd_22_cX2_bestParted_0 26 rfl rfl) (rdSeg sd_22_cX2_bestParted_0 27 rfl rfl) (by decide +kernel)
theorem dX2_bestParted_28 : decode cX2_bestParted 28 = .ok (.iload 4, 2) := op_21 (rdSeg sd_22_cX2_bestParted_0 28 rfl rfl) (rdSeg sd_22_cX2_bestParted_0 29 rfl rfl)
theorem dX2_bestParted_30 : decode cX2_bestParted 30 = .ok (.istore_n 2, 1) := op_61 (rdSeg sd_22_cX2_bestParted_0 30 rfl rfl)
theorem dX2_bestParted_31 : decode cX2_bestParted 31 = .ok (.iload 5, 2) := op_21 (rdSeg sd_22_cX2_bestParted_0 31 rfl rfl) (rdSeg sd_22_cX2_bestParted_1 0 rfl rfl)
theorem dX2_bestParted_33 : decode cX2_bestParted 33 = .ok (.istore_n 3, 1) := op_62 (rdSeg sd_22_cX2_bestParted_1 1 rfl rfl)
theorem dX2_bestParted_34 : decode cX2_bestParted 34 = .ok (.iinc 4 1, 3) := op_132 (rdSeg sd_22_cX2_bestParted_1 2 rfl rfl) (rdSeg sd_22_cX2_bestParted_1 3 rfl rfl) (rdSeg sd_22_cX2_bestParted_1 4 rfl rfl) (by decide +kernel)
theorem dX2_bestParted_37 : decode cX2_bestParted 37 = .ok (.goto (-29), 3) := op_167 (rdSeg sd_22_cX2_bestParted_1 5 rfl rfl) (rdSeg sd_22_cX2_bestParted_1 6 rfl rfl) (rdSeg sd_22_cX2_bestParted_1 7 rfl rfl) (by decide +kernel)
theorem dX2_bestParted_40 : decode cX2_bestParted 40 = .ok (.iload_n 2, 1) := op_28 (rdSeg sd_22_cX2_bestParted_1 8 rfl rfl)
theorem dX2_bestParted_41 : decode cX2_bestParted 41 = .ok (.ireturn, 1) := op_172 (rdSeg sd_22_cX2_bestParted_1 9 rfl rfl)
def sg_22_cX2_greatestHeap_2 : List UInt8 := [0x3d, 0x84, 0x03, 0x01, 0xa7, 0xff, 0xc0, 0x1c, 0xac]
def sg_22_cX2_greatestHeap_1 : List UInt8 := 0x1c :: 0x2a :: 0x15 :: 0x05 :: 0x1b :: 0xb6 :: 0x00 :: 0x64 :: 0x2a :: 0x1d :: 0x1b :: 0xb6 :: 0x00 :: 0x64 :: 0xa0 :: 0x00 :: 0x06 :: 0x84 :: 0x04 :: 0x01 :: 0x84 :: 0x05 :: 0x01 :: 0xa7 :: 0xff :: 0xde :: 0x1c :: 0x15 :: 0x04 :: 0xb8 :: 0x00 :: 0x5e :: sg_22_cX2_greatestHeap_2
def sg_22_cX2_greatestHeap_0 : List UInt8 := 0x03 :: 0x3d :: 0x03 :: 0x3e :: 0x1d :: 0x2a :: 0xb4 :: 0x00 :: 0x17 :: 0xb6 :: 0x00 :: 0x2b :: 0xa2 :: 0x00 :: 0x3b :: 0x03 :: 0x36 :: 0x04 :: 0x1d :: 0x36 :: 0x05 :: 0x15 :: 0x05 :: 0x2a :: 0xb4 :: 0x00 :: 0x17 :: 0xb6 :: 0x00 :: 0x2b :: 0xa2 :: 0x00 :: sg_22_cX2_greatestHeap_1
set_option maxRecDepth 100000 in
theorem sd_22_cX2_greatestHeap_0 : cX2_greatestHeap.data.toList.drop 0 = sg_22_cX2_greatestHeap_0 := by decide +kernel
theorem sd_22_cX2_greatestHeap_1 : cX2_greatestHeap.data.toList.drop 32 = sg_22_cX2_greatestHeap_1 := sg_next sd_22_cX2_greatestHeap_0 rfl
theorem sd_22_cX2_greatestHeap_2 : cX2_greatestHeap.data.toList.drop 64 = sg_22_cX2_greatestHeap_2 := sg_next sd_22_cX2_greatestHeap_1 rfl
theorem dX2_greatestHeap_0 : decode cX2_greatestHeap 0 = .ok (.iconst 0, 1) := op_3 (rdSeg sd_22_cX2_greatestHeap_0 0 rfl rfl)
theorem dX2_greatestHeap_1 : decode cX2_greatestHeap 1 = .ok (.istore_n 2, 1) := op_61 (rdSeg sd_22_cX2_greatestHeap_0 1 rfl rfl)
theorem dX2_greatestHeap_2 : decode cX2_greatestHeap 2 = .ok (.iconst 0, 1) := op_3 (rdSeg sd_22_cX2_greatestHeap_0 2 rfl rfl)
theorem dX2_greatestHeap_3 : decode cX2_greatestHeap 3 = .ok (.istore_n 3, 1) := op_62 (rdSeg sd_22_cX2_greatestHeap_0 3 rfl rfl)
theorem dX2_greatestHeap_4 : decode cX2_greatestHeap 4 = .ok (.iload_n 3, 1) := op_29 (rdSeg sd_22_cX2_greatestHeap_0 4 rfl rfl)
theorem dX2_greatestHeap_5 : decode cX2_greatestHeap 5 = .ok (.aload_n 0, 1) := op_42 (rdSeg sd_22_cX2_greatestHeap_0 5 rfl rfl)
theorem dX2_greatestHeap_6 : decode cX2_greatestHeap 6 = .ok (.getfield 23, 3) := op_180 (rdSeg sd_22_cX2_greatestHeap_0 6 rfl rfl) (rdSeg sd_22_cX2_greatestHeap_0 7 rfl rfl) (rdSeg sd_22_cX2_greatestHeap_0 8 rfl rfl) rfl
theorem dX2_greatestHeap_9 : decode cX2_greatestHeap 9 = .ok (.invokevirtual 43, 3) := op_182 (rdSeg sd_22_cX2_greatestHeap_0 9 rfl rfl) (rdSeg sd_22_cX2_greatestHeap_0 10 rfl rfl) (rdSeg sd_22_cX2_greatestHeap_0 11 rfl rfl) rfl
theorem dX2_greatestHeap_12 : decode cX2_greatestHeap 12 = .ok (.if_icmp .ge 59, 3) := op_162 (rdSeg sd_22_cX2_greatestHeap_0 12 rfl rfl) (rdSeg sd_22_cX2_greatestHeap_0 13 rfl rfl) (rdSeg sd_22_cX2_greatestHeap_0 14 rfl rfl) (by decide +kernel)
theorem dX2_greatestHeap_15 : decode cX2_greatestHeap 15 = .ok (.iconst 0, 1) := op_3 (rdSeg sd_22_cX2_greatestHeap_0 15 rfl rfl)
theorem dX2_greatestHeap_16 : decode cX2_greatestHeap 16 = .ok (.istore 4, 2) := op_54 (rdSeg sd_22_cX2_greatestHeap_0 16 rfl rfl) (rdSeg sd_22_cX2_greatestHeap_0 17 rfl rfl)
theorem dX2_greatestHeap_18 : decode cX2_greatestHeap 18 = .ok (.iload_n 3, 1) := op_29 (rdSeg sd_22_cX2_greatestHeap_0 18 rfl rfl)
theorem dX2_greatestHeap_19 : decode cX2_greatestHeap 19 = .ok (.istore 5, 2) := op_54 (rdSeg sd_22_cX2_greatestHeap_0 19 rfl rfl) (rdSeg sd_22_cX2_greatestHeap_0 20 rfl rfl)
theorem dX2_greatestHeap_21 : decode cX2_greatestHeap 21 = .ok (.iload 5, 2) := op_21 (rdSeg sd_22_cX2_greatestHeap_0 21 rfl rfl) (rdSeg sd_22_cX2_greatestHeap_0 22 rfl rfl)
theorem dX2_greatestHeap_23 : decode cX2_greatestHeap 23 = .ok (.aload_n 0, 1) := op_42 (rdSeg sd_22_cX2_greatestHeap_0 23 rfl rfl)
theorem dX2_greatestHeap_24 : decode cX2_greatestHeap 24 = .ok (.getfield 23, 3) := op_180 (rdSeg sd_22_cX2_greatestHeap_0 24 rfl rfl) (rdSeg sd_22_cX2_greatestHeap_0 25 rfl rfl) (rdSeg sd_22_cX2_greatestHeap_0 26 rfl rfl) rfl
theorem dX2_greatestHeap_27 : decode cX2_greatestHeap 27 = .ok (.invokevirtual 43, 3) := op_182 (rdSeg sd_22_cX2_greatestHeap_0 27 rfl rfl) (rdSeg sd_22_cX2_greatestHeap_0 28 rfl rfl) (rdSeg sd_22_cX2_greatestHeap_0 29 rfl rfl) rfl
theorem dX2_greatestHeap_30 : decode cX2_greatestHeap 30 = .ok (.if_icmp .ge 28, 3) := op_162 (rdSeg sd_22_cX2_greatestHeap_0 30 rfl rfl) (rdSeg sd_22_cX2_greatestHeap_0 31 rfl rfl) (rdSeg sd_22_cX2_greatestHeap_1 0 rfl rfl) (by decide +kernel)
theorem dX2_greatestHeap_33 : decode cX2_greatestHeap 33 = .ok (.aload_n 0, 1) := op_42 (rdSeg sd_22_cX2_greatestHeap_1 1 rfl rfl)
theorem dX2_greatestHeap_34 : decode cX2_greatestHeap 34 = .ok (.iload 5, 2) := op_21 (rdSeg sd_22_cX2_greatestHeap_1 2 rfl rfl) (rdSeg sd_22_cX2_greatestHeap_1 3 rfl rfl)
theorem dX2_greatestHeap_36 : decode cX2_greatestHeap 36 = .ok (.iload_n 1, 1) := op_27 (rdSeg sd_22_cX2_greatestHeap_1 4 rfl rfl)
theorem dX2_greatestHeap_37 : decode cX2_greatestHeap 37 = .ok (.invokevirtual 100, 3) := op_182 (rdSeg sd_22_cX2_greatestHeap_1 5 rfl rfl) (rdSeg sd_22_cX2_greatestHeap_1 6 rfl rfl) (rdSeg sd_22_cX2_greatestHeap_1 7 rfl rfl) rfl
theorem dX2_greatestHeap_40 : decode cX2_greatestHeap 40 = .ok (.aload_n 0, 1) := op_42 (rdSeg sd_22_cX2_greatestHeap_1 8 rfl rfl)
theorem dX2_greatestHeap_41 : decode cX2_greatestHeap 41 = .ok (.iload_n 3, 1) := op_29 (rdSeg sd_22_cX2_greatestHeap_1 9 rfl rfl)
theorem dX2_greatestHeap_42 : decode cX2_greatestHeap 42 = .ok (.iload_n 1, 1) := op_27 (rdSeg sd_22_cX2_greatestHeap_1 10 rfl rfl)
theorem dX2_greatestHeap_43 : decode cX2_greatestHeap 43 = .ok (.invokevirtual 100, 3) := op_182 (rdSeg sd_22_cX2_greatestHeap_1 11 rfl rfl) (rdSeg sd_22_cX2_greatestHeap_1 12 rfl rfl) (rdSeg sd_22_cX2_greatestHeap_1 13 rfl rfl) rfl
theorem dX2_greatestHeap_46 : decode cX2_greatestHeap 46 = .ok (.if_icmp .ne 6, 3) := op_160 (rdSeg sd_22_cX2_greatestHeap_1 14 rfl rfl) (rdSeg sd_22_cX2_greatestHeap_1 15 rfl rfl) (rdSeg sd_22_cX2_greatestHeap_1 16 rfl rfl) (by decide +kernel)
theorem dX2_greatestHeap_49 : decode cX2_greatestHeap 49 = .ok (.iinc 4 1, 3) := op_132 (rdSeg sd_22_cX2_greatestHeap_1 17 rfl rfl) (rdSeg sd_22_cX2_greatestHeap_1 18 rfl rfl) (rdSeg sd_22_cX2_greatestHeap_1 19 rfl rfl) (by decide +kernel)
theorem dX2_greatestHeap_52 : decode cX2_greatestHeap 52 = .ok (.iinc 5 1, 3) := op_132 (rdSeg sd_22_cX2_greatestHeap_1 20 rfl rfl) (rdSeg sd_22_cX2_greatestHeap_1 21 rfl rfl) (rdSeg sd_22_cX2_greatestHeap_1 22 rfl rfl) (by decide +kernel)
theorem dX2_greatestHeap_55 : decode cX2_greatestHeap 55 = .ok (.goto (-34), 3) := op_167 (rdSeg sd_22_cX2_greatestHeap_1 23 rfl rfl) (rdSeg sd_22_cX2_greatestHeap_1 24 rfl rfl) (rdSeg sd_22_cX2_greatestHeap_1 25 rfl rfl) (by decide +kernel)
theorem dX2_greatestHeap_58 : decode cX2_greatestHeap 58 = .ok (.iload_n 2, 1) := op_28 (rdSeg sd_22_cX2_greatestHeap_1 26 rfl rfl)
theorem dX2_greatestHeap_59 : decode cX2_greatestHeap 59 = .ok (.iload 4, 2) := op_21 (rdSeg sd_22_cX2_greatestHeap_1 27 rfl rfl) (rdSeg sd_22_cX2_greatestHeap_1 28 rfl rfl)
theorem dX2_greatestHeap_61 : decode cX2_greatestHeap 61 = .ok (.invokestatic 94, 3) := op_184 (rdSeg sd_22_cX2_greatestHeap_1 29 rfl rfl) (rdSeg sd_22_cX2_greatestHeap_1 30 rfl rfl) (rdSeg sd_22_cX2_greatestHeap_1 31 rfl rfl) rfl
theorem dX2_greatestHeap_64 : decode cX2_greatestHeap 64 = .ok (.istore_n 2, 1) := op_61 (rdSeg sd_22_cX2_greatestHeap_2 0 rfl rfl)
theorem dX2_greatestHeap_65 : decode cX2_greatestHeap 65 = .ok (.iinc 3 1, 3) := op_132 (rdSeg sd_22_cX2_greatestHeap_2 1 rfl rfl) (rdSeg sd_22_cX2_greatestHeap_2 2 rfl rfl) (rdSeg sd_22_cX2_greatestHeap_2 3 rfl rfl) (by decide +kernel)
theorem dX2_greatestHeap_68 : decode cX2_greatestHeap 68 = .ok (.goto (-64), 3) := op_167 (rdSeg sd_22_cX2_greatestHeap_2 4 rfl rfl) (rdSeg sd_22_cX2_greatestHeap_2 5 rfl rfl) (rdSeg sd_22_cX2_greatestHeap_2 6 rfl rfl) (by decide +kernel)
theorem dX2_greatestHeap_71 : decode cX2_greatestHeap 71 = .ok (.iload_n 2, 1) := op_28 (rdSeg sd_22_cX2_greatestHeap_2 7 rfl rfl)
theorem dX2_greatestHeap_72 : decode cX2_greatestHeap 72 = .ok (.ireturn, 1) := op_172 (rdSeg sd_22_cX2_greatestHeap_2 8 rfl rfl)
def sg_22_cX2_firstUnlike_2 : List UInt8 := [0xac]
def sg_22_cX2_firstUnlike_1 : List UInt8 := 0x00 :: 0x17 :: 0x1d :: 0xb6 :: 0x00 :: 0x67 :: 0x99 :: 0x00 :: 0x11 :: 0x2b :: 0x1d :: 0x03 :: 0xb6 :: 0x00 :: 0x2f :: 0x2a :: 0x1d :: 0xb6 :: 0x00 :: 0x56 :: 0x9f :: 0x00 :: 0x05 :: 0x1d :: 0xac :: 0x84 :: 0x03 :: 0x01 :: 0xa7 :: 0xff :: 0xd5 :: 0x02 :: sg_22_cX2_firstUnlike_2
def sg_22_cX2_firstUnlike_0 : List UInt8 := 0x2b :: 0xb6 :: 0x00 :: 0x2b :: 0x2a :: 0xb4 :: 0x00 :: 0x17 :: 0xb6 :: 0x00 :: 0x2b :: 0xb8 :: 0x00 :: 0x5e :: 0x3d :: 0x03 :: 0x3e :: 0x1d :: 0x1c :: 0xa2 :: 0x00 :: 0x2c :: 0x2b :: 0x1d :: 0xb6 :: 0x00 :: 0x67 :: 0x99 :: 0x00 :: 0x1c :: 0x2a :: 0xb4 :: sg_22_cX2_firstUnlike_1
set_option maxRecDepth 100000 in
theorem sd_22_cX2_firstUnlike_0 : cX2_firstUnlike.data.toList.drop 0 = sg_22_cX2_firstUnlike_0 := by decide +kernel
theorem sd_22_cX2_firstUnlike_1 : cX2_firstUnlike.data.toList.drop 32 = sg_22_cX2_firstUnlike_1 := sg_next sd_22_cX2_firstUnlike_0 rfl
theorem sd_22_cX2_firstUnlike_2 : cX2_firstUnlike.data.toList.drop 64 = sg_22_cX2_firstUnlike_2 := sg_next sd_22_cX2_firstUnlike_1 rfl
theorem dX2_firstUnlike_0 : decode cX2_firstUnlike 0 = .ok (.aload_n 1, 1) := op_43 (rdSeg sd_22_cX2_firstUnlike_0 0 rfl rfl)
theorem dX2_firstUnlike_1 : decode cX2_firstUnlike 1 = .ok (.invokevirtual 43, 3) := op_182 (rdSeg sd_22_cX2_firstUnlike_0 1 rfl rfl) (rdSeg sd_22_cX2_firstUnlike_0 2 rfl rfl) (rdSeg sd_22_cX2_firstUnlike_0 3 rfl rfl) rfl
theorem dX2_firstUnlike_4 : decode cX2_firstUnlike 4 = .ok (.aload_n 0, 1) := op_42 (rdSeg sd_22_cX2_firstUnlike_0 4 rfl rfl)
theorem dX2_firstUnlike_5 : decode cX2_firstUnlike 5 = .ok (.getfield 23, 3) := op_180 (rdSeg sd_22_cX2_firstUnlike_0 5 rfl rfl) (rdSeg sd_22_cX2_firstUnlike_0 6 rfl rfl) (rdSeg sd_22_cX2_firstUnlike_0 7 rfl rfl) rfl
theorem dX2_firstUnlike_8 : decode cX2_firstUnlike 8 = .ok (.invokevirtual 43, 3) := op_182 (rdSeg sd_22_cX2_firstUnlike_0 8 rfl rfl) (rdSeg sd_22_cX2_firstUnlike_0 9 rfl rfl) (rdSeg sd_22_cX2_firstUnlike_0 10 rfl rfl) rfl
theorem dX2_firstUnlike_11 : decode cX2_firstUnlike 11 = .ok (.invokestatic 94, 3) := op_184 (rdSeg sd_22_cX2_firstUnlike_0 11 rfl rfl) (rdSeg sd_22_cX2_firstUnlike_0 12 rfl rfl) (rdSeg sd_22_cX2_firstUnlike_0 13 rfl rfl) rfl
theorem dX2_firstUnlike_14 : decode cX2_firstUnlike 14 = .ok (.istore_n 2, 1) := op_61 (rdSeg sd_22_cX2_firstUnlike_0 14 rfl rfl)
theorem dX2_firstUnlike_15 : decode cX2_firstUnlike 15 = .ok (.iconst 0, 1) := op_3 (rdSeg sd_22_cX2_firstUnlike_0 15 rfl rfl)
theorem dX2_firstUnlike_16 : decode cX2_firstUnlike 16 = .ok (.istore_n 3, 1) := op_62 (rdSeg sd_22_cX2_firstUnlike_0 16 rfl rfl)
theorem dX2_firstUnlike_17 : decode cX2_firstUnlike 17 = .ok (.iload_n 3, 1) := op_29 (rdSeg sd_22_cX2_firstUnlike_0 17 rfl rfl)
theorem dX2_firstUnlike_18 : decode cX2_firstUnlike 18 = .ok (.iload_n 2, 1) := op_28 (rdSeg sd_22_cX2_firstUnlike_0 18 rfl rfl)
theorem dX2_firstUnlike_19 : decode cX2_firstUnlike 19 = .ok (.if_icmp .ge 44, 3) := op_162 (rdSeg sd_22_cX2_firstUnlike_0 19 rfl rfl) (rdSeg sd_22_cX2_firstUnlike_0 20 rfl rfl) (rdSeg sd_22_cX2_firstUnlike_0 21 rfl rfl) (by decide +kernel)
theorem dX2_firstUnlike_22 : decode cX2_firstUnlike 22 = .ok (.aload_n 1, 1) := op_43 (rdSeg sd_22_cX2_firstUnlike_0 22 rfl rfl)
theorem dX2_firstUnlike_23 : decode cX2_firstUnlike 23 = .ok (.iload_n 3, 1) := op_29 (rdSeg sd_22_cX2_firstUnlike_0 23 rfl rfl)
theorem dX2_firstUnlike_24 : decode cX2_firstUnlike 24 = .ok (.invokevirtual 103, 3) := op_182 (rdSeg sd_22_cX2_firstUnlike_0 24 rfl rfl) (rdSeg sd_22_cX2_firstUnlike_0 25 rfl rfl) (rdSeg sd_22_cX2_firstUnlike_0 26 rfl rfl) rfl
theorem dX2_firstUnlike_27 : decode cX2_firstUnlike 27 = .ok (.ifCond .eq 28, 3) := op_153 (rdSeg sd_22_cX2_firstUnlike_0 27 rfl rfl) (rdSeg sd_22_cX2_firstUnlike_0 28 rfl rfl) (rdSeg sd_22_cX2_firstUnlike_0 29 rfl rfl) (by decide +kernel)
theorem dX2_firstUnlike_30 : decode cX2_firstUnlike 30 = .ok (.aload_n 0, 1) := op_42 (rdSeg sd_22_cX2_firstUnlike_0 30 rfl rfl)
theorem dX2_firstUnlike_31 : decode cX2_firstUnlike 31 = .ok (.getfield 23, 3) := op_180 (rdSeg sd_22_cX2_firstUnlike_0 31 rfl rfl) (rdSeg sd_22_cX2_firstUnlike_1 0 rfl rfl) (rdSeg sd_22_cX2_firstUnlike_1 1 rfl rfl) rfl
theorem dX2_firstUnlike_34 : decode cX2_firstUnlike 34 = .ok (.iload_n 3, 1) := op_29 (rdSeg sd_22_cX2_firstUnlike_1 2 rfl rfl)
theorem dX2_firstUnlike_35 : decode cX2_firstUnlike 35 = .ok (.invokevirtual 103, 3) := op_182 (rdSeg sd_22_cX2_firstUnlike_1 3 rfl rfl) (rdSeg sd_22_cX2_firstUnlike_1 4 rfl rfl) (rdSeg sd_22_cX2_firstUnlike_1 5 rfl rfl) rfl
theorem dX2_firstUnlike_38 : decode cX2_firstUnlike 38 = .ok (.ifCond .eq 17, 3) := op_153 (rdSeg sd_22_cX2_firstUnlike_1 6 rfl rfl) (rdSeg sd_22_cX2_firstUnlike_1 7 rfl rfl) (rdSeg sd_22_cX2_firstUnlike_1 8 rfl rfl) (by decide +kernel)
theorem dX2_firstUnlike_41 : decode cX2_firstUnlike 41 = .ok (.aload_n 1, 1) := op_43 (rdSeg sd_22_cX2_firstUnlike_1 9 rfl rfl)
theorem dX2_firstUnlike_42 : decode cX2_firstUnlike 42 = .ok (.iload_n 3, 1) := op_29 (rdSeg sd_22_cX2_firstUnlike_1 10 rfl rfl)
theorem dX2_firstUnlike_43 : decode cX2_firstUnlike 43 = .ok (.iconst 0, 1) := op_3 (rdSeg sd_22_cX2_firstUnlike_1 11 rfl rfl)
theorem dX2_firstUnlike_44 : decode cX2_firstUnlike 44 = .ok (.invokevirtual 47, 3) := op_182 (rdSeg sd_22_cX2_firstUnlike_1 12 rfl rfl) (rdSeg sd_22_cX2_firstUnlike_1 13 rfl rfl) (rdSeg sd_22_cX2_firstUnlike_1 14 rfl rfl) rfl
theorem dX2_firstUnlike_47 : decode cX2_firstUnlike 47 = .ok (.aload_n 0, 1) := op_42 (rdSeg sd_22_cX2_firstUnlike_1 15 rfl rfl)
theorem dX2_firstUnlike_48 : decode cX2_firstUnlike 48 = .ok (.iload_n 3, 1) := op_29 (rdSeg sd_22_cX2_firstUnlike_1 16 rfl rfl)
theorem dX2_firstUnlike_49 : decode cX2_firstUnlike 49 = .ok (.invokevirtual 86, 3) := op_182 (rdSeg sd_22_cX2_firstUnlike_1 17 rfl rfl) (rdSeg sd_22_cX2_firstUnlike_1 18 rfl rfl) (rdSeg sd_22_cX2_firstUnlike_1 19 rfl rfl) rfl
theorem dX2_firstUnlike_52 : decode cX2_firstUnlike 52 = .ok (.if_icmp .eq 5, 3) := op_159 (rdSeg sd_22_cX2_firstUnlike_1 20 rfl rfl) (rdSeg sd_22_cX2_firstUnlike_1 21 rfl rfl) (rdSeg sd_22_cX2_firstUnlike_1 22 rfl rfl) (by decide +kernel)
theorem dX2_firstUnlike_55 : decode cX2_firstUnlike 55 = .ok (.iload_n 3, 1) := op_29 (rdSeg sd_22_cX2_firstUnlike_1 23 rfl rfl)
theorem dX2_firstUnlike_56 : decode cX2_firstUnlike 56 = .ok (.ireturn, 1) := op_172 (rdSeg sd_22_cX2_firstUnlike_1 24 rfl rfl)
theorem dX2_firstUnlike_57 : decode cX2_firstUnlike 57 = .ok (.iinc 3 1, 3) := op_132 (rdSeg sd_22_cX2_firstUnlike_1 25 rfl rfl) (rdSeg sd_22_cX2_firstUnlike_1 26 rfl rfl) (rdSeg sd_22_cX2_firstUnlike_1 27 rfl rfl) (by decide +kernel)
theorem dX2_firstUnlike_60 : decode cX2_firstUnlike 60 = .ok (.goto (-43), 3) := op_167 (rdSeg sd_22_cX2_firstUnlike_1 28 rfl rfl) (rdSeg sd_22_cX2_firstUnlike_1 29 rfl rfl) (rdSeg sd_22_cX2_firstUnlike_1 30 rfl rfl) (by decide +kernel)
theorem dX2_firstUnlike_63 : decode cX2_firstUnlike 63 = .ok (.iconst (-1), 1) := op_2 (rdSeg sd_22_cX2_firstUnlike_1 31 rfl rfl)
theorem dX2_firstUnlike_64 : decode cX2_firstUnlike 64 = .ok (.ireturn, 1) := op_172 (rdSeg sd_22_cX2_firstUnlike_2 0 rfl rfl)
def sg_22_cX3_init_1 : List UInt8 := [0xb1]
def sg_22_cX3_init_0 : List UInt8 := 0x2a :: 0xb7 :: 0x00 :: 0x03 :: 0x2a :: 0xbb :: 0x00 :: 0x09 :: 0x59 :: 0x10 :: 0x3c :: 0x04 :: 0xb7 :: 0x00 :: 0x0b :: 0xb5 :: 0x00 :: 0x0e :: 0x2a :: 0xbb :: 0x00 :: 0x09 :: 0x59 :: 0x10 :: 0x3c :: 0x04 :: 0xb7 :: 0x00 :: 0x0b :: 0xb5 :: 0x00 :: 0x14 :: sg_22_cX3_init_1
set_option maxRecDepth 100000 in
theorem sd_22_cX3_init_0 : cX3_init.data.toList.drop 0 = sg_22_cX3_init_0 := by decide +kernel
theorem sd_22_cX3_init_1 : cX3_init.data.toList.drop 32 = sg_22_cX3_init_1 := sg_next sd_22_cX3_init_0 rfl
theorem dX3_init_0 : decode cX3_init 0 = .ok (.aload_n 0, 1) := op_42 (rdSeg sd_22_cX3_init_0 0 rfl rfl)
theorem dX3_init_1 : decode cX3_init 1 = .ok (.invokespecial 3, 3) := op_183 (rdSeg sd_22_cX3_init_0 1 rfl rfl) (rdSeg sd_22_cX3_init_0 2 rfl rfl) (rdSeg sd_22_cX3_init_0 3 rfl rfl) rfl
theorem dX3_init_4 : decode cX3_init 4 = .ok (.aload_n 0, 1) := op_42 (rdSeg sd_22_cX3_init_0 4 rfl rfl)
theorem dX3_init_5 : decode cX3_init 5 = .ok (.new 9, 3) := op_187 (rdSeg sd_22_cX3_init_0 5 rfl rfl) (rdSeg sd_22_cX3_init_0 6 rfl rfl) (rdSeg sd_22_cX3_init_0 7 rfl rfl) rfl
theorem dX3_init_8 : decode cX3_init 8 = .ok (.dup, 1) := op_89 (rdSeg sd_22_cX3_init_0 8 rfl rfl)
theorem dX3_init_9 : decode cX3_init 9 = .ok (.bipush 60, 2) := op_16 (rdSeg sd_22_cX3_init_0 9 rfl rfl) (rdSeg sd_22_cX3_init_0 10 rfl rfl) (by decide +kernel)
theorem dX3_init_11 : decode cX3_init 11 = .ok (.iconst 1, 1) := op_4 (rdSeg sd_22_cX3_init_0 11 rfl rfl)
theorem dX3_init_12 : decode cX3_init 12 = .ok (.invokespecial 11, 3) := op_183 (rdSeg sd_22_cX3_init_0 12 rfl rfl) (rdSeg sd_22_cX3_init_0 13 rfl rfl) (rdSeg sd_22_cX3_init_0 14 rfl rfl) rfl
theorem dX3_init_15 : decode cX3_init 15 = .ok (.putfield 14, 3) := op_181 (rdSeg sd_22_cX3_init_0 15 rfl rfl) (rdSeg sd_22_cX3_init_0 16 rfl rfl) (rdSeg sd_22_cX3_init_0 17 rfl rfl) rfl
theorem dX3_init_18 : decode cX3_init 18 = .ok (.aload_n 0, 1) := op_42 (rdSeg sd_22_cX3_init_0 18 rfl rfl)
theorem dX3_init_19 : decode cX3_init 19 = .ok (.new 9, 3) := op_187 (rdSeg sd_22_cX3_init_0 19 rfl rfl) (rdSeg sd_22_cX3_init_0 20 rfl rfl) (rdSeg sd_22_cX3_init_0 21 rfl rfl) rfl
theorem dX3_init_22 : decode cX3_init 22 = .ok (.dup, 1) := op_89 (rdSeg sd_22_cX3_init_0 22 rfl rfl)
theorem dX3_init_23 : decode cX3_init 23 = .ok (.bipush 60, 2) := op_16 (rdSeg sd_22_cX3_init_0 23 rfl rfl) (rdSeg sd_22_cX3_init_0 24 rfl rfl) (by decide +kernel)
theorem dX3_init_25 : decode cX3_init 25 = .ok (.iconst 1, 1) := op_4 (rdSeg sd_22_cX3_init_0 25 rfl rfl)
theorem dX3_init_26 : decode cX3_init 26 = .ok (.invokespecial 11, 3) := op_183 (rdSeg sd_22_cX3_init_0 26 rfl rfl) (rdSeg sd_22_cX3_init_0 27 rfl rfl) (rdSeg sd_22_cX3_init_0 28 rfl rfl) rfl
theorem dX3_init_29 : decode cX3_init 29 = .ok (.putfield 20, 3) := op_181 (rdSeg sd_22_cX3_init_0 29 rfl rfl) (rdSeg sd_22_cX3_init_0 30 rfl rfl) (rdSeg sd_22_cX3_init_0 31 rfl rfl) rfl
theorem dX3_init_32 : decode cX3_init 32 = .ok (.return_, 1) := op_177 (rdSeg sd_22_cX3_init_1 0 rfl rfl)
def sg_22_cX3_read_2 : List UInt8 := [0x00, 0x22, 0xac]
def sg_22_cX3_read_1 : List UInt8 := 0x00 :: 0x15 :: 0x2a :: 0xb4 :: 0x00 :: 0x22 :: 0x2a :: 0xb4 :: 0x00 :: 0x0e :: 0xb6 :: 0x00 :: 0x29 :: 0xa0 :: 0x00 :: 0x07 :: 0x04 :: 0xa7 :: 0x00 :: 0x04 :: 0x03 :: 0x3e :: 0x1d :: 0x99 :: 0x00 :: 0x07 :: 0x02 :: 0xa7 :: 0x00 :: 0x07 :: 0x2a :: 0xb4 :: sg_22_cX3_read_2
def sg_22_cX3_read_0 : List UInt8 := 0x2a :: 0xb4 :: 0x00 :: 0x0e :: 0x2b :: 0xb6 :: 0x00 :: 0x17 :: 0x2a :: 0xb4 :: 0x00 :: 0x14 :: 0xb6 :: 0x00 :: 0x1b :: 0x2a :: 0x1c :: 0xb5 :: 0x00 :: 0x1e :: 0x2a :: 0x03 :: 0xb5 :: 0x00 :: 0x22 :: 0x2a :: 0x03 :: 0x03 :: 0xb6 :: 0x00 :: 0x25 :: 0x99 :: sg_22_cX3_read_1
set_option maxRecDepth 100000 in
theorem sd_22_cX3_read_0 : cX3_read.data.toList.drop 0 = sg_22_cX3_read_0 := by decide +kernel
theorem sd_22_cX3_read_1 : cX3_read.data.toList.drop 32 = sg_22_cX3_read_1 := sg_next sd_22_cX3_read_0 rfl
theorem sd_22_cX3_read_2 : cX3_read.data.toList.drop 64 = sg_22_cX3_read_2 := sg_next sd_22_cX3_read_1 rfl
theorem dX3_read_0 : decode cX3_read 0 = .ok (.aload_n 0, 1) := op_42 (rdSeg sd_22_cX3_read_0 0 rfl rfl)
theorem dX3_read_1 : decode cX3_read 1 = .ok (.getfield 14, 3) := op_180 (rdSeg sd_22_cX3_read_0 1 rfl rfl) (rdSeg sd_22_cX3_read_0 2 rfl rfl) (rdSeg sd_22_cX3_read_0 3 rfl rfl) rfl
theorem dX3_read_4 : decode cX3_read 4 = .ok (.aload_n 1, 1) := op_43 (rdSeg sd_22_cX3_read_0 4 rfl rfl)
theorem dX3_read_5 : decode cX3_read 5 = .ok (.invokevirtual 23, 3) := op_182 (rdSeg sd_22_cX3_read_0 5 rfl rfl) (rdSeg sd_22_cX3_read_0 6 rfl rfl) (rdSeg sd_22_cX3_read_0 7 rfl rfl) rfl
theorem dX3_read_8 : decode cX3_read 8 = .ok (.aload_n 0, 1) := op_42 (rdSeg sd_22_cX3_read_0 8 rfl rfl)
theorem dX3_read_9 : decode cX3_read 9 = .ok (.getfield 20, 3) := op_180 (rdSeg sd_22_cX3_read_0 9 rfl rfl) (rdSeg sd_22_cX3_read_0 10 rfl rfl) (rdSeg sd_22_cX3_read_0 11 rfl rfl) rfl
theorem dX3_read_12 : decode cX3_read 12 = .ok (.invokevirtual 27, 3) := op_182 (rdSeg sd_22_cX3_read_0 12 rfl rfl) (rdSeg sd_22_cX3_read_0 13 rfl rfl) (rdSeg sd_22_cX3_read_0 14 rfl rfl) rfl
theorem dX3_read_15 : decode cX3_read 15 = .ok (.aload_n 0, 1) := op_42 (rdSeg sd_22_cX3_read_0 15 rfl rfl)
theorem dX3_read_16 : decode cX3_read 16 = .ok (.iload_n 2, 1) := op_28 (rdSeg sd_22_cX3_read_0 16 rfl rfl)
theorem dX3_read_17 : decode cX3_read 17 = .ok (.putfield 30, 3) := op_181 (rdSeg sd_22_cX3_read_0 17 rfl rfl) (rdSeg sd_22_cX3_read_0 18 rfl rfl) (rdSeg sd_22_cX3_read_0 19 rfl rfl) rfl
theorem dX3_read_20 : decode cX3_read 20 = .ok (.aload_n 0, 1) := op_42 (rdSeg sd_22_cX3_read_0 20 rfl rfl)
theorem dX3_read_21 : decode cX3_read 21 = .ok (.iconst 0, 1) := op_3 (rdSeg sd_22_cX3_read_0 21 rfl rfl)
theorem dX3_read_22 : decode cX3_read 22 = .ok (.putfield 34, 3) := op_181 (rdSeg sd_22_cX3_read_0 22 rfl rfl) (rdSeg sd_22_cX3_read_0 23 rfl rfl) (rdSeg sd_22_cX3_read_0 24 rfl rfl) rfl
theorem dX3_read_25 : decode cX3_read 25 = .ok (.aload_n 0, 1) := op_42 (rdSeg sd_22_cX3_read_0 25 rfl rfl)
theorem dX3_read_26 : decode cX3_read 26 = .ok (.iconst 0, 1) := op_3 (rdSeg sd_22_cX3_read_0 26 rfl rfl)
theorem dX3_read_27 : decode cX3_read 27 = .ok (.iconst 0, 1) := op_3 (rdSeg sd_22_cX3_read_0 27 rfl rfl)
theorem dX3_read_28 : decode cX3_read 28 = .ok (.invokevirtual 37, 3) := op_182 (rdSeg sd_22_cX3_read_0 28 rfl rfl) (rdSeg sd_22_cX3_read_0 29 rfl rfl) (rdSeg sd_22_cX3_read_0 30 rfl rfl) rfl
theorem dX3_read_31 : decode cX3_read 31 = .ok (.ifCond .eq 21, 3) := op_153 (rdSeg sd_22_cX3_read_0 31 rfl rfl) (rdSeg sd_22_cX3_read_1 0 rfl rfl) (rdSeg sd_22_cX3_read_1 1 rfl rfl) (by decide +kernel)
theorem dX3_read_34 : decode cX3_read 34 = .ok (.aload_n 0, 1) := op_42 (rdSeg sd_22_cX3_read_1 2 rfl rfl)
theorem dX3_read_35 : decode cX3_read 35 = .ok (.getfield 34, 3) := op_180 (rdSeg sd_22_cX3_read_1 3 rfl rfl) (rdSeg sd_22_cX3_read_1 4 rfl rfl) (rdSeg sd_22_cX3_read_1 5 rfl rfl) rfl
theorem dX3_read_38 : decode cX3_read 38 = .ok (.aload_n 0, 1) := op_42 (rdSeg sd_22_cX3_read_1 6 rfl rfl)
theorem dX3_read_39 : decode cX3_read 39 = .ok (.getfield 14, 3) := op_180 (rdSeg sd_22_cX3_read_1 7 rfl rfl) (rdSeg sd_22_cX3_read_1 8 rfl rfl) (rdSeg sd_22_cX3_read_1 9 rfl rfl) rfl
theorem dX3_read_42 : decode cX3_read 42 = .ok (.invokevirtual 41, 3) := op_182 (rdSeg sd_22_cX3_read_1 10 rfl rfl) (rdSeg sd_22_cX3_read_1 11 rfl rfl) (rdSeg sd_22_cX3_read_1 12 rfl rfl) rfl
theorem dX3_read_45 : decode cX3_read 45 = .ok (.if_icmp .ne 7, 3) := op_160 (rdSeg sd_22_cX3_read_1 13 rfl rfl) (rdSeg sd_22_cX3_read_1 14 rfl rfl) (rdSeg sd_22_cX3_read_1 15 rfl rfl) (by decide +kernel)
theorem dX3_read_48 : decode cX3_read 48 = .ok (.iconst 1, 1) := op_4 (rdSeg sd_22_cX3_read_1 16 rfl rfl)
theorem dX3_read_49 : decode cX3_read 49 = .ok (.goto 4, 3) := op_167 (rdSeg sd_22_cX3_read_1 17 rfl rfl) (rdSeg sd_22_cX3_read_1 18 rfl rfl) (rdSeg sd_22_cX3_read_1 19 rfl rfl) (by decide +kernel)
theorem dX3_read_52 : decode cX3_read 52 = .ok (.iconst 0, 1) := op_3 (rdSeg sd_22_cX3_read_1 20 rfl rfl)
theorem dX3_read_53 : decode cX3_read 53 = .ok (.istore_n 3, 1) := op_62 (rdSeg sd_22_cX3_read_1 21 rfl rfl)
theorem dX3_read_54 : decode cX3_read 54 = .ok (.iload_n 3, 1) := op_29 (rdSeg sd_22_cX3_read_1 22 rfl rfl)
theorem dX3_read_55 : decode cX3_read 55 = .ok (.ifCond .eq 7, 3) := op_153 (rdSeg sd_22_cX3_read_1 23 rfl rfl) (rdSeg sd_22_cX3_read_1 24 rfl rfl) (rdSeg sd_22_cX3_read_1 25 rfl rfl) (by decide +kernel)
theorem dX3_read_58 : decode cX3_read 58 = .ok (.iconst (-1), 1) := op_2 (rdSeg sd_22_cX3_read_1 26 rfl rfl)
theorem dX3_read_59 : decode cX3_read 59 = .ok (.goto 7, 3) := op_167 (rdSeg sd_22_cX3_read_1 27 rfl rfl) (rdSeg sd_22_cX3_read_1 28 rfl rfl) (rdSeg sd_22_cX3_read_1 29 rfl rfl) (by decide +kernel)
theorem dX3_read_62 : decode cX3_read 62 = .ok (.aload_n 0, 1) := op_42 (rdSeg sd_22_cX3_read_1 30 rfl rfl)
theorem dX3_read_63 : decode cX3_read 63 = .ok (.getfield 34, 3) := op_180 (rdSeg sd_22_cX3_read_1 31 rfl rfl) (rdSeg sd_22_cX3_read_2 0 rfl rfl) (rdSeg sd_22_cX3_read_2 1 rfl rfl) rfl
theorem dX3_read_66 : decode cX3_read 66 = .ok (.ireturn, 1) := op_172 (rdSeg sd_22_cX3_read_2 2 rfl rfl)
def sg_22_cX3_writeTo_0 : List UInt8 := [0x2b, 0x2a, 0xb4, 0x00, 0x14, 0xb6, 0x00, 0x17, 0xb1]
set_option maxRecDepth 100000 in
theorem sd_22_cX3_writeTo_0 : cX3_writeTo.data.toList.drop 0 = sg_22_cX3_writeTo_0 := by decide +kernel
theorem dX3_writeTo_0 : decode cX3_writeTo 0 = .ok (.aload_n 1, 1) := op_43 (rdSeg sd_22_cX3_writeTo_0 0 rfl rfl)
theorem dX3_writeTo_1 : decode cX3_writeTo 1 = .ok (.aload_n 0, 1) := op_42 (rdSeg sd_22_cX3_writeTo_0 1 rfl rfl)
theorem dX3_writeTo_2 : decode cX3_writeTo 2 = .ok (.getfield 20, 3) := op_180 (rdSeg sd_22_cX3_writeTo_0 2 rfl rfl) (rdSeg sd_22_cX3_writeTo_0 3 rfl rfl) (rdSeg sd_22_cX3_writeTo_0 4 rfl rfl) rfl
theorem dX3_writeTo_5 : decode cX3_writeTo 5 = .ok (.invokevirtual 23, 3) := op_182 (rdSeg sd_22_cX3_writeTo_0 5 rfl rfl) (rdSeg sd_22_cX3_writeTo_0 6 rfl rfl) (rdSeg sd_22_cX3_writeTo_0 7 rfl rfl) rfl
theorem dX3_writeTo_8 : decode cX3_writeTo 8 = .ok (.return_, 1) := op_177 (rdSeg sd_22_cX3_writeTo_0 8 rfl rfl)
def sg_22_cX3_peek_0 : List UInt8 := [0x2a, 0xb4, 0x00, 0x0e, 0x2a, 0xb4, 0x00, 0x22, 0xb6, 0x00, 0x2d, 0x99, 0x00, 0x12, 0x2a, 0xb4, 0x00, 0x0e, 0x2a, 0xb4, 0x00, 0x22, 0x03, 0xb6, 0x00, 0x31, 0xa7, 0x00, 0x04, 0x02, 0xac]
set_option maxRecDepth 100000 in
theorem sd_22_cX3_peek_0 : cX3_peek.data.toList.drop 0 = sg_22_cX3_peek_0 := by decide +kernel
theorem dX3_peek_0 : decode cX3_peek 0 = .ok (.aload_n 0, 1) := op_42 (rdSeg sd_22_cX3_peek_0 0 rfl rfl)
theorem dX3_peek_1 : decode cX3_peek 1 = .ok (.getfield 14, 3) := op_180 (rdSeg sd_22_cX3_peek_0 1 rfl rfl) (rdSeg sd_22_cX3_peek_0 2 rfl rfl) (rdSeg sd_22_cX3_peek_0 3 rfl rfl) rfl
theorem dX3_peek_4 : decode cX3_peek 4 = .ok (.aload_n 0, 1) := op_42 (rdSeg sd_22_cX3_peek_0 4 rfl rfl)
theorem dX3_peek_5 : decode cX3_peek 5 = .ok (.getfield 34, 3) := op_180 (rdSeg sd_22_cX3_peek_0 5 rfl rfl) (rdSeg sd_22_cX3_peek_0 6 rfl rfl) (rdSeg sd_22_cX3_peek_0 7 rfl rfl) rfl
theorem dX3_peek_8 : decode cX3_peek 8 = .ok (.invokevirtual 45, 3) := op_182 (rdSeg sd_22_cX3_peek_0 8 rfl rfl) (rdSeg sd_22_cX3_peek_0 9 rfl rfl) (rdSeg sd_22_cX3_peek_0 10 rfl rfl) rfl
theorem dX3_peek_11 : decode cX3_peek 11 = .ok (.ifCond .eq 18, 3) := op_153 (rdSeg sd_22_cX3_peek_0 11 rfl rfl) (rdSeg sd_22_cX3_peek_0 12 rfl rfl) (rdSeg sd_22_cX3_peek_0 13 rfl rfl) (by decide +kernel)
theorem dX3_peek_14 : decode cX3_peek 14 = .ok (.aload_n 0, 1) := op_42 (rdSeg sd_22_cX3_peek_0 14 rfl rfl)
theorem dX3_peek_15 : decode cX3_peek 15 = .ok (.getfield 14, 3) := op_180 (rdSeg sd_22_cX3_peek_0 15 rfl rfl) (rdSeg sd_22_cX3_peek_0 16 rfl rfl) (rdSeg sd_22_cX3_peek_0 17 rfl rfl) rfl
theorem dX3_peek_18 : decode cX3_peek 18 = .ok (.aload_n 0, 1) := op_42 (rdSeg sd_22_cX3_peek_0 18 rfl rfl)
theorem dX3_peek_19 : decode cX3_peek 19 = .ok (.getfield 34, 3) := op_180 (rdSeg sd_22_cX3_peek_0 19 rfl rfl) (rdSeg sd_22_cX3_peek_0 20 rfl rfl) (rdSeg sd_22_cX3_peek_0 21 rfl rfl) rfl
theorem dX3_peek_22 : decode cX3_peek 22 = .ok (.iconst 0, 1) := op_3 (rdSeg sd_22_cX3_peek_0 22 rfl rfl)
theorem dX3_peek_23 : decode cX3_peek 23 = .ok (.invokevirtual 49, 3) := op_182 (rdSeg sd_22_cX3_peek_0 23 rfl rfl) (rdSeg sd_22_cX3_peek_0 24 rfl rfl) (rdSeg sd_22_cX3_peek_0 25 rfl rfl) rfl
theorem dX3_peek_26 : decode cX3_peek 26 = .ok (.goto 4, 3) := op_167 (rdSeg sd_22_cX3_peek_0 26 rfl rfl) (rdSeg sd_22_cX3_peek_0 27 rfl rfl) (rdSeg sd_22_cX3_peek_0 28 rfl rfl) (by decide +kernel)
theorem dX3_peek_29 : decode cX3_peek 29 = .ok (.iconst (-1), 1) := op_2 (rdSeg sd_22_cX3_peek_0 29 rfl rfl)
theorem dX3_peek_30 : decode cX3_peek 30 = .ok (.ireturn, 1) := op_172 (rdSeg sd_22_cX3_peek_0 30 rfl rfl)
def sg_22_cX3_readLevel_3 : List UInt8 := [0x3f, 0x57, 0x84, 0x04, 0x01, 0xa7, 0xff, 0xc2, 0x04, 0xac]
def sg_22_cX3_readLevel_2 : List UInt8 := 0xb4 :: 0x00 :: 0x22 :: 0x04 :: 0x60 :: 0xb5 :: 0x00 :: 0x22 :: 0x2a :: 0x1b :: 0x04 :: 0x60 :: 0x1c :: 0xb6 :: 0x00 :: 0x25 :: 0x9a :: 0x00 :: 0x05 :: 0x03 :: 0xac :: 0x2a :: 0xb4 :: 0x00 :: 0x14 :: 0x15 :: 0x05 :: 0x74 :: 0x03 :: 0x03 :: 0xb6 :: 0x00 :: sg_22_cX3_readLevel_3
def sg_22_cX3_readLevel_1 : List UInt8 := 0x05 :: 0x10 :: 0x3c :: 0x3e :: 0x03 :: 0x36 :: 0x04 :: 0x15 :: 0x04 :: 0x1d :: 0xa2 :: 0x00 :: 0x3e :: 0x2a :: 0xb6 :: 0x00 :: 0x38 :: 0xb8 :: 0x00 :: 0x3b :: 0x1b :: 0xa0 :: 0x00 :: 0x33 :: 0x2a :: 0xb6 :: 0x00 :: 0x38 :: 0x36 :: 0x05 :: 0x2a :: 0x59 :: sg_22_cX3_readLevel_2
def sg_22_cX3_readLevel_0 : List UInt8 := 0x1b :: 0x07 :: 0xa4 :: 0x00 :: 0x09 :: 0x2a :: 0x1c :: 0xb6 :: 0x00 :: 0x35 :: 0xac :: 0x2a :: 0x1b :: 0x04 :: 0x60 :: 0x1c :: 0xb6 :: 0x00 :: 0x25 :: 0x9a :: 0x00 :: 0x05 :: 0x03 :: 0xac :: 0x1b :: 0x05 :: 0xa0 :: 0x00 :: 0x07 :: 0x04 :: 0xa7 :: 0x00 :: sg_22_cX3_readLevel_1
set_option maxRecDepth 100000 in
theorem sd_22_cX3_readLevel_0 : cX3_readLevel.data.toList.drop 0 = sg_22_cX3_readLevel_0 := by decide +kernel
theorem sd_22_cX3_readLevel_1 : cX3_readLevel.data.toList.drop 32 = sg_22_cX3_readLevel_1 := sg_next sd_22_cX3_readLevel_0 rfl
theorem sd_22_cX3_readLevel_2 : cX3_readLevel.data.toList.drop 64 = sg_22_cX3_readLevel_2 := sg_next sd_22_cX3_readLevel_1 rfl
theorem sd_22_cX3_readLevel_3 : cX3_readLevel.data.toList.drop 96 = sg_22_cX3_readLevel_3 := sg_next sd_22_cX3_readLevel_2 rfl
theorem dX3_readLevel_0 : decode cX3_readLevel 0 = .ok (.iload_n 1, 1) := op_27 (rdSeg sd_22_cX3_readLevel_0 0 rfl rfl)
theorem dX3_readLevel_1 : decode cX3_readLevel 1 = .ok (.iconst 4, 1) := op_7 (rdSeg sd_22_cX3_readLevel_0 1 rfl rfl)
theorem dX3_readLevel_2 : decode cX3_readLevel 2 = .ok (.if_icmp .le 9, 3) := op_164 (rdSeg sd_22_cX3_readLevel_0 2 rfl rfl) (rdSeg sd_22_cX3_readLevel_0 3 rfl rfl) (rdSeg sd_22_cX3_readLevel_0 4 rfl rfl) (by decide +kernel)
theorem dX3_readLevel_5 : decode cX3_readLevel 5 = .ok (.aload_n 0, 1) := op_42 (rdSeg sd_22_cX3_readLevel_0 5 rfl rfl)
theorem dX3_readLevel_6 : decode cX3_readLevel 6 = .ok (.iload_n 2, 1) := op_28 (rdSeg sd_22_cX3_readLevel_0 6 rfl rfl)
theorem dX3_readLevel_7 : decode cX3_readLevel 7 = .ok (.invokevirtual 53, 3) := op_182 (rdSeg sd_22_cX3_readLevel_0 7 rfl rfl) (rdSeg sd_22_cX3_readLevel_0 8 rfl rfl) (rdSeg sd_22_cX3_readLevel_0 9 rfl rfl) rfl
theorem dX3_readLevel_10 : decode cX3_readLevel 10 = .ok (.ireturn, 1) := op_172 (rdSeg sd_22_cX3_readLevel_0 10 rfl rfl)
theorem dX3_readLevel_11 : decode cX3_readLevel 11 = .ok (.aload_n 0, 1) := op_42 (rdSeg sd_22_cX3_readLevel_0 11 rfl rfl)
theorem dX3_readLevel_12 : decode cX3_readLevel 12 = .ok (.iload_n 1, 1) := op_27 (rdSeg sd_22_cX3_readLevel_0 12 rfl rfl)
theorem dX3_readLevel_13 : decode cX3_readLevel 13 = .ok (.iconst 1, 1) := op_4 (rdSeg sd_22_cX3_readLevel_0 13 rfl rfl)
theorem dX3_readLevel_14 : decode cX3_readLevel 14 = .ok (.iadd, 1) := op_96 (rdSeg sd_22_cX3_readLevel_0 14 rfl rfl)
theorem dX3_readLevel_15 : decode cX3_readLevel 15 = .ok (.iload_n 2, 1) := op_28 (rdSeg sd_22_cX3_readLevel_0 15 rfl rfl)
theorem dX3_readLevel_16 : decode cX3_readLevel 16 = .ok (.invokevirtual 37, 3) := op_182 (rdSeg sd_22_cX3_readLevel_0 16 rfl rfl) (rdSeg sd_22_cX3_readLevel_0 17 rfl rfl) (rdSeg sd_22_cX3_readLevel_0 18 rfl rfl) rfl
theorem dX3_readLevel_19 : decode cX3_readLevel 19 = .ok (.ifCond .ne 5, 3) := op_154 (rdSeg sd_22_cX3_readLevel_0 19 rfl rfl) (rdSeg sd_22_cX3_readLevel_0 20 rfl rfl) (rdSeg sd_22_cX3_readLevel_0 21 rfl rfl) (by decide +kernel)
theorem dX3_readLevel_22 : decode cX3_readLevel 22 = .ok (.iconst 0, 1) := op_3 (rdSeg sd_22_cX3_readLevel_0 22 rfl rfl)
theorem dX3_readLevel_23 : decode cX3_readLevel 23 = .ok (.ireturn, 1) := op_172 (rdSeg sd_22_cX3_readLevel_0 23 rfl rfl)
theorem dX3_readLevel_24 : decode cX3_readLevel 24 = .ok (.iload_n 1, 1) := op_27 (rdSeg sd_22_cX3_readLevel_0 24 rfl rfl)
theorem dX3_readLevel_25 : decode cX3_readLevel 25 = .ok (.iconst 2, 1) := op_5 (rdSeg sd_22_cX3_readLevel_0 25 rfl rfl)
theorem dX3_readLevel_26 : decode cX3_readLevel 26 = .ok (.if_icmp .ne 7, 3) := op_160 (rdSeg sd_22_cX3_readLevel_0 26 rfl rfl) (rdSeg sd_22_cX3_readLevel_0 27 rfl rfl) (rdSeg sd_22_cX3_readLevel_0 28 rfl rfl) (by decide +kernel)
theorem dX3_readLevel_29 : decode cX3_readLevel 29 = .ok (.iconst 1, 1) := op_4 (rdSeg sd_22_cX3_readLevel_0 29 rfl rfl)
theorem dX3_readLevel_30 : decode cX3_readLevel 30 = .ok (.goto 5, 3) := op_167 (rdSeg sd_22_cX3_readLevel_0 30 rfl rfl) (rdSeg sd_22_cX3_readLevel_0 31 rfl rfl) (rdSeg sd_22_cX3_readLevel_1 0 rfl rfl) (by decide +kernel)
theorem dX3_readLevel_33 : decode cX3_readLevel 33 = .ok (.bipush 60, 2) := op_16 (rdSeg sd_22_cX3_readLevel_1 1 rfl rfl) (rdSeg sd_22_cX3_readLevel_1 2 rfl rfl) (by decide +kernel)
theorem dX3_readLevel_35 : decode cX3_readLevel 35 = .ok (.istore_n 3, 1) := op_62 (rdSeg sd_22_cX3_readLevel_1 3 rfl rfl)
theorem dX3_readLevel_36 : decode cX3_readLevel 36 = .ok (.iconst 0, 1) := op_3 (rdSeg sd_22_cX3_readLevel_1 4 rfl rfl)
theorem dX3_readLevel_37 : decode cX3_readLevel 37 = .ok (.istore 4, 2) := op_54 (rdSeg sd_22_cX3_readLevel_1 5 rfl rfl) (rdSeg sd_22_cX3_readLevel_1 6 rfl rfl)
theorem dX3_readLevel_39 : decode cX3_readLevel 39 = .ok (.iload 4, 2) := op_21 (rdSeg sd_22_cX3_readLevel_1 7 rfl rfl) (rdSeg sd_22_cX3_readLevel_1 8 rfl rfl)
theorem dX3_readLevel_41 : decode cX3_readLevel 41 = .ok (.iload_n 3, 1) := op_29 (rdSeg sd_22_cX3_readLevel_1 9 rfl rfl)
theorem dX3_readLevel_42 : decode cX3_readLevel 42 = .ok (.if_icmp .ge 62, 3) := op_162 (rdSeg sd_22_cX3_readLevel_1 10 rfl rfl) (rdSeg sd_22_cX3_readLevel_1 11 rfl rfl) (rdSeg sd_22_cX3_readLevel_1 12 rfl rfl) (by decide +kernel)
theorem dX3_readLevel_45 : decode cX3_readLevel 45 = .ok (.aload_n 0, 1) := op_42 (rdSeg sd_22_cX3_readLevel_1 13 rfl rfl)
theorem dX3_readLevel_46 : decode cX3_readLevel 46 = .ok (.invokevirtual 56, 3) := op_182 (rdSeg sd_22_cX3_readLevel_1 14 rfl rfl) (rdSeg sd_22_cX3_readLevel_1 15 rfl rfl) (rdSeg sd_22_cX3_readLevel_1 16 rfl rfl) rfl
theorem dX3_readLevel_49 : decode cX3_readLevel 49 = .ok (.invokestatic 59, 3) := op_184 (rdSeg sd_22_cX3_readLevel_1 17 rfl rfl) (rdSeg sd_22_cX3_readLevel_1 18 rfl rfl) (rdSeg sd_22_cX3_readLevel_1 19 rfl rfl) rfl
theorem dX3_readLevel_52 : decode cX3_readLevel 52 = .ok (.iload_n 1, 1) := op_27 (rdSeg sd_22_cX3_readLevel_1 20 rfl rfl)
theorem dX3_readLevel_53 : decode cX3_readLevel 53 = .ok (.if_icmp .ne 51, 3) := op_160 (rdSeg sd_22_cX3_readLevel_1 21 rfl rfl) (rdSeg sd_22_cX3_readLevel_1 22 rfl rfl) (rdSeg sd_22_cX3_readLevel_1 23 rfl rfl) (by decide +kernel)
theorem dX3_readLevel_56 : decode cX3_readLevel 56 = .ok (.aload_n 0, 1) := op_42 (rdSeg sd_22_cX3_readLevel_1 24 rfl rfl)
theorem dX3_readLevel_57 : decode cX3_readLevel 57 = .ok (.invokevirtual 56, 3) := op_182 (rdSeg sd_22_cX3_readLevel_1 25 rfl rfl) (rdSeg sd_22_cX3_readLevel_1 26 rfl rfl) (rdSeg sd_22_cX3_readLevel_1 27 rfl rfl) rfl
theorem dX3_readLevel_60 : decode cX3_readLevel 60 = .ok (.istore 5, 2) := op_54 (rdSeg sd_22_cX3_readLevel_1 28 rfl rfl) (rdSeg sd_22_cX3_readLevel_1 29 rfl rfl)
theorem dX3_readLevel_62 : decode cX3_readLevel 62 = .ok (.aload_n 0, 1) := op_42 (rdSeg sd_22_cX3_readLevel_1 30 rfl rfl)
theorem dX3_readLevel_63 : decode cX3_readLevel 63 = .ok (.dup, 1) := op_89 (rdSeg sd_22_cX3_readLevel_1 31 rfl rfl)
theorem dX3_readLevel_64 : decode cX3_readLevel 64 = .ok (.getfield 34, 3) := op_180 (rdSeg sd_22_cX3_readLevel_2 0 rfl rfl) (rdSeg sd_22_cX3_readLevel_2 1 rfl rfl) (rdSeg sd_22_cX3_readLevel_2 2 rfl rfl) rfl
theorem dX3_readLevel_67 : decode cX3_readLevel 67 = .ok (.iconst 1, 1) := op_4 (rdSeg sd_22_cX3_readLevel_2 3 rfl rfl)
theorem dX3_readLevel_68 : decode cX3_readLevel 68 = .ok (.iadd, 1) := op_96 (rdSeg sd_22_cX3_readLevel_2 4 rfl rfl)
theorem dX3_readLevel_69 : decode cX3_readLevel 69 = .ok (.putfield 34, 3) := op_181 (rdSeg sd_22_cX3_readLevel_2 5 rfl rfl) (rdSeg sd_22_cX3_readLevel_2 6 rfl rfl) (rdSeg sd_22_cX3_readLevel_2 7 rfl rfl) rfl
theorem dX3_readLevel_72 : decode cX3_readLevel 72 = .ok (.aload_n 0, 1) := op_42 (rdSeg sd_22_cX3_readLevel_2 8 rfl rfl)
theorem dX3_readLevel_73 : decode cX3_readLevel 73 = .ok (.iload_n 1, 1) := op_27 (rdSeg sd_22_cX3_readLevel_2 9 rfl rfl)
theorem dX3_readLevel_74 : decode cX3_readLevel 74 = .ok (.iconst 1, 1) := op_4 (rdSeg sd_22_cX3_readLevel_2 10 rfl rfl)
theorem dX3_readLevel_75 : decode cX3_readLevel 75 = .ok (.iadd, 1) := op_96 (rdSeg sd_22_cX3_readLevel_2 11 rfl rfl)
theorem dX3_readLevel_76 : decode cX3_readLevel 76 = .ok (.iload_n 2, 1) := op_28 (rdSeg sd_22_cX3_readLevel_2 12 rfl rfl)
theorem dX3_readLevel_77 : decode cX3_readLevel 77 = .ok (.invokevirtual 37, 3) := op_182 (rdSeg sd_22_cX3_readLevel_2 13 rfl rfl) (rdSeg sd_22_cX3_readLevel_2 14 rfl rfl) (rdSeg sd_22_cX3_readLevel_2 15 rfl rfl) rfl
theorem dX3_readLevel_80 : decode cX3_readLevel 80 = .ok (.ifCond .ne 5, 3) := op_154 (rdSeg sd_22_cX3_readLevel_2 16 rfl rfl) (rdSeg sd_22_cX3_readLevel_2 17 rfl rfl) (rdSeg sd_22_cX3_readLevel_2 18 rfl rfl) (by decide +kernel)
theorem dX3_readLevel_83 : decode cX3_readLevel 83 = .ok (.iconst 0, 1) := op_3 (rdSeg sd_22_cX3_readLevel_2 19 rfl rfl)
theorem dX3_readLevel_84 : decode cX3_readLevel 84 = .ok (.ireturn, 1) := op_172 (rdSeg sd_22_cX3_readLevel_2 20 rfl rfl)
theorem dX3_readLevel_85 : decode cX3_readLevel 85 = .ok (.aload_n 0, 1) := op_42 (rdSeg sd_22_cX3_readLevel_2 21 rfl rfl)
theorem dX3_readLevel_86 : decode cX3_readLevel 86 = .ok (.getfield 20, 3) := op_180 (rdSeg sd_22_cX3_readLevel_2 22 rfl rfl) (rdSeg sd_22_cX3_readLevel_2 23 rfl rfl) (rdSeg sd_22_cX3_readLevel_2 24 rfl rfl) rfl
theorem dX3_readLevel_89 : decode cX3_readLevel 89 = .ok (.iload 5, 2) := op_21 (rdSeg sd_22_cX3_readLevel_2 25 rfl rfl) (rdSeg sd_22_cX3_readLevel_2 26 rfl rfl)
theorem dX3_readLevel_91 : decode cX3_readLevel 91 = .ok (.ineg, 1) := op_116 (rdSeg sd_22_cX3_readLevel_2 27 rfl rfl)
theorem dX3_readLevel_92 : decode cX3_readLevel 92 = .ok (.iconst 0, 1) := op_3 (rdSeg sd_22_cX3_readLevel_2 28 rfl rfl)
theorem dX3_readLevel_93 : decode cX3_readLevel 93 = .ok (.iconst 0, 1) := op_3 (rdSeg sd_22_cX3_readLevel_2 29 rfl rfl)
theorem dX3_readLevel_94 : decode cX3_readLevel 94 = .ok (.invokevirtual 63, 3) := op_182 (rdSeg sd_22_cX3_readLevel_2 30 rfl rfl) (rdSeg sd_22_cX3_readLevel_2 31 rfl rfl) (rdSeg sd_22_cX3_readLevel_3 0 rfl rfl) rfl
theorem dX3_readLevel_97 : decode cX3_readLevel 97 = .ok (.pop, 1) := op_87 (rdSeg sd_22_cX3_readLevel_3 1 rfl rfl)
theorem dX3_readLevel_98 : decode cX3_readLevel 98 = .ok (.iinc 4 1, 3) := op_132 (rdSeg sd_22_cX3_readLevel_3 2 rfl rfl) (rdSeg sd_22_cX3_readLevel_3 3 rfl rfl) (rdSeg sd_22_cX3_readLevel_3 4 rfl rfl) (by decide +kernel)
theorem dX3_readLevel_101 : decode cX3_readLevel 101 = .ok (.goto (-62), 3) := op_167 (rdSeg sd_22_cX3_readLevel_3 5 rfl rfl) (rdSeg sd_22_cX3_readLevel_3 6 rfl rfl) (rdSeg sd_22_cX3_readLevel_3 7 rfl rfl) (by decide +kernel)
theorem dX3_readLevel_104 : decode cX3_readLevel 104 = .ok (.iconst 1, 1) := op_4 (rdSeg sd_22_cX3_readLevel_3 8 rfl rfl)
theorem dX3_readLevel_105 : decode cX3_readLevel 105 = .ok (.ireturn, 1) := op_172 (rdSeg sd_22_cX3_readLevel_3 9 rfl rfl)
def sg_22_cX3_levelOf_3 : List UInt8 := [0x05, 0xac, 0x06, 0xac, 0x07, 0xac, 0x02, 0xac]
def sg_22_cX3_levelOf_2 : List UInt8 := 0x00 :: 0x00 :: 0x00 :: 0x5f :: 0x00 :: 0x00 :: 0x00 :: 0x3d :: 0x00 :: 0x00 :: 0x00 :: 0x5f :: 0x00 :: 0x00 :: 0x00 :: 0x3e :: 0x00 :: 0x00 :: 0x00 :: 0x5f :: 0x00 :: 0x00 :: 0x00 :: 0x7c :: 0x00 :: 0x00 :: 0x00 :: 0x5b :: 0x03 :: 0xac :: 0x04 :: 0xac :: sg_22_cX3_levelOf_3
def sg_22_cX3_levelOf_1 : List UInt8 := 0x00 :: 0x00 :: 0x00 :: 0x63 :: 0x00 :: 0x00 :: 0x00 :: 0x2b :: 0x00 :: 0x00 :: 0x00 :: 0x61 :: 0x00 :: 0x00 :: 0x00 :: 0x2d :: 0x00 :: 0x00 :: 0x00 :: 0x61 :: 0x00 :: 0x00 :: 0x00 :: 0x2f :: 0x00 :: 0x00 :: 0x00 :: 0x63 :: 0x00 :: 0x00 :: 0x00 :: 0x3c :: sg_22_cX3_levelOf_2
def sg_22_cX3_levelOf_0 : List UInt8 := 0x1a :: 0xab :: 0x00 :: 0x00 :: 0x00 :: 0x00 :: 0x00 :: 0x65 :: 0x00 :: 0x00 :: 0x00 :: 0x0a :: 0x00 :: 0x00 :: 0x00 :: 0x25 :: 0x00 :: 0x00 :: 0x00 :: 0x63 :: 0x00 :: 0x00 :: 0x00 :: 0x26 :: 0x00 :: 0x00 :: 0x00 :: 0x5d :: 0x00 :: 0x00 :: 0x00 :: 0x2a :: sg_22_cX3_levelOf_1
set_option maxRecDepth 100000 in
theorem sd_22_cX3_levelOf_0 : cX3_levelOf.data.toList.drop 0 = sg_22_cX3_levelOf_0 := by decide +kernel
theorem sd_22_cX3_levelOf_1 : cX3_levelOf.data.toList.drop 32 = sg_22_cX3_levelOf_1 := sg_next sd_22_cX3_levelOf_0 rfl
theorem sd_22_cX3_levelOf_2 : cX3_levelOf.data.toList.drop 64 = sg_22_cX3_levelOf_2 := sg_next sd_22_cX3_levelOf_1 rfl
theorem sd_22_cX3_levelOf_3 : cX3_levelOf.data.toList.drop 96 = sg_22_cX3_levelOf_3 := sg_next sd_22_cX3_levelOf_2 rfl
theorem dX3_levelOf_0 : decode cX3_levelOf 0 = .ok (.iload_n 0, 1) := op_26 (rdSeg sd_22_cX3_levelOf_0 0 rfl rfl)
theorem dX3_levelOf_1 : decode cX3_levelOf 1 = .ok (.lookupswitch 101 #[(37, 99), (38, 93), (42, 99), (43, 97), (45, 97), (47, 99), (60, 95), (61, 95), (62, 95), (124, 91)], 91) := by decide +kernel
theorem dX3_levelOf_92 : decode cX3_levelOf 92 = .ok (.iconst 0, 1) := op_3 (rdSeg sd_22_cX3_levelOf_2 28 rfl rfl)
theorem dX3_levelOf_93 : decode cX3_levelOf 93 = .ok (.ireturn, 1) := op_172 (rdSeg sd_22_cX3_levelOf_2 29 rfl rfl)
theorem dX3_levelOf_94 : decode cX3_levelOf 94 = .ok (.iconst 1, 1) := op_4 (rdSeg sd_22_cX3_levelOf_2 30 rfl rfl)
theorem dX3_levelOf_95 : decode cX3_levelOf 95 = .ok (.ireturn, 1) := op_172 (rdSeg sd_22_cX3_levelOf_2 31 rfl rfl)
theorem dX3_levelOf_96 : decode cX3_levelOf 96 = .ok (.iconst 2, 1) := op_5 (rdSeg sd_22_cX3_levelOf_3 0 rfl rfl)
theorem dX3_levelOf_97 : decode cX3_levelOf 97 = .ok (.ireturn, 1) := op_172 (rdSeg sd_22_cX3_levelOf_3 1 rfl rfl)
theorem dX3_levelOf_98 : decode cX3_levelOf 98 = .ok (.iconst 3, 1) := op_6 (rdSeg sd_22_cX3_levelOf_3 2 rfl rfl)
theorem dX3_levelOf_99 : decode cX3_levelOf 99 = .ok (.ireturn, 1) := op_172 (rdSeg sd_22_cX3_levelOf_3 3 rfl rfl)
theorem dX3_levelOf_100 : decode cX3_levelOf 100 = .ok (.iconst 4, 1) := op_7 (rdSeg sd_22_cX3_levelOf_3 4 rfl rfl)
theorem dX3_levelOf_101 : decode cX3_levelOf 101 = .ok (.ireturn, 1) := op_172 (rdSeg sd_22_cX3_levelOf_3 5 rfl rfl)
theorem dX3_levelOf_102 : decode cX3_levelOf 102 = .ok (.iconst (-1), 1) := op_2 (rdSeg sd_22_cX3_levelOf_3 6 rfl rfl)
theorem dX3_levelOf_103 : decode cX3_levelOf 103 = .ok (.ireturn, 1) := op_172 (rdSeg sd_22_cX3_levelOf_3 7 rfl rfl)
def sg_22_cX3_readValue_2 : List UInt8 := [0x2a, 0x59, 0xb4, 0x00, 0x22, 0x04, 0x60, 0xb5, 0x00, 0x22, 0x2a, 0xb4, 0x00, 0x14, 0x02, 0x1d, 0x64, 0x03, 0x03, 0xb6, 0x00, 0x3f, 0x57, 0x04, 0xac]
def sg_22_cX3_readValue_1 : List UInt8 := 0xa2 :: 0x00 :: 0x12 :: 0x2a :: 0x1c :: 0x1b :: 0x04 :: 0x60 :: 0xb6 :: 0x00 :: 0x49 :: 0x99 :: 0x00 :: 0x07 :: 0x04 :: 0xa7 :: 0x00 :: 0x04 :: 0x03 :: 0xac :: 0x2a :: 0x1c :: 0xb6 :: 0x00 :: 0x4c :: 0x3e :: 0x1d :: 0x9c :: 0x00 :: 0x05 :: 0x03 :: 0xac :: sg_22_cX3_readValue_2
def sg_22_cX3_readValue_0 : List UInt8 := 0x2a :: 0xb6 :: 0x00 :: 0x38 :: 0x3d :: 0x1c :: 0xb8 :: 0x00 :: 0x43 :: 0x99 :: 0x00 :: 0x09 :: 0x2a :: 0xb6 :: 0x00 :: 0x46 :: 0x04 :: 0xac :: 0x1c :: 0x10 :: 0x21 :: 0x9f :: 0x00 :: 0x09 :: 0x1c :: 0x10 :: 0x28 :: 0xa0 :: 0x00 :: 0x19 :: 0x1b :: 0x08 :: sg_22_cX3_readValue_1
set_option maxRecDepth 100000 in
theorem sd_22_cX3_readValue_0 : cX3_readValue.data.toList.drop 0 = sg_22_cX3_readValue_0 := by decide +kernel
theorem sd_22_cX3_readValue_1 : cX3_readValue.data.toList.drop 32 = sg_22_cX3_readValue_1 := sg_next sd_22_cX3_readValue_0 rfl
theorem sd_22_cX3_readValue_2 : cX3_readValue.data.toList.drop 64 = sg_22_cX3_readValue_2 := sg_next sd_22_cX3_readValue_1 rfl
theorem dX3_readValue_0 : decode cX3_readValue 0 = .ok (.aload_n 0, 1) := op_42 (rdSeg sd_22_cX3_readValue_0 0 rfl rfl)
theorem dX3_readValue_1 : decode cX3_readValue 1 = .ok (.invokevirtual 56, 3) := op_182 (rdSeg sd_22_cX3_readValue_0 1 rfl rfl) (rdSeg sd_22_cX3_readValue_0 2 rfl rfl) (rdSeg sd_22_cX3_readValue_0 3 rfl rfl) rfl
theorem dX3_readValue_4 : decode cX3_readValue 4 = .ok (.istore_n 2, 1) := op_61 (rdSeg sd_22_cX3_readValue_0 4 rfl rfl)
theorem dX3_readValue_5 : decode cX3_readValue 5 = .ok (.iload_n 2, 1) := op_28 (rdSeg sd_22_cX3_readValue_0 5 rfl rfl)
theorem dX3_readValue_6 : decode cX3_readValue 6 = .ok (.invokestatic 67, 3) := op_184 (rdSeg sd_22_cX3_readValue_0 6 rfl rfl) (rdSeg sd_22_cX3_readValue_0 7 rfl rfl) (rdSeg sd_22_cX3_readValue_0 8 rfl rfl) rfl
theorem dX3_readValue_9 : decode cX3_readValue 9 = .ok (.ifCond .eq 9, 3) := op_153 (rdSeg sd_22_cX3_readValue_0 9 rfl rfl) (rdSeg sd_22_cX3_readValue_0 10 rfl rfl) (rdSeg sd_22_cX3_readValue_0 11 rfl rfl) (by decide +kernel)
theorem dX3_readValue_12 : decode cX3_readValue 12 = .ok (.aload_n 0, 1) := op_42 (rdSeg sd_22_cX3_readValue_0 12 rfl rfl)
theorem dX3_readValue_13 : decode cX3_readValue 13 = .ok (.invokevirtual 70, 3) := op_182 (rdSeg sd_22_cX3_readValue_0 13 rfl rfl) (rdSeg sd_22_cX3_readValue_0 14 rfl rfl) (rdSeg sd_22_cX3_readValue_0 15 rfl rfl) rfl
theorem dX3_readValue_16 : decode cX3_readValue 16 = .ok (.iconst 1, 1) := op_4 (rdSeg sd_22_cX3_readValue_0 16 rfl rfl)
theorem dX3_readValue_17 : decode cX3_readValue 17 = .ok (.ireturn, 1) := op_172 (rdSeg sd_22_cX3_readValue_0 17 rfl rfl)
theorem dX3_readValue_18 : decode cX3_readValue 18 = .ok (.iload_n 2, 1) := op_28 (rdSeg sd_22_cX3_readValue_0 18 rfl rfl)
theorem dX3_readValue_19 : decode cX3_readValue 19 = .ok (.bipush 33, 2) := op_16 (rdSeg sd_22_cX3_readValue_0 19 rfl rfl) (rdSeg sd_22_cX3_readValue_0 20 rfl rfl) (by decide +kernel)
theorem dX3_readValue_21 : decode cX3_readValue 21 = .ok (.if_icmp .eq 9, 3) := op_159 (rdSeg sd_22_cX3_readValue_0 21 rfl rfl) (rdSeg sd_22_cX3_readValue_0 22 rfl rfl) (rdSeg sd_22_cX3_readValue_0 23 rfl rfl) (by decide +kernel)
theorem dX3_readValue_24 : decode cX3_readValue 24 = .ok (.iload_n 2, 1) := op_28 (rdSeg sd_22_cX3_readValue_0 24 rfl rfl)
theorem dX3_readValue_25 : decode cX3_readValue 25 = .ok (.bipush 40, 2) := op_16 (rdSeg sd_22_cX3_readValue_0 25 rfl rfl) (rdSeg sd_22_cX3_readValue_0 26 rfl rfl) (by decide +kernel)
theorem dX3_readValue_27 : decode cX3_readValue 27 = .ok (.if_icmp .ne 25, 3) := op_160 (rdSeg sd_22_cX3_readValue_0 27 rfl rfl) (rdSeg sd_22_cX3_readValue_0 28 rfl rfl) (rdSeg sd_22_cX3_readValue_0 29 rfl rfl) (by decide +kernel)
theorem dX3_readValue_30 : decode cX3_readValue 30 = .ok (.iload_n 1, 1) := op_27 (rdSeg sd_22_cX3_readValue_0 30 rfl rfl)
theorem dX3_readValue_31 : decode cX3_readValue 31 = .ok (.iconst 5, 1) := op_8 (rdSeg sd_22_cX3_readValue_0 31 rfl rfl)
theorem dX3_readValue_32 : decode cX3_readValue 32 = .ok (.if_icmp .ge 18, 3) := op_162 (rdSeg sd_22_cX3_readValue_1 0 rfl rfl) (rdSeg sd_22_cX3_readValue_1 1 rfl rfl) (rdSeg sd_22_cX3_readValue_1 2 rfl rfl) (by decide +kernel)
theorem dX3_readValue_35 : decode cX3_readValue 35 = .ok (.aload_n 0, 1) := op_42 (rdSeg sd_22_cX3_readValue_1 3 rfl rfl)
theorem dX3_readValue_36 : decode cX3_readValue 36 = .ok (.iload_n 2, 1) := op_28 (rdSeg sd_22_cX3_readValue_1 4 rfl rfl)
theorem dX3_readValue_37 : decode cX3_readValue 37 = .ok (.iload_n 1, 1) := op_27 (rdSeg sd_22_cX3_readValue_1 5 rfl rfl)
theorem dX3_readValue_38 : decode cX3_readValue 38 = .ok (.iconst 1, 1) := op_4 (rdSeg sd_22_cX3_readValue_1 6 rfl rfl)
theorem dX3_readValue_39 : decode cX3_readValue 39 = .ok (.iadd, 1) := op_96 (rdSeg sd_22_cX3_readValue_1 7 rfl rfl)
theorem dX3_readValue_40 : decode cX3_readValue 40 = .ok (.invokevirtual 73, 3) := op_182 (rdSeg sd_22_cX3_readValue_1 8 rfl rfl) (rdSeg sd_22_cX3_readValue_1 9 rfl rfl) (rdSeg sd_22_cX3_readValue_1 10 rfl rfl) rfl
theorem dX3_readValue_43 : decode cX3_readValue 43 = .ok (.ifCond .eq 7, 3) := op_153 (rdSeg sd_22_cX3_readValue_1 11 rfl rfl) (rdSeg sd_22_cX3_readValue_1 12 rfl rfl) (rdSeg sd_22_cX3_readValue_1 13 rfl rfl) (by decide +kernel)
theorem dX3_readValue_46 : decode cX3_readValue 46 = .ok (.iconst 1, 1) := op_4 (rdSeg sd_22_cX3_readValue_1 14 rfl rfl)
theorem dX3_readValue_47 : decode cX3_readValue 47 = .ok (.goto 4, 3) := op_167 (rdSeg sd_22_cX3_readValue_1 15 rfl rfl) (rdSeg sd_22_cX3_readValue_1 16 rfl rfl) (rdSeg sd_22_cX3_readValue_1 17 rfl rfl) (by decide +kernel)
theorem dX3_readValue_50 : decode cX3_readValue 50 = .ok (.iconst 0, 1) := op_3 (rdSeg sd_22_cX3_readValue_1 18 rfl rfl)
theorem dX3_readValue_51 : decode cX3_readValue 51 = .ok (.ireturn, 1) := op_172 (rdSeg sd_22_cX3_readValue_1 19 rfl rfl)
theorem dX3_readValue_52 : decode cX3_readValue 52 = .ok (.aload_n 0, 1) := op_42 (rdSeg sd_22_cX3_readValue_1 20 rfl rfl)
theorem dX3_readValue_53 : decode cX3_readValue 53 = .ok (.iload_n 2, 1) := op_28 (rdSeg sd_22_cX3_readValue_1 21 rfl rfl)
theorem dX3_readValue_54 : decode cX3_readValue 54 = .ok (.invokevirtual 76, 3) := op_182 (rdSeg sd_22_cX3_readValue_1 22 rfl rfl) (rdSeg sd_22_cX3_readValue_1 23 rfl rfl) (rdSeg sd_22_cX3_readValue_1 24 rfl rfl) rfl
theorem dX3_readValue_57 : decode cX3_readValue 57 = .ok (.istore_n 3, 1) := op_62 (rdSeg sd_22_cX3_readValue_1 25 rfl rfl)
theorem dX3_readValue_58 : decode cX3_readValue 58 = .ok (.iload_n 3, 1) := op_29 (rdSeg sd_22_cX3_readValue_1 26 rfl rfl)
theorem dX3_readValue_59 : decode cX3_readValue 59 = .ok (.ifCond .ge 5, 3) := op_156 (rdSeg sd_22_cX3_readValue_1 27 rfl rfl) (rdSeg sd_22_cX3_readValue_1 28 rfl rfl) (rdSeg sd_22_cX3_readValue_1 29 rfl rfl) (by decide +kernel)
theorem dX3_readValue_62 : decode cX3_readValue 62 = .ok (.iconst 0, 1) := op_3 (rdSeg sd_22_cX3_readValue_1 30 rfl rfl)
theorem dX3_readValue_63 : decode cX3_readValue 63 = .ok (.ireturn, 1) := op_172 (rdSeg sd_22_cX3_readValue_1 31 rfl rfl)
theorem dX3_readValue_64 : decode cX3_readValue 64 = .ok (.aload_n 0, 1) := op_42 (rdSeg sd_22_cX3_readValue_2 0 rfl rfl)
theorem dX3_readValue_65 : decode cX3_readValue 65 = .ok (.dup, 1) := op_89 (rdSeg sd_22_cX3_readValue_2 1 rfl rfl)
theorem dX3_readValue_66 : decode cX3_readValue 66 = .ok (.getfield 34, 3) := op_180 (rdSeg sd_22_cX3_readValue_2 2 rfl rfl) (rdSeg sd_22_cX3_readValue_2 3 rfl rfl) (rdSeg sd_22_cX3_readValue_2 4 rfl rfl) rfl
theorem dX3_readValue_69 : decode cX3_readValue 69 = .ok (.iconst 1, 1) := op_4 (rdSeg sd_22_cX3_readValue_2 5 rfl rfl)
theorem dX3_readValue_70 : decode cX3_readValue 70 = .ok (.iadd, 1) := op_96 (rdSeg sd_22_cX3_readValue_2 6 rfl rfl)
theorem dX3_readValue_71 : decode cX3_readValue 71 = .ok (.putfield 34, 3) := op_181 (rdSeg sd_22_cX3_readValue_2 7 rfl rfl) (rdSeg sd_22_cX3_readValue_2 8 rfl rfl) (rdSeg sd_22_cX3_readValue_2 9 rfl rfl) rfl
theorem dX3_readValue_74 : decode cX3_readValue 74 = .ok (.aload_n 0, 1) := op_42 (rdSeg sd_22_cX3_readValue_2 10 rfl rfl)
theorem dX3_readValue_75 : decode cX3_readValue 75 = .ok (.getfield 20, 3) := op_180 (rdSeg sd_22_cX3_readValue_2 11 rfl rfl) (rdSeg sd_22_cX3_readValue_2 12 rfl rfl) (rdSeg sd_22_cX3_readValue_2 13 rfl rfl) rfl
theorem dX3_readValue_78 : decode cX3_readValue 78 = .ok (.iconst (-1), 1) := op_2 (rdSeg sd_22_cX3_readValue_2 14 rfl rfl)
theorem dX3_readValue_79 : decode cX3_readValue 79 = .ok (.iload_n 3, 1) := op_29 (rdSeg sd_22_cX3_readValue_2 15 rfl rfl)
theorem dX3_readValue_80 : decode cX3_readValue 80 = .ok (.isub, 1) := op_100 (rdSeg sd_22_cX3_readValue_2 16 rfl rfl)
theorem dX3_readValue_81 : decode cX3_readValue 81 = .ok (.iconst 0, 1) := op_3 (rdSeg sd_22_cX3_readValue_2 17 rfl rfl)
theorem dX3_readValue_82 : decode cX3_readValue 82 = .ok (.iconst 0, 1) := op_3 (rdSeg sd_22_cX3_readValue_2 18 rfl rfl)
theorem dX3_readValue_83 : decode cX3_readValue 83 = .ok (.invokevirtual 63, 3) := op_182 (rdSeg sd_22_cX3_readValue_2 19 rfl rfl) (rdSeg sd_22_cX3_readValue_2 20 rfl rfl) (rdSeg sd_22_cX3_readValue_2 21 rfl rfl) rfl
theorem dX3_readValue_86 : decode cX3_readValue 86 = .ok (.pop, 1) := op_87 (rdSeg sd_22_cX3_readValue_2 22 rfl rfl)
theorem dX3_readValue_87 : decode cX3_readValue 87 = .ok (.iconst 1, 1) := op_4 (rdSeg sd_22_cX3_readValue_2 23 rfl rfl)
theorem dX3_readValue_88 : decode cX3_readValue 88 = .ok (.ireturn, 1) := op_172 (rdSeg sd_22_cX3_readValue_2 24 rfl rfl)
def sg_22_cX3_readOpened_2 : List UInt8 := [0x22, 0x04, 0x60, 0xb5, 0x00, 0x22, 0x04, 0xac]
def sg_22_cX3_readOpened_1 : List UInt8 := 0x03 :: 0x03 :: 0xb6 :: 0x00 :: 0x3f :: 0x57 :: 0x04 :: 0xac :: 0x2a :: 0x03 :: 0x1c :: 0xb6 :: 0x00 :: 0x25 :: 0x99 :: 0x00 :: 0x0c :: 0x2a :: 0xb6 :: 0x00 :: 0x38 :: 0x10 :: 0x29 :: 0x9f :: 0x00 :: 0x05 :: 0x03 :: 0xac :: 0x2a :: 0x59 :: 0xb4 :: 0x00 :: sg_22_cX3_readOpened_2
def sg_22_cX3_readOpened_0 : List UInt8 := 0x2a :: 0x59 :: 0xb4 :: 0x00 :: 0x22 :: 0x04 :: 0x60 :: 0xb5 :: 0x00 :: 0x22 :: 0x1b :: 0x10 :: 0x21 :: 0xa0 :: 0x00 :: 0x1b :: 0x2a :: 0x1c :: 0xb6 :: 0x00 :: 0x35 :: 0x9a :: 0x00 :: 0x05 :: 0x03 :: 0xac :: 0x2a :: 0xb4 :: 0x00 :: 0x14 :: 0x1b :: 0x74 :: sg_22_cX3_readOpened_1
set_option maxRecDepth 100000 in
theorem sd_22_cX3_readOpened_0 : cX3_readOpened.data.toList.drop 0 = sg_22_cX3_readOpened_0 := by decide +kernel
theorem sd_22_cX3_readOpened_1 : cX3_readOpened.data.toList.drop 32 = sg_22_cX3_readOpened_1 := sg_next sd_22_cX3_readOpened_0 rfl
theorem sd_22_cX3_readOpened_2 : cX3_readOpened.data.toList.drop 64 = sg_22_cX3_readOpened_2 := sg_next sd_22_cX3_readOpened_1 rfl
theorem dX3_readOpened_0 : decode cX3_readOpened 0 = .ok (.aload_n 0, 1) := op_42 (rdSeg sd_22_cX3_readOpened_0 0 rfl rfl)
theorem dX3_readOpened_1 : decode cX3_readOpened 1 = .ok (.dup, 1) := op_89 (rdSeg sd_22_cX3_readOpened_0 1 rfl rfl)
theorem dX3_readOpened_2 : decode cX3_readOpened 2 = .ok (.getfield 34, 3) := op_180 (rdSeg sd_22_cX3_readOpened_0 2 rfl rfl) (rdSeg sd_22_cX3_readOpened_0 3 rfl rfl) (rdSeg sd_22_cX3_readOpened_0 4 rfl rfl) rfl
theorem dX3_readOpened_5 : decode cX3_readOpened 5 = .ok (.iconst 1, 1) := op_4 (rdSeg sd_22_cX3_readOpened_0 5 rfl rfl)
theorem dX3_readOpened_6 : decode cX3_readOpened 6 = .ok (.iadd, 1) := op_96 (rdSeg sd_22_cX3_readOpened_0 6 rfl rfl)
theorem dX3_readOpened_7 : decode cX3_readOpened 7 = .ok (.putfield 34, 3) := op_181 (rdSeg sd_22_cX3_readOpened_0 7 rfl rfl) (rdSeg sd_22_cX3_readOpened_0 8 rfl rfl) (rdSeg sd_22_cX3_readOpened_0 9 rfl rfl) rfl
theorem dX3_readOpened_10 : decode cX3_readOpened 10 = .ok (.iload_n 1, 1) := op_27 (rdSeg sd_22_cX3_readOpened_0 10 rfl rfl)
theorem dX3_readOpened_11 : decode cX3_readOpened 11 = .ok (.bipush 33, 2) := op_16 (rdSeg sd_22_cX3_readOpened_0 11 rfl rfl) (rdSeg sd_22_cX3_readOpened_0 12 rfl rfl) (by decide +kernel)
theorem dX3_readOpened_13 : decode cX3_readOpened 13 = .ok (.if_icmp .ne 27, 3) := op_160 (rdSeg sd_22_cX3_readOpened_0 13 rfl rfl) (rdSeg sd_22_cX3_readOpened_0 14 rfl rfl) (rdSeg sd_22_cX3_readOpened_0 15 rfl rfl) (by decide +kernel)
theorem dX3_readOpened_16 : decode cX3_readOpened 16 = .ok (.aload_n 0, 1) := op_42 (rdSeg sd_22_cX3_readOpened_0 16 rfl rfl)
theorem dX3_readOpened_17 : decode cX3_readOpened 17 = .ok (.iload_n 2, 1) := op_28 (rdSeg sd_22_cX3_readOpened_0 17 rfl rfl)
theorem dX3_readOpened_18 : decode cX3_readOpened 18 = .ok (.invokevirtual 53, 3) := op_182 (rdSeg sd_22_cX3_readOpened_0 18 rfl rfl) (rdSeg sd_22_cX3_readOpened_0 19 rfl rfl) (rdSeg sd_22_cX3_readOpened_0 20 rfl rfl) rfl
theorem dX3_readOpened_21 : decode cX3_readOpened 21 = .ok (.ifCond .ne 5, 3) := op_154 (rdSeg sd_22_cX3_readOpened_0 21 rfl rfl) (rdSeg sd_22_cX3_readOpened_0 22 rfl rfl) (rdSeg sd_22_cX3_readOpened_0 23 rfl rfl) (by decide +kernel)
theorem dX3_readOpened_24 : decode cX3_readOpened 24 = .ok (.iconst 0, 1) := op_3 (rdSeg sd_22_cX3_readOpened_0 24 rfl rfl)
theorem dX3_readOpened_25 : decode cX3_readOpened 25 = .ok (.ireturn, 1) := op_172 (rdSeg sd_22_cX3_readOpened_0 25 rfl rfl)
theorem dX3_readOpened_26 : decode cX3_readOpened 26 = .ok (.aload_n 0, 1) := op_42 (rdSeg sd_22_cX3_readOpened_0 26 rfl rfl)
theorem dX3_readOpened_27 : decode cX3_readOpened 27 = .ok (.getfield 20, 3) := op_180 (rdSeg sd_22_cX3_readOpened_0 27 rfl rfl) (rdSeg sd_22_cX3_readOpened_0 28 rfl rfl) (rdSeg sd_22_cX3_readOpened_0 29 rfl rfl) rfl
theorem dX3_readOpened_30 : decode cX3_readOpened 30 = .ok (.iload_n 1, 1) := op_27 (rdSeg sd_22_cX3_readOpened_0 30 rfl rfl)
theorem dX3_readOpened_31 : decode cX3_readOpened 31 = .ok (.ineg, 1) := op_116 (rdSeg sd_22_cX3_readOpened_0 31 rfl rfl)
theorem dX3_readOpened_32 : decode cX3_readOpened 32 = .ok (.iconst 0, 1) := op_3 (rdSeg sd_22_cX3_readOpened_1 0 rfl rfl)
theorem dX3_readOpened_33 : decode cX3_readOpened 33 = .ok (.iconst 0, 1) := op_3 (rdSeg sd_22_cX3_readOpened_1 1 rfl rfl)
theorem dX3_readOpened_34 : decode cX3_readOpened 34 = .ok (.invokevirtual 63, 3) := op_182 (rdSeg sd_22_cX3_readOpened_1 2 rfl rfl) (rdSeg sd_22_cX3_readOpened_1 3 rfl rfl) (rdSeg sd_22_cX3_readOpened_1 4 rfl rfl) rfl
theorem dX3_readOpened_37 : decode cX3_readOpened 37 = .ok (.pop, 1) := op_87 (rdSeg sd_22_cX3_readOpened_1 5 rfl rfl)
theorem dX3_readOpened_38 : decode cX3_readOpened 38 = .ok (.iconst 1, 1) := op_4 (rdSeg sd_22_cX3_readOpened_1 6 rfl rfl)
theorem dX3_readOpened_39 : decode cX3_readOpened 39 = .ok (.ireturn, 1) := op_172 (rdSeg sd_22_cX3_readOpened_1 7 rfl rfl)
theorem dX3_readOpened_40 : decode cX3_readOpened 40 = .ok (.aload_n 0, 1) := op_42 (rdSeg sd_22_cX3_readOpened_1 8 rfl rfl)
theorem dX3_readOpened_41 : decode cX3_readOpened 41 = .ok (.iconst 0, 1) := op_3 (rdSeg sd_22_cX3_readOpened_1 9 rfl rfl)
theorem dX3_readOpened_42 : decode cX3_readOpened 42 = .ok (.iload_n 2, 1) := op_28 (rdSeg sd_22_cX3_readOpened_1 10 rfl rfl)
theorem dX3_readOpened_43 : decode cX3_readOpened 43 = .ok (.invokevirtual 37, 3) := op_182 (rdSeg sd_22_cX3_readOpened_1 11 rfl rfl) (rdSeg sd_22_cX3_readOpened_1 12 rfl rfl) (rdSeg sd_22_cX3_readOpened_1 13 rfl rfl) rfl
theorem dX3_readOpened_46 : decode cX3_readOpened 46 = .ok (.ifCond .eq 12, 3) := op_153 (rdSeg sd_22_cX3_readOpened_1 14 rfl rfl) (rdSeg sd_22_cX3_readOpened_1 15 rfl rfl) (rdSeg sd_22_cX3_readOpened_1 16 rfl rfl) (by decide +kernel)
theorem dX3_readOpened_49 : decode cX3_readOpened 49 = .ok (.aload_n 0, 1) := op_42 (rdSeg sd_22_cX3_readOpened_1 17 rfl rfl)
theorem dX3_readOpened_50 : decode cX3_readOpened 50 = .ok (.invokevirtual 56, 3) := op_182 (rdSeg sd_22_cX3_readOpened_1 18 rfl rfl) (rdSeg sd_22_cX3_readOpened_1 19 rfl rfl) (rdSeg sd_22_cX3_readOpened_1 20 rfl rfl) rfl
theorem dX3_readOpened_53 : decode cX3_readOpened 53 = .ok (.bipush 41, 2) := op_16 (rdSeg sd_22_cX3_readOpened_1 21 rfl rfl) (rdSeg sd_22_cX3_readOpened_1 22 rfl rfl) (by decide +kernel)
theorem dX3_readOpened_55 : decode cX3_readOpened 55 = .ok (.if_icmp .eq 5, 3) := op_159 (rdSeg sd_22_cX3_readOpened_1 23 rfl rfl) (rdSeg sd_22_cX3_readOpened_1 24 rfl rfl) (rdSeg sd_22_cX3_readOpened_1 25 rfl rfl) (by decide +kernel)
theorem dX3_readOpened_58 : decode cX3_readOpened 58 = .ok (.iconst 0, 1) := op_3 (rdSeg sd_22_cX3_readOpened_1 26 rfl rfl)
theorem dX3_readOpened_59 : decode cX3_readOpened 59 = .ok (.ireturn, 1) := op_172 (rdSeg sd_22_cX3_readOpened_1 27 rfl rfl)
theorem dX3_readOpened_60 : decode cX3_readOpened 60 = .ok (.aload_n 0, 1) := op_42 (rdSeg sd_22_cX3_readOpened_1 28 rfl rfl)
theorem dX3_readOpened_61 : decode cX3_readOpened 61 = .ok (.dup, 1) := op_89 (rdSeg sd_22_cX3_readOpened_1 29 rfl rfl)
theorem dX3_readOpened_62 : decode cX3_readOpened 62 = .ok (.getfield 34, 3) := op_180 (rdSeg sd_22_cX3_readOpened_1 30 rfl rfl) (rdSeg sd_22_cX3_readOpened_1 31 rfl rfl) (rdSeg sd_22_cX3_readOpened_2 0 rfl rfl) rfl
theorem dX3_readOpened_65 : decode cX3_readOpened 65 = .ok (.iconst 1, 1) := op_4 (rdSeg sd_22_cX3_readOpened_2 1 rfl rfl)
theorem dX3_readOpened_66 : decode cX3_readOpened 66 = .ok (.iadd, 1) := op_96 (rdSeg sd_22_cX3_readOpened_2 2 rfl rfl)
theorem dX3_readOpened_67 : decode cX3_readOpened 67 = .ok (.putfield 34, 3) := op_181 (rdSeg sd_22_cX3_readOpened_2 3 rfl rfl) (rdSeg sd_22_cX3_readOpened_2 4 rfl rfl) (rdSeg sd_22_cX3_readOpened_2 5 rfl rfl) rfl
theorem dX3_readOpened_70 : decode cX3_readOpened 70 = .ok (.iconst 1, 1) := op_4 (rdSeg sd_22_cX3_readOpened_2 6 rfl rfl)
theorem dX3_readOpened_71 : decode cX3_readOpened 71 = .ok (.ireturn, 1) := op_172 (rdSeg sd_22_cX3_readOpened_2 7 rfl rfl)
def sg_22_cX3_readNumber_1 : List UInt8 := [0x2a, 0x59, 0xb4, 0x00, 0x22, 0x04, 0x60, 0xb5, 0x00, 0x22, 0x84, 0x02, 0x01, 0xa7, 0xff, 0xd7, 0x2a, 0xb4, 0x00, 0x14, 0x1b, 0x03, 0x03, 0xb6, 0x00, 0x3f, 0x57, 0xb1]
def sg_22_cX3_readNumber_0 : List UInt8 := 0x03 :: 0x3c :: 0x03 :: 0x3d :: 0x1c :: 0x07 :: 0xa2 :: 0x00 :: 0x2a :: 0x2a :: 0xb6 :: 0x00 :: 0x38 :: 0xb8 :: 0x00 :: 0x43 :: 0x99 :: 0x00 :: 0x20 :: 0x1b :: 0x10 :: 0x0a :: 0x68 :: 0x2a :: 0xb6 :: 0x00 :: 0x38 :: 0x60 :: 0x10 :: 0x30 :: 0x64 :: 0x3c :: sg_22_cX3_readNumber_1
set_option maxRecDepth 100000 in
theorem sd_22_cX3_readNumber_0 : cX3_readNumber.data.toList.drop 0 = sg_22_cX3_readNumber_0 := by decide +kernel
theorem sd_22_cX3_readNumber_1 : cX3_readNumber.data.toList.drop 32 = sg_22_cX3_readNumber_1 := sg_next sd_22_cX3_readNumber_0 rfl
theorem dX3_readNumber_0 : decode cX3_readNumber 0 = .ok (.iconst 0, 1) := op_3 (rdSeg sd_22_cX3_readNumber_0 0 rfl rfl)
theorem dX3_readNumber_1 : decode cX3_readNumber 1 = .ok (.istore_n 1, 1) := op_60 (rdSeg sd_22_cX3_readNumber_0 1 rfl rfl)
theorem dX3_readNumber_2 : decode cX3_readNumber 2 = .ok (.iconst 0, 1) := op_3 (rdSeg sd_22_cX3_readNumber_0 2 rfl rfl)
theorem dX3_readNumber_3 : decode cX3_readNumber 3 = .ok (.istore_n 2, 1) := op_61 (rdSeg sd_22_cX3_readNumber_0 3 rfl rfl)
theorem dX3_readNumber_4 : decode cX3_readNumber 4 = .ok (.iload_n 2, 1) := op_28 (rdSeg sd_22_cX3_readNumber_0 4 rfl rfl)
theorem dX3_readNumber_5 : decode cX3_readNumber 5 = .ok (.iconst 4, 1) := op_7 (rdSeg sd_22_cX3_readNumber_0 5 rfl rfl)
theorem dX3_readNumber_6 : decode cX3_readNumber 6 = .ok (.if_icmp .ge 42, 3) := op_162 (rdSeg sd_22_cX3_readNumber_0 6 rfl rfl) (rdSeg sd_22_cX3_readNumber_0 7 rfl rfl) (rdSeg sd_22_cX3_readNumber_0 8 rfl rfl) (by decide +kernel)
theorem dX3_readNumber_9 : decode cX3_readNumber 9 = .ok (.aload_n 0, 1) := op_42 (rdSeg sd_22_cX3_readNumber_0 9 rfl rfl)
theorem dX3_readNumber_10 : decode cX3_readNumber 10 = .ok (.invokevirtual 56, 3) := op_182 (rdSeg sd_22_cX3_readNumber_0 10 rfl rfl) (rdSeg sd_22_cX3_readNumber_0 11 rfl rfl) (rdSeg sd_22_cX3_readNumber_0 12 rfl rfl) rfl
theorem dX3_readNumber_13 : decode cX3_readNumber 13 = .ok (.invokestatic 67, 3) := op_184 (rdSeg sd_22_cX3_readNumber_0 13 rfl rfl) (rdSeg sd_22_cX3_readNumber_0 14 rfl rfl) (rdSeg sd_22_cX3_readNumber_0 15 rfl rfl) rfl
theorem dX3_readNumber_16 : decode cX3_readNumber 16 = .ok (.ifCond .eq 32, 3) := op_153 (rdSeg sd_22_cX3_readNumber_0 16 rfl rfl) (rdSeg sd_22_cX3_readNumber_0 17 rfl rfl) (rdSeg sd_22_cX3_readNumber_0 18 rfl rfl) (by decide +kernel)
theorem dX3_readNumber_19 : decode cX3_readNumber 19 = .ok (.iload_n 1, 1) := op_27 (rdSeg sd_22_cX3_readNumber_0 19 rfl rfl)
theorem dX3_readNumber_20 : decode cX3_readNumber 20 = .ok (.bipush 10, 2) := op_16 (rdSeg sd_22_cX3_readNumber_0 20 rfl rfl) (rdSeg sd_22_cX3_readNumber_0 21 rfl rfl) (by decide +kernel)
theorem dX3_readNumber_22 : decode cX3_readNumber 22 = .ok (.imul, 1) := op_104 (rdSeg sd_22_cX3_readNumber_0 22 rfl rfl)
theorem dX3_readNumber_23 : decode cX3_readNumber 23 = .ok (.aload_n 0, 1) := op_42 (rdSeg sd_22_cX3_readNumber_0 23 rfl rfl)
theorem dX3_readNumber_24 : decode cX3_readNumber 24 = .ok (.invokevirtual 56, 3) := op_182 (rdSeg sd_22_cX3_readNumber_0 24 rfl rfl) (rdSeg sd_22_cX3_readNumber_0 25 rfl rfl) (rdSeg sd_22_cX3_readNumber_0 26 rfl rfl) rfl
theorem dX3_readNumber_27 : decode cX3_readNumber 27 = .ok (.iadd, 1) := op_96 (rdSeg sd_22_cX3_readNumber_0 27 rfl rfl)
theorem dX3_readNumber_28 : decode cX3_readNumber 28 = .ok (.bipush 48, 2) := op_16 (rdSeg sd_22_cX3_readNumber_0 28 rfl rfl) (rdSeg sd_22_cX3_readNumber_0 29 rfl rfl) (by decide +kernel)
theorem dX3_readNumber_30 : decode cX3_readNumber 30 = .ok (.isub, 1) := op_100 (rdSeg sd_22_cX3_readNumber_0 30 rfl rfl)
theorem dX3_readNumber_31 : decode cX3_readNumber 31 = .ok (.istore_n 1, 1) := op_60 (rdSeg sd_22_cX3_readNumber_0 31 rfl rfl)
theorem dX3_readNumber_32 : decode cX3_readNumber 32 = .ok (.aload_n 0, 1) := op_42 (rdSeg sd_22_cX3_readNumber_1 0 rfl rfl)
theorem dX3_readNumber_33 : decode cX3_readNumber 33 = .ok (.dup, 1) := op_89 (rdSeg sd_22_cX3_readNumber_1 1 rfl rfl)
theorem dX3_readNumber_34 : decode cX3_readNumber 34 = .ok (.getfield 34, 3) := op_180 (rdSeg sd_22_cX3_readNumber_1 2 rfl rfl) (rdSeg sd_22_cX3_readNumber_1 3 rfl rfl) (rdSeg sd_22_cX3_readNumber_1 4 rfl rfl) rfl
theorem dX3_readNumber_37 : decode cX3_readNumber 37 = .ok (.iconst 1, 1) := op_4 (rdSeg sd_22_cX3_readNumber_1 5 rfl rfl)
theorem dX3_readNumber_38 : decode cX3_readNumber 38 = .ok (.iadd, 1) := op_96 (rdSeg sd_22_cX3_readNumber_1 6 rfl rfl)
theorem dX3_readNumber_39 : decode cX3_readNumber 39 = .ok (.putfield 34, 3) := op_181 (rdSeg sd_22_cX3_readNumber_1 7 rfl rfl) (rdSeg sd_22_cX3_readNumber_1 8 rfl rfl) (rdSeg sd_22_cX3_readNumber_1 9 rfl rfl) rfl
theorem dX3_readNumber_42 : decode cX3_readNumber 42 = .ok (.iinc 2 1, 3) := op_132 (rdSeg sd_22_cX3_readNumber_1 10 rfl rfl) (rdSeg sd_22_cX3_readNumber_1 11 rfl rfl) (rdSeg sd_22_cX3_readNumber_1 12 rfl rfl) (by decide +kernel)
theorem dX3_readNumber_45 : decode cX3_readNumber 45 = .ok (.goto (-41), 3) := op_167 (rdSeg sd_22_cX3_readNumber_1 13 rfl rfl) (rdSeg sd_22_cX3_readNumber_1 14 rfl rfl) (rdSeg sd_22_cX3_readNumber_1 15 rfl rfl) (by decide +kernel)
theorem dX3_readNumber_48 : decode cX3_readNumber 48 = .ok (.aload_n 0, 1) := op_42 (rdSeg sd_22_cX3_readNumber_1 16 rfl rfl)
theorem dX3_readNumber_49 : decode cX3_readNumber 49 = .ok (.getfield 20, 3) := op_180 (rdSeg sd_22_cX3_readNumber_1 17 rfl rfl) (rdSeg sd_22_cX3_readNumber_1 18 rfl rfl) (rdSeg sd_22_cX3_readNumber_1 19 rfl rfl) rfl
theorem dX3_readNumber_52 : decode cX3_readNumber 52 = .ok (.iload_n 1, 1) := op_27 (rdSeg sd_22_cX3_readNumber_1 20 rfl rfl)
theorem dX3_readNumber_53 : decode cX3_readNumber 53 = .ok (.iconst 0, 1) := op_3 (rdSeg sd_22_cX3_readNumber_1 21 rfl rfl)
theorem dX3_readNumber_54 : decode cX3_readNumber 54 = .ok (.iconst 0, 1) := op_3 (rdSeg sd_22_cX3_readNumber_1 22 rfl rfl)
theorem dX3_readNumber_55 : decode cX3_readNumber 55 = .ok (.invokevirtual 63, 3) := op_182 (rdSeg sd_22_cX3_readNumber_1 23 rfl rfl) (rdSeg sd_22_cX3_readNumber_1 24 rfl rfl) (rdSeg sd_22_cX3_readNumber_1 25 rfl rfl) rfl
theorem dX3_readNumber_58 : decode cX3_readNumber 58 = .ok (.pop, 1) := op_87 (rdSeg sd_22_cX3_readNumber_1 26 rfl rfl)
theorem dX3_readNumber_59 : decode cX3_readNumber 59 = .ok (.return_, 1) := op_177 (rdSeg sd_22_cX3_readNumber_1 27 rfl rfl)
def sg_22_cX3_isDigit_0 : List UInt8 := [0x1a, 0x10, 0x30, 0xa1, 0x00, 0x0d, 0x1a, 0x10, 0x39, 0xa3, 0x00, 0x07, 0x04, 0xa7, 0x00, 0x04, 0x03, 0xac]
set_option maxRecDepth 100000 in
theorem sd_22_cX3_isDigit_0 : cX3_isDigit.data.toList.drop 0 = sg_22_cX3_isDigit_0 := by decide +kernel
theorem dX3_isDigit_0 : decode cX3_isDigit 0 = .ok (.iload_n 0, 1) := op_26 (rdSeg sd_22_cX3_isDigit_0 0 rfl rfl)
theorem dX3_isDigit_1 : decode cX3_isDigit 1 = .ok (.bipush 48, 2) := op_16 (rdSeg sd_22_cX3_isDigit_0 1 rfl rfl) (rdSeg sd_22_cX3_isDigit_0 2 rfl rfl) (by decide +kernel)
theorem dX3_isDigit_3 : decode cX3_isDigit 3 = .ok (.if_icmp .lt 13, 3) := op_161 (rdSeg sd_22_cX3_isDigit_0 3 rfl rfl) (rdSeg sd_22_cX3_isDigit_0 4 rfl rfl) (rdSeg sd_22_cX3_isDigit_0 5 rfl rfl) (by decide +kernel)
theorem dX3_isDigit_6 : decode cX3_isDigit 6 = .ok (.iload_n 0, 1) := op_26 (rdSeg sd_22_cX3_isDigit_0 6 rfl rfl)
theorem dX3_isDigit_7 : decode cX3_isDigit 7 = .ok (.bipush 57, 2) := op_16 (rdSeg sd_22_cX3_isDigit_0 7 rfl rfl) (rdSeg sd_22_cX3_isDigit_0 8 rfl rfl) (by decide +kernel)
theorem dX3_isDigit_9 : decode cX3_isDigit 9 = .ok (.if_icmp .gt 7, 3) := op_163 (rdSeg sd_22_cX3_isDigit_0 9 rfl rfl) (rdSeg sd_22_cX3_isDigit_0 10 rfl rfl) (rdSeg sd_22_cX3_isDigit_0 11 rfl rfl) (by decide +kernel)
theorem dX3_isDigit_12 : decode cX3_isDigit 12 = .ok (.iconst 1, 1) := op_4 (rdSeg sd_22_cX3_isDigit_0 12 rfl rfl)
theorem dX3_isDigit_13 : decode cX3_isDigit 13 = .ok (.goto 4, 3) := op_167 (rdSeg sd_22_cX3_isDigit_0 13 rfl rfl) (rdSeg sd_22_cX3_isDigit_0 14 rfl rfl) (rdSeg sd_22_cX3_isDigit_0 15 rfl rfl) (by decide +kernel)
theorem dX3_isDigit_16 : decode cX3_isDigit 16 = .ok (.iconst 0, 1) := op_3 (rdSeg sd_22_cX3_isDigit_0 16 rfl rfl)
theorem dX3_isDigit_17 : decode cX3_isDigit 17 = .ok (.ireturn, 1) := op_172 (rdSeg sd_22_cX3_isDigit_0 17 rfl rfl)
def sg_22_cX3_nameOf_1 : List UInt8 := [0x2e, 0x1b, 0xa0, 0x00, 0x05, 0x1c, 0xac, 0x84, 0x02, 0x01, 0xa7, 0xff, 0xd8, 0x02, 0xac]
def sg_22_cX3_nameOf_0 : List UInt8 := 0x03 :: 0x3d :: 0x1c :: 0x06 :: 0xa2 :: 0x00 :: 0x29 :: 0x2a :: 0xb4 :: 0x00 :: 0x1e :: 0x06 :: 0x68 :: 0x1c :: 0x60 :: 0x3e :: 0x1d :: 0x9b :: 0x00 :: 0x16 :: 0x1d :: 0xb2 :: 0x00 :: 0x4f :: 0xbe :: 0xa2 :: 0x00 :: 0x0e :: 0xb2 :: 0x00 :: 0x4f :: 0x1d :: sg_22_cX3_nameOf_1
set_option maxRecDepth 100000 in
theorem sd_22_cX3_nameOf_0 : cX3_nameOf.data.toList.drop 0 = sg_22_cX3_nameOf_0 := by decide +kernel
theorem sd_22_cX3_nameOf_1 : cX3_nameOf.data.toList.drop 32 = sg_22_cX3_nameOf_1 := sg_next sd_22_cX3_nameOf_0 rfl
theorem dX3_nameOf_0 : decode cX3_nameOf 0 = .ok (.iconst 0, 1) := op_3 (rdSeg sd_22_cX3_nameOf_0 0 rfl rfl)
theorem dX3_nameOf_1 : decode cX3_nameOf 1 = .ok (.istore_n 2, 1) := op_61 (rdSeg sd_22_cX3_nameOf_0 1 rfl rfl)
theorem dX3_nameOf_2 : decode cX3_nameOf 2 = .ok (.iload_n 2, 1) := op_28 (rdSeg sd_22_cX3_nameOf_0 2 rfl rfl)
theorem dX3_nameOf_3 : decode cX3_nameOf 3 = .ok (.iconst 3, 1) := op_6 (rdSeg sd_22_cX3_nameOf_0 3 rfl rfl)
theorem dX3_nameOf_4 : decode cX3_nameOf 4 = .ok (.if_icmp .ge 41, 3) := op_162 (rdSeg sd_22_cX3_nameOf_0 4 rfl rfl) (rdSeg sd_22_cX3_nameOf_0 5 rfl rfl) (rdSeg sd_22_cX3_nameOf_0 6 rfl rfl) (by decide +kernel)
theorem dX3_nameOf_7 : decode cX3_nameOf 7 = .ok (.aload_n 0, 1) := op_42 (rdSeg sd_22_cX3_nameOf_0 7 rfl rfl)
theorem dX3_nameOf_8 : decode cX3_nameOf 8 = .ok (.getfield 30, 3) := op_180 (rdSeg sd_22_cX3_nameOf_0 8 rfl rfl) (rdSeg sd_22_cX3_nameOf_0 9 rfl rfl) (rdSeg sd_22_cX3_nameOf_0 10 rfl rfl) rfl
theorem dX3_nameOf_11 : decode cX3_nameOf 11 = .ok (.iconst 3, 1) := op_6 (rdSeg sd_22_cX3_nameOf_0 11 rfl rfl)
theorem dX3_nameOf_12 : decode cX3_nameOf 12 = .ok (.imul, 1) := op_104 (rdSeg sd_22_cX3_nameOf_0 12 rfl rfl)
theorem dX3_nameOf_13 : decode cX3_nameOf 13 = .ok (.iload_n 2, 1) := op_28 (rdSeg sd_22_cX3_nameOf_0 13 rfl rfl)
theorem dX3_nameOf_14 : decode cX3_nameOf 14 = .ok (.iadd, 1) := op_96 (rdSeg sd_22_cX3_nameOf_0 14 rfl rfl)
theorem dX3_nameOf_15 : decode cX3_nameOf 15 = .ok (.istore_n 3, 1) := op_62 (rdSeg sd_22_cX3_nameOf_0 15 rfl rfl)
theorem dX3_nameOf_16 : decode cX3_nameOf 16 = .ok (.iload_n 3, 1) := op_29 (rdSeg sd_22_cX3_nameOf_0 16 rfl rfl)
theorem dX3_nameOf_17 : decode cX3_nameOf 17 = .ok (.ifCond .lt 22, 3) := op_155 (rdSeg sd_22_cX3_nameOf_0 17 rfl rfl) (rdSeg sd_22_cX3_nameOf_0 18 rfl rfl) (rdSeg sd_22_cX3_nameOf_0 19 rfl rfl) (by decide +kernel)
theorem dX3_nameOf_20 : decode cX3_nameOf 20 = .ok (.iload_n 3, 1) := op_29 (rdSeg sd_22_cX3_nameOf_0 20 rfl rfl)
theorem dX3_nameOf_21 : decode cX3_nameOf 21 = .ok (.getstatic 79, 3) := op_178 (rdSeg sd_22_cX3_nameOf_0 21 rfl rfl) (rdSeg sd_22_cX3_nameOf_0 22 rfl rfl) (rdSeg sd_22_cX3_nameOf_0 23 rfl rfl) rfl
theorem dX3_nameOf_24 : decode cX3_nameOf 24 = .ok (.arraylength, 1) := op_190 (rdSeg sd_22_cX3_nameOf_0 24 rfl rfl)
theorem dX3_nameOf_25 : decode cX3_nameOf 25 = .ok (.if_icmp .ge 14, 3) := op_162 (rdSeg sd_22_cX3_nameOf_0 25 rfl rfl) (rdSeg sd_22_cX3_nameOf_0 26 rfl rfl) (rdSeg sd_22_cX3_nameOf_0 27 rfl rfl) (by decide +kernel)
theorem dX3_nameOf_28 : decode cX3_nameOf 28 = .ok (.getstatic 79, 3) := op_178 (rdSeg sd_22_cX3_nameOf_0 28 rfl rfl) (rdSeg sd_22_cX3_nameOf_0 29 rfl rfl) (rdSeg sd_22_cX3_nameOf_0 30 rfl rfl) rfl
theorem dX3_nameOf_31 : decode cX3_nameOf 31 = .ok (.iload_n 3, 1) := op_29 (rdSeg sd_22_cX3_nameOf_0 31 rfl rfl)
theorem dX3_nameOf_32 : decode cX3_nameOf 32 = .ok (.iaload, 1) := op_46 (rdSeg sd_22_cX3_nameOf_1 0 rfl rfl)
theorem dX3_nameOf_33 : decode cX3_nameOf 33 = .ok (.iload_n 1, 1) := op_27 (rdSeg sd_22_cX3_nameOf_1 1 rfl rfl)
theorem dX3_nameOf_34 : decode cX3_nameOf 34 = .ok (.if_icmp .ne 5, 3) := op_160 (rdSeg sd_22_cX3_nameOf_1 2 rfl rfl) (rdSeg sd_22_cX3_nameOf_1 3 rfl rfl) (rdSeg sd_22_cX3_nameOf_1 4 rfl rfl) (by decide +kernel)
theorem dX3_nameOf_37 : decode cX3_nameOf 37 = .ok (.iload_n 2, 1) := op_28 (rdSeg sd_22_cX3_nameOf_1 5 rfl rfl)
theorem dX3_nameOf_38 : decode cX3_nameOf 38 = .ok (.ireturn, 1) := op_172 (rdSeg sd_22_cX3_nameOf_1 6 rfl rfl)
theorem dX3_nameOf_39 : decode cX3_nameOf 39 = .ok (.iinc 2 1, 3) := op_132 (rdSeg sd_22_cX3_nameOf_1 7 rfl rfl) (rdSeg sd_22_cX3_nameOf_1 8 rfl rfl) (rdSeg sd_22_cX3_nameOf_1 9 rfl rfl) (by decide +kernel)
theorem dX3_nameOf_42 : decode cX3_nameOf 42 = .ok (.goto (-40), 3) := op_167 (rdSeg sd_22_cX3_nameOf_1 10 rfl rfl) (rdSeg sd_22_cX3_nameOf_1 11 rfl rfl) (rdSeg sd_22_cX3_nameOf_1 12 rfl rfl) (by decide +kernel)
theorem dX3_nameOf_45 : decode cX3_nameOf 45 = .ok (.iconst (-1), 1) := op_2 (rdSeg sd_22_cX3_nameOf_1 13 rfl rfl)
theorem dX3_nameOf_46 : decode cX3_nameOf 46 = .ok (.ireturn, 1) := op_172 (rdSeg sd_22_cX3_nameOf_1 14 rfl rfl)
def sg_22_cX4_init_1 : List UInt8 := [0x68, 0xb8, 0x00, 0x07, 0xbc, 0x0a, 0xb5, 0x00, 0x16, 0xb1]
def sg_22_cX4_init_0 : List UInt8 := 0x2a :: 0xb7 :: 0x00 :: 0x01 :: 0x2a :: 0x03 :: 0x1b :: 0xb8 :: 0x00 :: 0x07 :: 0xb5 :: 0x00 :: 0x0d :: 0x2a :: 0x04 :: 0x1c :: 0xb8 :: 0x00 :: 0x07 :: 0xb5 :: 0x00 :: 0x13 :: 0x2a :: 0x03 :: 0x2a :: 0xb4 :: 0x00 :: 0x0d :: 0x2a :: 0xb4 :: 0x00 :: 0x13 :: sg_22_cX4_init_1
set_option maxRecDepth 100000 in
theorem sd_22_cX4_init_0 : cX4_init.data.toList.drop 0 = sg_22_cX4_init_0 := by decide +kernel
theorem sd_22_cX4_init_1 : cX4_init.data.toList.drop 32 = sg_22_cX4_init_1 := sg_next sd_22_cX4_init_0 rfl
theorem dX4_init_0 : decode cX4_init 0 = .ok (.aload_n 0, 1) := op_42 (rdSeg sd_22_cX4_init_0 0 rfl rfl)
theorem dX4_init_1 : decode cX4_init 1 = .ok (.invokespecial 1, 3) := op_183 (rdSeg sd_22_cX4_init_0 1 rfl rfl) (rdSeg sd_22_cX4_init_0 2 rfl rfl) (rdSeg sd_22_cX4_init_0 3 rfl rfl) rfl
theorem dX4_init_4 : decode cX4_init 4 = .ok (.aload_n 0, 1) := op_42 (rdSeg sd_22_cX4_init_0 4 rfl rfl)
theorem dX4_init_5 : decode cX4_init 5 = .ok (.iconst 0, 1) := op_3 (rdSeg sd_22_cX4_init_0 5 rfl rfl)
theorem dX4_init_6 : decode cX4_init 6 = .ok (.iload_n 1, 1) := op_27 (rdSeg sd_22_cX4_init_0 6 rfl rfl)
theorem dX4_init_7 : decode cX4_init 7 = .ok (.invokestatic 7, 3) := op_184 (rdSeg sd_22_cX4_init_0 7 rfl rfl) (rdSeg sd_22_cX4_init_0 8 rfl rfl) (rdSeg sd_22_cX4_init_0 9 rfl rfl) rfl
theorem dX4_init_10 : decode cX4_init 10 = .ok (.putfield 13, 3) := op_181 (rdSeg sd_22_cX4_init_0 10 rfl rfl) (rdSeg sd_22_cX4_init_0 11 rfl rfl) (rdSeg sd_22_cX4_init_0 12 rfl rfl) rfl
theorem dX4_init_13 : decode cX4_init 13 = .ok (.aload_n 0, 1) := op_42 (rdSeg sd_22_cX4_init_0 13 rfl rfl)
theorem dX4_init_14 : decode cX4_init 14 = .ok (.iconst 1, 1) := op_4 (rdSeg sd_22_cX4_init_0 14 rfl rfl)
theorem dX4_init_15 : decode cX4_init 15 = .ok (.iload_n 2, 1) := op_28 (rdSeg sd_22_cX4_init_0 15 rfl rfl)
theorem dX4_init_16 : decode cX4_init 16 = .ok (.invokestatic 7, 3) := op_184 (rdSeg sd_22_cX4_init_0 16 rfl rfl) (rdSeg sd_22_cX4_init_0 17 rfl rfl) (rdSeg sd_22_cX4_init_0 18 rfl rfl) rfl
theorem dX4_init_19 : decode cX4_init 19 = .ok (.putfield 19, 3) := op_181 (rdSeg sd_22_cX4_init_0 19 rfl rfl) (rdSeg sd_22_cX4_init_0 20 rfl rfl) (rdSeg sd_22_cX4_init_0 21 rfl rfl) rfl
theorem dX4_init_22 : decode cX4_init 22 = .ok (.aload_n 0, 1) := op_42 (rdSeg sd_22_cX4_init_0 22 rfl rfl)
theorem dX4_init_23 : decode cX4_init 23 = .ok (.iconst 0, 1) := op_3 (rdSeg sd_22_cX4_init_0 23 rfl rfl)
theorem dX4_init_24 : decode cX4_init 24 = .ok (.aload_n 0, 1) := op_42 (rdSeg sd_22_cX4_init_0 24 rfl rfl)
theorem dX4_init_25 : decode cX4_init 25 = .ok (.getfield 13, 3) := op_180 (rdSeg sd_22_cX4_init_0 25 rfl rfl) (rdSeg sd_22_cX4_init_0 26 rfl rfl) (rdSeg sd_22_cX4_init_0 27 rfl rfl) rfl
theorem dX4_init_28 : decode cX4_init 28 = .ok (.aload_n 0, 1) := op_42 (rdSeg sd_22_cX4_init_0 28 rfl rfl)
theorem dX4_init_29 : decode cX4_init 29 = .ok (.getfield 19, 3) := op_180 (rdSeg sd_22_cX4_init_0 29 rfl rfl) (rdSeg sd_22_cX4_init_0 30 rfl rfl) (rdSeg sd_22_cX4_init_0 31 rfl rfl) rfl
theorem dX4_init_32 : decode cX4_init 32 = .ok (.imul, 1) := op_104 (rdSeg sd_22_cX4_init_1 0 rfl rfl)
theorem dX4_init_33 : decode cX4_init 33 = .ok (.invokestatic 7, 3) := op_184 (rdSeg sd_22_cX4_init_1 1 rfl rfl) (rdSeg sd_22_cX4_init_1 2 rfl rfl) (rdSeg sd_22_cX4_init_1 3 rfl rfl) rfl
theorem dX4_init_36 : decode cX4_init 36 = .ok (.newarray .int, 2) := by decide +kernel
theorem dX4_init_38 : decode cX4_init 38 = .ok (.putfield 22, 3) := op_181 (rdSeg sd_22_cX4_init_1 6 rfl rfl) (rdSeg sd_22_cX4_init_1 7 rfl rfl) (rdSeg sd_22_cX4_init_1 8 rfl rfl) rfl
theorem dX4_init_41 : decode cX4_init 41 = .ok (.return_, 1) := op_177 (rdSeg sd_22_cX4_init_1 9 rfl rfl)
def sg_22_cX4_size_0 : List UInt8 := [0x2a, 0xb4, 0x00, 0x1a, 0xac]
set_option maxRecDepth 100000 in
theorem sd_22_cX4_size_0 : cX4_size.data.toList.drop 0 = sg_22_cX4_size_0 := by decide +kernel
theorem dX4_size_0 : decode cX4_size 0 = .ok (.aload_n 0, 1) := op_42 (rdSeg sd_22_cX4_size_0 0 rfl rfl)
theorem dX4_size_1 : decode cX4_size 1 = .ok (.getfield 26, 3) := op_180 (rdSeg sd_22_cX4_size_0 1 rfl rfl) (rdSeg sd_22_cX4_size_0 2 rfl rfl) (rdSeg sd_22_cX4_size_0 3 rfl rfl) rfl
theorem dX4_size_4 : decode cX4_size 4 = .ok (.ireturn, 1) := op_172 (rdSeg sd_22_cX4_size_0 4 rfl rfl)
def sg_22_cX4_room_0 : List UInt8 := [0x2a, 0xb4, 0x00, 0x0d, 0x2a, 0xb4, 0x00, 0x1a, 0x64, 0xac]
set_option maxRecDepth 100000 in
theorem sd_22_cX4_room_0 : cX4_room.data.toList.drop 0 = sg_22_cX4_room_0 := by decide +kernel
theorem dX4_room_0 : decode cX4_room 0 = .ok (.aload_n 0, 1) := op_42 (rdSeg sd_22_cX4_room_0 0 rfl rfl)
theorem dX4_room_1 : decode cX4_room 1 = .ok (.getfield 13, 3) := op_180 (rdSeg sd_22_cX4_room_0 1 rfl rfl) (rdSeg sd_22_cX4_room_0 2 rfl rfl) (rdSeg sd_22_cX4_room_0 3 rfl rfl) rfl
theorem dX4_room_4 : decode cX4_room 4 = .ok (.aload_n 0, 1) := op_42 (rdSeg sd_22_cX4_room_0 4 rfl rfl)
theorem dX4_room_5 : decode cX4_room 5 = .ok (.getfield 26, 3) := op_180 (rdSeg sd_22_cX4_room_0 5 rfl rfl) (rdSeg sd_22_cX4_room_0 6 rfl rfl) (rdSeg sd_22_cX4_room_0 7 rfl rfl) rfl
theorem dX4_room_8 : decode cX4_room 8 = .ok (.isub, 1) := op_100 (rdSeg sd_22_cX4_room_0 8 rfl rfl)
theorem dX4_room_9 : decode cX4_room 9 = .ok (.ireturn, 1) := op_172 (rdSeg sd_22_cX4_room_0 9 rfl rfl)
def sg_22_cX4_has_0 : List UInt8 := [0x1b, 0x9b, 0x00, 0x0f, 0x1b, 0x2a, 0xb4, 0x00, 0x1a, 0xa2, 0x00, 0x07, 0x04, 0xa7, 0x00, 0x04, 0x03, 0xac]
set_option maxRecDepth 100000 in
theorem sd_22_cX4_has_0 : cX4_has.data.toList.drop 0 = sg_22_cX4_has_0 := by decide +kernel
theorem dX4_has_0 : decode cX4_has 0 = .ok (.iload_n 1, 1) := op_27 (rdSeg sd_22_cX4_has_0 0 rfl rfl)
theorem dX4_has_1 : decode cX4_has 1 = .ok (.ifCond .lt 15, 3) := op_155 (rdSeg sd_22_cX4_has_0 1 rfl rfl) (rdSeg sd_22_cX4_has_0 2 rfl rfl) (rdSeg sd_22_cX4_has_0 3 rfl rfl) (by decide +kernel)
theorem dX4_has_4 : decode cX4_has 4 = .ok (.iload_n 1, 1) := op_27 (rdSeg sd_22_cX4_has_0 4 rfl rfl)
theorem dX4_has_5 : decode cX4_has 5 = .ok (.aload_n 0, 1) := op_42 (rdSeg sd_22_cX4_has_0 5 rfl rfl)
theorem dX4_has_6 : decode cX4_has 6 = .ok (.getfield 26, 3) := op_180 (rdSeg sd_22_cX4_has_0 6 rfl rfl) (rdSeg sd_22_cX4_has_0 7 rfl rfl) (rdSeg sd_22_cX4_has_0 8 rfl rfl) rfl
theorem dX4_has_9 : decode cX4_has 9 = .ok (.if_icmp .ge 7, 3) := op_162 (rdSeg sd_22_cX4_has_0 9 rfl rfl) (rdSeg sd_22_cX4_has_0 10 rfl rfl) (rdSeg sd_22_cX4_has_0 11 rfl rfl) (by decide +kernel)
theorem dX4_has_12 : decode cX4_has 12 = .ok (.iconst 1, 1) := op_4 (rdSeg sd_22_cX4_has_0 12 rfl rfl)
theorem dX4_has_13 : decode cX4_has 13 = .ok (.goto 4, 3) := op_167 (rdSeg sd_22_cX4_has_0 13 rfl rfl) (rdSeg sd_22_cX4_has_0 14 rfl rfl) (rdSeg sd_22_cX4_has_0 15 rfl rfl) (by decide +kernel)
theorem dX4_has_16 : decode cX4_has 16 = .ok (.iconst 0, 1) := op_3 (rdSeg sd_22_cX4_has_0 16 rfl rfl)
theorem dX4_has_17 : decode cX4_has 17 = .ok (.ireturn, 1) := op_172 (rdSeg sd_22_cX4_has_0 17 rfl rfl)
def sg_22_cX4_at_2 : List UInt8 := [0xb4, 0x00, 0x16, 0x15, 0x04, 0x2e, 0xa7, 0x00, 0x04, 0x03, 0xac]
def sg_22_cX4_at_1 : List UInt8 := 0x00 :: 0x0e :: 0x1b :: 0x2a :: 0xb4 :: 0x00 :: 0x13 :: 0x68 :: 0x1c :: 0x60 :: 0xa7 :: 0x00 :: 0x04 :: 0x02 :: 0x36 :: 0x04 :: 0x15 :: 0x04 :: 0x9b :: 0x00 :: 0x17 :: 0x15 :: 0x04 :: 0x2a :: 0xb4 :: 0x00 :: 0x16 :: 0xbe :: 0xa2 :: 0x00 :: 0x0d :: 0x2a :: sg_22_cX4_at_2
def sg_22_cX4_at_0 : List UInt8 := 0x1b :: 0x9b :: 0x00 :: 0x1b :: 0x1b :: 0x2a :: 0xb4 :: 0x00 :: 0x1a :: 0xa2 :: 0x00 :: 0x13 :: 0x1c :: 0x9b :: 0x00 :: 0x0f :: 0x1c :: 0x2a :: 0xb4 :: 0x00 :: 0x13 :: 0xa2 :: 0x00 :: 0x07 :: 0x04 :: 0xa7 :: 0x00 :: 0x04 :: 0x03 :: 0x3e :: 0x1d :: 0x99 :: sg_22_cX4_at_1
set_option maxRecDepth 100000 in
theorem sd_22_cX4_at_0 : cX4_at.data.toList.drop 0 = sg_22_cX4_at_0 := by decide +kernel
theorem sd_22_cX4_at_1 : cX4_at.data.toList.drop 32 = sg_22_cX4_at_1 := sg_next sd_22_cX4_at_0 rfl
theorem sd_22_cX4_at_2 : cX4_at.data.toList.drop 64 = sg_22_cX4_at_2 := sg_next sd_22_cX4_at_1 rfl
theorem dX4_at_0 : decode cX4_at 0 = .ok (.iload_n 1, 1) := op_27 (rdSeg sd_22_cX4_at_0 0 rfl rfl)
theorem dX4_at_1 : decode cX4_at 1 = .ok (.ifCond .lt 27, 3) := op_155 (rdSeg sd_22_cX4_at_0 1 rfl rfl) (rdSeg sd_22_cX4_at_0 2 rfl rfl) (rdSeg sd_22_cX4_at_0 3 rfl rfl) (by decide +kernel)
theorem dX4_at_4 : decode cX4_at 4 = .ok (.iload_n 1, 1) := op_27 (rdSeg sd_22_cX4_at_0 4 rfl rfl)
theorem dX4_at_5 : decode cX4_at 5 = .ok (.aload_n 0, 1) := op_42 (rdSeg sd_22_cX4_at_0 5 rfl rfl)
theorem dX4_at_6 : decode cX4_at 6 = .ok (.getfield 26, 3) := op_180 (rdSeg sd_22_cX4_at_0 6 rfl rfl) (rdSeg sd_22_cX4_at_0 7 rfl rfl) (rdSeg sd_22_cX4_at_0 8 rfl rfl) rfl
theorem dX4_at_9 : decode cX4_at 9 = .ok (.if_icmp .ge 19, 3) := op_162 (rdSeg sd_22_cX4_at_0 9 rfl rfl) (rdSeg sd_22_cX4_at_0 10 rfl rfl) (rdSeg sd_22_cX4_at_0 11 rfl rfl) (by decide +kernel)
theorem dX4_at_12 : decode cX4_at 12 = .ok (.iload_n 2, 1) := op_28 (rdSeg sd_22_cX4_at_0 12 rfl rfl)
theorem dX4_at_13 : decode cX4_at 13 = .ok (.ifCond .lt 15, 3) := op_155 (rdSeg sd_22_cX4_at_0 13 rfl rfl) (rdSeg sd_22_cX4_at_0 14 rfl rfl) (rdSeg sd_22_cX4_at_0 15 rfl rfl) (by decide +kernel)
theorem dX4_at_16 : decode cX4_at 16 = .ok (.iload_n 2, 1) := op_28 (rdSeg sd_22_cX4_at_0 16 rfl rfl)
theorem dX4_at_17 : decode cX4_at 17 = .ok (.aload_n 0, 1) := op_42 (rdSeg sd_22_cX4_at_0 17 rfl rfl)
theorem dX4_at_18 : decode cX4_at 18 = .ok (.getfield 19, 3) := op_180 (rdSeg sd_22_cX4_at_0 18 rfl rfl) (rdSeg sd_22_cX4_at_0 19 rfl rfl) (rdSeg sd_22_cX4_at_0 20 rfl rfl) rfl
theorem dX4_at_21 : decode cX4_at 21 = .ok (.if_icmp .ge 7, 3) := op_162 (rdSeg sd_22_cX4_at_0 21 rfl rfl) (rdSeg sd_22_cX4_at_0 22 rfl rfl) (rdSeg sd_22_cX4_at_0 23 rfl rfl) (by decide +kernel)
theorem dX4_at_24 : decode cX4_at 24 = .ok (.iconst 1, 1) := op_4 (rdSeg sd_22_cX4_at_0 24 rfl rfl)
theorem dX4_at_25 : decode cX4_at 25 = .ok (.goto 4, 3) := op_167 (rdSeg sd_22_cX4_at_0 25 rfl rfl) (rdSeg sd_22_cX4_at_0 26 rfl rfl) (rdSeg sd_22_cX4_at_0 27 rfl rfl) (by decide +kernel)
theorem dX4_at_28 : decode cX4_at 28 = .ok (.iconst 0, 1) := op_3 (rdSeg sd_22_cX4_at_0 28 rfl rfl)
theorem dX4_at_29 : decode cX4_at 29 = .ok (.istore_n 3, 1) := op_62 (rdSeg sd_22_cX4_at_0 29 rfl rfl)
theorem dX4_at_30 : decode cX4_at 30 = .ok (.iload_n 3, 1) := op_29 (rdSeg sd_22_cX4_at_0 30 rfl rfl)
theorem dX4_at_31 : decode cX4_at 31 = .ok (.ifCond .eq 14, 3) := op_153 (rdSeg sd_22_cX4_at_0 31 rfl rfl) (rdSeg sd_22_cX4_at_1 0 rfl rfl) (rdSeg sd_22_cX4_at_1 1 rfl rfl) (by decide +kernel)
theorem dX4_at_34 : decode cX4_at 34 = .ok (.iload_n 1, 1) := op_27 (rdSeg sd_22_cX4_at_1 2 rfl rfl)
theorem dX4_at_35 : decode cX4_at 35 = .ok (.aload_n 0, 1) := op_42 (rdSeg sd_22_cX4_at_1 3 rfl rfl)
theorem dX4_at_36 : decode cX4_at 36 = .ok (.getfield 19, 3) := op_180 (rdSeg sd_22_cX4_at_1 4 rfl rfl) (rdSeg sd_22_cX4_at_1 5 rfl rfl) (rdSeg sd_22_cX4_at_1 6 rfl rfl) rfl
theorem dX4_at_39 : decode cX4_at 39 = .ok (.imul, 1) := op_104 (rdSeg sd_22_cX4_at_1 7 rfl rfl)
theorem dX4_at_40 : decode cX4_at 40 = .ok (.iload_n 2, 1) := op_28 (rdSeg sd_22_cX4_at_1 8 rfl rfl)
theorem dX4_at_41 : decode cX4_at 41 = .ok (.iadd, 1) := op_96 (rdSeg sd_22_cX4_at_1 9 rfl rfl)
theorem dX4_at_42 : decode cX4_at 42 = .ok (.goto 4, 3) := op_167 (rdSeg sd_22_cX4_at_1 10 rfl rfl) (rdSeg sd_22_cX4_at_1 11 rfl rfl) (rdSeg sd_22_cX4_at_1 12 rfl rfl) (by decide +kernel)
theorem dX4_at_45 : decode cX4_at 45 = .ok (.iconst (-1), 1) := op_2 (rdSeg sd_22_cX4_at_1 13 rfl rfl)
theorem dX4_at_46 : decode cX4_at 46 = .ok (.istore 4, 2) := op_54 (rdSeg sd_22_cX4_at_1 14 rfl rfl) (rdSeg sd_22_cX4_at_1 15 rfl rfl)
theorem dX4_at_48 : decode cX4_at 48 = .ok (.iload 4, 2) := op_21 (rdSeg sd_22_cX4_at_1 16 rfl rfl) (rdSeg sd_22_cX4_at_1 17 rfl rfl)
theorem dX4_at_50 : decode cX4_at 50 = .ok (.ifCond .lt 23, 3) := op_155 (rdSeg sd_22_cX4_at_1 18 rfl rfl) (rdSeg sd_22_cX4_at_1 19 rfl rfl) (rdSeg sd_22_cX4_at_1 20 rfl rfl) (by decide +kernel)
theorem dX4_at_53 : decode cX4_at 53 = .ok (.iload 4, 2) := op_21 (rdSeg sd_22_cX4_at_1 21 rfl rfl) (rdSeg sd_22_cX4_at_1 22 rfl rfl)
theorem dX4_at_55 : decode cX4_at 55 = .ok (.aload_n 0, 1) := op_42 (rdSeg sd_22_cX4_at_1 23 rfl rfl)
theorem dX4_at_56 : decode cX4_at 56 = .ok (.getfield 22, 3) := op_180 (rdSeg sd_22_cX4_at_1 24 rfl rfl) (rdSeg sd_22_cX4_at_1 25 rfl rfl) (rdSeg sd_22_cX4_at_1 26 rfl rfl) rfl
theorem dX4_at_59 : decode cX4_at 59 = .ok (.arraylength, 1) := op_190 (rdSeg sd_22_cX4_at_1 27 rfl rfl)
theorem dX4_at_60 : decode cX4_at 60 = .ok (.if_icmp .ge 13, 3) := op_162 (rdSeg sd_22_cX4_at_1 28 rfl rfl) (rdSeg sd_22_cX4_at_1 29 rfl rfl) (rdSeg sd_22_cX4_at_1 30 rfl rfl) (by decide +kernel)
theorem dX4_at_63 : decode cX4_at 63 = .ok (.aload_n 0, 1) := op_42 (rdSeg sd_22_cX4_at_1 31 rfl rfl)
theorem dX4_at_64 : decode cX4_at 64 = .ok (.getfield 22, 3) := op_180 (rdSeg sd_22_cX4_at_2 0 rfl rfl) (rdSeg sd_22_cX4_at_2 1 rfl rfl) (rdSeg sd_22_cX4_at_2 2 rfl rfl) rfl
theorem dX4_at_67 : decode cX4_at 67 = .ok (.iload 4, 2) := op_21 (rdSeg sd_22_cX4_at_2 3 rfl rfl) (rdSeg sd_22_cX4_at_2 4 rfl rfl)
theorem dX4_at_69 : decode cX4_at 69 = .ok (.iaload, 1) := op_46 (rdSeg sd_22_cX4_at_2 5 rfl rfl)
theorem dX4_at_70 : decode cX4_at 70 = .ok (.goto 4, 3) := op_167 (rdSeg sd_22_cX4_at_2 6 rfl rfl) (rdSeg sd_22_cX4_at_2 7 rfl rfl) (rdSeg sd_22_cX4_at_2 8 rfl rfl) (by decide +kernel)
theorem dX4_at_73 : decode cX4_at 73 = .ok (.iconst 0, 1) := op_3 (rdSeg sd_22_cX4_at_2 9 rfl rfl)
theorem dX4_at_74 : decode cX4_at 74 = .ok (.ireturn, 1) := op_172 (rdSeg sd_22_cX4_at_2 10 rfl rfl)
def sg_22_cX4_append_1 : List UInt8 := [0x1a, 0x04, 0x60, 0xb5, 0x00, 0x1a, 0x2a, 0xb4, 0x00, 0x1a, 0x04, 0x64, 0xac]
def sg_22_cX4_append_0 : List UInt8 := 0x2a :: 0xb6 :: 0x00 :: 0x1d :: 0x04 :: 0xa2 :: 0x00 :: 0x05 :: 0x02 :: 0xac :: 0x2a :: 0x03 :: 0x1b :: 0xb6 :: 0x00 :: 0x21 :: 0x2a :: 0x04 :: 0x1c :: 0xb6 :: 0x00 :: 0x21 :: 0x2a :: 0x05 :: 0x1d :: 0xb6 :: 0x00 :: 0x21 :: 0x2a :: 0x59 :: 0xb4 :: 0x00 :: sg_22_cX4_append_1
set_option maxRecDepth 100000 in
theorem sd_22_cX4_append_0 : cX4_append.data.toList.drop 0 = sg_22_cX4_append_0 := by decide +kernel
theorem sd_22_cX4_append_1 : cX4_append.data.toList.drop 32 = sg_22_cX4_append_1 := sg_next sd_22_cX4_append_0 rfl
theorem dX4_append_0 : decode cX4_append 0 = .ok (.aload_n 0, 1) := op_42 (rdSeg sd_22_cX4_append_0 0 rfl rfl)
theorem dX4_append_1 : decode cX4_append 1 = .ok (.invokevirtual 29, 3) := op_182 (rdSeg sd_22_cX4_append_0 1 rfl rfl) (rdSeg sd_22_cX4_append_0 2 rfl rfl) (rdSeg sd_22_cX4_append_0 3 rfl rfl) rfl
theorem dX4_append_4 : decode cX4_append 4 = .ok (.iconst 1, 1) := op_4 (rdSeg sd_22_cX4_append_0 4 rfl rfl)
theorem dX4_append_5 : decode cX4_append 5 = .ok (.if_icmp .ge 5, 3) := op_162 (rdSeg sd_22_cX4_append_0 5 rfl rfl) (rdSeg sd_22_cX4_append_0 6 rfl rfl) (rdSeg sd_22_cX4_append_0 7 rfl rfl) (by decide +kernel)
theorem dX4_append_8 : decode cX4_append 8 = .ok (.iconst (-1), 1) := op_2 (rdSeg sd_22_cX4_append_0 8 rfl rfl)
theorem dX4_append_9 : decode cX4_append 9 = .ok (.ireturn, 1) := op_172 (rdSeg sd_22_cX4_append_0 9 rfl rfl)
theorem dX4_append_10 : decode cX4_append 10 = .ok (.aload_n 0, 1) := op_42 (rdSeg sd_22_cX4_append_0 10 rfl rfl)
theorem dX4_append_11 : decode cX4_append 11 = .ok (.iconst 0, 1) := op_3 (rdSeg sd_22_cX4_append_0 11 rfl rfl)
theorem dX4_append_12 : decode cX4_append 12 = .ok (.iload_n 1, 1) := op_27 (rdSeg sd_22_cX4_append_0 12 rfl rfl)
theorem dX4_append_13 : decode cX4_append 13 = .ok (.invokevirtual 33, 3) := op_182 (rdSeg sd_22_cX4_append_0 13 rfl rfl) (rdSeg sd_22_cX4_append_0 14 rfl rfl) (rdSeg sd_22_cX4_append_0 15 rfl rfl) rfl
theorem dX4_append_16 : decode cX4_append 16 = .ok (.aload_n 0, 1) := op_42 (rdSeg sd_22_cX4_append_0 16 rfl rfl)
theorem dX4_append_17 : decode cX4_append 17 = .ok (.iconst 1, 1) := op_4 (rdSeg sd_22_cX4_append_0 17 rfl rfl)
theorem dX4_append_18 : decode cX4_append 18 = .ok (.iload_n 2, 1) := op_28 (rdSeg sd_22_cX4_append_0 18 rfl rfl)
theorem dX4_append_19 : decode cX4_append 19 = .ok (.invokevirtual 33, 3) := op_182 (rdSeg sd_22_cX4_append_0 19 rfl rfl) (rdSeg sd_22_cX4_append_0 20 rfl rfl) (rdSeg sd_22_cX4_append_0 21 rfl rfl) rfl
theorem dX4_append_22 : decode cX4_append 22 = .ok (.aload_n 0, 1) := op_42 (rdSeg sd_22_cX4_append_0 22 rfl rfl)
theorem dX4_append_23 : decode cX4_append 23 = .ok (.iconst 2, 1) := op_5 (rdSeg sd_22_cX4_append_0 23 rfl rfl)
theorem dX4_append_24 : decode cX4_append 24 = .ok (.iload_n 3, 1) := op_29 (rdSeg sd_22_cX4_append_0 24 rfl rfl)
theorem dX4_append_25 : decode cX4_append 25 = .ok (.invokevirtual 33, 3) := op_182 (rdSeg sd_22_cX4_append_0 25 rfl rfl) (rdSeg sd_22_cX4_append_0 26 rfl rfl) (rdSeg sd_22_cX4_append_0 27 rfl rfl) rfl
theorem dX4_append_28 : decode cX4_append 28 = .ok (.aload_n 0, 1) := op_42 (rdSeg sd_22_cX4_append_0 28 rfl rfl)
theorem dX4_append_29 : decode cX4_append 29 = .ok (.dup, 1) := op_89 (rdSeg sd_22_cX4_append_0 29 rfl rfl)
theorem dX4_append_30 : decode cX4_append 30 = .ok (.getfield 26, 3) := op_180 (rdSeg sd_22_cX4_append_0 30 rfl rfl) (rdSeg sd_22_cX4_append_0 31 rfl rfl) (rdSeg sd_22_cX4_append_1 0 rfl rfl) rfl
theorem dX4_append_33 : decode cX4_append 33 = .ok (.iconst 1, 1) := op_4 (rdSeg sd_22_cX4_append_1 1 rfl rfl)
theorem dX4_append_34 : decode cX4_append 34 = .ok (.iadd, 1) := op_96 (rdSeg sd_22_cX4_append_1 2 rfl rfl)
theorem dX4_append_35 : decode cX4_append 35 = .ok (.putfield 26, 3) := op_181 (rdSeg sd_22_cX4_append_1 3 rfl rfl) (rdSeg sd_22_cX4_append_1 4 rfl rfl) (rdSeg sd_22_cX4_append_1 5 rfl rfl) rfl
theorem dX4_append_38 : decode cX4_append 38 = .ok (.aload_n 0, 1) := op_42 (rdSeg sd_22_cX4_append_1 6 rfl rfl)
theorem dX4_append_39 : decode cX4_append 39 = .ok (.getfield 26, 3) := op_180 (rdSeg sd_22_cX4_append_1 7 rfl rfl) (rdSeg sd_22_cX4_append_1 8 rfl rfl) (rdSeg sd_22_cX4_append_1 9 rfl rfl) rfl
theorem dX4_append_42 : decode cX4_append 42 = .ok (.iconst 1, 1) := op_4 (rdSeg sd_22_cX4_append_1 10 rfl rfl)
theorem dX4_append_43 : decode cX4_append 43 = .ok (.isub, 1) := op_100 (rdSeg sd_22_cX4_append_1 11 rfl rfl)
theorem dX4_append_44 : decode cX4_append 44 = .ok (.ireturn, 1) := op_172 (rdSeg sd_22_cX4_append_1 12 rfl rfl)
def sg_22_cX4_write_1 : List UInt8 := [0x0a, 0x2a, 0xb4, 0x00, 0x16, 0x1d, 0x1c, 0x4f, 0xb1]
def sg_22_cX4_write_0 : List UInt8 := 0x2a :: 0xb4 :: 0x00 :: 0x1a :: 0x2a :: 0xb4 :: 0x00 :: 0x13 :: 0x68 :: 0x1b :: 0x60 :: 0x3e :: 0x1b :: 0x2a :: 0xb4 :: 0x00 :: 0x13 :: 0xa2 :: 0x00 :: 0x17 :: 0x1d :: 0x9b :: 0x00 :: 0x13 :: 0x1d :: 0x2a :: 0xb4 :: 0x00 :: 0x16 :: 0xbe :: 0xa2 :: 0x00 :: sg_22_cX4_write_1
set_option maxRecDepth 100000 in
theorem sd_22_cX4_write_0 : cX4_write.data.toList.drop 0 = sg_22_cX4_write_0 := by decide +kernel
theorem sd_22_cX4_write_1 : cX4_write.data.toList.drop 32 = sg_22_cX4_write_1 := sg_next sd_22_cX4_write_0 rfl
theorem dX4_write_0 : decode cX4_write 0 = .ok (.aload_n 0, 1) := op_42 (rdSeg sd_22_cX4_write_0 0 rfl rfl)
theorem dX4_write_1 : decode cX4_write 1 = .ok (.getfield 26, 3) := op_180 (rdSeg sd_22_cX4_write_0 1 rfl rfl) (rdSeg sd_22_cX4_write_0 2 rfl rfl) (rdSeg sd_22_cX4_write_0 3 rfl rfl) rfl
theorem dX4_write_4 : decode cX4_write 4 = .ok (.aload_n 0, 1) := op_42 (rdSeg sd_22_cX4_write_0 4 rfl rfl)
theorem dX4_write_5 : decode cX4_write 5 = .ok (.getfield 19, 3) := op_180 (rdSeg sd_22_cX4_write_0 5 rfl rfl) (rdSeg sd_22_cX4_write_0 6 rfl rfl) (rdSeg sd_22_cX4_write_0 7 rfl rfl) rfl
theorem dX4_write_8 : decode cX4_write 8 = .ok (.imul, 1) := op_104 (rdSeg sd_22_cX4_write_0 8 rfl rfl)
theorem dX4_write_9 : decode cX4_write 9 = .ok (.iload_n 1, 1) := op_27 (rdSeg sd_22_cX4_write_0 9 rfl rfl)
theorem dX4_write_10 : decode cX4_write 10 = .ok (.iadd, 1) := op_96 (rdSeg sd_22_cX4_write_0 10 rfl rfl)
theorem dX4_write_11 : decode cX4_write 11 = .ok (.istore_n 3, 1) := op_62 (rdSeg sd_22_cX4_write_0 11 rfl rfl)
theorem dX4_write_12 : decode cX4_write 12 = .ok (.iload_n 1, 1) := op_27 (rdSeg sd_22_cX4_write_0 12 rfl rfl)
theorem dX4_write_13 : decode cX4_write 13 = .ok (.aload_n 0, 1) := op_42 (rdSeg sd_22_cX4_write_0 13 rfl rfl)
theorem dX4_write_14 : decode cX4_write 14 = .ok (.getfield 19, 3) := op_180 (rdSeg sd_22_cX4_write_0 14 rfl rfl) (rdSeg sd_22_cX4_write_0 15 rfl rfl) (rdSeg sd_22_cX4_write_0 16 rfl rfl) rfl
theorem dX4_write_17 : decode cX4_write 17 = .ok (.if_icmp .ge 23, 3) := op_162 (rdSeg sd_22_cX4_write_0 17 rfl rfl) (rdSeg sd_22_cX4_write_0 18 rfl rfl) (rdSeg sd_22_cX4_write_0 19 rfl rfl) (by decide +kernel)
theorem dX4_write_20 : decode cX4_write 20 = .ok (.iload_n 3, 1) := op_29 (rdSeg sd_22_cX4_write_0 20 rfl rfl)
theorem dX4_write_21 : decode cX4_write 21 = .ok (.ifCond .lt 19, 3) := op_155 (rdSeg sd_22_cX4_write_0 21 rfl rfl) (rdSeg sd_22_cX4_write_0 22 rfl rfl) (rdSeg sd_22_cX4_write_0 23 rfl rfl) (by decide +kernel)
theorem dX4_write_24 : decode cX4_write 24 = .ok (.iload_n 3, 1) := op_29 (rdSeg sd_22_cX4_write_0 24 rfl rfl)
theorem dX4_write_25 : decode cX4_write 25 = .ok (.aload_n 0, 1) := op_42 (rdSeg sd_22_cX4_write_0 25 rfl rfl)
theorem dX4_write_26 : decode cX4_write 26 = .ok (.getfield 22, 3) := op_180 (rdSeg sd_22_cX4_write_0 26 rfl rfl) (rdSeg sd_22_cX4_write_0 27 rfl rfl) (rdSeg sd_22_cX4_write_0 28 rfl rfl) rfl
theorem dX4_write_29 : decode cX4_write 29 = .ok (.arraylength, 1) := op_190 (rdSeg sd_22_cX4_write_0 29 rfl rfl)
theorem dX4_write_30 : decode cX4_write 30 = .ok (.if_icmp .ge 10, 3) := op_162 (rdSeg sd_22_cX4_write_0 30 rfl rfl) (rdSeg sd_22_cX4_write_0 31 rfl rfl) (rdSeg sd_22_cX4_write_1 0 rfl rfl) (by decide +kernel)
theorem dX4_write_33 : decode cX4_write 33 = .ok (.aload_n 0, 1) := op_42 (rdSeg sd_22_cX4_write_1 1 rfl rfl)
theorem dX4_write_34 : decode cX4_write 34 = .ok (.getfield 22, 3) := op_180 (rdSeg sd_22_cX4_write_1 2 rfl rfl) (rdSeg sd_22_cX4_write_1 3 rfl rfl) (rdSeg sd_22_cX4_write_1 4 rfl rfl) rfl
theorem dX4_write_37 : decode cX4_write 37 = .ok (.iload_n 3, 1) := op_29 (rdSeg sd_22_cX4_write_1 5 rfl rfl)
theorem dX4_write_38 : decode cX4_write 38 = .ok (.iload_n 2, 1) := op_28 (rdSeg sd_22_cX4_write_1 6 rfl rfl)
theorem dX4_write_39 : decode cX4_write 39 = .ok (.iastore, 1) := op_79 (rdSeg sd_22_cX4_write_1 7 rfl rfl)
theorem dX4_write_40 : decode cX4_write 40 = .ok (.return_, 1) := op_177 (rdSeg sd_22_cX4_write_1 8 rfl rfl)
def sg_22_cX4_clear_0 : List UInt8 := [0x2a, 0x03, 0xb5, 0x00, 0x1a, 0xb1]
set_option maxRecDepth 100000 in
theorem sd_22_cX4_clear_0 : cX4_clear.data.toList.drop 0 = sg_22_cX4_clear_0 := by decide +kernel
theorem dX4_clear_0 : decode cX4_clear 0 = .ok (.aload_n 0, 1) := op_42 (rdSeg sd_22_cX4_clear_0 0 rfl rfl)
theorem dX4_clear_1 : decode cX4_clear 1 = .ok (.iconst 0, 1) := op_3 (rdSeg sd_22_cX4_clear_0 1 rfl rfl)
theorem dX4_clear_2 : decode cX4_clear 2 = .ok (.putfield 26, 3) := op_181 (rdSeg sd_22_cX4_clear_0 2 rfl rfl) (rdSeg sd_22_cX4_clear_0 3 rfl rfl) (rdSeg sd_22_cX4_clear_0 4 rfl rfl) rfl
theorem dX4_clear_5 : decode cX4_clear 5 = .ok (.return_, 1) := op_177 (rdSeg sd_22_cX4_clear_0 5 rfl rfl)
def sg_22_cX4_copyFrom_1 : List UInt8 := [0x2a, 0x2b, 0xb4, 0x00, 0x1a, 0xb5, 0x00, 0x1a, 0xb1]
def sg_22_cX4_copyFrom_0 : List UInt8 := 0x2b :: 0xb4 :: 0x00 :: 0x16 :: 0xbe :: 0x2a :: 0xb4 :: 0x00 :: 0x16 :: 0xbe :: 0x9f :: 0x00 :: 0x04 :: 0xb1 :: 0x2b :: 0xb4 :: 0x00 :: 0x16 :: 0x03 :: 0x2a :: 0xb4 :: 0x00 :: 0x16 :: 0x03 :: 0x2a :: 0xb4 :: 0x00 :: 0x16 :: 0xbe :: 0xb8 :: 0x00 :: 0x25 :: sg_22_cX4_copyFrom_1
set_option maxRecDepth 100000 in
theorem sd_22_cX4_copyFrom_0 : cX4_copyFrom.data.toList.drop 0 = sg_22_cX4_copyFrom_0 := by decide +kernel
theorem sd_22_cX4_copyFrom_1 : cX4_copyFrom.data.toList.drop 32 = sg_22_cX4_copyFrom_1 := sg_next sd_22_cX4_copyFrom_0 rfl
theorem dX4_copyFrom_0 : decode cX4_copyFrom 0 = .ok (.aload_n 1, 1) := op_43 (rdSeg sd_22_cX4_copyFrom_0 0 rfl rfl)
theorem dX4_copyFrom_1 : decode cX4_copyFrom 1 = .ok (.getfield 22, 3) := op_180 (rdSeg sd_22_cX4_copyFrom_0 1 rfl rfl) (rdSeg sd_22_cX4_copyFrom_0 2 rfl rfl) (rdSeg sd_22_cX4_copyFrom_0 3 rfl rfl) rfl
theorem dX4_copyFrom_4 : decode cX4_copyFrom 4 = .ok (.arraylength, 1) := op_190 (rdSeg sd_22_cX4_copyFrom_0 4 rfl rfl)
theorem dX4_copyFrom_5 : decode cX4_copyFrom 5 = .ok (.aload_n 0, 1) := op_42 (rdSeg sd_22_cX4_copyFrom_0 5 rfl rfl)
theorem dX4_copyFrom_6 : decode cX4_copyFrom 6 = .ok (.getfield 22, 3) := op_180 (rdSeg sd_22_cX4_copyFrom_0 6 rfl rfl) (rdSeg sd_22_cX4_copyFrom_0 7 rfl rfl) (rdSeg sd_22_cX4_copyFrom_0 8 rfl rfl) rfl
theorem dX4_copyFrom_9 : decode cX4_copyFrom 9 = .ok (.arraylength, 1) := op_190 (rdSeg sd_22_cX4_copyFrom_0 9 rfl rfl)
theorem dX4_copyFrom_10 : decode cX4_copyFrom 10 = .ok (.if_icmp .eq 4, 3) := op_159 (rdSeg sd_22_cX4_copyFrom_0 10 rfl rfl) (rdSeg sd_22_cX4_copyFrom_0 11 rfl rfl) (rdSeg sd_22_cX4_copyFrom_0 12 rfl rfl) (by decide +kernel)
theorem dX4_copyFrom_13 : decode cX4_copyFrom 13 = .ok (.return_, 1) := op_177 (rdSeg sd_22_cX4_copyFrom_0 13 rfl rfl)
theorem dX4_copyFrom_14 : decode cX4_copyFrom 14 = .ok (.aload_n 1, 1) := op_43 (rdSeg sd_22_cX4_copyFrom_0 14 rfl rfl)
theorem dX4_copyFrom_15 : decode cX4_copyFrom 15 = .ok (.getfield 22, 3) := op_180 (rdSeg sd_22_cX4_copyFrom_0 15 rfl rfl) (rdSeg sd_22_cX4_copyFrom_0 16 rfl rfl) (rdSeg sd_22_cX4_copyFrom_0 17 rfl rfl) rfl
theorem dX4_copyFrom_18 : decode cX4_copyFrom 18 = .ok (.iconst 0, 1) := op_3 (rdSeg sd_22_cX4_copyFrom_0 18 rfl rfl)
theorem dX4_copyFrom_19 : decode cX4_copyFrom 19 = .ok (.aload_n 0, 1) := op_42 (rdSeg sd_22_cX4_copyFrom_0 19 rfl rfl)
theorem dX4_copyFrom_20 : decode cX4_copyFrom 20 = .ok (.getfield 22, 3) := op_180 (rdSeg sd_22_cX4_copyFrom_0 20 rfl rfl) (rdSeg sd_22_cX4_copyFrom_0 21 rfl rfl) (rdSeg sd_22_cX4_copyFrom_0 22 rfl rfl) rfl
theorem dX4_copyFrom_23 : decode cX4_copyFrom 23 = .ok (.iconst 0, 1) := op_3 (rdSeg sd_22_cX4_copyFrom_0 23 rfl rfl)
theorem dX4_copyFrom_24 : decode cX4_copyFrom 24 = .ok (.aload_n 0, 1) := op_42 (rdSeg sd_22_cX4_copyFrom_0 24 rfl rfl)
theorem dX4_copyFrom_25 : decode cX4_copyFrom 25 = .ok (.getfield 22, 3) := op_180 (rdSeg sd_22_cX4_copyFrom_0 25 rfl rfl) (rdSeg sd_22_cX4_copyFrom_0 26 rfl rfl) (rdSeg sd_22_cX4_copyFrom_0 27 rfl rfl) rfl
theorem dX4_copyFrom_28 : decode cX4_copyFrom 28 = .ok (.arraylength, 1) := op_190 (rdSeg sd_22_cX4_copyFrom_0 28 rfl rfl)
theorem dX4_copyFrom_29 : decode cX4_copyFrom 29 = .ok (.invokestatic 37, 3) := op_184 (rdSeg sd_22_cX4_copyFrom_0 29 rfl rfl) (rdSeg sd_22_cX4_copyFrom_0 30 rfl rfl) (rdSeg sd_22_cX4_copyFrom_0 31 rfl rfl) rfl
theorem dX4_copyFrom_32 : decode cX4_copyFrom 32 = .ok (.aload_n 0, 1) := op_42 (rdSeg sd_22_cX4_copyFrom_1 0 rfl rfl)
theorem dX4_copyFrom_33 : decode cX4_copyFrom 33 = .ok (.aload_n 1, 1) := op_43 (rdSeg sd_22_cX4_copyFrom_1 1 rfl rfl)
theorem dX4_copyFrom_34 : decode cX4_copyFrom 34 = .ok (.getfield 26, 3) := op_180 (rdSeg sd_22_cX4_copyFrom_1 2 rfl rfl) (rdSeg sd_22_cX4_copyFrom_1 3 rfl rfl) (rdSeg sd_22_cX4_copyFrom_1 4 rfl rfl) rfl
theorem dX4_copyFrom_37 : decode cX4_copyFrom 37 = .ok (.putfield 26, 3) := op_181 (rdSeg sd_22_cX4_copyFrom_1 5 rfl rfl) (rdSeg sd_22_cX4_copyFrom_1 6 rfl rfl) (rdSeg sd_22_cX4_copyFrom_1 7 rfl rfl) rfl
theorem dX4_copyFrom_40 : decode cX4_copyFrom 40 = .ok (.return_, 1) := op_177 (rdSeg sd_22_cX4_copyFrom_1 8 rfl rfl)
def sg_22_cX5_init_0 : List UInt8 := [0x2a, 0xb7, 0x00, 0x03, 0x2a, 0x10, 0x18, 0xbc, 0x0a, 0xb5, 0x00, 0x09, 0xb1]
set_option maxRecDepth 100000 in
theorem sd_22_cX5_init_0 : cX5_init.data.toList.drop 0 = sg_22_cX5_init_0 := by decide +kernel
theorem dX5_init_0 : decode cX5_init 0 = .ok (.aload_n 0, 1) := op_42 (rdSeg sd_22_cX5_init_0 0 rfl rfl)
theorem dX5_init_1 : decode cX5_init 1 = .ok (.invokespecial 3, 3) := op_183 (rdSeg sd_22_cX5_init_0 1 rfl rfl) (rdSeg sd_22_cX5_init_0 2 rfl rfl) (rdSeg sd_22_cX5_init_0 3 rfl rfl) rfl
theorem dX5_init_4 : decode cX5_init 4 = .ok (.aload_n 0, 1) := op_42 (rdSeg sd_22_cX5_init_0 4 rfl rfl)
theorem dX5_init_5 : decode cX5_init 5 = .ok (.bipush 24, 2) := op_16 (rdSeg sd_22_cX5_init_0 5 rfl rfl) (rdSeg sd_22_cX5_init_0 6 rfl rfl) (by decide +kernel)
theorem dX5_init_7 : decode cX5_init 7 = .ok (.newarray .int, 2) := by decide +kernel
theorem dX5_init_9 : decode cX5_init 9 = .ok (.putfield 9, 3) := op_181 (rdSeg sd_22_cX5_init_0 9 rfl rfl) (rdSeg sd_22_cX5_init_0 10 rfl rfl) (rdSeg sd_22_cX5_init_0 11 rfl rfl) rfl
theorem dX5_init_12 : decode cX5_init 12 = .ok (.return_, 1) := op_177 (rdSeg sd_22_cX5_init_0 12 rfl rfl)
def sg_22_cX5_begin_0 : List UInt8 := [0x2a, 0x1b, 0xb5, 0x00, 0x0f, 0x2a, 0x03, 0x10, 0x18, 0x1c, 0xb8, 0x00, 0x13, 0xb8, 0x00, 0x19, 0xb5, 0x00, 0x1c, 0x2a, 0xb4, 0x00, 0x09, 0x03, 0xb8, 0x00, 0x1f, 0xb1]
set_option maxRecDepth 100000 in
theorem sd_22_cX5_begin_0 : cX5_begin.data.toList.drop 0 = sg_22_cX5_begin_0 := by decide +kernel
theorem dX5_begin_0 : decode cX5_begin 0 = .ok (.aload_n 0, 1) := op_42 (rdSeg sd_22_cX5_begin_0 0 rfl rfl)
theorem dX5_begin_1 : decode cX5_begin 1 = .ok (.iload_n 1, 1) := op_27 (rdSeg sd_22_cX5_begin_0 1 rfl rfl)
theorem dX5_begin_2 : decode cX5_begin 2 = .ok (.putfield 15, 3) := op_181 (rdSeg sd_22_cX5_begin_0 2 rfl rfl) (rdSeg sd_22_cX5_begin_0 3 rfl rfl) (rdSeg sd_22_cX5_begin_0 4 rfl rfl) rfl
theorem dX5_begin_5 : decode cX5_begin 5 = .ok (.aload_n 0, 1) := op_42 (rdSeg sd_22_cX5_begin_0 5 rfl rfl)
theorem dX5_begin_6 : decode cX5_begin 6 = .ok (.iconst 0, 1) := op_3 (rdSeg sd_22_cX5_begin_0 6 rfl rfl)
theorem dX5_begin_7 : decode cX5_begin 7 = .ok (.bipush 24, 2) := op_16 (rdSeg sd_22_cX5_begin_0 7 rfl rfl) (rdSeg sd_22_cX5_begin_0 8 rfl rfl) (by decide +kernel)
theorem dX5_begin_9 : decode cX5_begin 9 = .ok (.iload_n 2, 1) := op_28 (rdSeg sd_22_cX5_begin_0 9 rfl rfl)
theorem dX5_begin_10 : decode cX5_begin 10 = .ok (.invokestatic 19, 3) := op_184 (rdSeg sd_22_cX5_begin_0 10 rfl rfl) (rdSeg sd_22_cX5_begin_0 11 rfl rfl) (rdSeg sd_22_cX5_begin_0 12 rfl rfl) rfl
theorem dX5_begin_13 : decode cX5_begin 13 = .ok (.invokestatic 25, 3) := op_184 (rdSeg sd_22_cX5_begin_0 13 rfl rfl) (rdSeg sd_22_cX5_begin_0 14 rfl rfl) (rdSeg sd_22_cX5_begin_0 15 rfl rfl) rfl
theorem dX5_begin_16 : decode cX5_begin 16 = .ok (.putfield 28, 3) := op_181 (rdSeg sd_22_cX5_begin_0 16 rfl rfl) (rdSeg sd_22_cX5_begin_0 17 rfl rfl) (rdSeg sd_22_cX5_begin_0 18 rfl rfl) rfl
theorem dX5_begin_19 : decode cX5_begin 19 = .ok (.aload_n 0, 1) := op_42 (rdSeg sd_22_cX5_begin_0 19 rfl rfl)
theorem dX5_begin_20 : decode cX5_begin 20 = .ok (.getfield 9, 3) := op_180 (rdSeg sd_22_cX5_begin_0 20 rfl rfl) (rdSeg sd_22_cX5_begin_0 21 rfl rfl) (rdSeg sd_22_cX5_begin_0 22 rfl rfl) rfl
theorem dX5_begin_23 : decode cX5_begin 23 = .ok (.iconst 0, 1) := op_3 (rdSeg sd_22_cX5_begin_0 23 rfl rfl)
theorem dX5_begin_24 : decode cX5_begin 24 = .ok (.invokestatic 31, 3) := op_184 (rdSeg sd_22_cX5_begin_0 24 rfl rfl) (rdSeg sd_22_cX5_begin_0 25 rfl rfl) (rdSeg sd_22_cX5_begin_0 26 rfl rfl) rfl
theorem dX5_begin_27 : decode cX5_begin 27 = .ok (.return_, 1) := op_177 (rdSeg sd_22_cX5_begin_0 27 rfl rfl)
def sg_22_cX5_isMissing_0 : List UInt8 := [0x2a, 0xb4, 0x00, 0x0f, 0x9a, 0x00, 0x07, 0x04, 0xa7, 0x00, 0x04, 0x03, 0xac]
set_option maxRecDepth 100000 in
theorem sd_22_cX5_isMissing_0 : cX5_isMissing.data.toList.drop 0 = sg_22_cX5_isMissing_0 := by decide +kernel
theorem dX5_isMissing_0 : decode cX5_isMissing 0 = .ok (.aload_n 0, 1) := op_42 (rdSeg sd_22_cX5_isMissing_0 0 rfl rfl)
theorem dX5_isMissing_1 : decode cX5_isMissing 1 = .ok (.getfield 15, 3) := op_180 (rdSeg sd_22_cX5_isMissing_0 1 rfl rfl) (rdSeg sd_22_cX5_isMissing_0 2 rfl rfl) (rdSeg sd_22_cX5_isMissing_0 3 rfl rfl) rfl
theorem dX5_isMissing_4 : decode cX5_isMissing 4 = .ok (.ifCond .ne 7, 3) := op_154 (rdSeg sd_22_cX5_isMissing_0 4 rfl rfl) (rdSeg sd_22_cX5_isMissing_0 5 rfl rfl) (rdSeg sd_22_cX5_isMissing_0 6 rfl rfl) (by decide +kernel)
theorem dX5_isMissing_7 : decode cX5_isMissing 7 = .ok (.iconst 1, 1) := op_4 (rdSeg sd_22_cX5_isMissing_0 7 rfl rfl)
theorem dX5_isMissing_8 : decode cX5_isMissing 8 = .ok (.goto 4, 3) := op_167 (rdSeg sd_22_cX5_isMissing_0 8 rfl rfl) (rdSeg sd_22_cX5_isMissing_0 9 rfl rfl) (rdSeg sd_22_cX5_isMissing_0 10 rfl rfl) (by decide +kernel)
theorem dX5_isMissing_11 : decode cX5_isMissing 11 = .ok (.iconst 0, 1) := op_3 (rdSeg sd_22_cX5_isMissing_0 11 rfl rfl)
theorem dX5_isMissing_12 : decode cX5_isMissing 12 = .ok (.ireturn, 1) := op_172 (rdSeg sd_22_cX5_isMissing_0 12 rfl rfl)
def sg_22_cX5_isLike_0 : List UInt8 := [0x2a, 0xb4, 0x00, 0x0f, 0x2b, 0xb4, 0x00, 0x0f, 0xa0, 0x00, 0x07, 0x04, 0xa7, 0x00, 0x04, 0x03, 0xac]
set_option maxRecDepth 100000 in
theorem sd_22_cX5_isLike_0 : cX5_isLike.data.toList.drop 0 = sg_22_cX5_isLike_0 := by decide +kernel
theorem dX5_isLike_0 : decode cX5_isLike 0 = .ok (.aload_n 0, 1) := op_42 (rdSeg sd_22_cX5_isLike_0 0 rfl rfl)
theorem dX5_isLike_1 : decode cX5_isLike 1 = .ok (.getfield 15, 3) := op_180 (rdSeg sd_22_cX5_isLike_0 1 rfl rfl) (rdSeg sd_22_cX5_isLike_0 2 rfl rfl) (rdSeg sd_22_cX5_isLike_0 3 rfl rfl) rfl
theorem dX5_isLike_4 : decode cX5_isLike 4 = .ok (.aload_n 1, 1) := op_43 (rdSeg sd_22_cX5_isLike_0 4 rfl rfl)
theorem dX5_isLike_5 : decode cX5_isLike 5 = .ok (.getfield 15, 3) := op_180 (rdSeg sd_22_cX5_isLike_0 5 rfl rfl) (rdSeg sd_22_cX5_isLike_0 6 rfl rfl) (rdSeg sd_22_cX5_isLike_0 7 rfl rfl) rfl
theorem dX5_isLike_8 : decode cX5_isLike 8 = .ok (.if_icmp .ne 7, 3) := op_160 (rdSeg sd_22_cX5_isLike_0 8 rfl rfl) (rdSeg sd_22_cX5_isLike_0 9 rfl rfl) (rdSeg sd_22_cX5_isLike_0 10 rfl rfl) (by decide +kernel)
theorem dX5_isLike_11 : decode cX5_isLike 11 = .ok (.iconst 1, 1) := op_4 (rdSeg sd_22_cX5_isLike_0 11 rfl rfl)
theorem dX5_isLike_12 : decode cX5_isLike 12 = .ok (.goto 4, 3) := op_167 (rdSeg sd_22_cX5_isLike_0 12 rfl rfl) (rdSeg sd_22_cX5_isLike_0 13 rfl rfl) (rdSeg sd_22_cX5_isLike_0 14 rfl rfl) (by decide +kernel)
theorem dX5_isLike_15 : decode cX5_isLike 15 = .ok (.iconst 0, 1) := op_3 (rdSeg sd_22_cX5_isLike_0 15 rfl rfl)
theorem dX5_isLike_16 : decode cX5_isLike 16 = .ok (.ireturn, 1) := op_172 (rdSeg sd_22_cX5_isLike_0 16 rfl rfl)
def sg_22_cX5_size_0 : List UInt8 := [0x2a, 0xb4, 0x00, 0x1c, 0xac]
set_option maxRecDepth 100000 in
theorem sd_22_cX5_size_0 : cX5_size.data.toList.drop 0 = sg_22_cX5_size_0 := by decide +kernel
theorem dX5_size_0 : decode cX5_size 0 = .ok (.aload_n 0, 1) := op_42 (rdSeg sd_22_cX5_size_0 0 rfl rfl)
theorem dX5_size_1 : decode cX5_size 1 = .ok (.getfield 28, 3) := op_180 (rdSeg sd_22_cX5_size_0 1 rfl rfl) (rdSeg sd_22_cX5_size_0 2 rfl rfl) (rdSeg sd_22_cX5_size_0 3 rfl rfl) rfl
theorem dX5_size_4 : decode cX5_size 4 = .ok (.ireturn, 1) := op_172 (rdSeg sd_22_cX5_size_0 4 rfl rfl)
def sg_22_cX5_has_0 : List UInt8 := [0x1b, 0x9b, 0x00, 0x0f, 0x1b, 0x2a, 0xb4, 0x00, 0x1c, 0xa2, 0x00, 0x07, 0x04, 0xa7, 0x00, 0x04, 0x03, 0xac]
set_option maxRecDepth 100000 in
theorem sd_22_cX5_has_0 : cX5_has.data.toList.drop 0 = sg_22_cX5_has_0 := by decide +kernel
theorem dX5_has_0 : decode cX5_has 0 = .ok (.iload_n 1, 1) := op_27 (rdSeg sd_22_cX5_has_0 0 rfl rfl)
theorem dX5_has_1 : decode cX5_has 1 = .ok (.ifCond .lt 15, 3) := op_155 (rdSeg sd_22_cX5_has_0 1 rfl rfl) (rdSeg sd_22_cX5_has_0 2 rfl rfl) (rdSeg sd_22_cX5_has_0 3 rfl rfl) (by decide +kernel)
theorem dX5_has_4 : decode cX5_has 4 = .ok (.iload_n 1, 1) := op_27 (rdSeg sd_22_cX5_has_0 4 rfl rfl)
theorem dX5_has_5 : decode cX5_has 5 = .ok (.aload_n 0, 1) := op_42 (rdSeg sd_22_cX5_has_0 5 rfl rfl)
theorem dX5_has_6 : decode cX5_has 6 = .ok (.getfield 28, 3) := op_180 (rdSeg sd_22_cX5_has_0 6 rfl rfl) (rdSeg sd_22_cX5_has_0 7 rfl rfl) (rdSeg sd_22_cX5_has_0 8 rfl rfl) rfl
theorem dX5_has_9 : decode cX5_has 9 = .ok (.if_icmp .ge 7, 3) := op_162 (rdSeg sd_22_cX5_has_0 9 rfl rfl) (rdSeg sd_22_cX5_has_0 10 rfl rfl) (rdSeg sd_22_cX5_has_0 11 rfl rfl) (by decide +kernel)
theorem dX5_has_12 : decode cX5_has 12 = .ok (.iconst 1, 1) := op_4 (rdSeg sd_22_cX5_has_0 12 rfl rfl)
theorem dX5_has_13 : decode cX5_has 13 = .ok (.goto 4, 3) := op_167 (rdSeg sd_22_cX5_has_0 13 rfl rfl) (rdSeg sd_22_cX5_has_0 14 rfl rfl) (rdSeg sd_22_cX5_has_0 15 rfl rfl) (by decide +kernel)
theorem dX5_has_16 : decode cX5_has 16 = .ok (.iconst 0, 1) := op_3 (rdSeg sd_22_cX5_has_0 16 rfl rfl)
theorem dX5_has_17 : decode cX5_has 17 = .ok (.ireturn, 1) := op_172 (rdSeg sd_22_cX5_has_0 17 rfl rfl)
def sg_22_cX5_hasRange_1 : List UInt8 := [0x07, 0x04, 0xa7, 0x00, 0x04, 0x03, 0xac]
def sg_22_cX5_hasRange_0 : List UInt8 := 0x2a :: 0xb4 :: 0x00 :: 0x1c :: 0x2a :: 0xb4 :: 0x00 :: 0x09 :: 0xbe :: 0xb8 :: 0x00 :: 0x13 :: 0x3e :: 0x1b :: 0x9b :: 0x00 :: 0x17 :: 0x1c :: 0x9b :: 0x00 :: 0x13 :: 0x1c :: 0x1d :: 0xa3 :: 0x00 :: 0x0e :: 0x1b :: 0x1d :: 0x1c :: 0x64 :: 0xa3 :: 0x00 :: sg_22_cX5_hasRange_1
set_option maxRecDepth 100000 in
theorem sd_22_cX5_hasRange_0 : cX5_hasRange.data.toList.drop 0 = sg_22_cX5_hasRange_0 := by decide +kernel
theorem sd_22_cX5_hasRange_1 : cX5_hasRange.data.toList.drop 32 = sg_22_cX5_hasRange_1 := sg_next sd_22_cX5_hasRange_0 rfl
theorem dX5_hasRange_0 : decode cX5_hasRange 0 = .ok (.aload_n 0, 1) := op_42 (rdSeg sd_22_cX5_hasRange_0 0 rfl rfl)
theorem dX5_hasRange_1 : decode cX5_hasRange 1 = .ok (.getfield 28, 3) := op_180 (rdSeg sd_22_cX5_hasRange_0 1 rfl rfl) (rdSeg sd_22_cX5_hasRange_0 2 rfl rfl) (rdSeg sd_22_cX5_hasRange_0 3 rfl rfl) rfl
theorem dX5_hasRange_4 : decode cX5_hasRange 4 = .ok (.aload_n 0, 1) := op_42 (rdSeg sd_22_cX5_hasRange_0 4 rfl rfl)
theorem dX5_hasRange_5 : decode cX5_hasRange 5 = .ok (.getfield 9, 3) := op_180 (rdSeg sd_22_cX5_hasRange_0 5 rfl rfl) (rdSeg sd_22_cX5_hasRange_0 6 rfl rfl) (rdSeg sd_22_cX5_hasRange_0 7 rfl rfl) rfl
theorem dX5_hasRange_8 : decode cX5_hasRange 8 = .ok (.arraylength, 1) := op_190 (rdSeg sd_22_cX5_hasRange_0 8 rfl rfl)
theorem dX5_hasRange_9 : decode cX5_hasRange 9 = .ok (.invokestatic 19, 3) := op_184 (rdSeg sd_22_cX5_hasRange_0 9 rfl rfl) (rdSeg sd_22_cX5_hasRange_0 10 rfl rfl) (rdSeg sd_22_cX5_hasRange_0 11 rfl rfl) rfl
theorem dX5_hasRange_12 : decode cX5_hasRange 12 = .ok (.istore_n 3, 1) := op_62 (rdSeg sd_22_cX5_hasRange_0 12 rfl rfl)
theorem dX5_hasRange_13 : decode cX5_hasRange 13 = .ok (.iload_n 1, 1) := op_27 (rdSeg sd_22_cX5_hasRange_0 13 rfl rfl)
theorem dX5_hasRange_14 : decode cX5_hasRange 14 = .ok (.ifCond .lt 23, 3) := op_155 (rdSeg sd_22_cX5_hasRange_0 14 rfl rfl) (rdSeg sd_22_cX5_hasRange_0 15 rfl rfl) (rdSeg sd_22_cX5_hasRange_0 16 rfl rfl) (by decide +kernel)
theorem dX5_hasRange_17 : decode cX5_hasRange 17 = .ok (.iload_n 2, 1) := op_28 (rdSeg sd_22_cX5_hasRange_0 17 rfl rfl)
theorem dX5_hasRange_18 : decode cX5_hasRange 18 = .ok (.ifCond .lt 19, 3) := op_155 (rdSeg sd_22_cX5_hasRange_0 18 rfl rfl) (rdSeg sd_22_cX5_hasRange_0 19 rfl rfl) (rdSeg sd_22_cX5_hasRange_0 20 rfl rfl) (by decide +kernel)
theorem dX5_hasRange_21 : decode cX5_hasRange 21 = .ok (.iload_n 2, 1) := op_28 (rdSeg sd_22_cX5_hasRange_0 21 rfl rfl)
theorem dX5_hasRange_22 : decode cX5_hasRange 22 = .ok (.iload_n 3, 1) := op_29 (rdSeg sd_22_cX5_hasRange_0 22 rfl rfl)
theorem dX5_hasRange_23 : decode cX5_hasRange 23 = .ok (.if_icmp .gt 14, 3) := op_163 (rdSeg sd_22_cX5_hasRange_0 23 rfl rfl) (rdSeg sd_22_cX5_hasRange_0 24 rfl rfl) (rdSeg sd_22_cX5_hasRange_0 25 rfl rfl) (by decide +kernel)
theorem dX5_hasRange_26 : decode cX5_hasRange 26 = .ok (.iload_n 1, 1) := op_27 (rdSeg sd_22_cX5_hasRange_0 26 rfl rfl)
theorem dX5_hasRange_27 : decode cX5_hasRange 27 = .ok (.iload_n 3, 1) := op_29 (rdSeg sd_22_cX5_hasRange_0 27 rfl rfl)
theorem dX5_hasRange_28 : decode cX5_hasRange 28 = .ok (.iload_n 2, 1) := op_28 (rdSeg sd_22_cX5_hasRange_0 28 rfl rfl)
theorem dX5_hasRange_29 : decode cX5_hasRange 29 = .ok (.isub, 1) := op_100 (rdSeg sd_22_cX5_hasRange_0 29 rfl rfl)
theorem dX5_hasRange_30 : decode cX5_hasRange 30 = .ok (.if_icmp .gt 7, 3) := op_163 (rdSeg sd_22_cX5_hasRange_0 30 rfl rfl) (rdSeg sd_22_cX5_hasRange_0 31 rfl rfl) (rdSeg sd_22_cX5_hasRange_1 0 rfl rfl) (by decide +kernel)
theorem dX5_hasRange_33 : decode cX5_hasRange 33 = .ok (.iconst 1, 1) := op_4 (rdSeg sd_22_cX5_hasRange_1 1 rfl rfl)
theorem dX5_hasRange_34 : decode cX5_hasRange 34 = .ok (.goto 4, 3) := op_167 (rdSeg sd_22_cX5_hasRange_1 2 rfl rfl) (rdSeg sd_22_cX5_hasRange_1 3 rfl rfl) (rdSeg sd_22_cX5_hasRange_1 4 rfl rfl) (by decide +kernel)
theorem dX5_hasRange_37 : decode cX5_hasRange 37 = .ok (.iconst 0, 1) := op_3 (rdSeg sd_22_cX5_hasRange_1 5 rfl rfl)
theorem dX5_hasRange_38 : decode cX5_hasRange 38 = .ok (.ireturn, 1) := op_172 (rdSeg sd_22_cX5_hasRange_1 6 rfl rfl)
def sg_22_cX5_at_0 : List UInt8 := [0x2a, 0x1b, 0xb6, 0x00, 0x25, 0x99, 0x00, 0x15, 0x1b, 0x2a, 0xb4, 0x00, 0x09, 0xbe, 0xa2, 0x00, 0x0c, 0x2a, 0xb4, 0x00, 0x09, 0x1b, 0x2e, 0xa7, 0x00, 0x04, 0x03, 0xac]
set_option maxRecDepth 100000 in
theorem sd_22_cX5_at_0 : cX5_at.data.toList.drop 0 = sg_22_cX5_at_0 := by decide +kernel
theorem dX5_at_0 : decode cX5_at 0 = .ok (.aload_n 0, 1) := op_42 (rdSeg sd_22_cX5_at_0 0 rfl rfl)
theorem dX5_at_1 : decode cX5_at 1 = .ok (.iload_n 1, 1) := op_27 (rdSeg sd_22_cX5_at_0 1 rfl rfl)
theorem dX5_at_2 : decode cX5_at 2 = .ok (.invokevirtual 37, 3) := op_182 (rdSeg sd_22_cX5_at_0 2 rfl rfl) (rdSeg sd_22_cX5_at_0 3 rfl rfl) (rdSeg sd_22_cX5_at_0 4 rfl rfl) rfl
end
section
-- decode rows of the class
def sg_23_cX5_at_0 : List UInt8 := [0x2a, 0x1b, 0xb6, 0x00, 0x25, 0x99, 0x00, 0x15, 0x1b, 0x2a, 0xb4, 0x00, 0x09, 0xbe, 0xa2, 0x00, 0x0c, 0x2a, 0xb4, 0x00, 0x09, 0x1b, 0x2e, 0xa7, 0x00, 0x04, 0x03, 0xac]
set_option maxRecDepth 100000 in
theorem sd_23_cX5_at_0 : cX5_at.data.toList.drop 0 = sg_23_cX5_at_0 := by decide +kernel
theorem dX5_at_5 : decode cX5_at 5 = .ok (.ifCond .eq 21, 3) := op_153 (rdSeg sd_23_cX5_at_0 5 rfl rfl) (rdSeg sd_23_cX5_at_0 6 rfl rfl) (rdSeg sd_23_cX5_at_0 7 rfl rfl) (by decide +kernel)
theorem dX5_at_8 : decode cX5_at 8 = .ok (.iload_n 1, 1) := op_27 (rdSeg sd_23_cX5_at_0 8 rfl rfl)
theorem dX5_at_9 : decode cX5_at 9 = .ok (.aload_n 0, 1) := op_42 (rdSeg sd_23_cX5_at_0 9 rfl rfl)
theorem dX5_at_10 : decode cX5_at 10 = .ok (.getfield 9, 3) := op_180 (rdSeg sd_23_cX5_at_0 10 rfl rfl) (rdSeg sd_23_cX5_at_0 11 rfl rfl) (rdSeg sd_23_cX5_at_0 12 rfl rfl) rfl
theorem dX5_at_13 : decode cX5_at 13 = .ok (.arraylength, 1) := op_190 (rdSeg sd_23_cX5_at_0 13 rfl rfl)
theorem dX5_at_14 : decode cX5_at 14 = .ok (.if_icmp .ge 12, 3) := op_162 (rdSeg sd_23_cX5_at_0 14 rfl rfl) (rdSeg sd_23_cX5_at_0 15 rfl rfl) (rdSeg sd_23_cX5_at_0 16 rfl rfl) (by decide +kernel)
theorem dX5_at_17 : decode cX5_at 17 = .ok (.aload_n 0, 1) := op_42 (rdSeg sd_23_cX5_at_0 17 rfl rfl)
theorem dX5_at_18 : decode cX5_at 18 = .ok (.getfield 9, 3) := op_180 (rdSeg sd_23_cX5_at_0 18 rfl rfl) (rdSeg sd_23_cX5_at_0 19 rfl rfl) (rdSeg sd_23_cX5_at_0 20 rfl rfl) rfl
theorem dX5_at_21 : decode cX5_at 21 = .ok (.iload_n 1, 1) := op_27 (rdSeg sd_23_cX5_at_0 21 rfl rfl)
theorem dX5_at_22 : decode cX5_at 22 = .ok (.iaload, 1) := op_46 (rdSeg sd_23_cX5_at_0 22 rfl rfl)
theorem dX5_at_23 : decode cX5_at 23 = .ok (.goto 4, 3) := op_167 (rdSeg sd_23_cX5_at_0 23 rfl rfl) (rdSeg sd_23_cX5_at_0 24 rfl rfl) (rdSeg sd_23_cX5_at_0 25 rfl rfl) (by decide +kernel)
theorem dX5_at_26 : decode cX5_at 26 = .ok (.iconst 0, 1) := op_3 (rdSeg sd_23_cX5_at_0 26 rfl rfl)
theorem dX5_at_27 : decode cX5_at 27 = .ok (.ireturn, 1) := op_172 (rdSeg sd_23_cX5_at_0 27 rfl rfl)
def sg_23_cX5_write_1 : List UInt8 := [0x91, 0xa7, 0x00, 0x12, 0x2a, 0xb4, 0x00, 0x0f, 0x10, 0x10, 0xa0, 0x00, 0x08, 0x1c, 0x93, 0xa7, 0x00, 0x04, 0x1c, 0x4f, 0xb1]
def sg_23_cX5_write_0 : List UInt8 := 0x2a :: 0x1b :: 0xb6 :: 0x00 :: 0x25 :: 0x99 :: 0x00 :: 0x2f :: 0x1b :: 0x2a :: 0xb4 :: 0x00 :: 0x09 :: 0xbe :: 0xa2 :: 0x00 :: 0x26 :: 0x2a :: 0xb4 :: 0x00 :: 0x09 :: 0x1b :: 0x2a :: 0xb4 :: 0x00 :: 0x0f :: 0x10 :: 0x08 :: 0xa0 :: 0x00 :: 0x08 :: 0x1c :: sg_23_cX5_write_1
set_option maxRecDepth 100000 in
theorem sd_23_cX5_write_0 : cX5_write.data.toList.drop 0 = sg_23_cX5_write_0 := by decide +kernel
theorem sd_23_cX5_write_1 : cX5_write.data.toList.drop 32 = sg_23_cX5_write_1 := sg_next sd_23_cX5_write_0 rfl
theorem dX5_write_0 : decode cX5_write 0 = .ok (.aload_n 0, 1) := op_42 (rdSeg sd_23_cX5_write_0 0 rfl rfl)
theorem dX5_write_1 : decode cX5_write 1 = .ok (.iload_n 1, 1) := op_27 (rdSeg sd_23_cX5_write_0 1 rfl rfl)
theorem dX5_write_2 : decode cX5_write 2 = .ok (.invokevirtual 37, 3) := op_182 (rdSeg sd_23_cX5_write_0 2 rfl rfl) (rdSeg sd_23_cX5_write_0 3 rfl rfl) (rdSeg sd_23_cX5_write_0 4 rfl rfl) rfl
theorem dX5_write_5 : decode cX5_write 5 = .ok (.ifCond .eq 47, 3) := op_153 (rdSeg sd_23_cX5_write_0 5 rfl rfl) (rdSeg sd_23_cX5_write_0 6 rfl rfl) (rdSeg sd_23_cX5_write_0 7 rfl rfl) (by decide +kernel)
theorem dX5_write_8 : decode cX5_write 8 = .ok (.iload_n 1, 1) := op_27 (rdSeg sd_23_cX5_write_0 8 rfl rfl)
theorem dX5_write_9 : decode cX5_write 9 = .ok (.aload_n 0, 1) := op_42 (rdSeg sd_23_cX5_write_0 9 rfl rfl)
theorem dX5_write_10 : decode cX5_write 10 = .ok (.getfield 9, 3) := op_180 (rdSeg sd_23_cX5_write_0 10 rfl rfl) (rdSeg sd_23_cX5_write_0 11 rfl rfl) (rdSeg sd_23_cX5_write_0 12 rfl rfl) rfl
theorem dX5_write_13 : decode cX5_write 13 = .ok (.arraylength, 1) := op_190 (rdSeg sd_23_cX5_write_0 13 rfl rfl)
theorem dX5_write_14 : decode cX5_write 14 = .ok (.if_icmp .ge 38, 3) := op_162 (rdSeg sd_23_cX5_write_0 14 rfl rfl) (rdSeg sd_23_cX5_write_0 15 rfl rfl) (rdSeg sd_23_cX5_write_0 16 rfl rfl) (by decide +kernel)
theorem dX5_write_17 : decode cX5_write 17 = .ok (.aload_n 0, 1) := op_42 (rdSeg sd_23_cX5_write_0 17 rfl rfl)
theorem dX5_write_18 : decode cX5_write 18 = .ok (.getfield 9, 3) := op_180 (rdSeg sd_23_cX5_write_0 18 rfl rfl) (rdSeg sd_23_cX5_write_0 19 rfl rfl) (rdSeg sd_23_cX5_write_0 20 rfl rfl) rfl
theorem dX5_write_21 : decode cX5_write 21 = .ok (.iload_n 1, 1) := op_27 (rdSeg sd_23_cX5_write_0 21 rfl rfl)
theorem dX5_write_22 : decode cX5_write 22 = .ok (.aload_n 0, 1) := op_42 (rdSeg sd_23_cX5_write_0 22 rfl rfl)
theorem dX5_write_23 : decode cX5_write 23 = .ok (.getfield 15, 3) := op_180 (rdSeg sd_23_cX5_write_0 23 rfl rfl) (rdSeg sd_23_cX5_write_0 24 rfl rfl) (rdSeg sd_23_cX5_write_0 25 rfl rfl) rfl
theorem dX5_write_26 : decode cX5_write 26 = .ok (.bipush 8, 2) := op_16 (rdSeg sd_23_cX5_write_0 26 rfl rfl) (rdSeg sd_23_cX5_write_0 27 rfl rfl) (by decide +kernel)
theorem dX5_write_28 : decode cX5_write 28 = .ok (.if_icmp .ne 8, 3) := op_160 (rdSeg sd_23_cX5_write_0 28 rfl rfl) (rdSeg sd_23_cX5_write_0 29 rfl rfl) (rdSeg sd_23_cX5_write_0 30 rfl rfl) (by decide +kernel)
theorem dX5_write_31 : decode cX5_write 31 = .ok (.iload_n 2, 1) := op_28 (rdSeg sd_23_cX5_write_0 31 rfl rfl)
theorem dX5_write_32 : decode cX5_write 32 = .ok (.i2b, 1) := by decide +kernel
theorem dX5_write_33 : decode cX5_write 33 = .ok (.goto 18, 3) := op_167 (rdSeg sd_23_cX5_write_1 1 rfl rfl) (rdSeg sd_23_cX5_write_1 2 rfl rfl) (rdSeg sd_23_cX5_write_1 3 rfl rfl) (by decide +kernel)
theorem dX5_write_36 : decode cX5_write 36 = .ok (.aload_n 0, 1) := op_42 (rdSeg sd_23_cX5_write_1 4 rfl rfl)
theorem dX5_write_37 : decode cX5_write 37 = .ok (.getfield 15, 3) := op_180 (rdSeg sd_23_cX5_write_1 5 rfl rfl) (rdSeg sd_23_cX5_write_1 6 rfl rfl) (rdSeg sd_23_cX5_write_1 7 rfl rfl) rfl
theorem dX5_write_40 : decode cX5_write 40 = .ok (.bipush 16, 2) := op_16 (rdSeg sd_23_cX5_write_1 8 rfl rfl) (rdSeg sd_23_cX5_write_1 9 rfl rfl) (by decide +kernel)
theorem dX5_write_42 : decode cX5_write 42 = .ok (.if_icmp .ne 8, 3) := op_160 (rdSeg sd_23_cX5_write_1 10 rfl rfl) (rdSeg sd_23_cX5_write_1 11 rfl rfl) (rdSeg sd_23_cX5_write_1 12 rfl rfl) (by decide +kernel)
theorem dX5_write_45 : decode cX5_write 45 = .ok (.iload_n 2, 1) := op_28 (rdSeg sd_23_cX5_write_1 13 rfl rfl)
theorem dX5_write_46 : decode cX5_write 46 = .ok (.i2s, 1) := by decide +kernel
theorem dX5_write_47 : decode cX5_write 47 = .ok (.goto 4, 3) := op_167 (rdSeg sd_23_cX5_write_1 15 rfl rfl) (rdSeg sd_23_cX5_write_1 16 rfl rfl) (rdSeg sd_23_cX5_write_1 17 rfl rfl) (by decide +kernel)
theorem dX5_write_50 : decode cX5_write 50 = .ok (.iload_n 2, 1) := op_28 (rdSeg sd_23_cX5_write_1 18 rfl rfl)
theorem dX5_write_51 : decode cX5_write 51 = .ok (.iastore, 1) := op_79 (rdSeg sd_23_cX5_write_1 19 rfl rfl)
theorem dX5_write_52 : decode cX5_write 52 = .ok (.return_, 1) := op_177 (rdSeg sd_23_cX5_write_1 20 rfl rfl)
def sg_23_cX5_copyRange_1 : List UInt8 := [0xb8, 0x00, 0x2d, 0xb1]
def sg_23_cX5_copyRange_0 : List UInt8 := 0x2a :: 0x1b :: 0x15 :: 0x04 :: 0xb6 :: 0x00 :: 0x29 :: 0x99 :: 0x00 :: 0x1c :: 0x2c :: 0x1d :: 0x15 :: 0x04 :: 0xb6 :: 0x00 :: 0x29 :: 0x99 :: 0x00 :: 0x12 :: 0x2a :: 0xb4 :: 0x00 :: 0x09 :: 0x1b :: 0x2c :: 0xb4 :: 0x00 :: 0x09 :: 0x1d :: 0x15 :: 0x04 :: sg_23_cX5_copyRange_1
set_option maxRecDepth 100000 in
theorem sd_23_cX5_copyRange_0 : cX5_copyRange.data.toList.drop 0 = sg_23_cX5_copyRange_0 := by decide +kernel
theorem sd_23_cX5_copyRange_1 : cX5_copyRange.data.toList.drop 32 = sg_23_cX5_copyRange_1 := sg_next sd_23_cX5_copyRange_0 rfl
theorem dX5_copyRange_0 : decode cX5_copyRange 0 = .ok (.aload_n 0, 1) := op_42 (rdSeg sd_23_cX5_copyRange_0 0 rfl rfl)
theorem dX5_copyRange_1 : decode cX5_copyRange 1 = .ok (.iload_n 1, 1) := op_27 (rdSeg sd_23_cX5_copyRange_0 1 rfl rfl)
theorem dX5_copyRange_2 : decode cX5_copyRange 2 = .ok (.iload 4, 2) := op_21 (rdSeg sd_23_cX5_copyRange_0 2 rfl rfl) (rdSeg sd_23_cX5_copyRange_0 3 rfl rfl)
theorem dX5_copyRange_4 : decode cX5_copyRange 4 = .ok (.invokevirtual 41, 3) := op_182 (rdSeg sd_23_cX5_copyRange_0 4 rfl rfl) (rdSeg sd_23_cX5_copyRange_0 5 rfl rfl) (rdSeg sd_23_cX5_copyRange_0 6 rfl rfl) rfl
theorem dX5_copyRange_7 : decode cX5_copyRange 7 = .ok (.ifCond .eq 28, 3) := op_153 (rdSeg sd_23_cX5_copyRange_0 7 rfl rfl) (rdSeg sd_23_cX5_copyRange_0 8 rfl rfl) (rdSeg sd_23_cX5_copyRange_0 9 rfl rfl) (by decide +kernel)
theorem dX5_copyRange_10 : decode cX5_copyRange 10 = .ok (.aload_n 2, 1) := op_44 (rdSeg sd_23_cX5_copyRange_0 10 rfl rfl)
theorem dX5_copyRange_11 : decode cX5_copyRange 11 = .ok (.iload_n 3, 1) := op_29 (rdSeg sd_23_cX5_copyRange_0 11 rfl rfl)
theorem dX5_copyRange_12 : decode cX5_copyRange 12 = .ok (.iload 4, 2) := op_21 (rdSeg sd_23_cX5_copyRange_0 12 rfl rfl) (rdSeg sd_23_cX5_copyRange_0 13 rfl rfl)
theorem dX5_copyRange_14 : decode cX5_copyRange 14 = .ok (.invokevirtual 41, 3) := op_182 (rdSeg sd_23_cX5_copyRange_0 14 rfl rfl) (rdSeg sd_23_cX5_copyRange_0 15 rfl rfl) (rdSeg sd_23_cX5_copyRange_0 16 rfl rfl) rfl
theorem dX5_copyRange_17 : decode cX5_copyRange 17 = .ok (.ifCond .eq 18, 3) := op_153 (rdSeg sd_23_cX5_copyRange_0 17 rfl rfl) (rdSeg sd_23_cX5_copyRange_0 18 rfl rfl) (rdSeg sd_23_cX5_copyRange_0 19 rfl rfl) (by decide +kernel)
theorem dX5_copyRange_20 : decode cX5_copyRange 20 = .ok (.aload_n 0, 1) := op_42 (rdSeg sd_23_cX5_copyRange_0 20 rfl rfl)
theorem dX5_copyRange_21 : decode cX5_copyRange 21 = .ok (.getfield 9, 3) := op_180 (rdSeg sd_23_cX5_copyRange_0 21 rfl rfl) (rdSeg sd_23_cX5_copyRange_0 22 rfl rfl) (rdSeg sd_23_cX5_copyRange_0 23 rfl rfl) rfl
theorem dX5_copyRange_24 : decode cX5_copyRange 24 = .ok (.iload_n 1, 1) := op_27 (rdSeg sd_23_cX5_copyRange_0 24 rfl rfl)
theorem dX5_copyRange_25 : decode cX5_copyRange 25 = .ok (.aload_n 2, 1) := op_44 (rdSeg sd_23_cX5_copyRange_0 25 rfl rfl)
theorem dX5_copyRange_26 : decode cX5_copyRange 26 = .ok (.getfield 9, 3) := op_180 (rdSeg sd_23_cX5_copyRange_0 26 rfl rfl) (rdSeg sd_23_cX5_copyRange_0 27 rfl rfl) (rdSeg sd_23_cX5_copyRange_0 28 rfl rfl) rfl
theorem dX5_copyRange_29 : decode cX5_copyRange 29 = .ok (.iload_n 3, 1) := op_29 (rdSeg sd_23_cX5_copyRange_0 29 rfl rfl)
theorem dX5_copyRange_30 : decode cX5_copyRange 30 = .ok (.iload 4, 2) := op_21 (rdSeg sd_23_cX5_copyRange_0 30 rfl rfl) (rdSeg sd_23_cX5_copyRange_0 31 rfl rfl)
theorem dX5_copyRange_32 : decode cX5_copyRange 32 = .ok (.invokestatic 45, 3) := op_184 (rdSeg sd_23_cX5_copyRange_1 0 rfl rfl) (rdSeg sd_23_cX5_copyRange_1 1 rfl rfl) (rdSeg sd_23_cX5_copyRange_1 2 rfl rfl) rfl
theorem dX5_copyRange_35 : decode cX5_copyRange 35 = .ok (.return_, 1) := op_177 (rdSeg sd_23_cX5_copyRange_1 3 rfl rfl)
def sg_23_cX6_init_0 : List UInt8 := [0x2a, 0xb7, 0x00, 0x03, 0x2a, 0xbb, 0x00, 0x09, 0x59, 0x10, 0x1e, 0x04, 0xb7, 0x00, 0x0b, 0xb5, 0x00, 0x0e, 0xb1]
set_option maxRecDepth 100000 in
theorem sd_23_cX6_init_0 : cX6_init.data.toList.drop 0 = sg_23_cX6_init_0 := by decide +kernel
theorem dX6_init_0 : decode cX6_init 0 = .ok (.aload_n 0, 1) := op_42 (rdSeg sd_23_cX6_init_0 0 rfl rfl)
theorem dX6_init_1 : decode cX6_init 1 = .ok (.invokespecial 3, 3) := op_183 (rdSeg sd_23_cX6_init_0 1 rfl rfl) (rdSeg sd_23_cX6_init_0 2 rfl rfl) (rdSeg sd_23_cX6_init_0 3 rfl rfl) rfl
theorem dX6_init_4 : decode cX6_init 4 = .ok (.aload_n 0, 1) := op_42 (rdSeg sd_23_cX6_init_0 4 rfl rfl)
theorem dX6_init_5 : decode cX6_init 5 = .ok (.new 9, 3) := op_187 (rdSeg sd_23_cX6_init_0 5 rfl rfl) (rdSeg sd_23_cX6_init_0 6 rfl rfl) (rdSeg sd_23_cX6_init_0 7 rfl rfl) rfl
theorem dX6_init_8 : decode cX6_init 8 = .ok (.dup, 1) := op_89 (rdSeg sd_23_cX6_init_0 8 rfl rfl)
theorem dX6_init_9 : decode cX6_init 9 = .ok (.bipush 30, 2) := op_16 (rdSeg sd_23_cX6_init_0 9 rfl rfl) (rdSeg sd_23_cX6_init_0 10 rfl rfl) (by decide +kernel)
theorem dX6_init_11 : decode cX6_init 11 = .ok (.iconst 1, 1) := op_4 (rdSeg sd_23_cX6_init_0 11 rfl rfl)
theorem dX6_init_12 : decode cX6_init 12 = .ok (.invokespecial 11, 3) := op_183 (rdSeg sd_23_cX6_init_0 12 rfl rfl) (rdSeg sd_23_cX6_init_0 13 rfl rfl) (rdSeg sd_23_cX6_init_0 14 rfl rfl) rfl
theorem dX6_init_15 : decode cX6_init 15 = .ok (.putfield 14, 3) := op_181 (rdSeg sd_23_cX6_init_0 15 rfl rfl) (rdSeg sd_23_cX6_init_0 16 rfl rfl) (rdSeg sd_23_cX6_init_0 17 rfl rfl) rfl
theorem dX6_init_18 : decode cX6_init 18 = .ok (.return_, 1) := op_177 (rdSeg sd_23_cX6_init_0 18 rfl rfl)
def sg_23_cX6_begin_0 : List UInt8 := [0x2a, 0xb4, 0x00, 0x0e, 0xb6, 0x00, 0x14, 0x2a, 0x1b, 0xb5, 0x00, 0x17, 0x2a, 0x1c, 0xb5, 0x00, 0x1b, 0x2a, 0x1d, 0xb5, 0x00, 0x1e, 0x2a, 0x03, 0xb5, 0x00, 0x21, 0xb1]
set_option maxRecDepth 100000 in
theorem sd_23_cX6_begin_0 : cX6_begin.data.toList.drop 0 = sg_23_cX6_begin_0 := by decide +kernel
theorem dX6_begin_0 : decode cX6_begin 0 = .ok (.aload_n 0, 1) := op_42 (rdSeg sd_23_cX6_begin_0 0 rfl rfl)
theorem dX6_begin_1 : decode cX6_begin 1 = .ok (.getfield 14, 3) := op_180 (rdSeg sd_23_cX6_begin_0 1 rfl rfl) (rdSeg sd_23_cX6_begin_0 2 rfl rfl) (rdSeg sd_23_cX6_begin_0 3 rfl rfl) rfl
theorem dX6_begin_4 : decode cX6_begin 4 = .ok (.invokevirtual 20, 3) := op_182 (rdSeg sd_23_cX6_begin_0 4 rfl rfl) (rdSeg sd_23_cX6_begin_0 5 rfl rfl) (rdSeg sd_23_cX6_begin_0 6 rfl rfl) rfl
theorem dX6_begin_7 : decode cX6_begin 7 = .ok (.aload_n 0, 1) := op_42 (rdSeg sd_23_cX6_begin_0 7 rfl rfl)
theorem dX6_begin_8 : decode cX6_begin 8 = .ok (.iload_n 1, 1) := op_27 (rdSeg sd_23_cX6_begin_0 8 rfl rfl)
theorem dX6_begin_9 : decode cX6_begin 9 = .ok (.putfield 23, 3) := op_181 (rdSeg sd_23_cX6_begin_0 9 rfl rfl) (rdSeg sd_23_cX6_begin_0 10 rfl rfl) (rdSeg sd_23_cX6_begin_0 11 rfl rfl) rfl
theorem dX6_begin_12 : decode cX6_begin 12 = .ok (.aload_n 0, 1) := op_42 (rdSeg sd_23_cX6_begin_0 12 rfl rfl)
theorem dX6_begin_13 : decode cX6_begin 13 = .ok (.iload_n 2, 1) := op_28 (rdSeg sd_23_cX6_begin_0 13 rfl rfl)
theorem dX6_begin_14 : decode cX6_begin 14 = .ok (.putfield 27, 3) := op_181 (rdSeg sd_23_cX6_begin_0 14 rfl rfl) (rdSeg sd_23_cX6_begin_0 15 rfl rfl) (rdSeg sd_23_cX6_begin_0 16 rfl rfl) rfl
theorem dX6_begin_17 : decode cX6_begin 17 = .ok (.aload_n 0, 1) := op_42 (rdSeg sd_23_cX6_begin_0 17 rfl rfl)
theorem dX6_begin_18 : decode cX6_begin 18 = .ok (.iload_n 3, 1) := op_29 (rdSeg sd_23_cX6_begin_0 18 rfl rfl)
theorem dX6_begin_19 : decode cX6_begin 19 = .ok (.putfield 30, 3) := op_181 (rdSeg sd_23_cX6_begin_0 19 rfl rfl) (rdSeg sd_23_cX6_begin_0 20 rfl rfl) (rdSeg sd_23_cX6_begin_0 21 rfl rfl) rfl
theorem dX6_begin_22 : decode cX6_begin 22 = .ok (.aload_n 0, 1) := op_42 (rdSeg sd_23_cX6_begin_0 22 rfl rfl)
theorem dX6_begin_23 : decode cX6_begin 23 = .ok (.iconst 0, 1) := op_3 (rdSeg sd_23_cX6_begin_0 23 rfl rfl)
theorem dX6_begin_24 : decode cX6_begin 24 = .ok (.putfield 33, 3) := op_181 (rdSeg sd_23_cX6_begin_0 24 rfl rfl) (rdSeg sd_23_cX6_begin_0 25 rfl rfl) (rdSeg sd_23_cX6_begin_0 26 rfl rfl) rfl
theorem dX6_begin_27 : decode cX6_begin 27 = .ok (.return_, 1) := op_177 (rdSeg sd_23_cX6_begin_0 27 rfl rfl)
def sg_23_cX6_trace_0 : List UInt8 := [0x2a, 0xb4, 0x00, 0x0e, 0xb0]
set_option maxRecDepth 100000 in
theorem sd_23_cX6_trace_0 : cX6_trace.data.toList.drop 0 = sg_23_cX6_trace_0 := by decide +kernel
theorem dX6_trace_0 : decode cX6_trace 0 = .ok (.aload_n 0, 1) := op_42 (rdSeg sd_23_cX6_trace_0 0 rfl rfl)
theorem dX6_trace_1 : decode cX6_trace 1 = .ok (.getfield 14, 3) := op_180 (rdSeg sd_23_cX6_trace_0 1 rfl rfl) (rdSeg sd_23_cX6_trace_0 2 rfl rfl) (rdSeg sd_23_cX6_trace_0 3 rfl rfl) rfl
theorem dX6_trace_4 : decode cX6_trace 4 = .ok (.areturn, 1) := op_176 (rdSeg sd_23_cX6_trace_0 4 rfl rfl)
def sg_23_cX6_isParted_0 : List UInt8 := [0x2a, 0xb4, 0x00, 0x21, 0xac]
set_option maxRecDepth 100000 in
theorem sd_23_cX6_isParted_0 : cX6_isParted.data.toList.drop 0 = sg_23_cX6_isParted_0 := by decide +kernel
theorem dX6_isParted_0 : decode cX6_isParted 0 = .ok (.aload_n 0, 1) := op_42 (rdSeg sd_23_cX6_isParted_0 0 rfl rfl)
theorem dX6_isParted_1 : decode cX6_isParted 1 = .ok (.getfield 33, 3) := op_180 (rdSeg sd_23_cX6_isParted_0 1 rfl rfl) (rdSeg sd_23_cX6_isParted_0 2 rfl rfl) (rdSeg sd_23_cX6_isParted_0 3 rfl rfl) rfl
theorem dX6_isParted_4 : decode cX6_isParted 4 = .ok (.ireturn, 1) := op_172 (rdSeg sd_23_cX6_isParted_0 4 rfl rfl)
def sg_23_cX6_own_0 : List UInt8 := [0x2a, 0x2a, 0xb4, 0x00, 0x17, 0x1b, 0x1c, 0x1d, 0xb6, 0x00, 0x25, 0xac]
set_option maxRecDepth 100000 in
theorem sd_23_cX6_own_0 : cX6_own.data.toList.drop 0 = sg_23_cX6_own_0 := by decide +kernel
theorem dX6_own_0 : decode cX6_own 0 = .ok (.aload_n 0, 1) := op_42 (rdSeg sd_23_cX6_own_0 0 rfl rfl)
theorem dX6_own_1 : decode cX6_own 1 = .ok (.aload_n 0, 1) := op_42 (rdSeg sd_23_cX6_own_0 1 rfl rfl)
theorem dX6_own_2 : decode cX6_own 2 = .ok (.getfield 23, 3) := op_180 (rdSeg sd_23_cX6_own_0 2 rfl rfl) (rdSeg sd_23_cX6_own_0 3 rfl rfl) (rdSeg sd_23_cX6_own_0 4 rfl rfl) rfl
theorem dX6_own_5 : decode cX6_own 5 = .ok (.iload_n 1, 1) := op_27 (rdSeg sd_23_cX6_own_0 5 rfl rfl)
theorem dX6_own_6 : decode cX6_own 6 = .ok (.iload_n 2, 1) := op_28 (rdSeg sd_23_cX6_own_0 6 rfl rfl)
theorem dX6_own_7 : decode cX6_own 7 = .ok (.iload_n 3, 1) := op_29 (rdSeg sd_23_cX6_own_0 7 rfl rfl)
theorem dX6_own_8 : decode cX6_own 8 = .ok (.invokevirtual 37, 3) := op_182 (rdSeg sd_23_cX6_own_0 8 rfl rfl) (rdSeg sd_23_cX6_own_0 9 rfl rfl) (rdSeg sd_23_cX6_own_0 10 rfl rfl) rfl
theorem dX6_own_11 : decode cX6_own 11 = .ok (.ireturn, 1) := op_172 (rdSeg sd_23_cX6_own_0 11 rfl rfl)
def sg_23_cX6_sound_2 : List UInt8 := [0x00, 0x13, 0x2a, 0x15, 0x06, 0x15, 0x05, 0xb8, 0x00, 0x2d, 0x1d, 0x15, 0x04, 0x04, 0x60, 0xb6, 0x00, 0x35, 0xac]
def sg_23_cX6_sound_1 : List UInt8 := 0xa7 :: 0xff :: 0xe6 :: 0x15 :: 0x05 :: 0x1c :: 0xb8 :: 0x00 :: 0x29 :: 0x36 :: 0x06 :: 0x2a :: 0xb4 :: 0x00 :: 0x0e :: 0x15 :: 0x06 :: 0x03 :: 0x03 :: 0xb6 :: 0x00 :: 0x31 :: 0x57 :: 0x15 :: 0x04 :: 0x10 :: 0x28 :: 0xa4 :: 0x00 :: 0x07 :: 0x03 :: 0xa7 :: sg_23_cX6_sound_2
def sg_23_cX6_sound_0 : List UInt8 := 0x1b :: 0x36 :: 0x05 :: 0x03 :: 0x36 :: 0x06 :: 0x15 :: 0x06 :: 0x10 :: 0x07 :: 0xa2 :: 0x00 :: 0x19 :: 0x15 :: 0x05 :: 0x1c :: 0xb8 :: 0x00 :: 0x29 :: 0x9a :: 0x00 :: 0x10 :: 0x15 :: 0x05 :: 0xb8 :: 0x00 :: 0x2d :: 0x36 :: 0x05 :: 0x84 :: 0x06 :: 0x01 :: sg_23_cX6_sound_1
set_option maxRecDepth 100000 in
theorem sd_23_cX6_sound_0 : cX6_sound.data.toList.drop 0 = sg_23_cX6_sound_0 := by decide +kernel
theorem sd_23_cX6_sound_1 : cX6_sound.data.toList.drop 32 = sg_23_cX6_sound_1 := sg_next sd_23_cX6_sound_0 rfl
theorem sd_23_cX6_sound_2 : cX6_sound.data.toList.drop 64 = sg_23_cX6_sound_2 := sg_next sd_23_cX6_sound_1 rfl
theorem dX6_sound_0 : decode cX6_sound 0 = .ok (.iload_n 1, 1) := op_27 (rdSeg sd_23_cX6_sound_0 0 rfl rfl)
theorem dX6_sound_1 : decode cX6_sound 1 = .ok (.istore 5, 2) := op_54 (rdSeg sd_23_cX6_sound_0 1 rfl rfl) (rdSeg sd_23_cX6_sound_0 2 rfl rfl)
theorem dX6_sound_3 : decode cX6_sound 3 = .ok (.iconst 0, 1) := op_3 (rdSeg sd_23_cX6_sound_0 3 rfl rfl)
theorem dX6_sound_4 : decode cX6_sound 4 = .ok (.istore 6, 2) := op_54 (rdSeg sd_23_cX6_sound_0 4 rfl rfl) (rdSeg sd_23_cX6_sound_0 5 rfl rfl)
theorem dX6_sound_6 : decode cX6_sound 6 = .ok (.iload 6, 2) := op_21 (rdSeg sd_23_cX6_sound_0 6 rfl rfl) (rdSeg sd_23_cX6_sound_0 7 rfl rfl)
theorem dX6_sound_8 : decode cX6_sound 8 = .ok (.bipush 7, 2) := op_16 (rdSeg sd_23_cX6_sound_0 8 rfl rfl) (rdSeg sd_23_cX6_sound_0 9 rfl rfl) (by decide +kernel)
theorem dX6_sound_10 : decode cX6_sound 10 = .ok (.if_icmp .ge 25, 3) := op_162 (rdSeg sd_23_cX6_sound_0 10 rfl rfl) (rdSeg sd_23_cX6_sound_0 11 rfl rfl) (rdSeg sd_23_cX6_sound_0 12 rfl rfl) (by decide +kernel)
theorem dX6_sound_13 : decode cX6_sound 13 = .ok (.iload 5, 2) := op_21 (rdSeg sd_23_cX6_sound_0 13 rfl rfl) (rdSeg sd_23_cX6_sound_0 14 rfl rfl)
theorem dX6_sound_15 : decode cX6_sound 15 = .ok (.iload_n 2, 1) := op_28 (rdSeg sd_23_cX6_sound_0 15 rfl rfl)
theorem dX6_sound_16 : decode cX6_sound 16 = .ok (.invokestatic 41, 3) := op_184 (rdSeg sd_23_cX6_sound_0 16 rfl rfl) (rdSeg sd_23_cX6_sound_0 17 rfl rfl) (rdSeg sd_23_cX6_sound_0 18 rfl rfl) rfl
theorem dX6_sound_19 : decode cX6_sound 19 = .ok (.ifCond .ne 16, 3) := op_154 (rdSeg sd_23_cX6_sound_0 19 rfl rfl) (rdSeg sd_23_cX6_sound_0 20 rfl rfl) (rdSeg sd_23_cX6_sound_0 21 rfl rfl) (by decide +kernel)
theorem dX6_sound_22 : decode cX6_sound 22 = .ok (.iload 5, 2) := op_21 (rdSeg sd_23_cX6_sound_0 22 rfl rfl) (rdSeg sd_23_cX6_sound_0 23 rfl rfl)
theorem dX6_sound_24 : decode cX6_sound 24 = .ok (.invokestatic 45, 3) := op_184 (rdSeg sd_23_cX6_sound_0 24 rfl rfl) (rdSeg sd_23_cX6_sound_0 25 rfl rfl) (rdSeg sd_23_cX6_sound_0 26 rfl rfl) rfl
theorem dX6_sound_27 : decode cX6_sound 27 = .ok (.istore 5, 2) := op_54 (rdSeg sd_23_cX6_sound_0 27 rfl rfl) (rdSeg sd_23_cX6_sound_0 28 rfl rfl)
theorem dX6_sound_29 : decode cX6_sound 29 = .ok (.iinc 6 1, 3) := op_132 (rdSeg sd_23_cX6_sound_0 29 rfl rfl) (rdSeg sd_23_cX6_sound_0 30 rfl rfl) (rdSeg sd_23_cX6_sound_0 31 rfl rfl) (by decide +kernel)
theorem dX6_sound_32 : decode cX6_sound 32 = .ok (.goto (-26), 3) := op_167 (rdSeg sd_23_cX6_sound_1 0 rfl rfl) (rdSeg sd_23_cX6_sound_1 1 rfl rfl) (rdSeg sd_23_cX6_sound_1 2 rfl rfl) (by decide +kernel)
theorem dX6_sound_35 : decode cX6_sound 35 = .ok (.iload 5, 2) := op_21 (rdSeg sd_23_cX6_sound_1 3 rfl rfl) (rdSeg sd_23_cX6_sound_1 4 rfl rfl)
theorem dX6_sound_37 : decode cX6_sound 37 = .ok (.iload_n 2, 1) := op_28 (rdSeg sd_23_cX6_sound_1 5 rfl rfl)
theorem dX6_sound_38 : decode cX6_sound 38 = .ok (.invokestatic 41, 3) := op_184 (rdSeg sd_23_cX6_sound_1 6 rfl rfl) (rdSeg sd_23_cX6_sound_1 7 rfl rfl) (rdSeg sd_23_cX6_sound_1 8 rfl rfl) rfl
theorem dX6_sound_41 : decode cX6_sound 41 = .ok (.istore 6, 2) := op_54 (rdSeg sd_23_cX6_sound_1 9 rfl rfl) (rdSeg sd_23_cX6_sound_1 10 rfl rfl)
theorem dX6_sound_43 : decode cX6_sound 43 = .ok (.aload_n 0, 1) := op_42 (rdSeg sd_23_cX6_sound_1 11 rfl rfl)
theorem dX6_sound_44 : decode cX6_sound 44 = .ok (.getfield 14, 3) := op_180 (rdSeg sd_23_cX6_sound_1 12 rfl rfl) (rdSeg sd_23_cX6_sound_1 13 rfl rfl) (rdSeg sd_23_cX6_sound_1 14 rfl rfl) rfl
theorem dX6_sound_47 : decode cX6_sound 47 = .ok (.iload 6, 2) := op_21 (rdSeg sd_23_cX6_sound_1 15 rfl rfl) (rdSeg sd_23_cX6_sound_1 16 rfl rfl)
theorem dX6_sound_49 : decode cX6_sound 49 = .ok (.iconst 0, 1) := op_3 (rdSeg sd_23_cX6_sound_1 17 rfl rfl)
theorem dX6_sound_50 : decode cX6_sound 50 = .ok (.iconst 0, 1) := op_3 (rdSeg sd_23_cX6_sound_1 18 rfl rfl)
theorem dX6_sound_51 : decode cX6_sound 51 = .ok (.invokevirtual 49, 3) := op_182 (rdSeg sd_23_cX6_sound_1 19 rfl rfl) (rdSeg sd_23_cX6_sound_1 20 rfl rfl) (rdSeg sd_23_cX6_sound_1 21 rfl rfl) rfl
theorem dX6_sound_54 : decode cX6_sound 54 = .ok (.pop, 1) := op_87 (rdSeg sd_23_cX6_sound_1 22 rfl rfl)
theorem dX6_sound_55 : decode cX6_sound 55 = .ok (.iload 4, 2) := op_21 (rdSeg sd_23_cX6_sound_1 23 rfl rfl) (rdSeg sd_23_cX6_sound_1 24 rfl rfl)
theorem dX6_sound_57 : decode cX6_sound 57 = .ok (.bipush 40, 2) := op_16 (rdSeg sd_23_cX6_sound_1 25 rfl rfl) (rdSeg sd_23_cX6_sound_1 26 rfl rfl) (by decide +kernel)
theorem dX6_sound_59 : decode cX6_sound 59 = .ok (.if_icmp .le 7, 3) := op_164 (rdSeg sd_23_cX6_sound_1 27 rfl rfl) (rdSeg sd_23_cX6_sound_1 28 rfl rfl) (rdSeg sd_23_cX6_sound_1 29 rfl rfl) (by decide +kernel)
theorem dX6_sound_62 : decode cX6_sound 62 = .ok (.iconst 0, 1) := op_3 (rdSeg sd_23_cX6_sound_1 30 rfl rfl)
theorem dX6_sound_63 : decode cX6_sound 63 = .ok (.goto 19, 3) := op_167 (rdSeg sd_23_cX6_sound_1 31 rfl rfl) (rdSeg sd_23_cX6_sound_2 0 rfl rfl) (rdSeg sd_23_cX6_sound_2 1 rfl rfl) (by decide +kernel)
theorem dX6_sound_66 : decode cX6_sound 66 = .ok (.aload_n 0, 1) := op_42 (rdSeg sd_23_cX6_sound_2 2 rfl rfl)
theorem dX6_sound_67 : decode cX6_sound 67 = .ok (.iload 6, 2) := op_21 (rdSeg sd_23_cX6_sound_2 3 rfl rfl) (rdSeg sd_23_cX6_sound_2 4 rfl rfl)
theorem dX6_sound_69 : decode cX6_sound 69 = .ok (.iload 5, 2) := op_21 (rdSeg sd_23_cX6_sound_2 5 rfl rfl) (rdSeg sd_23_cX6_sound_2 6 rfl rfl)
theorem dX6_sound_71 : decode cX6_sound 71 = .ok (.invokestatic 45, 3) := op_184 (rdSeg sd_23_cX6_sound_2 7 rfl rfl) (rdSeg sd_23_cX6_sound_2 8 rfl rfl) (rdSeg sd_23_cX6_sound_2 9 rfl rfl) rfl
theorem dX6_sound_74 : decode cX6_sound 74 = .ok (.iload_n 3, 1) := op_29 (rdSeg sd_23_cX6_sound_2 10 rfl rfl)
theorem dX6_sound_75 : decode cX6_sound 75 = .ok (.iload 4, 2) := op_21 (rdSeg sd_23_cX6_sound_2 11 rfl rfl) (rdSeg sd_23_cX6_sound_2 12 rfl rfl)
theorem dX6_sound_77 : decode cX6_sound 77 = .ok (.iconst 1, 1) := op_4 (rdSeg sd_23_cX6_sound_2 13 rfl rfl)
theorem dX6_sound_78 : decode cX6_sound 78 = .ok (.iadd, 1) := op_96 (rdSeg sd_23_cX6_sound_2 14 rfl rfl)
theorem dX6_sound_79 : decode cX6_sound 79 = .ok (.invokevirtual 53, 3) := op_182 (rdSeg sd_23_cX6_sound_2 15 rfl rfl) (rdSeg sd_23_cX6_sound_2 16 rfl rfl) (rdSeg sd_23_cX6_sound_2 17 rfl rfl) rfl
theorem dX6_sound_82 : decode cX6_sound 82 = .ok (.ireturn, 1) := op_172 (rdSeg sd_23_cX6_sound_2 18 rfl rfl)
def sg_23_cX6_bodyOf_0 : List UInt8 := [0x1a, 0x07, 0x68, 0x1b, 0x60, 0x3d, 0x1c, 0x9b, 0x00, 0x13, 0x1c, 0xb2, 0x00, 0x38, 0xbe, 0xa2, 0x00, 0x0b, 0xb2, 0x00, 0x38, 0x1c, 0x2e, 0xa7, 0x00, 0x04, 0x03, 0xac]
set_option maxRecDepth 100000 in
theorem sd_23_cX6_bodyOf_0 : cX6_bodyOf.data.toList.drop 0 = sg_23_cX6_bodyOf_0 := by decide +kernel
theorem dX6_bodyOf_0 : decode cX6_bodyOf 0 = .ok (.iload_n 0, 1) := op_26 (rdSeg sd_23_cX6_bodyOf_0 0 rfl rfl)
theorem dX6_bodyOf_1 : decode cX6_bodyOf 1 = .ok (.iconst 4, 1) := op_7 (rdSeg sd_23_cX6_bodyOf_0 1 rfl rfl)
theorem dX6_bodyOf_2 : decode cX6_bodyOf 2 = .ok (.imul, 1) := op_104 (rdSeg sd_23_cX6_bodyOf_0 2 rfl rfl)
theorem dX6_bodyOf_3 : decode cX6_bodyOf 3 = .ok (.iload_n 1, 1) := op_27 (rdSeg sd_23_cX6_bodyOf_0 3 rfl rfl)
theorem dX6_bodyOf_4 : decode cX6_bodyOf 4 = .ok (.iadd, 1) := op_96 (rdSeg sd_23_cX6_bodyOf_0 4 rfl rfl)
theorem dX6_bodyOf_5 : decode cX6_bodyOf 5 = .ok (.istore_n 2, 1) := op_61 (rdSeg sd_23_cX6_bodyOf_0 5 rfl rfl)
theorem dX6_bodyOf_6 : decode cX6_bodyOf 6 = .ok (.iload_n 2, 1) := op_28 (rdSeg sd_23_cX6_bodyOf_0 6 rfl rfl)
theorem dX6_bodyOf_7 : decode cX6_bodyOf 7 = .ok (.ifCond .lt 19, 3) := op_155 (rdSeg sd_23_cX6_bodyOf_0 7 rfl rfl) (rdSeg sd_23_cX6_bodyOf_0 8 rfl rfl) (rdSeg sd_23_cX6_bodyOf_0 9 rfl rfl) (by decide +kernel)
theorem dX6_bodyOf_10 : decode cX6_bodyOf 10 = .ok (.iload_n 2, 1) := op_28 (rdSeg sd_23_cX6_bodyOf_0 10 rfl rfl)
theorem dX6_bodyOf_11 : decode cX6_bodyOf 11 = .ok (.getstatic 56, 3) := op_178 (rdSeg sd_23_cX6_bodyOf_0 11 rfl rfl) (rdSeg sd_23_cX6_bodyOf_0 12 rfl rfl) (rdSeg sd_23_cX6_bodyOf_0 13 rfl rfl) rfl
theorem dX6_bodyOf_14 : decode cX6_bodyOf 14 = .ok (.arraylength, 1) := op_190 (rdSeg sd_23_cX6_bodyOf_0 14 rfl rfl)
theorem dX6_bodyOf_15 : decode cX6_bodyOf 15 = .ok (.if_icmp .ge 11, 3) := op_162 (rdSeg sd_23_cX6_bodyOf_0 15 rfl rfl) (rdSeg sd_23_cX6_bodyOf_0 16 rfl rfl) (rdSeg sd_23_cX6_bodyOf_0 17 rfl rfl) (by decide +kernel)
theorem dX6_bodyOf_18 : decode cX6_bodyOf 18 = .ok (.getstatic 56, 3) := op_178 (rdSeg sd_23_cX6_bodyOf_0 18 rfl rfl) (rdSeg sd_23_cX6_bodyOf_0 19 rfl rfl) (rdSeg sd_23_cX6_bodyOf_0 20 rfl rfl) rfl
theorem dX6_bodyOf_21 : decode cX6_bodyOf 21 = .ok (.iload_n 2, 1) := op_28 (rdSeg sd_23_cX6_bodyOf_0 21 rfl rfl)
theorem dX6_bodyOf_22 : decode cX6_bodyOf 22 = .ok (.iaload, 1) := op_46 (rdSeg sd_23_cX6_bodyOf_0 22 rfl rfl)
theorem dX6_bodyOf_23 : decode cX6_bodyOf 23 = .ok (.goto 4, 3) := op_167 (rdSeg sd_23_cX6_bodyOf_0 23 rfl rfl) (rdSeg sd_23_cX6_bodyOf_0 24 rfl rfl) (rdSeg sd_23_cX6_bodyOf_0 25 rfl rfl) (by decide +kernel)
theorem dX6_bodyOf_26 : decode cX6_bodyOf 26 = .ok (.iconst 0, 1) := op_3 (rdSeg sd_23_cX6_bodyOf_0 26 rfl rfl)
theorem dX6_bodyOf_27 : decode cX6_bodyOf 27 = .ok (.ireturn, 1) := op_172 (rdSeg sd_23_cX6_bodyOf_0 27 rfl rfl)
def sg_23_cX6_work_8 : List UInt8 := [0x04, 0xb6, 0x00, 0x25, 0x2a, 0xb4, 0x00, 0x1e, 0x60, 0xac, 0x03, 0xac]
def sg_23_cX6_work_7 : List UInt8 := 0x1d :: 0x15 :: 0x04 :: 0xb6 :: 0x00 :: 0x25 :: 0x2a :: 0xb4 :: 0x00 :: 0x1b :: 0x82 :: 0xac :: 0x2a :: 0x1c :: 0x04 :: 0x1d :: 0x04 :: 0x60 :: 0x15 :: 0x04 :: 0xb6 :: 0x00 :: 0x25 :: 0xac :: 0x10 :: 0x06 :: 0xac :: 0x2a :: 0x1c :: 0x04 :: 0x1d :: 0x15 :: sg_23_cX6_work_8
def sg_23_cX6_work_6 : List UInt8 := 0xb6 :: 0x00 :: 0x25 :: 0x64 :: 0xac :: 0x2a :: 0x1c :: 0x05 :: 0x1d :: 0x05 :: 0x6c :: 0x15 :: 0x04 :: 0xb6 :: 0x00 :: 0x25 :: 0xac :: 0x2a :: 0x1c :: 0x03 :: 0x1d :: 0x15 :: 0x04 :: 0xb6 :: 0x00 :: 0x25 :: 0x06 :: 0x68 :: 0xac :: 0x2a :: 0x1c :: 0x05 :: sg_23_cX6_work_7
def sg_23_cX6_work_5 : List UInt8 := 0xb6 :: 0x00 :: 0x25 :: 0x07 :: 0x64 :: 0xac :: 0x2a :: 0x1c :: 0x06 :: 0x1d :: 0x15 :: 0x04 :: 0xb6 :: 0x00 :: 0x25 :: 0x2a :: 0x04 :: 0x04 :: 0x15 :: 0x04 :: 0xb6 :: 0x00 :: 0x3c :: 0x60 :: 0xac :: 0x03 :: 0x2a :: 0x1c :: 0x04 :: 0x1d :: 0x15 :: 0x04 :: sg_23_cX6_work_6
def sg_23_cX6_work_4 : List UInt8 := 0xb6 :: 0x00 :: 0x3c :: 0x05 :: 0x68 :: 0xac :: 0x2a :: 0x04 :: 0x1d :: 0x15 :: 0x04 :: 0xb6 :: 0x00 :: 0x3c :: 0x2a :: 0xb4 :: 0x00 :: 0x1e :: 0x64 :: 0xac :: 0x2a :: 0x1d :: 0xb6 :: 0x00 :: 0x3f :: 0xac :: 0x2a :: 0x1c :: 0x03 :: 0x1d :: 0x15 :: 0x04 :: sg_23_cX6_work_5
def sg_23_cX6_work_3 : List UInt8 := 0x00 :: 0x00 :: 0x00 :: 0xeb :: 0x00 :: 0x00 :: 0x00 :: 0x46 :: 0x00 :: 0x00 :: 0x00 :: 0xf7 :: 0x00 :: 0x00 :: 0x00 :: 0x47 :: 0x00 :: 0x00 :: 0x00 :: 0xfa :: 0x1d :: 0x2a :: 0xb4 :: 0x00 :: 0x1b :: 0x60 :: 0xac :: 0x2a :: 0x03 :: 0x1d :: 0x15 :: 0x04 :: sg_23_cX6_work_4
def sg_23_cX6_work_2 : List UInt8 := 0x00 :: 0x00 :: 0x00 :: 0xb8 :: 0x00 :: 0x00 :: 0x00 :: 0x28 :: 0x00 :: 0x00 :: 0x00 :: 0xc4 :: 0x00 :: 0x00 :: 0x00 :: 0x32 :: 0x00 :: 0x00 :: 0x00 :: 0xd0 :: 0x00 :: 0x00 :: 0x00 :: 0x33 :: 0x00 :: 0x00 :: 0x00 :: 0xdc :: 0x00 :: 0x00 :: 0x00 :: 0x3c :: sg_23_cX6_work_3
def sg_23_cX6_work_1 : List UInt8 := 0x00 :: 0x00 :: 0x00 :: 0x85 :: 0x00 :: 0x00 :: 0x00 :: 0x0d :: 0x00 :: 0x00 :: 0x00 :: 0x93 :: 0x00 :: 0x00 :: 0x00 :: 0x14 :: 0x00 :: 0x00 :: 0x00 :: 0x99 :: 0x00 :: 0x00 :: 0x00 :: 0x15 :: 0x00 :: 0x00 :: 0x00 :: 0xa5 :: 0x00 :: 0x00 :: 0x00 :: 0x1e :: sg_23_cX6_work_2
def sg_23_cX6_work_0 : List UInt8 := 0x1b :: 0xab :: 0x00 :: 0x00 :: 0x00 :: 0x00 :: 0x01 :: 0x09 :: 0x00 :: 0x00 :: 0x00 :: 0x0d :: 0x00 :: 0x00 :: 0x00 :: 0x0a :: 0x00 :: 0x00 :: 0x00 :: 0x73 :: 0x00 :: 0x00 :: 0x00 :: 0x0b :: 0x00 :: 0x00 :: 0x00 :: 0x7a :: 0x00 :: 0x00 :: 0x00 :: 0x0c :: sg_23_cX6_work_1
set_option maxRecDepth 100000 in
theorem sd_23_cX6_work_0 : cX6_work.data.toList.drop 0 = sg_23_cX6_work_0 := by decide +kernel
theorem sd_23_cX6_work_1 : cX6_work.data.toList.drop 32 = sg_23_cX6_work_1 := sg_next sd_23_cX6_work_0 rfl
theorem sd_23_cX6_work_2 : cX6_work.data.toList.drop 64 = sg_23_cX6_work_2 := sg_next sd_23_cX6_work_1 rfl
theorem sd_23_cX6_work_3 : cX6_work.data.toList.drop 96 = sg_23_cX6_work_3 := sg_next sd_23_cX6_work_2 rfl
theorem sd_23_cX6_work_4 : cX6_work.data.toList.drop 128 = sg_23_cX6_work_4 := sg_next sd_23_cX6_work_3 rfl
theorem sd_23_cX6_work_5 : cX6_work.data.toList.drop 160 = sg_23_cX6_work_5 := sg_next sd_23_cX6_work_4 rfl
theorem sd_23_cX6_work_6 : cX6_work.data.toList.drop 192 = sg_23_cX6_work_6 := sg_next sd_23_cX6_work_5 rfl
theorem sd_23_cX6_work_7 : cX6_work.data.toList.drop 224 = sg_23_cX6_work_7 := sg_next sd_23_cX6_work_6 rfl
theorem sd_23_cX6_work_8 : cX6_work.data.toList.drop 256 = sg_23_cX6_work_8 := sg_next sd_23_cX6_work_7 rfl
theorem dX6_work_0 : decode cX6_work 0 = .ok (.iload_n 1, 1) := op_27 (rdSeg sd_23_cX6_work_0 0 rfl rfl)
theorem dX6_work_1 : decode cX6_work 1 = .ok (.lookupswitch 265 #[(10, 115), (11, 122), (12, 133), (13, 147), (20, 153), (21, 165), (30, 184), (40, 196), (50, 208), (51, 220), (60, 235), (70, 247), (71, 250)], 115) := by decide +kernel
theorem dX6_work_116 : decode cX6_work 116 = .ok (.iload_n 3, 1) := op_29 (rdSeg sd_23_cX6_work_3 20 rfl rfl)
theorem dX6_work_117 : decode cX6_work 117 = .ok (.aload_n 0, 1) := op_42 (rdSeg sd_23_cX6_work_3 21 rfl rfl)
theorem dX6_work_118 : decode cX6_work 118 = .ok (.getfield 27, 3) := op_180 (rdSeg sd_23_cX6_work_3 22 rfl rfl) (rdSeg sd_23_cX6_work_3 23 rfl rfl) (rdSeg sd_23_cX6_work_3 24 rfl rfl) rfl
theorem dX6_work_121 : decode cX6_work 121 = .ok (.iadd, 1) := op_96 (rdSeg sd_23_cX6_work_3 25 rfl rfl)
theorem dX6_work_122 : decode cX6_work 122 = .ok (.ireturn, 1) := op_172 (rdSeg sd_23_cX6_work_3 26 rfl rfl)
theorem dX6_work_123 : decode cX6_work 123 = .ok (.aload_n 0, 1) := op_42 (rdSeg sd_23_cX6_work_3 27 rfl rfl)
theorem dX6_work_124 : decode cX6_work 124 = .ok (.iconst 0, 1) := op_3 (rdSeg sd_23_cX6_work_3 28 rfl rfl)
theorem dX6_work_125 : decode cX6_work 125 = .ok (.iload_n 3, 1) := op_29 (rdSeg sd_23_cX6_work_3 29 rfl rfl)
theorem dX6_work_126 : decode cX6_work 126 = .ok (.iload 4, 2) := op_21 (rdSeg sd_23_cX6_work_3 30 rfl rfl) (rdSeg sd_23_cX6_work_3 31 rfl rfl)
theorem dX6_work_128 : decode cX6_work 128 = .ok (.invokevirtual 60, 3) := op_182 (rdSeg sd_23_cX6_work_4 0 rfl rfl) (rdSeg sd_23_cX6_work_4 1 rfl rfl) (rdSeg sd_23_cX6_work_4 2 rfl rfl) rfl
theorem dX6_work_131 : decode cX6_work 131 = .ok (.iconst 2, 1) := op_5 (rdSeg sd_23_cX6_work_4 3 rfl rfl)
theorem dX6_work_132 : decode cX6_work 132 = .ok (.imul, 1) := op_104 (rdSeg sd_23_cX6_work_4 4 rfl rfl)
theorem dX6_work_133 : decode cX6_work 133 = .ok (.ireturn, 1) := op_172 (rdSeg sd_23_cX6_work_4 5 rfl rfl)
theorem dX6_work_134 : decode cX6_work 134 = .ok (.aload_n 0, 1) := op_42 (rdSeg sd_23_cX6_work_4 6 rfl rfl)
theorem dX6_work_135 : decode cX6_work 135 = .ok (.iconst 1, 1) := op_4 (rdSeg sd_23_cX6_work_4 7 rfl rfl)
theorem dX6_work_136 : decode cX6_work 136 = .ok (.iload_n 3, 1) := op_29 (rdSeg sd_23_cX6_work_4 8 rfl rfl)
theorem dX6_work_137 : decode cX6_work 137 = .ok (.iload 4, 2) := op_21 (rdSeg sd_23_cX6_work_4 9 rfl rfl) (rdSeg sd_23_cX6_work_4 10 rfl rfl)
theorem dX6_work_139 : decode cX6_work 139 = .ok (.invokevirtual 60, 3) := op_182 (rdSeg sd_23_cX6_work_4 11 rfl rfl) (rdSeg sd_23_cX6_work_4 12 rfl rfl) (rdSeg sd_23_cX6_work_4 13 rfl rfl) rfl
theorem dX6_work_142 : decode cX6_work 142 = .ok (.aload_n 0, 1) := op_42 (rdSeg sd_23_cX6_work_4 14 rfl rfl)
theorem dX6_work_143 : decode cX6_work 143 = .ok (.getfield 30, 3) := op_180 (rdSeg sd_23_cX6_work_4 15 rfl rfl) (rdSeg sd_23_cX6_work_4 16 rfl rfl) (rdSeg sd_23_cX6_work_4 17 rfl rfl) rfl
theorem dX6_work_146 : decode cX6_work 146 = .ok (.isub, 1) := op_100 (rdSeg sd_23_cX6_work_4 18 rfl rfl)
theorem dX6_work_147 : decode cX6_work 147 = .ok (.ireturn, 1) := op_172 (rdSeg sd_23_cX6_work_4 19 rfl rfl)
theorem dX6_work_148 : decode cX6_work 148 = .ok (.aload_n 0, 1) := op_42 (rdSeg sd_23_cX6_work_4 20 rfl rfl)
theorem dX6_work_149 : decode cX6_work 149 = .ok (.iload_n 3, 1) := op_29 (rdSeg sd_23_cX6_work_4 21 rfl rfl)
theorem dX6_work_150 : decode cX6_work 150 = .ok (.invokevirtual 63, 3) := op_182 (rdSeg sd_23_cX6_work_4 22 rfl rfl) (rdSeg sd_23_cX6_work_4 23 rfl rfl) (rdSeg sd_23_cX6_work_4 24 rfl rfl) rfl
theorem dX6_work_153 : decode cX6_work 153 = .ok (.ireturn, 1) := op_172 (rdSeg sd_23_cX6_work_4 25 rfl rfl)
theorem dX6_work_154 : decode cX6_work 154 = .ok (.aload_n 0, 1) := op_42 (rdSeg sd_23_cX6_work_4 26 rfl rfl)
theorem dX6_work_155 : decode cX6_work 155 = .ok (.iload_n 2, 1) := op_28 (rdSeg sd_23_cX6_work_4 27 rfl rfl)
theorem dX6_work_156 : decode cX6_work 156 = .ok (.iconst 0, 1) := op_3 (rdSeg sd_23_cX6_work_4 28 rfl rfl)
theorem dX6_work_157 : decode cX6_work 157 = .ok (.iload_n 3, 1) := op_29 (rdSeg sd_23_cX6_work_4 29 rfl rfl)
theorem dX6_work_158 : decode cX6_work 158 = .ok (.iload 4, 2) := op_21 (rdSeg sd_23_cX6_work_4 30 rfl rfl) (rdSeg sd_23_cX6_work_4 31 rfl rfl)
theorem dX6_work_160 : decode cX6_work 160 = .ok (.invokevirtual 37, 3) := op_182 (rdSeg sd_23_cX6_work_5 0 rfl rfl) (rdSeg sd_23_cX6_work_5 1 rfl rfl) (rdSeg sd_23_cX6_work_5 2 rfl rfl) rfl
theorem dX6_work_163 : decode cX6_work 163 = .ok (.iconst 4, 1) := op_7 (rdSeg sd_23_cX6_work_5 3 rfl rfl)
theorem dX6_work_164 : decode cX6_work 164 = .ok (.isub, 1) := op_100 (rdSeg sd_23_cX6_work_5 4 rfl rfl)
theorem dX6_work_165 : decode cX6_work 165 = .ok (.ireturn, 1) := op_172 (rdSeg sd_23_cX6_work_5 5 rfl rfl)
theorem dX6_work_166 : decode cX6_work 166 = .ok (.aload_n 0, 1) := op_42 (rdSeg sd_23_cX6_work_5 6 rfl rfl)
theorem dX6_work_167 : decode cX6_work 167 = .ok (.iload_n 2, 1) := op_28 (rdSeg sd_23_cX6_work_5 7 rfl rfl)
theorem dX6_work_168 : decode cX6_work 168 = .ok (.iconst 3, 1) := op_6 (rdSeg sd_23_cX6_work_5 8 rfl rfl)
theorem dX6_work_169 : decode cX6_work 169 = .ok (.iload_n 3, 1) := op_29 (rdSeg sd_23_cX6_work_5 9 rfl rfl)
theorem dX6_work_170 : decode cX6_work 170 = .ok (.iload 4, 2) := op_21 (rdSeg sd_23_cX6_work_5 10 rfl rfl) (rdSeg sd_23_cX6_work_5 11 rfl rfl)
theorem dX6_work_172 : decode cX6_work 172 = .ok (.invokevirtual 37, 3) := op_182 (rdSeg sd_23_cX6_work_5 12 rfl rfl) (rdSeg sd_23_cX6_work_5 13 rfl rfl) (rdSeg sd_23_cX6_work_5 14 rfl rfl) rfl
theorem dX6_work_175 : decode cX6_work 175 = .ok (.aload_n 0, 1) := op_42 (rdSeg sd_23_cX6_work_5 15 rfl rfl)
theorem dX6_work_176 : decode cX6_work 176 = .ok (.iconst 1, 1) := op_4 (rdSeg sd_23_cX6_work_5 16 rfl rfl)
theorem dX6_work_177 : decode cX6_work 177 = .ok (.iconst 1, 1) := op_4 (rdSeg sd_23_cX6_work_5 17 rfl rfl)
theorem dX6_work_178 : decode cX6_work 178 = .ok (.iload 4, 2) := op_21 (rdSeg sd_23_cX6_work_5 18 rfl rfl) (rdSeg sd_23_cX6_work_5 19 rfl rfl)
theorem dX6_work_180 : decode cX6_work 180 = .ok (.invokevirtual 60, 3) := op_182 (rdSeg sd_23_cX6_work_5 20 rfl rfl) (rdSeg sd_23_cX6_work_5 21 rfl rfl) (rdSeg sd_23_cX6_work_5 22 rfl rfl) rfl
theorem dX6_work_183 : decode cX6_work 183 = .ok (.iadd, 1) := op_96 (rdSeg sd_23_cX6_work_5 23 rfl rfl)
theorem dX6_work_184 : decode cX6_work 184 = .ok (.ireturn, 1) := op_172 (rdSeg sd_23_cX6_work_5 24 rfl rfl)
theorem dX6_work_185 : decode cX6_work 185 = .ok (.iconst 0, 1) := op_3 (rdSeg sd_23_cX6_work_5 25 rfl rfl)
theorem dX6_work_186 : decode cX6_work 186 = .ok (.aload_n 0, 1) := op_42 (rdSeg sd_23_cX6_work_5 26 rfl rfl)
theorem dX6_work_187 : decode cX6_work 187 = .ok (.iload_n 2, 1) := op_28 (rdSeg sd_23_cX6_work_5 27 rfl rfl)
theorem dX6_work_188 : decode cX6_work 188 = .ok (.iconst 1, 1) := op_4 (rdSeg sd_23_cX6_work_5 28 rfl rfl)
theorem dX6_work_189 : decode cX6_work 189 = .ok (.iload_n 3, 1) := op_29 (rdSeg sd_23_cX6_work_5 29 rfl rfl)
theorem dX6_work_190 : decode cX6_work 190 = .ok (.iload 4, 2) := op_21 (rdSeg sd_23_cX6_work_5 30 rfl rfl) (rdSeg sd_23_cX6_work_5 31 rfl rfl)
theorem dX6_work_192 : decode cX6_work 192 = .ok (.invokevirtual 37, 3) := op_182 (rdSeg sd_23_cX6_work_6 0 rfl rfl) (rdSeg sd_23_cX6_work_6 1 rfl rfl) (rdSeg sd_23_cX6_work_6 2 rfl rfl) rfl
theorem dX6_work_195 : decode cX6_work 195 = .ok (.isub, 1) := op_100 (rdSeg sd_23_cX6_work_6 3 rfl rfl)
theorem dX6_work_196 : decode cX6_work 196 = .ok (.ireturn, 1) := op_172 (rdSeg sd_23_cX6_work_6 4 rfl rfl)
theorem dX6_work_197 : decode cX6_work 197 = .ok (.aload_n 0, 1) := op_42 (rdSeg sd_23_cX6_work_6 5 rfl rfl)
theorem dX6_work_198 : decode cX6_work 198 = .ok (.iload_n 2, 1) := op_28 (rdSeg sd_23_cX6_work_6 6 rfl rfl)
theorem dX6_work_199 : decode cX6_work 199 = .ok (.iconst 2, 1) := op_5 (rdSeg sd_23_cX6_work_6 7 rfl rfl)
theorem dX6_work_200 : decode cX6_work 200 = .ok (.iload_n 3, 1) := op_29 (rdSeg sd_23_cX6_work_6 8 rfl rfl)
theorem dX6_work_201 : decode cX6_work 201 = .ok (.iconst 2, 1) := op_5 (rdSeg sd_23_cX6_work_6 9 rfl rfl)
theorem dX6_work_202 : decode cX6_work 202 = .ok (.idiv, 1) := op_108 (rdSeg sd_23_cX6_work_6 10 rfl rfl)
theorem dX6_work_203 : decode cX6_work 203 = .ok (.iload 4, 2) := op_21 (rdSeg sd_23_cX6_work_6 11 rfl rfl) (rdSeg sd_23_cX6_work_6 12 rfl rfl)
theorem dX6_work_205 : decode cX6_work 205 = .ok (.invokevirtual 37, 3) := op_182 (rdSeg sd_23_cX6_work_6 13 rfl rfl) (rdSeg sd_23_cX6_work_6 14 rfl rfl) (rdSeg sd_23_cX6_work_6 15 rfl rfl) rfl
theorem dX6_work_208 : decode cX6_work 208 = .ok (.ireturn, 1) := op_172 (rdSeg sd_23_cX6_work_6 16 rfl rfl)
theorem dX6_work_209 : decode cX6_work 209 = .ok (.aload_n 0, 1) := op_42 (rdSeg sd_23_cX6_work_6 17 rfl rfl)
theorem dX6_work_210 : decode cX6_work 210 = .ok (.iload_n 2, 1) := op_28 (rdSeg sd_23_cX6_work_6 18 rfl rfl)
theorem dX6_work_211 : decode cX6_work 211 = .ok (.iconst 0, 1) := op_3 (rdSeg sd_23_cX6_work_6 19 rfl rfl)
theorem dX6_work_212 : decode cX6_work 212 = .ok (.iload_n 3, 1) := op_29 (rdSeg sd_23_cX6_work_6 20 rfl rfl)
theorem dX6_work_213 : decode cX6_work 213 = .ok (.iload 4, 2) := op_21 (rdSeg sd_23_cX6_work_6 21 rfl rfl) (rdSeg sd_23_cX6_work_6 22 rfl rfl)
theorem dX6_work_215 : decode cX6_work 215 = .ok (.invokevirtual 37, 3) := op_182 (rdSeg sd_23_cX6_work_6 23 rfl rfl) (rdSeg sd_23_cX6_work_6 24 rfl rfl) (rdSeg sd_23_cX6_work_6 25 rfl rfl) rfl
theorem dX6_work_218 : decode cX6_work 218 = .ok (.iconst 3, 1) := op_6 (rdSeg sd_23_cX6_work_6 26 rfl rfl)
theorem dX6_work_219 : decode cX6_work 219 = .ok (.imul, 1) := op_104 (rdSeg sd_23_cX6_work_6 27 rfl rfl)
theorem dX6_work_220 : decode cX6_work 220 = .ok (.ireturn, 1) := op_172 (rdSeg sd_23_cX6_work_6 28 rfl rfl)
theorem dX6_work_221 : decode cX6_work 221 = .ok (.aload_n 0, 1) := op_42 (rdSeg sd_23_cX6_work_6 29 rfl rfl)
theorem dX6_work_222 : decode cX6_work 222 = .ok (.iload_n 2, 1) := op_28 (rdSeg sd_23_cX6_work_6 30 rfl rfl)
theorem dX6_work_223 : decode cX6_work 223 = .ok (.iconst 2, 1) := op_5 (rdSeg sd_23_cX6_work_6 31 rfl rfl)
theorem dX6_work_224 : decode cX6_work 224 = .ok (.iload_n 3, 1) := op_29 (rdSeg sd_23_cX6_work_7 0 rfl rfl)
theorem dX6_work_225 : decode cX6_work 225 = .ok (.iload 4, 2) := op_21 (rdSeg sd_23_cX6_work_7 1 rfl rfl) (rdSeg sd_23_cX6_work_7 2 rfl rfl)
theorem dX6_work_227 : decode cX6_work 227 = .ok (.invokevirtual 37, 3) := op_182 (rdSeg sd_23_cX6_work_7 3 rfl rfl) (rdSeg sd_23_cX6_work_7 4 rfl rfl) (rdSeg sd_23_cX6_work_7 5 rfl rfl) rfl
theorem dX6_work_230 : decode cX6_work 230 = .ok (.aload_n 0, 1) := op_42 (rdSeg sd_23_cX6_work_7 6 rfl rfl)
theorem dX6_work_231 : decode cX6_work 231 = .ok (.getfield 27, 3) := op_180 (rdSeg sd_23_cX6_work_7 7 rfl rfl) (rdSeg sd_23_cX6_work_7 8 rfl rfl) (rdSeg sd_23_cX6_work_7 9 rfl rfl) rfl
theorem dX6_work_234 : decode cX6_work 234 = .ok (.ixor, 1) := op_130 (rdSeg sd_23_cX6_work_7 10 rfl rfl)
theorem dX6_work_235 : decode cX6_work 235 = .ok (.ireturn, 1) := op_172 (rdSeg sd_23_cX6_work_7 11 rfl rfl)
theorem dX6_work_236 : decode cX6_work 236 = .ok (.aload_n 0, 1) := op_42 (rdSeg sd_23_cX6_work_7 12 rfl rfl)
theorem dX6_work_237 : decode cX6_work 237 = .ok (.iload_n 2, 1) := op_28 (rdSeg sd_23_cX6_work_7 13 rfl rfl)
theorem dX6_work_238 : decode cX6_work 238 = .ok (.iconst 1, 1) := op_4 (rdSeg sd_23_cX6_work_7 14 rfl rfl)
theorem dX6_work_239 : decode cX6_work 239 = .ok (.iload_n 3, 1) := op_29 (rdSeg sd_23_cX6_work_7 15 rfl rfl)
theorem dX6_work_240 : decode cX6_work 240 = .ok (.iconst 1, 1) := op_4 (rdSeg sd_23_cX6_work_7 16 rfl rfl)
theorem dX6_work_241 : decode cX6_work 241 = .ok (.iadd, 1) := op_96 (rdSeg sd_23_cX6_work_7 17 rfl rfl)
theorem dX6_work_242 : decode cX6_work 242 = .ok (.iload 4, 2) := op_21 (rdSeg sd_23_cX6_work_7 18 rfl rfl) (rdSeg sd_23_cX6_work_7 19 rfl rfl)
theorem dX6_work_244 : decode cX6_work 244 = .ok (.invokevirtual 37, 3) := op_182 (rdSeg sd_23_cX6_work_7 20 rfl rfl) (rdSeg sd_23_cX6_work_7 21 rfl rfl) (rdSeg sd_23_cX6_work_7 22 rfl rfl) rfl
theorem dX6_work_247 : decode cX6_work 247 = .ok (.ireturn, 1) := op_172 (rdSeg sd_23_cX6_work_7 23 rfl rfl)
theorem dX6_work_248 : decode cX6_work 248 = .ok (.bipush 6, 2) := op_16 (rdSeg sd_23_cX6_work_7 24 rfl rfl) (rdSeg sd_23_cX6_work_7 25 rfl rfl) (by decide +kernel)
theorem dX6_work_250 : decode cX6_work 250 = .ok (.ireturn, 1) := op_172 (rdSeg sd_23_cX6_work_7 26 rfl rfl)
theorem dX6_work_251 : decode cX6_work 251 = .ok (.aload_n 0, 1) := op_42 (rdSeg sd_23_cX6_work_7 27 rfl rfl)
theorem dX6_work_252 : decode cX6_work 252 = .ok (.iload_n 2, 1) := op_28 (rdSeg sd_23_cX6_work_7 28 rfl rfl)
theorem dX6_work_253 : decode cX6_work 253 = .ok (.iconst 1, 1) := op_4 (rdSeg sd_23_cX6_work_7 29 rfl rfl)
theorem dX6_work_254 : decode cX6_work 254 = .ok (.iload_n 3, 1) := op_29 (rdSeg sd_23_cX6_work_7 30 rfl rfl)
theorem dX6_work_255 : decode cX6_work 255 = .ok (.iload 4, 2) := op_21 (rdSeg sd_23_cX6_work_7 31 rfl rfl) (rdSeg sd_23_cX6_work_8 0 rfl rfl)
theorem dX6_work_257 : decode cX6_work 257 = .ok (.invokevirtual 37, 3) := op_182 (rdSeg sd_23_cX6_work_8 1 rfl rfl) (rdSeg sd_23_cX6_work_8 2 rfl rfl) (rdSeg sd_23_cX6_work_8 3 rfl rfl) rfl
theorem dX6_work_260 : decode cX6_work 260 = .ok (.aload_n 0, 1) := op_42 (rdSeg sd_23_cX6_work_8 4 rfl rfl)
theorem dX6_work_261 : decode cX6_work 261 = .ok (.getfield 30, 3) := op_180 (rdSeg sd_23_cX6_work_8 5 rfl rfl) (rdSeg sd_23_cX6_work_8 6 rfl rfl) (rdSeg sd_23_cX6_work_8 7 rfl rfl) rfl
theorem dX6_work_264 : decode cX6_work 264 = .ok (.iadd, 1) := op_96 (rdSeg sd_23_cX6_work_8 8 rfl rfl)
theorem dX6_work_265 : decode cX6_work 265 = .ok (.ireturn, 1) := op_172 (rdSeg sd_23_cX6_work_8 9 rfl rfl)
theorem dX6_work_266 : decode cX6_work 266 = .ok (.iconst 0, 1) := op_3 (rdSeg sd_23_cX6_work_8 10 rfl rfl)
theorem dX6_work_267 : decode cX6_work 267 = .ok (.ireturn, 1) := op_172 (rdSeg sd_23_cX6_work_8 11 rfl rfl)
def sg_23_cX6_part_0 : List UInt8 := [0x2a, 0xb4, 0x00, 0x1e, 0x2a, 0xb4, 0x00, 0x1b, 0x64, 0x3d, 0x1c, 0x9a, 0x00, 0x0a, 0x2a, 0x04, 0xb5, 0x00, 0x21, 0x03, 0xac, 0x1b, 0x1c, 0x6c, 0xac]
set_option maxRecDepth 100000 in
theorem sd_23_cX6_part_0 : cX6_part.data.toList.drop 0 = sg_23_cX6_part_0 := by decide +kernel
theorem dX6_part_0 : decode cX6_part 0 = .ok (.aload_n 0, 1) := op_42 (rdSeg sd_23_cX6_part_0 0 rfl rfl)
theorem dX6_part_1 : decode cX6_part 1 = .ok (.getfield 30, 3) := op_180 (rdSeg sd_23_cX6_part_0 1 rfl rfl) (rdSeg sd_23_cX6_part_0 2 rfl rfl) (rdSeg sd_23_cX6_part_0 3 rfl rfl) rfl
theorem dX6_part_4 : decode cX6_part 4 = .ok (.aload_n 0, 1) := op_42 (rdSeg sd_23_cX6_part_0 4 rfl rfl)
theorem dX6_part_5 : decode cX6_part 5 = .ok (.getfield 27, 3) := op_180 (rdSeg sd_23_cX6_part_0 5 rfl rfl) (rdSeg sd_23_cX6_part_0 6 rfl rfl) (rdSeg sd_23_cX6_part_0 7 rfl rfl) rfl
theorem dX6_part_8 : decode cX6_part 8 = .ok (.isub, 1) := op_100 (rdSeg sd_23_cX6_part_0 8 rfl rfl)
theorem dX6_part_9 : decode cX6_part 9 = .ok (.istore_n 2, 1) := op_61 (rdSeg sd_23_cX6_part_0 9 rfl rfl)
theorem dX6_part_10 : decode cX6_part 10 = .ok (.iload_n 2, 1) := op_28 (rdSeg sd_23_cX6_part_0 10 rfl rfl)
theorem dX6_part_11 : decode cX6_part 11 = .ok (.ifCond .ne 10, 3) := op_154 (rdSeg sd_23_cX6_part_0 11 rfl rfl) (rdSeg sd_23_cX6_part_0 12 rfl rfl) (rdSeg sd_23_cX6_part_0 13 rfl rfl) (by decide +kernel)
theorem dX6_part_14 : decode cX6_part 14 = .ok (.aload_n 0, 1) := op_42 (rdSeg sd_23_cX6_part_0 14 rfl rfl)
theorem dX6_part_15 : decode cX6_part 15 = .ok (.iconst 1, 1) := op_4 (rdSeg sd_23_cX6_part_0 15 rfl rfl)
theorem dX6_part_16 : decode cX6_part 16 = .ok (.putfield 33, 3) := op_181 (rdSeg sd_23_cX6_part_0 16 rfl rfl) (rdSeg sd_23_cX6_part_0 17 rfl rfl) (rdSeg sd_23_cX6_part_0 18 rfl rfl) rfl
theorem dX6_part_19 : decode cX6_part 19 = .ok (.iconst 0, 1) := op_3 (rdSeg sd_23_cX6_part_0 19 rfl rfl)
theorem dX6_part_20 : decode cX6_part 20 = .ok (.ireturn, 1) := op_172 (rdSeg sd_23_cX6_part_0 20 rfl rfl)
theorem dX6_part_21 : decode cX6_part 21 = .ok (.iload_n 1, 1) := op_27 (rdSeg sd_23_cX6_part_0 21 rfl rfl)
theorem dX6_part_22 : decode cX6_part 22 = .ok (.iload_n 2, 1) := op_28 (rdSeg sd_23_cX6_part_0 22 rfl rfl)
theorem dX6_part_23 : decode cX6_part 23 = .ok (.idiv, 1) := op_108 (rdSeg sd_23_cX6_part_0 23 rfl rfl)
theorem dX6_part_24 : decode cX6_part 24 = .ok (.ireturn, 1) := op_172 (rdSeg sd_23_cX6_part_0 24 rfl rfl)
def sg_23_cX7_init_0 : List UInt8 := [0x2a, 0xb7, 0x00, 0x03, 0x2a, 0x10, 0x3c, 0xbc, 0x0a, 0xb5, 0x00, 0x09, 0xb1]
set_option maxRecDepth 100000 in
theorem sd_23_cX7_init_0 : cX7_init.data.toList.drop 0 = sg_23_cX7_init_0 := by decide +kernel
theorem dX7_init_0 : decode cX7_init 0 = .ok (.aload_n 0, 1) := op_42 (rdSeg sd_23_cX7_init_0 0 rfl rfl)
theorem dX7_init_1 : decode cX7_init 1 = .ok (.invokespecial 3, 3) := op_183 (rdSeg sd_23_cX7_init_0 1 rfl rfl) (rdSeg sd_23_cX7_init_0 2 rfl rfl) (rdSeg sd_23_cX7_init_0 3 rfl rfl) rfl
theorem dX7_init_4 : decode cX7_init 4 = .ok (.aload_n 0, 1) := op_42 (rdSeg sd_23_cX7_init_0 4 rfl rfl)
theorem dX7_init_5 : decode cX7_init 5 = .ok (.bipush 60, 2) := op_16 (rdSeg sd_23_cX7_init_0 5 rfl rfl) (rdSeg sd_23_cX7_init_0 6 rfl rfl) (by decide +kernel)
theorem dX7_init_7 : decode cX7_init 7 = .ok (.newarray .int, 2) := by decide +kernel
theorem dX7_init_9 : decode cX7_init 9 = .ok (.putfield 9, 3) := op_181 (rdSeg sd_23_cX7_init_0 9 rfl rfl) (rdSeg sd_23_cX7_init_0 10 rfl rfl) (rdSeg sd_23_cX7_init_0 11 rfl rfl) rfl
theorem dX7_init_12 : decode cX7_init 12 = .ok (.return_, 1) := op_177 (rdSeg sd_23_cX7_init_0 12 rfl rfl)
def sg_23_cX7_value_4 : List UInt8 := [0x1d, 0x84, 0x05, 0x01, 0xa7, 0xff, 0x84, 0x2a, 0xb6, 0x00, 0x21, 0xac]
def sg_23_cX7_value_3 : List UInt8 := 0x03 :: 0xb6 :: 0x00 :: 0x1d :: 0xa7 :: 0x00 :: 0x1d :: 0x2a :: 0xb6 :: 0x00 :: 0x21 :: 0x36 :: 0x07 :: 0x2a :: 0xb6 :: 0x00 :: 0x21 :: 0x36 :: 0x08 :: 0x2a :: 0x15 :: 0x06 :: 0x74 :: 0x15 :: 0x08 :: 0x15 :: 0x07 :: 0xb8 :: 0x00 :: 0x24 :: 0xb6 :: 0x00 :: sg_23_cX7_value_4
def sg_23_cX7_value_2 : List UInt8 := 0x07 :: 0x1d :: 0xa7 :: 0x00 :: 0x05 :: 0x15 :: 0x04 :: 0xb6 :: 0x00 :: 0x1d :: 0xa7 :: 0x00 :: 0x37 :: 0x15 :: 0x06 :: 0x10 :: 0xdf :: 0xa0 :: 0x00 :: 0x16 :: 0x2a :: 0x2a :: 0xb6 :: 0x00 :: 0x21 :: 0x9a :: 0x00 :: 0x07 :: 0x04 :: 0xa7 :: 0x00 :: 0x04 :: sg_23_cX7_value_3
def sg_23_cX7_value_1 : List UInt8 := 0x15 :: 0x06 :: 0xb6 :: 0x00 :: 0x1d :: 0xa7 :: 0x00 :: 0x5c :: 0x15 :: 0x06 :: 0x10 :: 0xfd :: 0xa1 :: 0x00 :: 0x21 :: 0x2a :: 0x15 :: 0x06 :: 0x02 :: 0xa0 :: 0x00 :: 0x07 :: 0x1c :: 0xa7 :: 0x00 :: 0x10 :: 0x15 :: 0x06 :: 0x10 :: 0xfe :: 0xa0 :: 0x00 :: sg_23_cX7_value_2
def sg_23_cX7_value_0 : List UInt8 := 0x2a :: 0x03 :: 0xb5 :: 0x00 :: 0x0f :: 0x03 :: 0x36 :: 0x05 :: 0x15 :: 0x05 :: 0x2b :: 0xb6 :: 0x00 :: 0x13 :: 0xa2 :: 0x00 :: 0x79 :: 0x2b :: 0x15 :: 0x05 :: 0x03 :: 0xb6 :: 0x00 :: 0x19 :: 0x36 :: 0x06 :: 0x15 :: 0x06 :: 0x9b :: 0x00 :: 0x0c :: 0x2a :: sg_23_cX7_value_1
set_option maxRecDepth 100000 in
theorem sd_23_cX7_value_0 : cX7_value.data.toList.drop 0 = sg_23_cX7_value_0 := by decide +kernel
theorem sd_23_cX7_value_1 : cX7_value.data.toList.drop 32 = sg_23_cX7_value_1 := sg_next sd_23_cX7_value_0 rfl
theorem sd_23_cX7_value_2 : cX7_value.data.toList.drop 64 = sg_23_cX7_value_2 := sg_next sd_23_cX7_value_1 rfl
theorem sd_23_cX7_value_3 : cX7_value.data.toList.drop 96 = sg_23_cX7_value_3 := sg_next sd_23_cX7_value_2 rfl
theorem sd_23_cX7_value_4 : cX7_value.data.toList.drop 128 = sg_23_cX7_value_4 := sg_next sd_23_cX7_value_3 rfl
theorem dX7_value_0 : decode cX7_value 0 = .ok (.aload_n 0, 1) := op_42 (rdSeg sd_23_cX7_value_0 0 rfl rfl)
theorem dX7_value_1 : decode cX7_value 1 = .ok (.iconst 0, 1) := op_3 (rdSeg sd_23_cX7_value_0 1 rfl rfl)
theorem dX7_value_2 : decode cX7_value 2 = .ok (.putfield 15, 3) := op_181 (rdSeg sd_23_cX7_value_0 2 rfl rfl) (rdSeg sd_23_cX7_value_0 3 rfl rfl) (rdSeg sd_23_cX7_value_0 4 rfl rfl) rfl
theorem dX7_value_5 : decode cX7_value 5 = .ok (.iconst 0, 1) := op_3 (rdSeg sd_23_cX7_value_0 5 rfl rfl)
theorem dX7_value_6 : decode cX7_value 6 = .ok (.istore 5, 2) := op_54 (rdSeg sd_23_cX7_value_0 6 rfl rfl) (rdSeg sd_23_cX7_value_0 7 rfl rfl)
theorem dX7_value_8 : decode cX7_value 8 = .ok (.iload 5, 2) := op_21 (rdSeg sd_23_cX7_value_0 8 rfl rfl) (rdSeg sd_23_cX7_value_0 9 rfl rfl)
theorem dX7_value_10 : decode cX7_value 10 = .ok (.aload_n 1, 1) := op_43 (rdSeg sd_23_cX7_value_0 10 rfl rfl)
theorem dX7_value_11 : decode cX7_value 11 = .ok (.invokevirtual 19, 3) := op_182 (rdSeg sd_23_cX7_value_0 11 rfl rfl) (rdSeg sd_23_cX7_value_0 12 rfl rfl) (rdSeg sd_23_cX7_value_0 13 rfl rfl) rfl
theorem dX7_value_14 : decode cX7_value 14 = .ok (.if_icmp .ge 121, 3) := op_162 (rdSeg sd_23_cX7_value_0 14 rfl rfl) (rdSeg sd_23_cX7_value_0 15 rfl rfl) (rdSeg sd_23_cX7_value_0 16 rfl rfl) (by decide +kernel)
theorem dX7_value_17 : decode cX7_value 17 = .ok (.aload_n 1, 1) := op_43 (rdSeg sd_23_cX7_value_0 17 rfl rfl)
theorem dX7_value_18 : decode cX7_value 18 = .ok (.iload 5, 2) := op_21 (rdSeg sd_23_cX7_value_0 18 rfl rfl) (rdSeg sd_23_cX7_value_0 19 rfl rfl)
theorem dX7_value_20 : decode cX7_value 20 = .ok (.iconst 0, 1) := op_3 (rdSeg sd_23_cX7_value_0 20 rfl rfl)
theorem dX7_value_21 : decode cX7_value 21 = .ok (.invokevirtual 25, 3) := op_182 (rdSeg sd_23_cX7_value_0 21 rfl rfl) (rdSeg sd_23_cX7_value_0 22 rfl rfl) (rdSeg sd_23_cX7_value_0 23 rfl rfl) rfl
theorem dX7_value_24 : decode cX7_value 24 = .ok (.istore 6, 2) := op_54 (rdSeg sd_23_cX7_value_0 24 rfl rfl) (rdSeg sd_23_cX7_value_0 25 rfl rfl)
theorem dX7_value_26 : decode cX7_value 26 = .ok (.iload 6, 2) := op_21 (rdSeg sd_23_cX7_value_0 26 rfl rfl) (rdSeg sd_23_cX7_value_0 27 rfl rfl)
theorem dX7_value_28 : decode cX7_value 28 = .ok (.ifCond .lt 12, 3) := op_155 (rdSeg sd_23_cX7_value_0 28 rfl rfl) (rdSeg sd_23_cX7_value_0 29 rfl rfl) (rdSeg sd_23_cX7_value_0 30 rfl rfl) (by decide +kernel)
theorem dX7_value_31 : decode cX7_value 31 = .ok (.aload_n 0, 1) := op_42 (rdSeg sd_23_cX7_value_0 31 rfl rfl)
theorem dX7_value_32 : decode cX7_value 32 = .ok (.iload 6, 2) := op_21 (rdSeg sd_23_cX7_value_1 0 rfl rfl) (rdSeg sd_23_cX7_value_1 1 rfl rfl)
theorem dX7_value_34 : decode cX7_value 34 = .ok (.invokevirtual 29, 3) := op_182 (rdSeg sd_23_cX7_value_1 2 rfl rfl) (rdSeg sd_23_cX7_value_1 3 rfl rfl) (rdSeg sd_23_cX7_value_1 4 rfl rfl) rfl
theorem dX7_value_37 : decode cX7_value 37 = .ok (.goto 92, 3) := op_167 (rdSeg sd_23_cX7_value_1 5 rfl rfl) (rdSeg sd_23_cX7_value_1 6 rfl rfl) (rdSeg sd_23_cX7_value_1 7 rfl rfl) (by decide +kernel)
theorem dX7_value_40 : decode cX7_value 40 = .ok (.iload 6, 2) := op_21 (rdSeg sd_23_cX7_value_1 8 rfl rfl) (rdSeg sd_23_cX7_value_1 9 rfl rfl)
theorem dX7_value_42 : decode cX7_value 42 = .ok (.bipush (-3), 2) := op_16 (rdSeg sd_23_cX7_value_1 10 rfl rfl) (rdSeg sd_23_cX7_value_1 11 rfl rfl) (by decide +kernel)
theorem dX7_value_44 : decode cX7_value 44 = .ok (.if_icmp .lt 33, 3) := op_161 (rdSeg sd_23_cX7_value_1 12 rfl rfl) (rdSeg sd_23_cX7_value_1 13 rfl rfl) (rdSeg sd_23_cX7_value_1 14 rfl rfl) (by decide +kernel)
theorem dX7_value_47 : decode cX7_value 47 = .ok (.aload_n 0, 1) := op_42 (rdSeg sd_23_cX7_value_1 15 rfl rfl)
theorem dX7_value_48 : decode cX7_value 48 = .ok (.iload 6, 2) := op_21 (rdSeg sd_23_cX7_value_1 16 rfl rfl) (rdSeg sd_23_cX7_value_1 17 rfl rfl)
theorem dX7_value_50 : decode cX7_value 50 = .ok (.iconst (-1), 1) := op_2 (rdSeg sd_23_cX7_value_1 18 rfl rfl)
theorem dX7_value_51 : decode cX7_value 51 = .ok (.if_icmp .ne 7, 3) := op_160 (rdSeg sd_23_cX7_value_1 19 rfl rfl) (rdSeg sd_23_cX7_value_1 20 rfl rfl) (rdSeg sd_23_cX7_value_1 21 rfl rfl) (by decide +kernel)
theorem dX7_value_54 : decode cX7_value 54 = .ok (.iload_n 2, 1) := op_28 (rdSeg sd_23_cX7_value_1 22 rfl rfl)
theorem dX7_value_55 : decode cX7_value 55 = .ok (.goto 16, 3) := op_167 (rdSeg sd_23_cX7_value_1 23 rfl rfl) (rdSeg sd_23_cX7_value_1 24 rfl rfl) (rdSeg sd_23_cX7_value_1 25 rfl rfl) (by decide +kernel)
theorem dX7_value_58 : decode cX7_value 58 = .ok (.iload 6, 2) := op_21 (rdSeg sd_23_cX7_value_1 26 rfl rfl) (rdSeg sd_23_cX7_value_1 27 rfl rfl)
theorem dX7_value_60 : decode cX7_value 60 = .ok (.bipush (-2), 2) := op_16 (rdSeg sd_23_cX7_value_1 28 rfl rfl) (rdSeg sd_23_cX7_value_1 29 rfl rfl) (by decide +kernel)
theorem dX7_value_62 : decode cX7_value 62 = .ok (.if_icmp .ne 7, 3) := op_160 (rdSeg sd_23_cX7_value_1 30 rfl rfl) (rdSeg sd_23_cX7_value_1 31 rfl rfl) (rdSeg sd_23_cX7_value_2 0 rfl rfl) (by decide +kernel)
theorem dX7_value_65 : decode cX7_value 65 = .ok (.iload_n 3, 1) := op_29 (rdSeg sd_23_cX7_value_2 1 rfl rfl)
theorem dX7_value_66 : decode cX7_value 66 = .ok (.goto 5, 3) := op_167 (rdSeg sd_23_cX7_value_2 2 rfl rfl) (rdSeg sd_23_cX7_value_2 3 rfl rfl) (rdSeg sd_23_cX7_value_2 4 rfl rfl) (by decide +kernel)
theorem dX7_value_69 : decode cX7_value 69 = .ok (.iload 4, 2) := op_21 (rdSeg sd_23_cX7_value_2 5 rfl rfl) (rdSeg sd_23_cX7_value_2 6 rfl rfl)
theorem dX7_value_71 : decode cX7_value 71 = .ok (.invokevirtual 29, 3) := op_182 (rdSeg sd_23_cX7_value_2 7 rfl rfl) (rdSeg sd_23_cX7_value_2 8 rfl rfl) (rdSeg sd_23_cX7_value_2 9 rfl rfl) rfl
theorem dX7_value_74 : decode cX7_value 74 = .ok (.goto 55, 3) := op_167 (rdSeg sd_23_cX7_value_2 10 rfl rfl) (rdSeg sd_23_cX7_value_2 11 rfl rfl) (rdSeg sd_23_cX7_value_2 12 rfl rfl) (by decide +kernel)
theorem dX7_value_77 : decode cX7_value 77 = .ok (.iload 6, 2) := op_21 (rdSeg sd_23_cX7_value_2 13 rfl rfl) (rdSeg sd_23_cX7_value_2 14 rfl rfl)
theorem dX7_value_79 : decode cX7_value 79 = .ok (.bipush (-33), 2) := op_16 (rdSeg sd_23_cX7_value_2 15 rfl rfl) (rdSeg sd_23_cX7_value_2 16 rfl rfl) (by decide +kernel)
theorem dX7_value_81 : decode cX7_value 81 = .ok (.if_icmp .ne 22, 3) := op_160 (rdSeg sd_23_cX7_value_2 17 rfl rfl) (rdSeg sd_23_cX7_value_2 18 rfl rfl) (rdSeg sd_23_cX7_value_2 19 rfl rfl) (by decide +kernel)
theorem dX7_value_84 : decode cX7_value 84 = .ok (.aload_n 0, 1) := op_42 (rdSeg sd_23_cX7_value_2 20 rfl rfl)
theorem dX7_value_85 : decode cX7_value 85 = .ok (.aload_n 0, 1) := op_42 (rdSeg sd_23_cX7_value_2 21 rfl rfl)
theorem dX7_value_86 : decode cX7_value 86 = .ok (.invokevirtual 33, 3) := op_182 (rdSeg sd_23_cX7_value_2 22 rfl rfl) (rdSeg sd_23_cX7_value_2 23 rfl rfl) (rdSeg sd_23_cX7_value_2 24 rfl rfl) rfl
theorem dX7_value_89 : decode cX7_value 89 = .ok (.ifCond .ne 7, 3) := op_154 (rdSeg sd_23_cX7_value_2 25 rfl rfl) (rdSeg sd_23_cX7_value_2 26 rfl rfl) (rdSeg sd_23_cX7_value_2 27 rfl rfl) (by decide +kernel)
theorem dX7_value_92 : decode cX7_value 92 = .ok (.iconst 1, 1) := op_4 (rdSeg sd_23_cX7_value_2 28 rfl rfl)
theorem dX7_value_93 : decode cX7_value 93 = .ok (.goto 4, 3) := op_167 (rdSeg sd_23_cX7_value_2 29 rfl rfl) (rdSeg sd_23_cX7_value_2 30 rfl rfl) (rdSeg sd_23_cX7_value_2 31 rfl rfl) (by decide +kernel)
theorem dX7_value_96 : decode cX7_value 96 = .ok (.iconst 0, 1) := op_3 (rdSeg sd_23_cX7_value_3 0 rfl rfl)
theorem dX7_value_97 : decode cX7_value 97 = .ok (.invokevirtual 29, 3) := op_182 (rdSeg sd_23_cX7_value_3 1 rfl rfl) (rdSeg sd_23_cX7_value_3 2 rfl rfl) (rdSeg sd_23_cX7_value_3 3 rfl rfl) rfl
theorem dX7_value_100 : decode cX7_value 100 = .ok (.goto 29, 3) := op_167 (rdSeg sd_23_cX7_value_3 4 rfl rfl) (rdSeg sd_23_cX7_value_3 5 rfl rfl) (rdSeg sd_23_cX7_value_3 6 rfl rfl) (by decide +kernel)
theorem dX7_value_103 : decode cX7_value 103 = .ok (.aload_n 0, 1) := op_42 (rdSeg sd_23_cX7_value_3 7 rfl rfl)
theorem dX7_value_104 : decode cX7_value 104 = .ok (.invokevirtual 33, 3) := op_182 (rdSeg sd_23_cX7_value_3 8 rfl rfl) (rdSeg sd_23_cX7_value_3 9 rfl rfl) (rdSeg sd_23_cX7_value_3 10 rfl rfl) rfl
theorem dX7_value_107 : decode cX7_value 107 = .ok (.istore 7, 2) := op_54 (rdSeg sd_23_cX7_value_3 11 rfl rfl) (rdSeg sd_23_cX7_value_3 12 rfl rfl)
theorem dX7_value_109 : decode cX7_value 109 = .ok (.aload_n 0, 1) := op_42 (rdSeg sd_23_cX7_value_3 13 rfl rfl)
theorem dX7_value_110 : decode cX7_value 110 = .ok (.invokevirtual 33, 3) := op_182 (rdSeg sd_23_cX7_value_3 14 rfl rfl) (rdSeg sd_23_cX7_value_3 15 rfl rfl) (rdSeg sd_23_cX7_value_3 16 rfl rfl) rfl
theorem dX7_value_113 : decode cX7_value 113 = .ok (.istore 8, 2) := op_54 (rdSeg sd_23_cX7_value_3 17 rfl rfl) (rdSeg sd_23_cX7_value_3 18 rfl rfl)
theorem dX7_value_115 : decode cX7_value 115 = .ok (.aload_n 0, 1) := op_42 (rdSeg sd_23_cX7_value_3 19 rfl rfl)
theorem dX7_value_116 : decode cX7_value 116 = .ok (.iload 6, 2) := op_21 (rdSeg sd_23_cX7_value_3 20 rfl rfl) (rdSeg sd_23_cX7_value_3 21 rfl rfl)
theorem dX7_value_118 : decode cX7_value 118 = .ok (.ineg, 1) := op_116 (rdSeg sd_23_cX7_value_3 22 rfl rfl)
theorem dX7_value_119 : decode cX7_value 119 = .ok (.iload 8, 2) := op_21 (rdSeg sd_23_cX7_value_3 23 rfl rfl) (rdSeg sd_23_cX7_value_3 24 rfl rfl)
theorem dX7_value_121 : decode cX7_value 121 = .ok (.iload 7, 2) := op_21 (rdSeg sd_23_cX7_value_3 25 rfl rfl) (rdSeg sd_23_cX7_value_3 26 rfl rfl)
theorem dX7_value_123 : decode cX7_value 123 = .ok (.invokestatic 36, 3) := op_184 (rdSeg sd_23_cX7_value_3 27 rfl rfl) (rdSeg sd_23_cX7_value_3 28 rfl rfl) (rdSeg sd_23_cX7_value_3 29 rfl rfl) rfl
theorem dX7_value_126 : decode cX7_value 126 = .ok (.invokevirtual 29, 3) := op_182 (rdSeg sd_23_cX7_value_3 30 rfl rfl) (rdSeg sd_23_cX7_value_3 31 rfl rfl) (rdSeg sd_23_cX7_value_4 0 rfl rfl) rfl
theorem dX7_value_129 : decode cX7_value 129 = .ok (.iinc 5 1, 3) := op_132 (rdSeg sd_23_cX7_value_4 1 rfl rfl) (rdSeg sd_23_cX7_value_4 2 rfl rfl) (rdSeg sd_23_cX7_value_4 3 rfl rfl) (by decide +kernel)
theorem dX7_value_132 : decode cX7_value 132 = .ok (.goto (-124), 3) := op_167 (rdSeg sd_23_cX7_value_4 4 rfl rfl) (rdSeg sd_23_cX7_value_4 5 rfl rfl) (rdSeg sd_23_cX7_value_4 6 rfl rfl) (by decide +kernel)
theorem dX7_value_135 : decode cX7_value 135 = .ok (.aload_n 0, 1) := op_42 (rdSeg sd_23_cX7_value_4 7 rfl rfl)
theorem dX7_value_136 : decode cX7_value 136 = .ok (.invokevirtual 33, 3) := op_182 (rdSeg sd_23_cX7_value_4 8 rfl rfl) (rdSeg sd_23_cX7_value_4 9 rfl rfl) (rdSeg sd_23_cX7_value_4 10 rfl rfl) rfl
theorem dX7_value_139 : decode cX7_value 139 = .ok (.ireturn, 1) := op_172 (rdSeg sd_23_cX7_value_4 11 rfl rfl)
def sg_23_cX7_push_1 : List UInt8 := [0x00, 0x0f, 0x04, 0x60, 0xb5, 0x00, 0x0f, 0xb1]
def sg_23_cX7_push_0 : List UInt8 := 0x2a :: 0xb4 :: 0x00 :: 0x0f :: 0x9b :: 0x00 :: 0x23 :: 0x2a :: 0xb4 :: 0x00 :: 0x0f :: 0x2a :: 0xb4 :: 0x00 :: 0x09 :: 0xbe :: 0xa2 :: 0x00 :: 0x17 :: 0x2a :: 0xb4 :: 0x00 :: 0x09 :: 0x2a :: 0xb4 :: 0x00 :: 0x0f :: 0x1b :: 0x4f :: 0x2a :: 0x59 :: 0xb4 :: sg_23_cX7_push_1
set_option maxRecDepth 100000 in
theorem sd_23_cX7_push_0 : cX7_push.data.toList.drop 0 = sg_23_cX7_push_0 := by decide +kernel
theorem sd_23_cX7_push_1 : cX7_push.data.toList.drop 32 = sg_23_cX7_push_1 := sg_next sd_23_cX7_push_0 rfl
theorem dX7_push_0 : decode cX7_push 0 = .ok (.aload_n 0, 1) := op_42 (rdSeg sd_23_cX7_push_0 0 rfl rfl)
theorem dX7_push_1 : decode cX7_push 1 = .ok (.getfield 15, 3) := op_180 (rdSeg sd_23_cX7_push_0 1 rfl rfl) (rdSeg sd_23_cX7_push_0 2 rfl rfl) (rdSeg sd_23_cX7_push_0 3 rfl rfl) rfl
theorem dX7_push_4 : decode cX7_push 4 = .ok (.ifCond .lt 35, 3) := op_155 (rdSeg sd_23_cX7_push_0 4 rfl rfl) (rdSeg sd_23_cX7_push_0 5 rfl rfl) (rdSeg sd_23_cX7_push_0 6 rfl rfl) (by decide +kernel)
theorem dX7_push_7 : decode cX7_push 7 = .ok (.aload_n 0, 1) := op_42 (rdSeg sd_23_cX7_push_0 7 rfl rfl)
theorem dX7_push_8 : decode cX7_push 8 = .ok (.getfield 15, 3) := op_180 (rdSeg sd_23_cX7_push_0 8 rfl rfl) (rdSeg sd_23_cX7_push_0 9 rfl rfl) (rdSeg sd_23_cX7_push_0 10 rfl rfl) rfl
theorem dX7_push_11 : decode cX7_push 11 = .ok (.aload_n 0, 1) := op_42 (rdSeg sd_23_cX7_push_0 11 rfl rfl)
theorem dX7_push_12 : decode cX7_push 12 = .ok (.getfield 9, 3) := op_180 (rdSeg sd_23_cX7_push_0 12 rfl rfl) (rdSeg sd_23_cX7_push_0 13 rfl rfl) (rdSeg sd_23_cX7_push_0 14 rfl rfl) rfl
theorem dX7_push_15 : decode cX7_push 15 = .ok (.arraylength, 1) := op_190 (rdSeg sd_23_cX7_push_0 15 rfl rfl)
theorem dX7_push_16 : decode cX7_push 16 = .ok (.if_icmp .ge 23, 3) := op_162 (rdSeg sd_23_cX7_push_0 16 rfl rfl) (rdSeg sd_23_cX7_push_0 17 rfl rfl) (rdSeg sd_23_cX7_push_0 18 rfl rfl) (by decide +kernel)
theorem dX7_push_19 : decode cX7_push 19 = .ok (.aload_n 0, 1) := op_42 (rdSeg sd_23_cX7_push_0 19 rfl rfl)
theorem dX7_push_20 : decode cX7_push 20 = .ok (.getfield 9, 3) := op_180 (rdSeg sd_23_cX7_push_0 20 rfl rfl) (rdSeg sd_23_cX7_push_0 21 rfl rfl) (rdSeg sd_23_cX7_push_0 22 rfl rfl) rfl
theorem dX7_push_23 : decode cX7_push 23 = .ok (.aload_n 0, 1) := op_42 (rdSeg sd_23_cX7_push_0 23 rfl rfl)
theorem dX7_push_24 : decode cX7_push 24 = .ok (.getfield 15, 3) := op_180 (rdSeg sd_23_cX7_push_0 24 rfl rfl) (rdSeg sd_23_cX7_push_0 25 rfl rfl) (rdSeg sd_23_cX7_push_0 26 rfl rfl) rfl
theorem dX7_push_27 : decode cX7_push 27 = .ok (.iload_n 1, 1) := op_27 (rdSeg sd_23_cX7_push_0 27 rfl rfl)
theorem dX7_push_28 : decode cX7_push 28 = .ok (.iastore, 1) := op_79 (rdSeg sd_23_cX7_push_0 28 rfl rfl)
theorem dX7_push_29 : decode cX7_push 29 = .ok (.aload_n 0, 1) := op_42 (rdSeg sd_23_cX7_push_0 29 rfl rfl)
theorem dX7_push_30 : decode cX7_push 30 = .ok (.dup, 1) := op_89 (rdSeg sd_23_cX7_push_0 30 rfl rfl)
theorem dX7_push_31 : decode cX7_push 31 = .ok (.getfield 15, 3) := op_180 (rdSeg sd_23_cX7_push_0 31 rfl rfl) (rdSeg sd_23_cX7_push_1 0 rfl rfl) (rdSeg sd_23_cX7_push_1 1 rfl rfl) rfl
theorem dX7_push_34 : decode cX7_push 34 = .ok (.iconst 1, 1) := op_4 (rdSeg sd_23_cX7_push_1 2 rfl rfl)
theorem dX7_push_35 : decode cX7_push 35 = .ok (.iadd, 1) := op_96 (rdSeg sd_23_cX7_push_1 3 rfl rfl)
theorem dX7_push_36 : decode cX7_push 36 = .ok (.putfield 15, 3) := op_181 (rdSeg sd_23_cX7_push_1 4 rfl rfl) (rdSeg sd_23_cX7_push_1 5 rfl rfl) (rdSeg sd_23_cX7_push_1 6 rfl rfl) rfl
theorem dX7_push_39 : decode cX7_push 39 = .ok (.return_, 1) := op_177 (rdSeg sd_23_cX7_push_1 7 rfl rfl)
def sg_23_cX7_pop_1 : List UInt8 := [0x2a, 0xb4, 0x00, 0x09, 0x2a, 0xb4, 0x00, 0x0f, 0x2e, 0xac]
def sg_23_cX7_pop_0 : List UInt8 := 0x2a :: 0xb4 :: 0x00 :: 0x0f :: 0x04 :: 0xa1 :: 0x00 :: 0x0f :: 0x2a :: 0xb4 :: 0x00 :: 0x0f :: 0x2a :: 0xb4 :: 0x00 :: 0x09 :: 0xbe :: 0xa4 :: 0x00 :: 0x05 :: 0x03 :: 0xac :: 0x2a :: 0x59 :: 0xb4 :: 0x00 :: 0x0f :: 0x04 :: 0x64 :: 0xb5 :: 0x00 :: 0x0f :: sg_23_cX7_pop_1
set_option maxRecDepth 100000 in
theorem sd_23_cX7_pop_0 : cX7_pop.data.toList.drop 0 = sg_23_cX7_pop_0 := by decide +kernel
theorem sd_23_cX7_pop_1 : cX7_pop.data.toList.drop 32 = sg_23_cX7_pop_1 := sg_next sd_23_cX7_pop_0 rfl
theorem dX7_pop_0 : decode cX7_pop 0 = .ok (.aload_n 0, 1) := op_42 (rdSeg sd_23_cX7_pop_0 0 rfl rfl)
theorem dX7_pop_1 : decode cX7_pop 1 = .ok (.getfield 15, 3) := op_180 (rdSeg sd_23_cX7_pop_0 1 rfl rfl) (rdSeg sd_23_cX7_pop_0 2 rfl rfl) (rdSeg sd_23_cX7_pop_0 3 rfl rfl) rfl
theorem dX7_pop_4 : decode cX7_pop 4 = .ok (.iconst 1, 1) := op_4 (rdSeg sd_23_cX7_pop_0 4 rfl rfl)
theorem dX7_pop_5 : decode cX7_pop 5 = .ok (.if_icmp .lt 15, 3) := op_161 (rdSeg sd_23_cX7_pop_0 5 rfl rfl) (rdSeg sd_23_cX7_pop_0 6 rfl rfl) (rdSeg sd_23_cX7_pop_0 7 rfl rfl) (by decide +kernel)
theorem dX7_pop_8 : decode cX7_pop 8 = .ok (.aload_n 0, 1) := op_42 (rdSeg sd_23_cX7_pop_0 8 rfl rfl)
theorem dX7_pop_9 : decode cX7_pop 9 = .ok (.getfield 15, 3) := op_180 (rdSeg sd_23_cX7_pop_0 9 rfl rfl) (rdSeg sd_23_cX7_pop_0 10 rfl rfl) (rdSeg sd_23_cX7_pop_0 11 rfl rfl) rfl
theorem dX7_pop_12 : decode cX7_pop 12 = .ok (.aload_n 0, 1) := op_42 (rdSeg sd_23_cX7_pop_0 12 rfl rfl)
theorem dX7_pop_13 : decode cX7_pop 13 = .ok (.getfield 9, 3) := op_180 (rdSeg sd_23_cX7_pop_0 13 rfl rfl) (rdSeg sd_23_cX7_pop_0 14 rfl rfl) (rdSeg sd_23_cX7_pop_0 15 rfl rfl) rfl
theorem dX7_pop_16 : decode cX7_pop 16 = .ok (.arraylength, 1) := op_190 (rdSeg sd_23_cX7_pop_0 16 rfl rfl)
theorem dX7_pop_17 : decode cX7_pop 17 = .ok (.if_icmp .le 5, 3) := op_164 (rdSeg sd_23_cX7_pop_0 17 rfl rfl) (rdSeg sd_23_cX7_pop_0 18 rfl rfl) (rdSeg sd_23_cX7_pop_0 19 rfl rfl) (by decide +kernel)
theorem dX7_pop_20 : decode cX7_pop 20 = .ok (.iconst 0, 1) := op_3 (rdSeg sd_23_cX7_pop_0 20 rfl rfl)
theorem dX7_pop_21 : decode cX7_pop 21 = .ok (.ireturn, 1) := op_172 (rdSeg sd_23_cX7_pop_0 21 rfl rfl)
theorem dX7_pop_22 : decode cX7_pop 22 = .ok (.aload_n 0, 1) := op_42 (rdSeg sd_23_cX7_pop_0 22 rfl rfl)
theorem dX7_pop_23 : decode cX7_pop 23 = .ok (.dup, 1) := op_89 (rdSeg sd_23_cX7_pop_0 23 rfl rfl)
theorem dX7_pop_24 : decode cX7_pop 24 = .ok (.getfield 15, 3) := op_180 (rdSeg sd_23_cX7_pop_0 24 rfl rfl) (rdSeg sd_23_cX7_pop_0 25 rfl rfl) (rdSeg sd_23_cX7_pop_0 26 rfl rfl) rfl
theorem dX7_pop_27 : decode cX7_pop 27 = .ok (.iconst 1, 1) := op_4 (rdSeg sd_23_cX7_pop_0 27 rfl rfl)
theorem dX7_pop_28 : decode cX7_pop 28 = .ok (.isub, 1) := op_100 (rdSeg sd_23_cX7_pop_0 28 rfl rfl)
theorem dX7_pop_29 : decode cX7_pop 29 = .ok (.putfield 15, 3) := op_181 (rdSeg sd_23_cX7_pop_0 29 rfl rfl) (rdSeg sd_23_cX7_pop_0 30 rfl rfl) (rdSeg sd_23_cX7_pop_0 31 rfl rfl) rfl
theorem dX7_pop_32 : decode cX7_pop 32 = .ok (.aload_n 0, 1) := op_42 (rdSeg sd_23_cX7_pop_1 0 rfl rfl)
theorem dX7_pop_33 : decode cX7_pop 33 = .ok (.getfield 9, 3) := op_180 (rdSeg sd_23_cX7_pop_1 1 rfl rfl) (rdSeg sd_23_cX7_pop_1 2 rfl rfl) (rdSeg sd_23_cX7_pop_1 3 rfl rfl) rfl
theorem dX7_pop_36 : decode cX7_pop 36 = .ok (.aload_n 0, 1) := op_42 (rdSeg sd_23_cX7_pop_1 4 rfl rfl)
theorem dX7_pop_37 : decode cX7_pop 37 = .ok (.getfield 15, 3) := op_180 (rdSeg sd_23_cX7_pop_1 5 rfl rfl) (rdSeg sd_23_cX7_pop_1 6 rfl rfl) (rdSeg sd_23_cX7_pop_1 7 rfl rfl) rfl
theorem dX7_pop_40 : decode cX7_pop 40 = .ok (.iaload, 1) := op_46 (rdSeg sd_23_cX7_pop_1 8 rfl rfl)
theorem dX7_pop_41 : decode cX7_pop 41 = .ok (.ireturn, 1) := op_172 (rdSeg sd_23_cX7_pop_1 9 rfl rfl)
def sg_23_cX7_joined_5 : List UInt8 := [0x07, 0x03, 0xa7, 0x00, 0x06, 0x1b, 0x1c, 0x6c, 0xac, 0x1c, 0x9a, 0x00, 0x07, 0x03, 0xa7, 0x00, 0x06, 0x1b, 0x1c, 0x70, 0xac]
def sg_23_cX7_joined_4 : List UInt8 := 0x04 :: 0xa7 :: 0x00 :: 0x04 :: 0x03 :: 0xac :: 0x1b :: 0x1c :: 0xa4 :: 0x00 :: 0x07 :: 0x04 :: 0xa7 :: 0x00 :: 0x04 :: 0x03 :: 0xac :: 0x1b :: 0x1c :: 0x60 :: 0xac :: 0x1b :: 0x1c :: 0x64 :: 0xac :: 0x1b :: 0x1c :: 0x68 :: 0xac :: 0x1c :: 0x9a :: 0x00 :: sg_23_cX7_joined_5
def sg_23_cX7_joined_3 : List UInt8 := 0x03 :: 0xac :: 0x1b :: 0x99 :: 0x00 :: 0x0b :: 0x1c :: 0x99 :: 0x00 :: 0x07 :: 0x04 :: 0xa7 :: 0x00 :: 0x04 :: 0x03 :: 0xac :: 0x1b :: 0x1c :: 0xa2 :: 0x00 :: 0x07 :: 0x04 :: 0xa7 :: 0x00 :: 0x04 :: 0x03 :: 0xac :: 0x1b :: 0x1c :: 0xa0 :: 0x00 :: 0x07 :: sg_23_cX7_joined_4
def sg_23_cX7_joined_2 : List UInt8 := 0x00 :: 0x00 :: 0x00 :: 0x7a :: 0x00 :: 0x00 :: 0x00 :: 0x3e :: 0x00 :: 0x00 :: 0x00 :: 0x85 :: 0x00 :: 0x00 :: 0x00 :: 0x7c :: 0x00 :: 0x00 :: 0x00 :: 0x53 :: 0x1b :: 0x9a :: 0x00 :: 0x07 :: 0x1c :: 0x99 :: 0x00 :: 0x07 :: 0x04 :: 0xa7 :: 0x00 :: 0x04 :: sg_23_cX7_joined_3
def sg_23_cX7_joined_1 : List UInt8 := 0x00 :: 0x00 :: 0x00 :: 0x90 :: 0x00 :: 0x00 :: 0x00 :: 0x2d :: 0x00 :: 0x00 :: 0x00 :: 0x94 :: 0x00 :: 0x00 :: 0x00 :: 0x2f :: 0x00 :: 0x00 :: 0x00 :: 0x9c :: 0x00 :: 0x00 :: 0x00 :: 0x3c :: 0x00 :: 0x00 :: 0x00 :: 0x6f :: 0x00 :: 0x00 :: 0x00 :: 0x3d :: sg_23_cX7_joined_2
def sg_23_cX7_joined_0 : List UInt8 := 0x1a :: 0xab :: 0x00 :: 0x00 :: 0x00 :: 0x00 :: 0x00 :: 0xa8 :: 0x00 :: 0x00 :: 0x00 :: 0x09 :: 0x00 :: 0x00 :: 0x00 :: 0x26 :: 0x00 :: 0x00 :: 0x00 :: 0x61 :: 0x00 :: 0x00 :: 0x00 :: 0x2a :: 0x00 :: 0x00 :: 0x00 :: 0x98 :: 0x00 :: 0x00 :: 0x00 :: 0x2b :: sg_23_cX7_joined_1
set_option maxRecDepth 100000 in
theorem sd_23_cX7_joined_0 : cX7_joined.data.toList.drop 0 = sg_23_cX7_joined_0 := by decide +kernel
theorem sd_23_cX7_joined_1 : cX7_joined.data.toList.drop 32 = sg_23_cX7_joined_1 := sg_next sd_23_cX7_joined_0 rfl
theorem sd_23_cX7_joined_2 : cX7_joined.data.toList.drop 64 = sg_23_cX7_joined_2 := sg_next sd_23_cX7_joined_1 rfl
theorem sd_23_cX7_joined_3 : cX7_joined.data.toList.drop 96 = sg_23_cX7_joined_3 := sg_next sd_23_cX7_joined_2 rfl
theorem sd_23_cX7_joined_4 : cX7_joined.data.toList.drop 128 = sg_23_cX7_joined_4 := sg_next sd_23_cX7_joined_3 rfl
theorem sd_23_cX7_joined_5 : cX7_joined.data.toList.drop 160 = sg_23_cX7_joined_5 := sg_next sd_23_cX7_joined_4 rfl
theorem dX7_joined_0 : decode cX7_joined 0 = .ok (.iload_n 0, 1) := op_26 (rdSeg sd_23_cX7_joined_0 0 rfl rfl)
theorem dX7_joined_1 : decode cX7_joined 1 = .ok (.lookupswitch 168 #[(38, 97), (42, 152), (43, 144), (45, 148), (47, 156), (60, 111), (61, 122), (62, 133), (124, 83)], 83) := by decide +kernel
theorem dX7_joined_84 : decode cX7_joined 84 = .ok (.iload_n 1, 1) := op_27 (rdSeg sd_23_cX7_joined_2 20 rfl rfl)
theorem dX7_joined_85 : decode cX7_joined 85 = .ok (.ifCond .ne 7, 3) := op_154 (rdSeg sd_23_cX7_joined_2 21 rfl rfl) (rdSeg sd_23_cX7_joined_2 22 rfl rfl) (rdSeg sd_23_cX7_joined_2 23 rfl rfl) (by decide +kernel)
theorem dX7_joined_88 : decode cX7_joined 88 = .ok (.iload_n 2, 1) := op_28 (rdSeg sd_23_cX7_joined_2 24 rfl rfl)
theorem dX7_joined_89 : decode cX7_joined 89 = .ok (.ifCond .eq 7, 3) := op_153 (rdSeg sd_23_cX7_joined_2 25 rfl rfl) (rdSeg sd_23_cX7_joined_2 26 rfl rfl) (rdSeg sd_23_cX7_joined_2 27 rfl rfl) (by decide +kernel)
theorem dX7_joined_92 : decode cX7_joined 92 = .ok (.iconst 1, 1) := op_4 (rdSeg sd_23_cX7_joined_2 28 rfl rfl)
theorem dX7_joined_93 : decode cX7_joined 93 = .ok (.goto 4, 3) := op_167 (rdSeg sd_23_cX7_joined_2 29 rfl rfl) (rdSeg sd_23_cX7_joined_2 30 rfl rfl) (rdSeg sd_23_cX7_joined_2 31 rfl rfl) (by decide +kernel)
theorem dX7_joined_96 : decode cX7_joined 96 = .ok (.iconst 0, 1) := op_3 (rdSeg sd_23_cX7_joined_3 0 rfl rfl)
theorem dX7_joined_97 : decode cX7_joined 97 = .ok (.ireturn, 1) := op_172 (rdSeg sd_23_cX7_joined_3 1 rfl rfl)
theorem dX7_joined_98 : decode cX7_joined 98 = .ok (.iload_n 1, 1) := op_27 (rdSeg sd_23_cX7_joined_3 2 rfl rfl)
theorem dX7_joined_99 : decode cX7_joined 99 = .ok (.ifCond .eq 11, 3) := op_153 (rdSeg sd_23_cX7_joined_3 3 rfl rfl) (rdSeg sd_23_cX7_joined_3 4 rfl rfl) (rdSeg sd_23_cX7_joined_3 5 rfl rfl) (by decide +kernel)
theorem dX7_joined_102 : decode cX7_joined 102 = .ok (.iload_n 2, 1) := op_28 (rdSeg sd_23_cX7_joined_3 6 rfl rfl)
theorem dX7_joined_103 : decode cX7_joined 103 = .ok (.ifCond .eq 7, 3) := op_153 (rdSeg sd_23_cX7_joined_3 7 rfl rfl) (rdSeg sd_23_cX7_joined_3 8 rfl rfl) (rdSeg sd_23_cX7_joined_3 9 rfl rfl) (by decide +kernel)
theorem dX7_joined_106 : decode cX7_joined 106 = .ok (.iconst 1, 1) := op_4 (rdSeg sd_23_cX7_joined_3 10 rfl rfl)
theorem dX7_joined_107 : decode cX7_joined 107 = .ok (.goto 4, 3) := op_167 (rdSeg sd_23_cX7_joined_3 11 rfl rfl) (rdSeg sd_23_cX7_joined_3 12 rfl rfl) (rdSeg sd_23_cX7_joined_3 13 rfl rfl) (by decide +kernel)
theorem dX7_joined_110 : decode cX7_joined 110 = .ok (.iconst 0, 1) := op_3 (rdSeg sd_23_cX7_joined_3 14 rfl rfl)
theorem dX7_joined_111 : decode cX7_joined 111 = .ok (.ireturn, 1) := op_172 (rdSeg sd_23_cX7_joined_3 15 rfl rfl)
theorem dX7_joined_112 : decode cX7_joined 112 = .ok (.iload_n 1, 1) := op_27 (rdSeg sd_23_cX7_joined_3 16 rfl rfl)
theorem dX7_joined_113 : decode cX7_joined 113 = .ok (.iload_n 2, 1) := op_28 (rdSeg sd_23_cX7_joined_3 17 rfl rfl)
theorem dX7_joined_114 : decode cX7_joined 114 = .ok (.if_icmp .ge 7, 3) := op_162 (rdSeg sd_23_cX7_joined_3 18 rfl rfl) (rdSeg sd_23_cX7_joined_3 19 rfl rfl) (rdSeg sd_23_cX7_joined_3 20 rfl rfl) (by decide +kernel)
theorem dX7_joined_117 : decode cX7_joined 117 = .ok (.iconst 1, 1) := op_4 (rdSeg sd_23_cX7_joined_3 21 rfl rfl)
theorem dX7_joined_118 : decode cX7_joined 118 = .ok (.goto 4, 3) := op_167 (rdSeg sd_23_cX7_joined_3 22 rfl rfl) (rdSeg sd_23_cX7_joined_3 23 rfl rfl) (rdSeg sd_23_cX7_joined_3 24 rfl rfl) (by decide +kernel)
theorem dX7_joined_121 : decode cX7_joined 121 = .ok (.iconst 0, 1) := op_3 (rdSeg sd_23_cX7_joined_3 25 rfl rfl)
theorem dX7_joined_122 : decode cX7_joined 122 = .ok (.ireturn, 1) := op_172 (rdSeg sd_23_cX7_joined_3 26 rfl rfl)
theorem dX7_joined_123 : decode cX7_joined 123 = .ok (.iload_n 1, 1) := op_27 (rdSeg sd_23_cX7_joined_3 27 rfl rfl)
theorem dX7_joined_124 : decode cX7_joined 124 = .ok (.iload_n 2, 1) := op_28 (rdSeg sd_23_cX7_joined_3 28 rfl rfl)
theorem dX7_joined_125 : decode cX7_joined 125 = .ok (.if_icmp .ne 7, 3) := op_160 (rdSeg sd_23_cX7_joined_3 29 rfl rfl) (rdSeg sd_23_cX7_joined_3 30 rfl rfl) (rdSeg sd_23_cX7_joined_3 31 rfl rfl) (by decide +kernel)
theorem dX7_joined_128 : decode cX7_joined 128 = .ok (.iconst 1, 1) := op_4 (rdSeg sd_23_cX7_joined_4 0 rfl rfl)
theorem dX7_joined_129 : decode cX7_joined 129 = .ok (.goto 4, 3) := op_167 (rdSeg sd_23_cX7_joined_4 1 rfl rfl) (rdSeg sd_23_cX7_joined_4 2 rfl rfl) (rdSeg sd_23_cX7_joined_4 3 rfl rfl) (by decide +kernel)
theorem dX7_joined_132 : decode cX7_joined 132 = .ok (.iconst 0, 1) := op_3 (rdSeg sd_23_cX7_joined_4 4 rfl rfl)
theorem dX7_joined_133 : decode cX7_joined 133 = .ok (.ireturn, 1) := op_172 (rdSeg sd_23_cX7_joined_4 5 rfl rfl)
theorem dX7_joined_134 : decode cX7_joined 134 = .ok (.iload_n 1, 1) := op_27 (rdSeg sd_23_cX7_joined_4 6 rfl rfl)
theorem dX7_joined_135 : decode cX7_joined 135 = .ok (.iload_n 2, 1) := op_28 (rdSeg sd_23_cX7_joined_4 7 rfl rfl)
theorem dX7_joined_136 : decode cX7_joined 136 = .ok (.if_icmp .le 7, 3) := op_164 (rdSeg sd_23_cX7_joined_4 8 rfl rfl) (rdSeg sd_23_cX7_joined_4 9 rfl rfl) (rdSeg sd_23_cX7_joined_4 10 rfl rfl) (by decide +kernel)
theorem dX7_joined_139 : decode cX7_joined 139 = .ok (.iconst 1, 1) := op_4 (rdSeg sd_23_cX7_joined_4 11 rfl rfl)
theorem dX7_joined_140 : decode cX7_joined 140 = .ok (.goto 4, 3) := op_167 (rdSeg sd_23_cX7_joined_4 12 rfl rfl) (rdSeg sd_23_cX7_joined_4 13 rfl rfl) (rdSeg sd_23_cX7_joined_4 14 rfl rfl) (by decide +kernel)
theorem dX7_joined_143 : decode cX7_joined 143 = .ok (.iconst 0, 1) := op_3 (rdSeg sd_23_cX7_joined_4 15 rfl rfl)
theorem dX7_joined_144 : decode cX7_joined 144 = .ok (.ireturn, 1) := op_172 (rdSeg sd_23_cX7_joined_4 16 rfl rfl)
theorem dX7_joined_145 : decode cX7_joined 145 = .ok (.iload_n 1, 1) := op_27 (rdSeg sd_23_cX7_joined_4 17 rfl rfl)
theorem dX7_joined_146 : decode cX7_joined 146 = .ok (.iload_n 2, 1) := op_28 (rdSeg sd_23_cX7_joined_4 18 rfl rfl)
theorem dX7_joined_147 : decode cX7_joined 147 = .ok (.iadd, 1) := op_96 (rdSeg sd_23_cX7_joined_4 19 rfl rfl)
theorem dX7_joined_148 : decode cX7_joined 148 = .ok (.ireturn, 1) := op_172 (rdSeg sd_23_cX7_joined_4 20 rfl rfl)
theorem dX7_joined_149 : decode cX7_joined 149 = .ok (.iload_n 1, 1) := op_27 (rdSeg sd_23_cX7_joined_4 21 rfl rfl)
theorem dX7_joined_150 : decode cX7_joined 150 = .ok (.iload_n 2, 1) := op_28 (rdSeg sd_23_cX7_joined_4 22 rfl rfl)
theorem dX7_joined_151 : decode cX7_joined 151 = .ok (.isub, 1) := op_100 (rdSeg sd_23_cX7_joined_4 23 rfl rfl)
theorem dX7_joined_152 : decode cX7_joined 152 = .ok (.ireturn, 1) := op_172 (rdSeg sd_23_cX7_joined_4 24 rfl rfl)
theorem dX7_joined_153 : decode cX7_joined 153 = .ok (.iload_n 1, 1) := op_27 (rdSeg sd_23_cX7_joined_4 25 rfl rfl)
theorem dX7_joined_154 : decode cX7_joined 154 = .ok (.iload_n 2, 1) := op_28 (rdSeg sd_23_cX7_joined_4 26 rfl rfl)
theorem dX7_joined_155 : decode cX7_joined 155 = .ok (.imul, 1) := op_104 (rdSeg sd_23_cX7_joined_4 27 rfl rfl)
theorem dX7_joined_156 : decode cX7_joined 156 = .ok (.ireturn, 1) := op_172 (rdSeg sd_23_cX7_joined_4 28 rfl rfl)
theorem dX7_joined_157 : decode cX7_joined 157 = .ok (.iload_n 2, 1) := op_28 (rdSeg sd_23_cX7_joined_4 29 rfl rfl)
theorem dX7_joined_158 : decode cX7_joined 158 = .ok (.ifCond .ne 7, 3) := op_154 (rdSeg sd_23_cX7_joined_4 30 rfl rfl) (rdSeg sd_23_cX7_joined_4 31 rfl rfl) (rdSeg sd_23_cX7_joined_5 0 rfl rfl) (by decide +kernel)
theorem dX7_joined_161 : decode cX7_joined 161 = .ok (.iconst 0, 1) := op_3 (rdSeg sd_23_cX7_joined_5 1 rfl rfl)
theorem dX7_joined_162 : decode cX7_joined 162 = .ok (.goto 6, 3) := op_167 (rdSeg sd_23_cX7_joined_5 2 rfl rfl) (rdSeg sd_23_cX7_joined_5 3 rfl rfl) (rdSeg sd_23_cX7_joined_5 4 rfl rfl) (by decide +kernel)
theorem dX7_joined_165 : decode cX7_joined 165 = .ok (.iload_n 1, 1) := op_27 (rdSeg sd_23_cX7_joined_5 5 rfl rfl)
theorem dX7_joined_166 : decode cX7_joined 166 = .ok (.iload_n 2, 1) := op_28 (rdSeg sd_23_cX7_joined_5 6 rfl rfl)
theorem dX7_joined_167 : decode cX7_joined 167 = .ok (.idiv, 1) := op_108 (rdSeg sd_23_cX7_joined_5 7 rfl rfl)
theorem dX7_joined_168 : decode cX7_joined 168 = .ok (.ireturn, 1) := op_172 (rdSeg sd_23_cX7_joined_5 8 rfl rfl)
theorem dX7_joined_169 : decode cX7_joined 169 = .ok (.iload_n 2, 1) := op_28 (rdSeg sd_23_cX7_joined_5 9 rfl rfl)
theorem dX7_joined_170 : decode cX7_joined 170 = .ok (.ifCond .ne 7, 3) := op_154 (rdSeg sd_23_cX7_joined_5 10 rfl rfl) (rdSeg sd_23_cX7_joined_5 11 rfl rfl) (rdSeg sd_23_cX7_joined_5 12 rfl rfl) (by decide +kernel)
theorem dX7_joined_173 : decode cX7_joined 173 = .ok (.iconst 0, 1) := op_3 (rdSeg sd_23_cX7_joined_5 13 rfl rfl)
theorem dX7_joined_174 : decode cX7_joined 174 = .ok (.goto 6, 3) := op_167 (rdSeg sd_23_cX7_joined_5 14 rfl rfl) (rdSeg sd_23_cX7_joined_5 15 rfl rfl) (rdSeg sd_23_cX7_joined_5 16 rfl rfl) (by decide +kernel)
theorem dX7_joined_177 : decode cX7_joined 177 = .ok (.iload_n 1, 1) := op_27 (rdSeg sd_23_cX7_joined_5 17 rfl rfl)
theorem dX7_joined_178 : decode cX7_joined 178 = .ok (.iload_n 2, 1) := op_28 (rdSeg sd_23_cX7_joined_5 18 rfl rfl)
theorem dX7_joined_179 : decode cX7_joined 179 = .ok (.irem, 1) := op_112 (rdSeg sd_23_cX7_joined_5 19 rfl rfl)
theorem dX7_joined_180 : decode cX7_joined 180 = .ok (.ireturn, 1) := op_172 (rdSeg sd_23_cX7_joined_5 20 rfl rfl)
def sg_23_cX8_init_3 : List UInt8 := [0x16, 0x2a, 0xb4, 0x00, 0x31, 0x1b, 0xbb, 0x00, 0x2f, 0x59, 0xb7, 0x00, 0x39, 0x53, 0x84, 0x01, 0x01, 0xa7, 0xff, 0xe7, 0xb1]
def sg_23_cX8_init_2 : List UInt8 := 0xb7 :: 0x00 :: 0x2a :: 0xb5 :: 0x00 :: 0x2b :: 0x2a :: 0x07 :: 0xbd :: 0x00 :: 0x2f :: 0xb5 :: 0x00 :: 0x31 :: 0x2a :: 0x10 :: 0x07 :: 0xbc :: 0x0a :: 0xb5 :: 0x00 :: 0x35 :: 0x03 :: 0x3c :: 0x1b :: 0x2a :: 0xb4 :: 0x00 :: 0x31 :: 0xbe :: 0xa2 :: 0x00 :: sg_23_cX8_init_3
def sg_23_cX8_init_1 : List UInt8 := 0x00 :: 0x15 :: 0xb5 :: 0x00 :: 0x16 :: 0x2a :: 0xbb :: 0x00 :: 0x1a :: 0x59 :: 0xb7 :: 0x00 :: 0x1c :: 0xb5 :: 0x00 :: 0x1d :: 0x2a :: 0xbb :: 0x00 :: 0x21 :: 0x59 :: 0xb7 :: 0x00 :: 0x23 :: 0xb5 :: 0x00 :: 0x24 :: 0x2a :: 0xbb :: 0x00 :: 0x28 :: 0x59 :: sg_23_cX8_init_2
def sg_23_cX8_init_0 : List UInt8 := 0x2a :: 0xb7 :: 0x00 :: 0x03 :: 0x2a :: 0xbb :: 0x00 :: 0x09 :: 0x59 :: 0xb7 :: 0x00 :: 0x0b :: 0xb5 :: 0x00 :: 0x0c :: 0x2a :: 0xbb :: 0x00 :: 0x09 :: 0x59 :: 0xb7 :: 0x00 :: 0x0b :: 0xb5 :: 0x00 :: 0x10 :: 0x2a :: 0xbb :: 0x00 :: 0x13 :: 0x59 :: 0xb7 :: sg_23_cX8_init_1
set_option maxRecDepth 100000 in
theorem sd_23_cX8_init_0 : cX8_init.data.toList.drop 0 = sg_23_cX8_init_0 := by decide +kernel
theorem sd_23_cX8_init_1 : cX8_init.data.toList.drop 32 = sg_23_cX8_init_1 := sg_next sd_23_cX8_init_0 rfl
theorem sd_23_cX8_init_2 : cX8_init.data.toList.drop 64 = sg_23_cX8_init_2 := sg_next sd_23_cX8_init_1 rfl
theorem sd_23_cX8_init_3 : cX8_init.data.toList.drop 96 = sg_23_cX8_init_3 := sg_next sd_23_cX8_init_2 rfl
theorem dX8_init_0 : decode cX8_init 0 = .ok (.aload_n 0, 1) := op_42 (rdSeg sd_23_cX8_init_0 0 rfl rfl)
theorem dX8_init_1 : decode cX8_init 1 = .ok (.invokespecial 3, 3) := op_183 (rdSeg sd_23_cX8_init_0 1 rfl rfl) (rdSeg sd_23_cX8_init_0 2 rfl rfl) (rdSeg sd_23_cX8_init_0 3 rfl rfl) rfl
theorem dX8_init_4 : decode cX8_init 4 = .ok (.aload_n 0, 1) := op_42 (rdSeg sd_23_cX8_init_0 4 rfl rfl)
theorem dX8_init_5 : decode cX8_init 5 = .ok (.new 9, 3) := op_187 (rdSeg sd_23_cX8_init_0 5 rfl rfl) (rdSeg sd_23_cX8_init_0 6 rfl rfl) (rdSeg sd_23_cX8_init_0 7 rfl rfl) rfl
theorem dX8_init_8 : decode cX8_init 8 = .ok (.dup, 1) := op_89 (rdSeg sd_23_cX8_init_0 8 rfl rfl)
theorem dX8_init_9 : decode cX8_init 9 = .ok (.invokespecial 11, 3) := op_183 (rdSeg sd_23_cX8_init_0 9 rfl rfl) (rdSeg sd_23_cX8_init_0 10 rfl rfl) (rdSeg sd_23_cX8_init_0 11 rfl rfl) rfl
theorem dX8_init_12 : decode cX8_init 12 = .ok (.putfield 12, 3) := op_181 (rdSeg sd_23_cX8_init_0 12 rfl rfl) (rdSeg sd_23_cX8_init_0 13 rfl rfl) (rdSeg sd_23_cX8_init_0 14 rfl rfl) rfl
theorem dX8_init_15 : decode cX8_init 15 = .ok (.aload_n 0, 1) := op_42 (rdSeg sd_23_cX8_init_0 15 rfl rfl)
theorem dX8_init_16 : decode cX8_init 16 = .ok (.new 9, 3) := op_187 (rdSeg sd_23_cX8_init_0 16 rfl rfl) (rdSeg sd_23_cX8_init_0 17 rfl rfl) (rdSeg sd_23_cX8_init_0 18 rfl rfl) rfl
theorem dX8_init_19 : decode cX8_init 19 = .ok (.dup, 1) := op_89 (rdSeg sd_23_cX8_init_0 19 rfl rfl)
theorem dX8_init_20 : decode cX8_init 20 = .ok (.invokespecial 11, 3) := op_183 (rdSeg sd_23_cX8_init_0 20 rfl rfl) (rdSeg sd_23_cX8_init_0 21 rfl rfl) (rdSeg sd_23_cX8_init_0 22 rfl rfl) rfl
theorem dX8_init_23 : decode cX8_init 23 = .ok (.putfield 16, 3) := op_181 (rdSeg sd_23_cX8_init_0 23 rfl rfl) (rdSeg sd_23_cX8_init_0 24 rfl rfl) (rdSeg sd_23_cX8_init_0 25 rfl rfl) rfl
theorem dX8_init_26 : decode cX8_init 26 = .ok (.aload_n 0, 1) := op_42 (rdSeg sd_23_cX8_init_0 26 rfl rfl)
theorem dX8_init_27 : decode cX8_init 27 = .ok (.new 19, 3) := op_187 (rdSeg sd_23_cX8_init_0 27 rfl rfl) (rdSeg sd_23_cX8_init_0 28 rfl rfl) (rdSeg sd_23_cX8_init_0 29 rfl rfl) rfl
theorem dX8_init_30 : decode cX8_init 30 = .ok (.dup, 1) := op_89 (rdSeg sd_23_cX8_init_0 30 rfl rfl)
theorem dX8_init_31 : decode cX8_init 31 = .ok (.invokespecial 21, 3) := op_183 (rdSeg sd_23_cX8_init_0 31 rfl rfl) (rdSeg sd_23_cX8_init_1 0 rfl rfl) (rdSeg sd_23_cX8_init_1 1 rfl rfl) rfl
theorem dX8_init_34 : decode cX8_init 34 = .ok (.putfield 22, 3) := op_181 (rdSeg sd_23_cX8_init_1 2 rfl rfl) (rdSeg sd_23_cX8_init_1 3 rfl rfl) (rdSeg sd_23_cX8_init_1 4 rfl rfl) rfl
theorem dX8_init_37 : decode cX8_init 37 = .ok (.aload_n 0, 1) := op_42 (rdSeg sd_23_cX8_init_1 5 rfl rfl)
theorem dX8_init_38 : decode cX8_init 38 = .ok (.new 26, 3) := op_187 (rdSeg sd_23_cX8_init_1 6 rfl rfl) (rdSeg sd_23_cX8_init_1 7 rfl rfl) (rdSeg sd_23_cX8_init_1 8 rfl rfl) rfl
theorem dX8_init_41 : decode cX8_init 41 = .ok (.dup, 1) := op_89 (rdSeg sd_23_cX8_init_1 9 rfl rfl)
theorem dX8_init_42 : decode cX8_init 42 = .ok (.invokespecial 28, 3) := op_183 (rdSeg sd_23_cX8_init_1 10 rfl rfl) (rdSeg sd_23_cX8_init_1 11 rfl rfl) (rdSeg sd_23_cX8_init_1 12 rfl rfl) rfl
theorem dX8_init_45 : decode cX8_init 45 = .ok (.putfield 29, 3) := op_181 (rdSeg sd_23_cX8_init_1 13 rfl rfl) (rdSeg sd_23_cX8_init_1 14 rfl rfl) (rdSeg sd_23_cX8_init_1 15 rfl rfl) rfl
theorem dX8_init_48 : decode cX8_init 48 = .ok (.aload_n 0, 1) := op_42 (rdSeg sd_23_cX8_init_1 16 rfl rfl)
theorem dX8_init_49 : decode cX8_init 49 = .ok (.new 33, 3) := op_187 (rdSeg sd_23_cX8_init_1 17 rfl rfl) (rdSeg sd_23_cX8_init_1 18 rfl rfl) (rdSeg sd_23_cX8_init_1 19 rfl rfl) rfl
theorem dX8_init_52 : decode cX8_init 52 = .ok (.dup, 1) := op_89 (rdSeg sd_23_cX8_init_1 20 rfl rfl)
theorem dX8_init_53 : decode cX8_init 53 = .ok (.invokespecial 35, 3) := op_183 (rdSeg sd_23_cX8_init_1 21 rfl rfl) (rdSeg sd_23_cX8_init_1 22 rfl rfl) (rdSeg sd_23_cX8_init_1 23 rfl rfl) rfl
theorem dX8_init_56 : decode cX8_init 56 = .ok (.putfield 36, 3) := op_181 (rdSeg sd_23_cX8_init_1 24 rfl rfl) (rdSeg sd_23_cX8_init_1 25 rfl rfl) (rdSeg sd_23_cX8_init_1 26 rfl rfl) rfl
theorem dX8_init_59 : decode cX8_init 59 = .ok (.aload_n 0, 1) := op_42 (rdSeg sd_23_cX8_init_1 27 rfl rfl)
theorem dX8_init_60 : decode cX8_init 60 = .ok (.new 40, 3) := op_187 (rdSeg sd_23_cX8_init_1 28 rfl rfl) (rdSeg sd_23_cX8_init_1 29 rfl rfl) (rdSeg sd_23_cX8_init_1 30 rfl rfl) rfl
theorem dX8_init_63 : decode cX8_init 63 = .ok (.dup, 1) := op_89 (rdSeg sd_23_cX8_init_1 31 rfl rfl)
theorem dX8_init_64 : decode cX8_init 64 = .ok (.invokespecial 42, 3) := op_183 (rdSeg sd_23_cX8_init_2 0 rfl rfl) (rdSeg sd_23_cX8_init_2 1 rfl rfl) (rdSeg sd_23_cX8_init_2 2 rfl rfl) rfl
theorem dX8_init_67 : decode cX8_init 67 = .ok (.putfield 43, 3) := op_181 (rdSeg sd_23_cX8_init_2 3 rfl rfl) (rdSeg sd_23_cX8_init_2 4 rfl rfl) (rdSeg sd_23_cX8_init_2 5 rfl rfl) rfl
theorem dX8_init_70 : decode cX8_init 70 = .ok (.aload_n 0, 1) := op_42 (rdSeg sd_23_cX8_init_2 6 rfl rfl)
theorem dX8_init_71 : decode cX8_init 71 = .ok (.iconst 4, 1) := op_7 (rdSeg sd_23_cX8_init_2 7 rfl rfl)
theorem dX8_init_72 : decode cX8_init 72 = .ok (.anewarray 47, 3) := by decide +kernel
theorem dX8_init_75 : decode cX8_init 75 = .ok (.putfield 49, 3) := op_181 (rdSeg sd_23_cX8_init_2 11 rfl rfl) (rdSeg sd_23_cX8_init_2 12 rfl rfl) (rdSeg sd_23_cX8_init_2 13 rfl rfl) rfl
theorem dX8_init_78 : decode cX8_init 78 = .ok (.aload_n 0, 1) := op_42 (rdSeg sd_23_cX8_init_2 14 rfl rfl)
theorem dX8_init_79 : decode cX8_init 79 = .ok (.bipush 7, 2) := op_16 (rdSeg sd_23_cX8_init_2 15 rfl rfl) (rdSeg sd_23_cX8_init_2 16 rfl rfl) (by decide +kernel)
theorem dX8_init_81 : decode cX8_init 81 = .ok (.newarray .int, 2) := by decide +kernel
theorem dX8_init_83 : decode cX8_init 83 = .ok (.putfield 53, 3) := op_181 (rdSeg sd_23_cX8_init_2 19 rfl rfl) (rdSeg sd_23_cX8_init_2 20 rfl rfl) (rdSeg sd_23_cX8_init_2 21 rfl rfl) rfl
theorem dX8_init_86 : decode cX8_init 86 = .ok (.iconst 0, 1) := op_3 (rdSeg sd_23_cX8_init_2 22 rfl rfl)
theorem dX8_init_87 : decode cX8_init 87 = .ok (.istore_n 1, 1) := op_60 (rdSeg sd_23_cX8_init_2 23 rfl rfl)
theorem dX8_init_88 : decode cX8_init 88 = .ok (.iload_n 1, 1) := op_27 (rdSeg sd_23_cX8_init_2 24 rfl rfl)
theorem dX8_init_89 : decode cX8_init 89 = .ok (.aload_n 0, 1) := op_42 (rdSeg sd_23_cX8_init_2 25 rfl rfl)
theorem dX8_init_90 : decode cX8_init 90 = .ok (.getfield 49, 3) := op_180 (rdSeg sd_23_cX8_init_2 26 rfl rfl) (rdSeg sd_23_cX8_init_2 27 rfl rfl) (rdSeg sd_23_cX8_init_2 28 rfl rfl) rfl
theorem dX8_init_93 : decode cX8_init 93 = .ok (.arraylength, 1) := op_190 (rdSeg sd_23_cX8_init_2 29 rfl rfl)
theorem dX8_init_94 : decode cX8_init 94 = .ok (.if_icmp .ge 22, 3) := op_162 (rdSeg sd_23_cX8_init_2 30 rfl rfl) (rdSeg sd_23_cX8_init_2 31 rfl rfl) (rdSeg sd_23_cX8_init_3 0 rfl rfl) (by decide +kernel)
theorem dX8_init_97 : decode cX8_init 97 = .ok (.aload_n 0, 1) := op_42 (rdSeg sd_23_cX8_init_3 1 rfl rfl)
theorem dX8_init_98 : decode cX8_init 98 = .ok (.getfield 49, 3) := op_180 (rdSeg sd_23_cX8_init_3 2 rfl rfl) (rdSeg sd_23_cX8_init_3 3 rfl rfl) (rdSeg sd_23_cX8_init_3 4 rfl rfl) rfl
theorem dX8_init_101 : decode cX8_init 101 = .ok (.iload_n 1, 1) := op_27 (rdSeg sd_23_cX8_init_3 5 rfl rfl)
theorem dX8_init_102 : decode cX8_init 102 = .ok (.new 47, 3) := op_187 (rdSeg sd_23_cX8_init_3 6 rfl rfl) (rdSeg sd_23_cX8_init_3 7 rfl rfl) (rdSeg sd_23_cX8_init_3 8 rfl rfl) rfl
theorem dX8_init_105 : decode cX8_init 105 = .ok (.dup, 1) := op_89 (rdSeg sd_23_cX8_init_3 9 rfl rfl)
theorem dX8_init_106 : decode cX8_init 106 = .ok (.invokespecial 57, 3) := op_183 (rdSeg sd_23_cX8_init_3 10 rfl rfl) (rdSeg sd_23_cX8_init_3 11 rfl rfl) (rdSeg sd_23_cX8_init_3 12 rfl rfl) rfl
theorem dX8_init_109 : decode cX8_init 109 = .ok (.aastore, 1) := op_83 (rdSeg sd_23_cX8_init_3 13 rfl rfl)
theorem dX8_init_110 : decode cX8_init 110 = .ok (.iinc 1 1, 3) := op_132 (rdSeg sd_23_cX8_init_3 14 rfl rfl) (rdSeg sd_23_cX8_init_3 15 rfl rfl) (rdSeg sd_23_cX8_init_3 16 rfl rfl) (by decide +kernel)
theorem dX8_init_113 : decode cX8_init 113 = .ok (.goto (-25), 3) := op_167 (rdSeg sd_23_cX8_init_3 17 rfl rfl) (rdSeg sd_23_cX8_init_3 18 rfl rfl) (rdSeg sd_23_cX8_init_3 19 rfl rfl) (by decide +kernel)
theorem dX8_init_116 : decode cX8_init 116 = .ok (.return_, 1) := op_177 (rdSeg sd_23_cX8_init_3 20 rfl rfl)
def sg_23_cX8_thing_1 : List UInt8 := [0x4a, 0x04, 0xa2, 0x00, 0x09, 0x2a, 0x07, 0xb6, 0x00, 0x43, 0xac, 0x2a, 0xb4, 0x00, 0x0c, 0xb4, 0x00, 0x47, 0x1b, 0x1c, 0xb6, 0x00, 0x4e, 0xac]
def sg_23_cX8_thing_0 : List UInt8 := 0x1b :: 0xb8 :: 0x00 :: 0x3a :: 0x99 :: 0x00 :: 0x0d :: 0x1c :: 0x03 :: 0x12 :: 0x3e :: 0xb8 :: 0x00 :: 0x3f :: 0x9a :: 0x00 :: 0x09 :: 0x2a :: 0x04 :: 0xb6 :: 0x00 :: 0x43 :: 0xac :: 0x2a :: 0xb4 :: 0x00 :: 0x0c :: 0xb4 :: 0x00 :: 0x47 :: 0xb6 :: 0x00 :: sg_23_cX8_thing_1
set_option maxRecDepth 100000 in
theorem sd_23_cX8_thing_0 : cX8_thing.data.toList.drop 0 = sg_23_cX8_thing_0 := by decide +kernel
theorem sd_23_cX8_thing_1 : cX8_thing.data.toList.drop 32 = sg_23_cX8_thing_1 := sg_next sd_23_cX8_thing_0 rfl
theorem dX8_thing_0 : decode cX8_thing 0 = .ok (.iload_n 1, 1) := op_27 (rdSeg sd_23_cX8_thing_0 0 rfl rfl)
theorem dX8_thing_1 : decode cX8_thing 1 = .ok (.invokestatic 58, 3) := op_184 (rdSeg sd_23_cX8_thing_0 1 rfl rfl) (rdSeg sd_23_cX8_thing_0 2 rfl rfl) (rdSeg sd_23_cX8_thing_0 3 rfl rfl) rfl
theorem dX8_thing_4 : decode cX8_thing 4 = .ok (.ifCond .eq 13, 3) := op_153 (rdSeg sd_23_cX8_thing_0 4 rfl rfl) (rdSeg sd_23_cX8_thing_0 5 rfl rfl) (rdSeg sd_23_cX8_thing_0 6 rfl rfl) (by decide +kernel)
theorem dX8_thing_7 : decode cX8_thing 7 = .ok (.iload_n 2, 1) := op_28 (rdSeg sd_23_cX8_thing_0 7 rfl rfl)
theorem dX8_thing_8 : decode cX8_thing 8 = .ok (.iconst 0, 1) := op_3 (rdSeg sd_23_cX8_thing_0 8 rfl rfl)
theorem dX8_thing_9 : decode cX8_thing 9 = .ok (.ldc 62, 2) := op_18 (rdSeg sd_23_cX8_thing_0 9 rfl rfl) (rdSeg sd_23_cX8_thing_0 10 rfl rfl)
theorem dX8_thing_11 : decode cX8_thing 11 = .ok (.invokestatic 63, 3) := op_184 (rdSeg sd_23_cX8_thing_0 11 rfl rfl) (rdSeg sd_23_cX8_thing_0 12 rfl rfl) (rdSeg sd_23_cX8_thing_0 13 rfl rfl) rfl
theorem dX8_thing_14 : decode cX8_thing 14 = .ok (.ifCond .ne 9, 3) := op_154 (rdSeg sd_23_cX8_thing_0 14 rfl rfl) (rdSeg sd_23_cX8_thing_0 15 rfl rfl) (rdSeg sd_23_cX8_thing_0 16 rfl rfl) (by decide +kernel)
theorem dX8_thing_17 : decode cX8_thing 17 = .ok (.aload_n 0, 1) := op_42 (rdSeg sd_23_cX8_thing_0 17 rfl rfl)
theorem dX8_thing_18 : decode cX8_thing 18 = .ok (.iconst 1, 1) := op_4 (rdSeg sd_23_cX8_thing_0 18 rfl rfl)
theorem dX8_thing_19 : decode cX8_thing 19 = .ok (.invokevirtual 67, 3) := op_182 (rdSeg sd_23_cX8_thing_0 19 rfl rfl) (rdSeg sd_23_cX8_thing_0 20 rfl rfl) (rdSeg sd_23_cX8_thing_0 21 rfl rfl) rfl
theorem dX8_thing_22 : decode cX8_thing 22 = .ok (.ireturn, 1) := op_172 (rdSeg sd_23_cX8_thing_0 22 rfl rfl)
theorem dX8_thing_23 : decode cX8_thing 23 = .ok (.aload_n 0, 1) := op_42 (rdSeg sd_23_cX8_thing_0 23 rfl rfl)
theorem dX8_thing_24 : decode cX8_thing 24 = .ok (.getfield 12, 3) := op_180 (rdSeg sd_23_cX8_thing_0 24 rfl rfl) (rdSeg sd_23_cX8_thing_0 25 rfl rfl) (rdSeg sd_23_cX8_thing_0 26 rfl rfl) rfl
theorem dX8_thing_27 : decode cX8_thing 27 = .ok (.getfield 71, 3) := op_180 (rdSeg sd_23_cX8_thing_0 27 rfl rfl) (rdSeg sd_23_cX8_thing_0 28 rfl rfl) (rdSeg sd_23_cX8_thing_0 29 rfl rfl) rfl
theorem dX8_thing_30 : decode cX8_thing 30 = .ok (.invokevirtual 74, 3) := op_182 (rdSeg sd_23_cX8_thing_0 30 rfl rfl) (rdSeg sd_23_cX8_thing_0 31 rfl rfl) (rdSeg sd_23_cX8_thing_1 0 rfl rfl) rfl
theorem dX8_thing_33 : decode cX8_thing 33 = .ok (.iconst 1, 1) := op_4 (rdSeg sd_23_cX8_thing_1 1 rfl rfl)
theorem dX8_thing_34 : decode cX8_thing 34 = .ok (.if_icmp .ge 9, 3) := op_162 (rdSeg sd_23_cX8_thing_1 2 rfl rfl) (rdSeg sd_23_cX8_thing_1 3 rfl rfl) (rdSeg sd_23_cX8_thing_1 4 rfl rfl) (by decide +kernel)
theorem dX8_thing_37 : decode cX8_thing 37 = .ok (.aload_n 0, 1) := op_42 (rdSeg sd_23_cX8_thing_1 5 rfl rfl)
theorem dX8_thing_38 : decode cX8_thing 38 = .ok (.iconst 4, 1) := op_7 (rdSeg sd_23_cX8_thing_1 6 rfl rfl)
theorem dX8_thing_39 : decode cX8_thing 39 = .ok (.invokevirtual 67, 3) := op_182 (rdSeg sd_23_cX8_thing_1 7 rfl rfl) (rdSeg sd_23_cX8_thing_1 8 rfl rfl) (rdSeg sd_23_cX8_thing_1 9 rfl rfl) rfl
theorem dX8_thing_42 : decode cX8_thing 42 = .ok (.ireturn, 1) := op_172 (rdSeg sd_23_cX8_thing_1 10 rfl rfl)
theorem dX8_thing_43 : decode cX8_thing 43 = .ok (.aload_n 0, 1) := op_42 (rdSeg sd_23_cX8_thing_1 11 rfl rfl)
theorem dX8_thing_44 : decode cX8_thing 44 = .ok (.getfield 12, 3) := op_180 (rdSeg sd_23_cX8_thing_1 12 rfl rfl) (rdSeg sd_23_cX8_thing_1 13 rfl rfl) (rdSeg sd_23_cX8_thing_1 14 rfl rfl) rfl
theorem dX8_thing_47 : decode cX8_thing 47 = .ok (.getfield 71, 3) := op_180 (rdSeg sd_23_cX8_thing_1 15 rfl rfl) (rdSeg sd_23_cX8_thing_1 16 rfl rfl) (rdSeg sd_23_cX8_thing_1 17 rfl rfl) rfl
theorem dX8_thing_50 : decode cX8_thing 50 = .ok (.iload_n 1, 1) := op_27 (rdSeg sd_23_cX8_thing_1 18 rfl rfl)
theorem dX8_thing_51 : decode cX8_thing 51 = .ok (.iload_n 2, 1) := op_28 (rdSeg sd_23_cX8_thing_1 19 rfl rfl)
theorem dX8_thing_52 : decode cX8_thing 52 = .ok (.invokevirtual 78, 3) := op_182 (rdSeg sd_23_cX8_thing_1 20 rfl rfl) (rdSeg sd_23_cX8_thing_1 21 rfl rfl) (rdSeg sd_23_cX8_thing_1 22 rfl rfl) rfl
theorem dX8_thing_55 : decode cX8_thing 55 = .ok (.ireturn, 1) := op_172 (rdSeg sd_23_cX8_thing_1 23 rfl rfl)
def sg_23_cX8_thingIs_1 : List UInt8 := [0x00, 0x0c, 0x2a, 0xb4, 0x00, 0x0c, 0xb4, 0x00, 0x47, 0x1b, 0x1c, 0xb6, 0x00, 0x55, 0xac]
def sg_23_cX8_thingIs_0 : List UInt8 := 0x2a :: 0xb4 :: 0x00 :: 0x0c :: 0xb4 :: 0x00 :: 0x47 :: 0x1b :: 0xb6 :: 0x00 :: 0x52 :: 0x99 :: 0x00 :: 0x0d :: 0x1c :: 0x03 :: 0x10 :: 0x0a :: 0xb8 :: 0x00 :: 0x3f :: 0x9a :: 0x00 :: 0x09 :: 0x2a :: 0x04 :: 0xb6 :: 0x00 :: 0x43 :: 0xac :: 0x2a :: 0xb4 :: sg_23_cX8_thingIs_1
set_option maxRecDepth 100000 in
theorem sd_23_cX8_thingIs_0 : cX8_thingIs.data.toList.drop 0 = sg_23_cX8_thingIs_0 := by decide +kernel
theorem sd_23_cX8_thingIs_1 : cX8_thingIs.data.toList.drop 32 = sg_23_cX8_thingIs_1 := sg_next sd_23_cX8_thingIs_0 rfl
theorem dX8_thingIs_0 : decode cX8_thingIs 0 = .ok (.aload_n 0, 1) := op_42 (rdSeg sd_23_cX8_thingIs_0 0 rfl rfl)
theorem dX8_thingIs_1 : decode cX8_thingIs 1 = .ok (.getfield 12, 3) := op_180 (rdSeg sd_23_cX8_thingIs_0 1 rfl rfl) (rdSeg sd_23_cX8_thingIs_0 2 rfl rfl) (rdSeg sd_23_cX8_thingIs_0 3 rfl rfl) rfl
theorem dX8_thingIs_4 : decode cX8_thingIs 4 = .ok (.getfield 71, 3) := op_180 (rdSeg sd_23_cX8_thingIs_0 4 rfl rfl) (rdSeg sd_23_cX8_thingIs_0 5 rfl rfl) (rdSeg sd_23_cX8_thingIs_0 6 rfl rfl) rfl
theorem dX8_thingIs_7 : decode cX8_thingIs 7 = .ok (.iload_n 1, 1) := op_27 (rdSeg sd_23_cX8_thingIs_0 7 rfl rfl)
theorem dX8_thingIs_8 : decode cX8_thingIs 8 = .ok (.invokevirtual 82, 3) := op_182 (rdSeg sd_23_cX8_thingIs_0 8 rfl rfl) (rdSeg sd_23_cX8_thingIs_0 9 rfl rfl) (rdSeg sd_23_cX8_thingIs_0 10 rfl rfl) rfl
theorem dX8_thingIs_11 : decode cX8_thingIs 11 = .ok (.ifCond .eq 13, 3) := op_153 (rdSeg sd_23_cX8_thingIs_0 11 rfl rfl) (rdSeg sd_23_cX8_thingIs_0 12 rfl rfl) (rdSeg sd_23_cX8_thingIs_0 13 rfl rfl) (by decide +kernel)
theorem dX8_thingIs_14 : decode cX8_thingIs 14 = .ok (.iload_n 2, 1) := op_28 (rdSeg sd_23_cX8_thingIs_0 14 rfl rfl)
theorem dX8_thingIs_15 : decode cX8_thingIs 15 = .ok (.iconst 0, 1) := op_3 (rdSeg sd_23_cX8_thingIs_0 15 rfl rfl)
theorem dX8_thingIs_16 : decode cX8_thingIs 16 = .ok (.bipush 10, 2) := op_16 (rdSeg sd_23_cX8_thingIs_0 16 rfl rfl) (rdSeg sd_23_cX8_thingIs_0 17 rfl rfl) (by decide +kernel)
theorem dX8_thingIs_18 : decode cX8_thingIs 18 = .ok (.invokestatic 63, 3) := op_184 (rdSeg sd_23_cX8_thingIs_0 18 rfl rfl) (rdSeg sd_23_cX8_thingIs_0 19 rfl rfl) (rdSeg sd_23_cX8_thingIs_0 20 rfl rfl) rfl
theorem dX8_thingIs_21 : decode cX8_thingIs 21 = .ok (.ifCond .ne 9, 3) := op_154 (rdSeg sd_23_cX8_thingIs_0 21 rfl rfl) (rdSeg sd_23_cX8_thingIs_0 22 rfl rfl) (rdSeg sd_23_cX8_thingIs_0 23 rfl rfl) (by decide +kernel)
theorem dX8_thingIs_24 : decode cX8_thingIs 24 = .ok (.aload_n 0, 1) := op_42 (rdSeg sd_23_cX8_thingIs_0 24 rfl rfl)
theorem dX8_thingIs_25 : decode cX8_thingIs 25 = .ok (.iconst 1, 1) := op_4 (rdSeg sd_23_cX8_thingIs_0 25 rfl rfl)
theorem dX8_thingIs_26 : decode cX8_thingIs 26 = .ok (.invokevirtual 67, 3) := op_182 (rdSeg sd_23_cX8_thingIs_0 26 rfl rfl) (rdSeg sd_23_cX8_thingIs_0 27 rfl rfl) (rdSeg sd_23_cX8_thingIs_0 28 rfl rfl) rfl
theorem dX8_thingIs_29 : decode cX8_thingIs 29 = .ok (.ireturn, 1) := op_172 (rdSeg sd_23_cX8_thingIs_0 29 rfl rfl)
theorem dX8_thingIs_30 : decode cX8_thingIs 30 = .ok (.aload_n 0, 1) := op_42 (rdSeg sd_23_cX8_thingIs_0 30 rfl rfl)
theorem dX8_thingIs_31 : decode cX8_thingIs 31 = .ok (.getfield 12, 3) := op_180 (rdSeg sd_23_cX8_thingIs_0 31 rfl rfl) (rdSeg sd_23_cX8_thingIs_1 0 rfl rfl) (rdSeg sd_23_cX8_thingIs_1 1 rfl rfl) rfl
theorem dX8_thingIs_34 : decode cX8_thingIs 34 = .ok (.aload_n 0, 1) := op_42 (rdSeg sd_23_cX8_thingIs_1 2 rfl rfl)
theorem dX8_thingIs_35 : decode cX8_thingIs 35 = .ok (.getfield 12, 3) := op_180 (rdSeg sd_23_cX8_thingIs_1 3 rfl rfl) (rdSeg sd_23_cX8_thingIs_1 4 rfl rfl) (rdSeg sd_23_cX8_thingIs_1 5 rfl rfl) rfl
theorem dX8_thingIs_38 : decode cX8_thingIs 38 = .ok (.getfield 71, 3) := op_180 (rdSeg sd_23_cX8_thingIs_1 6 rfl rfl) (rdSeg sd_23_cX8_thingIs_1 7 rfl rfl) (rdSeg sd_23_cX8_thingIs_1 8 rfl rfl) rfl
theorem dX8_thingIs_41 : decode cX8_thingIs 41 = .ok (.iload_n 1, 1) := op_27 (rdSeg sd_23_cX8_thingIs_1 9 rfl rfl)
theorem dX8_thingIs_42 : decode cX8_thingIs 42 = .ok (.iload_n 2, 1) := op_28 (rdSeg sd_23_cX8_thingIs_1 10 rfl rfl)
theorem dX8_thingIs_43 : decode cX8_thingIs 43 = .ok (.invokevirtual 85, 3) := op_182 (rdSeg sd_23_cX8_thingIs_1 11 rfl rfl) (rdSeg sd_23_cX8_thingIs_1 12 rfl rfl) (rdSeg sd_23_cX8_thingIs_1 13 rfl rfl) rfl
theorem dX8_thingIs_46 : decode cX8_thingIs 46 = .ok (.ireturn, 1) := op_172 (rdSeg sd_23_cX8_thingIs_1 14 rfl rfl)
def sg_23_cX8_as_2 : List UInt8 := [0xb6, 0x00, 0x59, 0xac]
def sg_23_cX8_as_1 : List UInt8 := 0x00 :: 0x0c :: 0xb4 :: 0x00 :: 0x47 :: 0x1b :: 0x03 :: 0xb6 :: 0x00 :: 0x59 :: 0x1c :: 0xb8 :: 0x00 :: 0x5c :: 0x9a :: 0x00 :: 0x09 :: 0x2a :: 0x08 :: 0xb6 :: 0x00 :: 0x43 :: 0xac :: 0x2a :: 0xb4 :: 0x00 :: 0x0c :: 0xb4 :: 0x00 :: 0x47 :: 0x1b :: 0x05 :: sg_23_cX8_as_2
def sg_23_cX8_as_0 : List UInt8 := 0x2a :: 0xb4 :: 0x00 :: 0x0c :: 0xb4 :: 0x00 :: 0x47 :: 0x1b :: 0xb6 :: 0x00 :: 0x52 :: 0x99 :: 0x00 :: 0x0d :: 0x1c :: 0x03 :: 0x10 :: 0x06 :: 0xb8 :: 0x00 :: 0x3f :: 0x9a :: 0x00 :: 0x09 :: 0x2a :: 0x04 :: 0xb6 :: 0x00 :: 0x43 :: 0xac :: 0x2a :: 0xb4 :: sg_23_cX8_as_1
set_option maxRecDepth 100000 in
theorem sd_23_cX8_as_0 : cX8_as.data.toList.drop 0 = sg_23_cX8_as_0 := by decide +kernel
theorem sd_23_cX8_as_1 : cX8_as.data.toList.drop 32 = sg_23_cX8_as_1 := sg_next sd_23_cX8_as_0 rfl
theorem sd_23_cX8_as_2 : cX8_as.data.toList.drop 64 = sg_23_cX8_as_2 := sg_next sd_23_cX8_as_1 rfl
theorem dX8_as_0 : decode cX8_as 0 = .ok (.aload_n 0, 1) := op_42 (rdSeg sd_23_cX8_as_0 0 rfl rfl)
theorem dX8_as_1 : decode cX8_as 1 = .ok (.getfield 12, 3) := op_180 (rdSeg sd_23_cX8_as_0 1 rfl rfl) (rdSeg sd_23_cX8_as_0 2 rfl rfl) (rdSeg sd_23_cX8_as_0 3 rfl rfl) rfl
theorem dX8_as_4 : decode cX8_as 4 = .ok (.getfield 71, 3) := op_180 (rdSeg sd_23_cX8_as_0 4 rfl rfl) (rdSeg sd_23_cX8_as_0 5 rfl rfl) (rdSeg sd_23_cX8_as_0 6 rfl rfl) rfl
theorem dX8_as_7 : decode cX8_as 7 = .ok (.iload_n 1, 1) := op_27 (rdSeg sd_23_cX8_as_0 7 rfl rfl)
theorem dX8_as_8 : decode cX8_as 8 = .ok (.invokevirtual 82, 3) := op_182 (rdSeg sd_23_cX8_as_0 8 rfl rfl) (rdSeg sd_23_cX8_as_0 9 rfl rfl) (rdSeg sd_23_cX8_as_0 10 rfl rfl) rfl
theorem dX8_as_11 : decode cX8_as 11 = .ok (.ifCond .eq 13, 3) := op_153 (rdSeg sd_23_cX8_as_0 11 rfl rfl) (rdSeg sd_23_cX8_as_0 12 rfl rfl) (rdSeg sd_23_cX8_as_0 13 rfl rfl) (by decide +kernel)
theorem dX8_as_14 : decode cX8_as 14 = .ok (.iload_n 2, 1) := op_28 (rdSeg sd_23_cX8_as_0 14 rfl rfl)
theorem dX8_as_15 : decode cX8_as 15 = .ok (.iconst 0, 1) := op_3 (rdSeg sd_23_cX8_as_0 15 rfl rfl)
theorem dX8_as_16 : decode cX8_as 16 = .ok (.bipush 6, 2) := op_16 (rdSeg sd_23_cX8_as_0 16 rfl rfl) (rdSeg sd_23_cX8_as_0 17 rfl rfl) (by decide +kernel)
theorem dX8_as_18 : decode cX8_as 18 = .ok (.invokestatic 63, 3) := op_184 (rdSeg sd_23_cX8_as_0 18 rfl rfl) (rdSeg sd_23_cX8_as_0 19 rfl rfl) (rdSeg sd_23_cX8_as_0 20 rfl rfl) rfl
theorem dX8_as_21 : decode cX8_as 21 = .ok (.ifCond .ne 9, 3) := op_154 (rdSeg sd_23_cX8_as_0 21 rfl rfl) (rdSeg sd_23_cX8_as_0 22 rfl rfl) (rdSeg sd_23_cX8_as_0 23 rfl rfl) (by decide +kernel)
theorem dX8_as_24 : decode cX8_as 24 = .ok (.aload_n 0, 1) := op_42 (rdSeg sd_23_cX8_as_0 24 rfl rfl)
theorem dX8_as_25 : decode cX8_as 25 = .ok (.iconst 1, 1) := op_4 (rdSeg sd_23_cX8_as_0 25 rfl rfl)
theorem dX8_as_26 : decode cX8_as 26 = .ok (.invokevirtual 67, 3) := op_182 (rdSeg sd_23_cX8_as_0 26 rfl rfl) (rdSeg sd_23_cX8_as_0 27 rfl rfl) (rdSeg sd_23_cX8_as_0 28 rfl rfl) rfl
theorem dX8_as_29 : decode cX8_as 29 = .ok (.ireturn, 1) := op_172 (rdSeg sd_23_cX8_as_0 29 rfl rfl)
theorem dX8_as_30 : decode cX8_as 30 = .ok (.aload_n 0, 1) := op_42 (rdSeg sd_23_cX8_as_0 30 rfl rfl)
theorem dX8_as_31 : decode cX8_as 31 = .ok (.getfield 12, 3) := op_180 (rdSeg sd_23_cX8_as_0 31 rfl rfl) (rdSeg sd_23_cX8_as_1 0 rfl rfl) (rdSeg sd_23_cX8_as_1 1 rfl rfl) rfl
theorem dX8_as_34 : decode cX8_as 34 = .ok (.getfield 71, 3) := op_180 (rdSeg sd_23_cX8_as_1 2 rfl rfl) (rdSeg sd_23_cX8_as_1 3 rfl rfl) (rdSeg sd_23_cX8_as_1 4 rfl rfl) rfl
theorem dX8_as_37 : decode cX8_as 37 = .ok (.iload_n 1, 1) := op_27 (rdSeg sd_23_cX8_as_1 5 rfl rfl)
theorem dX8_as_38 : decode cX8_as 38 = .ok (.iconst 0, 1) := op_3 (rdSeg sd_23_cX8_as_1 6 rfl rfl)
theorem dX8_as_39 : decode cX8_as 39 = .ok (.invokevirtual 89, 3) := op_182 (rdSeg sd_23_cX8_as_1 7 rfl rfl) (rdSeg sd_23_cX8_as_1 8 rfl rfl) (rdSeg sd_23_cX8_as_1 9 rfl rfl) rfl
theorem dX8_as_42 : decode cX8_as 42 = .ok (.iload_n 2, 1) := op_28 (rdSeg sd_23_cX8_as_1 10 rfl rfl)
theorem dX8_as_43 : decode cX8_as 43 = .ok (.invokestatic 92, 3) := op_184 (rdSeg sd_23_cX8_as_1 11 rfl rfl) (rdSeg sd_23_cX8_as_1 12 rfl rfl) (rdSeg sd_23_cX8_as_1 13 rfl rfl) rfl
theorem dX8_as_46 : decode cX8_as 46 = .ok (.ifCond .ne 9, 3) := op_154 (rdSeg sd_23_cX8_as_1 14 rfl rfl) (rdSeg sd_23_cX8_as_1 15 rfl rfl) (rdSeg sd_23_cX8_as_1 16 rfl rfl) (by decide +kernel)
theorem dX8_as_49 : decode cX8_as 49 = .ok (.aload_n 0, 1) := op_42 (rdSeg sd_23_cX8_as_1 17 rfl rfl)
theorem dX8_as_50 : decode cX8_as 50 = .ok (.iconst 5, 1) := op_8 (rdSeg sd_23_cX8_as_1 18 rfl rfl)
theorem dX8_as_51 : decode cX8_as 51 = .ok (.invokevirtual 67, 3) := op_182 (rdSeg sd_23_cX8_as_1 19 rfl rfl) (rdSeg sd_23_cX8_as_1 20 rfl rfl) (rdSeg sd_23_cX8_as_1 21 rfl rfl) rfl
theorem dX8_as_54 : decode cX8_as 54 = .ok (.ireturn, 1) := op_172 (rdSeg sd_23_cX8_as_1 22 rfl rfl)
theorem dX8_as_55 : decode cX8_as 55 = .ok (.aload_n 0, 1) := op_42 (rdSeg sd_23_cX8_as_1 23 rfl rfl)
theorem dX8_as_56 : decode cX8_as 56 = .ok (.getfield 12, 3) := op_180 (rdSeg sd_23_cX8_as_1 24 rfl rfl) (rdSeg sd_23_cX8_as_1 25 rfl rfl) (rdSeg sd_23_cX8_as_1 26 rfl rfl) rfl
theorem dX8_as_59 : decode cX8_as 59 = .ok (.getfield 71, 3) := op_180 (rdSeg sd_23_cX8_as_1 27 rfl rfl) (rdSeg sd_23_cX8_as_1 28 rfl rfl) (rdSeg sd_23_cX8_as_1 29 rfl rfl) rfl
theorem dX8_as_62 : decode cX8_as 62 = .ok (.iload_n 1, 1) := op_27 (rdSeg sd_23_cX8_as_1 30 rfl rfl)
theorem dX8_as_63 : decode cX8_as 63 = .ok (.iconst 2, 1) := op_5 (rdSeg sd_23_cX8_as_1 31 rfl rfl)
theorem dX8_as_64 : decode cX8_as 64 = .ok (.invokevirtual 89, 3) := op_182 (rdSeg sd_23_cX8_as_2 0 rfl rfl) (rdSeg sd_23_cX8_as_2 1 rfl rfl) (rdSeg sd_23_cX8_as_2 2 rfl rfl) rfl
theorem dX8_as_67 : decode cX8_as 67 = .ok (.ireturn, 1) := op_172 (rdSeg sd_23_cX8_as_2 3 rfl rfl)
def sg_23_cX8_set_2 : List UInt8 := [0xb6, 0x00, 0x63, 0x15, 0x04, 0xac]
def sg_23_cX8_set_1 : List UInt8 := 0x00 :: 0x09 :: 0x2a :: 0x04 :: 0xb6 :: 0x00 :: 0x43 :: 0xac :: 0x2a :: 0xb4 :: 0x00 :: 0x0c :: 0xb4 :: 0x00 :: 0x47 :: 0x1b :: 0x1c :: 0xb6 :: 0x00 :: 0x59 :: 0x36 :: 0x04 :: 0x2a :: 0xb4 :: 0x00 :: 0x0c :: 0xb4 :: 0x00 :: 0x47 :: 0x1b :: 0x1c :: 0x1d :: sg_23_cX8_set_2
def sg_23_cX8_set_0 : List UInt8 := 0x2a :: 0xb4 :: 0x00 :: 0x0c :: 0xb4 :: 0x00 :: 0x47 :: 0x1b :: 0xb6 :: 0x00 :: 0x52 :: 0x99 :: 0x00 :: 0x17 :: 0x1d :: 0x03 :: 0x2a :: 0xb4 :: 0x00 :: 0x0c :: 0xb4 :: 0x00 :: 0x47 :: 0x1b :: 0x1c :: 0xb6 :: 0x00 :: 0x60 :: 0xb8 :: 0x00 :: 0x3f :: 0x9a :: sg_23_cX8_set_1
set_option maxRecDepth 100000 in
theorem sd_23_cX8_set_0 : cX8_set.data.toList.drop 0 = sg_23_cX8_set_0 := by decide +kernel
theorem sd_23_cX8_set_1 : cX8_set.data.toList.drop 32 = sg_23_cX8_set_1 := sg_next sd_23_cX8_set_0 rfl
theorem sd_23_cX8_set_2 : cX8_set.data.toList.drop 64 = sg_23_cX8_set_2 := sg_next sd_23_cX8_set_1 rfl
theorem dX8_set_0 : decode cX8_set 0 = .ok (.aload_n 0, 1) := op_42 (rdSeg sd_23_cX8_set_0 0 rfl rfl)
theorem dX8_set_1 : decode cX8_set 1 = .ok (.getfield 12, 3) := op_180 (rdSeg sd_23_cX8_set_0 1 rfl rfl) (rdSeg sd_23_cX8_set_0 2 rfl rfl) (rdSeg sd_23_cX8_set_0 3 rfl rfl) rfl
theorem dX8_set_4 : decode cX8_set 4 = .ok (.getfield 71, 3) := op_180 (rdSeg sd_23_cX8_set_0 4 rfl rfl) (rdSeg sd_23_cX8_set_0 5 rfl rfl) (rdSeg sd_23_cX8_set_0 6 rfl rfl) rfl
theorem dX8_set_7 : decode cX8_set 7 = .ok (.iload_n 1, 1) := op_27 (rdSeg sd_23_cX8_set_0 7 rfl rfl)
theorem dX8_set_8 : decode cX8_set 8 = .ok (.invokevirtual 82, 3) := op_182 (rdSeg sd_23_cX8_set_0 8 rfl rfl) (rdSeg sd_23_cX8_set_0 9 rfl rfl) (rdSeg sd_23_cX8_set_0 10 rfl rfl) rfl
theorem dX8_set_11 : decode cX8_set 11 = .ok (.ifCond .eq 23, 3) := op_153 (rdSeg sd_23_cX8_set_0 11 rfl rfl) (rdSeg sd_23_cX8_set_0 12 rfl rfl) (rdSeg sd_23_cX8_set_0 13 rfl rfl) (by decide +kernel)
theorem dX8_set_14 : decode cX8_set 14 = .ok (.iload_n 3, 1) := op_29 (rdSeg sd_23_cX8_set_0 14 rfl rfl)
theorem dX8_set_15 : decode cX8_set 15 = .ok (.iconst 0, 1) := op_3 (rdSeg sd_23_cX8_set_0 15 rfl rfl)
theorem dX8_set_16 : decode cX8_set 16 = .ok (.aload_n 0, 1) := op_42 (rdSeg sd_23_cX8_set_0 16 rfl rfl)
theorem dX8_set_17 : decode cX8_set 17 = .ok (.getfield 12, 3) := op_180 (rdSeg sd_23_cX8_set_0 17 rfl rfl) (rdSeg sd_23_cX8_set_0 18 rfl rfl) (rdSeg sd_23_cX8_set_0 19 rfl rfl) rfl
theorem dX8_set_20 : decode cX8_set 20 = .ok (.getfield 71, 3) := op_180 (rdSeg sd_23_cX8_set_0 20 rfl rfl) (rdSeg sd_23_cX8_set_0 21 rfl rfl) (rdSeg sd_23_cX8_set_0 22 rfl rfl) rfl
theorem dX8_set_23 : decode cX8_set 23 = .ok (.iload_n 1, 1) := op_27 (rdSeg sd_23_cX8_set_0 23 rfl rfl)
theorem dX8_set_24 : decode cX8_set 24 = .ok (.iload_n 2, 1) := op_28 (rdSeg sd_23_cX8_set_0 24 rfl rfl)
theorem dX8_set_25 : decode cX8_set 25 = .ok (.invokevirtual 96, 3) := op_182 (rdSeg sd_23_cX8_set_0 25 rfl rfl) (rdSeg sd_23_cX8_set_0 26 rfl rfl) (rdSeg sd_23_cX8_set_0 27 rfl rfl) rfl
theorem dX8_set_28 : decode cX8_set 28 = .ok (.invokestatic 63, 3) := op_184 (rdSeg sd_23_cX8_set_0 28 rfl rfl) (rdSeg sd_23_cX8_set_0 29 rfl rfl) (rdSeg sd_23_cX8_set_0 30 rfl rfl) rfl
theorem dX8_set_31 : decode cX8_set 31 = .ok (.ifCond .ne 9, 3) := op_154 (rdSeg sd_23_cX8_set_0 31 rfl rfl) (rdSeg sd_23_cX8_set_1 0 rfl rfl) (rdSeg sd_23_cX8_set_1 1 rfl rfl) (by decide +kernel)
theorem dX8_set_34 : decode cX8_set 34 = .ok (.aload_n 0, 1) := op_42 (rdSeg sd_23_cX8_set_1 2 rfl rfl)
theorem dX8_set_35 : decode cX8_set 35 = .ok (.iconst 1, 1) := op_4 (rdSeg sd_23_cX8_set_1 3 rfl rfl)
theorem dX8_set_36 : decode cX8_set 36 = .ok (.invokevirtual 67, 3) := op_182 (rdSeg sd_23_cX8_set_1 4 rfl rfl) (rdSeg sd_23_cX8_set_1 5 rfl rfl) (rdSeg sd_23_cX8_set_1 6 rfl rfl) rfl
theorem dX8_set_39 : decode cX8_set 39 = .ok (.ireturn, 1) := op_172 (rdSeg sd_23_cX8_set_1 7 rfl rfl)
theorem dX8_set_40 : decode cX8_set 40 = .ok (.aload_n 0, 1) := op_42 (rdSeg sd_23_cX8_set_1 8 rfl rfl)
theorem dX8_set_41 : decode cX8_set 41 = .ok (.getfield 12, 3) := op_180 (rdSeg sd_23_cX8_set_1 9 rfl rfl) (rdSeg sd_23_cX8_set_1 10 rfl rfl) (rdSeg sd_23_cX8_set_1 11 rfl rfl) rfl
theorem dX8_set_44 : decode cX8_set 44 = .ok (.getfield 71, 3) := op_180 (rdSeg sd_23_cX8_set_1 12 rfl rfl) (rdSeg sd_23_cX8_set_1 13 rfl rfl) (rdSeg sd_23_cX8_set_1 14 rfl rfl) rfl
theorem dX8_set_47 : decode cX8_set 47 = .ok (.iload_n 1, 1) := op_27 (rdSeg sd_23_cX8_set_1 15 rfl rfl)
theorem dX8_set_48 : decode cX8_set 48 = .ok (.iload_n 2, 1) := op_28 (rdSeg sd_23_cX8_set_1 16 rfl rfl)
theorem dX8_set_49 : decode cX8_set 49 = .ok (.invokevirtual 89, 3) := op_182 (rdSeg sd_23_cX8_set_1 17 rfl rfl) (rdSeg sd_23_cX8_set_1 18 rfl rfl) (rdSeg sd_23_cX8_set_1 19 rfl rfl) rfl
theorem dX8_set_52 : decode cX8_set 52 = .ok (.istore 4, 2) := op_54 (rdSeg sd_23_cX8_set_1 20 rfl rfl) (rdSeg sd_23_cX8_set_1 21 rfl rfl)
theorem dX8_set_54 : decode cX8_set 54 = .ok (.aload_n 0, 1) := op_42 (rdSeg sd_23_cX8_set_1 22 rfl rfl)
theorem dX8_set_55 : decode cX8_set 55 = .ok (.getfield 12, 3) := op_180 (rdSeg sd_23_cX8_set_1 23 rfl rfl) (rdSeg sd_23_cX8_set_1 24 rfl rfl) (rdSeg sd_23_cX8_set_1 25 rfl rfl) rfl
theorem dX8_set_58 : decode cX8_set 58 = .ok (.getfield 71, 3) := op_180 (rdSeg sd_23_cX8_set_1 26 rfl rfl) (rdSeg sd_23_cX8_set_1 27 rfl rfl) (rdSeg sd_23_cX8_set_1 28 rfl rfl) rfl
theorem dX8_set_61 : decode cX8_set 61 = .ok (.iload_n 1, 1) := op_27 (rdSeg sd_23_cX8_set_1 29 rfl rfl)
theorem dX8_set_62 : decode cX8_set 62 = .ok (.iload_n 2, 1) := op_28 (rdSeg sd_23_cX8_set_1 30 rfl rfl)
theorem dX8_set_63 : decode cX8_set 63 = .ok (.iload_n 3, 1) := op_29 (rdSeg sd_23_cX8_set_1 31 rfl rfl)
theorem dX8_set_64 : decode cX8_set 64 = .ok (.invokevirtual 99, 3) := op_182 (rdSeg sd_23_cX8_set_2 0 rfl rfl) (rdSeg sd_23_cX8_set_2 1 rfl rfl) (rdSeg sd_23_cX8_set_2 2 rfl rfl) rfl
theorem dX8_set_67 : decode cX8_set 67 = .ok (.iload 4, 2) := op_21 (rdSeg sd_23_cX8_set_2 3 rfl rfl) (rdSeg sd_23_cX8_set_2 4 rfl rfl)
theorem dX8_set_69 : decode cX8_set 69 = .ok (.ireturn, 1) := op_172 (rdSeg sd_23_cX8_set_2 5 rfl rfl)
def sg_23_cX8_melt_2 : List UInt8 := [0x67, 0x2a, 0xb4, 0x00, 0x0c, 0xb4, 0x00, 0x47, 0x10, 0x0c, 0x05, 0xb6, 0x00, 0x59, 0xac]
def sg_23_cX8_melt_1 : List UInt8 := 0x00 :: 0x0c :: 0xb4 :: 0x00 :: 0x47 :: 0x1b :: 0x05 :: 0xb6 :: 0x00 :: 0x59 :: 0x9a :: 0x00 :: 0x09 :: 0x2a :: 0x06 :: 0xb6 :: 0x00 :: 0x43 :: 0xac :: 0x2a :: 0xb4 :: 0x00 :: 0x0c :: 0xb4 :: 0x00 :: 0x47 :: 0x1b :: 0x10 :: 0x0c :: 0x1c :: 0xb6 :: 0x00 :: sg_23_cX8_melt_2
def sg_23_cX8_melt_0 : List UInt8 := 0x2a :: 0xb4 :: 0x00 :: 0x0c :: 0xb4 :: 0x00 :: 0x47 :: 0x1b :: 0xb6 :: 0x00 :: 0x52 :: 0x99 :: 0x00 :: 0x0d :: 0x1c :: 0x04 :: 0x10 :: 0x08 :: 0xb8 :: 0x00 :: 0x3f :: 0x9a :: 0x00 :: 0x09 :: 0x2a :: 0x04 :: 0xb6 :: 0x00 :: 0x43 :: 0xac :: 0x2a :: 0xb4 :: sg_23_cX8_melt_1
set_option maxRecDepth 100000 in
theorem sd_23_cX8_melt_0 : cX8_melt.data.toList.drop 0 = sg_23_cX8_melt_0 := by decide +kernel
theorem sd_23_cX8_melt_1 : cX8_melt.data.toList.drop 32 = sg_23_cX8_melt_1 := sg_next sd_23_cX8_melt_0 rfl
theorem sd_23_cX8_melt_2 : cX8_melt.data.toList.drop 64 = sg_23_cX8_melt_2 := sg_next sd_23_cX8_melt_1 rfl
theorem dX8_melt_0 : decode cX8_melt 0 = .ok (.aload_n 0, 1) := op_42 (rdSeg sd_23_cX8_melt_0 0 rfl rfl)
theorem dX8_melt_1 : decode cX8_melt 1 = .ok (.getfield 12, 3) := op_180 (rdSeg sd_23_cX8_melt_0 1 rfl rfl) (rdSeg sd_23_cX8_melt_0 2 rfl rfl) (rdSeg sd_23_cX8_melt_0 3 rfl rfl) rfl
theorem dX8_melt_4 : decode cX8_melt 4 = .ok (.getfield 71, 3) := op_180 (rdSeg sd_23_cX8_melt_0 4 rfl rfl) (rdSeg sd_23_cX8_melt_0 5 rfl rfl) (rdSeg sd_23_cX8_melt_0 6 rfl rfl) rfl
theorem dX8_melt_7 : decode cX8_melt 7 = .ok (.iload_n 1, 1) := op_27 (rdSeg sd_23_cX8_melt_0 7 rfl rfl)
theorem dX8_melt_8 : decode cX8_melt 8 = .ok (.invokevirtual 82, 3) := op_182 (rdSeg sd_23_cX8_melt_0 8 rfl rfl) (rdSeg sd_23_cX8_melt_0 9 rfl rfl) (rdSeg sd_23_cX8_melt_0 10 rfl rfl) rfl
theorem dX8_melt_11 : decode cX8_melt 11 = .ok (.ifCond .eq 13, 3) := op_153 (rdSeg sd_23_cX8_melt_0 11 rfl rfl) (rdSeg sd_23_cX8_melt_0 12 rfl rfl) (rdSeg sd_23_cX8_melt_0 13 rfl rfl) (by decide +kernel)
theorem dX8_melt_14 : decode cX8_melt 14 = .ok (.iload_n 2, 1) := op_28 (rdSeg sd_23_cX8_melt_0 14 rfl rfl)
theorem dX8_melt_15 : decode cX8_melt 15 = .ok (.iconst 1, 1) := op_4 (rdSeg sd_23_cX8_melt_0 15 rfl rfl)
theorem dX8_melt_16 : decode cX8_melt 16 = .ok (.bipush 8, 2) := op_16 (rdSeg sd_23_cX8_melt_0 16 rfl rfl) (rdSeg sd_23_cX8_melt_0 17 rfl rfl) (by decide +kernel)
theorem dX8_melt_18 : decode cX8_melt 18 = .ok (.invokestatic 63, 3) := op_184 (rdSeg sd_23_cX8_melt_0 18 rfl rfl) (rdSeg sd_23_cX8_melt_0 19 rfl rfl) (rdSeg sd_23_cX8_melt_0 20 rfl rfl) rfl
theorem dX8_melt_21 : decode cX8_melt 21 = .ok (.ifCond .ne 9, 3) := op_154 (rdSeg sd_23_cX8_melt_0 21 rfl rfl) (rdSeg sd_23_cX8_melt_0 22 rfl rfl) (rdSeg sd_23_cX8_melt_0 23 rfl rfl) (by decide +kernel)
theorem dX8_melt_24 : decode cX8_melt 24 = .ok (.aload_n 0, 1) := op_42 (rdSeg sd_23_cX8_melt_0 24 rfl rfl)
theorem dX8_melt_25 : decode cX8_melt 25 = .ok (.iconst 1, 1) := op_4 (rdSeg sd_23_cX8_melt_0 25 rfl rfl)
theorem dX8_melt_26 : decode cX8_melt 26 = .ok (.invokevirtual 67, 3) := op_182 (rdSeg sd_23_cX8_melt_0 26 rfl rfl) (rdSeg sd_23_cX8_melt_0 27 rfl rfl) (rdSeg sd_23_cX8_melt_0 28 rfl rfl) rfl
theorem dX8_melt_29 : decode cX8_melt 29 = .ok (.ireturn, 1) := op_172 (rdSeg sd_23_cX8_melt_0 29 rfl rfl)
theorem dX8_melt_30 : decode cX8_melt 30 = .ok (.aload_n 0, 1) := op_42 (rdSeg sd_23_cX8_melt_0 30 rfl rfl)
theorem dX8_melt_31 : decode cX8_melt 31 = .ok (.getfield 12, 3) := op_180 (rdSeg sd_23_cX8_melt_0 31 rfl rfl) (rdSeg sd_23_cX8_melt_1 0 rfl rfl) (rdSeg sd_23_cX8_melt_1 1 rfl rfl) rfl
theorem dX8_melt_34 : decode cX8_melt 34 = .ok (.getfield 71, 3) := op_180 (rdSeg sd_23_cX8_melt_1 2 rfl rfl) (rdSeg sd_23_cX8_melt_1 3 rfl rfl) (rdSeg sd_23_cX8_melt_1 4 rfl rfl) rfl
theorem dX8_melt_37 : decode cX8_melt 37 = .ok (.iload_n 1, 1) := op_27 (rdSeg sd_23_cX8_melt_1 5 rfl rfl)
theorem dX8_melt_38 : decode cX8_melt 38 = .ok (.iconst 2, 1) := op_5 (rdSeg sd_23_cX8_melt_1 6 rfl rfl)
theorem dX8_melt_39 : decode cX8_melt 39 = .ok (.invokevirtual 89, 3) := op_182 (rdSeg sd_23_cX8_melt_1 7 rfl rfl) (rdSeg sd_23_cX8_melt_1 8 rfl rfl) (rdSeg sd_23_cX8_melt_1 9 rfl rfl) rfl
theorem dX8_melt_42 : decode cX8_melt 42 = .ok (.ifCond .ne 9, 3) := op_154 (rdSeg sd_23_cX8_melt_1 10 rfl rfl) (rdSeg sd_23_cX8_melt_1 11 rfl rfl) (rdSeg sd_23_cX8_melt_1 12 rfl rfl) (by decide +kernel)
theorem dX8_melt_45 : decode cX8_melt 45 = .ok (.aload_n 0, 1) := op_42 (rdSeg sd_23_cX8_melt_1 13 rfl rfl)
theorem dX8_melt_46 : decode cX8_melt 46 = .ok (.iconst 3, 1) := op_6 (rdSeg sd_23_cX8_melt_1 14 rfl rfl)
theorem dX8_melt_47 : decode cX8_melt 47 = .ok (.invokevirtual 67, 3) := op_182 (rdSeg sd_23_cX8_melt_1 15 rfl rfl) (rdSeg sd_23_cX8_melt_1 16 rfl rfl) (rdSeg sd_23_cX8_melt_1 17 rfl rfl) rfl
theorem dX8_melt_50 : decode cX8_melt 50 = .ok (.ireturn, 1) := op_172 (rdSeg sd_23_cX8_melt_1 18 rfl rfl)
theorem dX8_melt_51 : decode cX8_melt 51 = .ok (.aload_n 0, 1) := op_42 (rdSeg sd_23_cX8_melt_1 19 rfl rfl)
theorem dX8_melt_52 : decode cX8_melt 52 = .ok (.getfield 12, 3) := op_180 (rdSeg sd_23_cX8_melt_1 20 rfl rfl) (rdSeg sd_23_cX8_melt_1 21 rfl rfl) (rdSeg sd_23_cX8_melt_1 22 rfl rfl) rfl
theorem dX8_melt_55 : decode cX8_melt 55 = .ok (.getfield 71, 3) := op_180 (rdSeg sd_23_cX8_melt_1 23 rfl rfl) (rdSeg sd_23_cX8_melt_1 24 rfl rfl) (rdSeg sd_23_cX8_melt_1 25 rfl rfl) rfl
theorem dX8_melt_58 : decode cX8_melt 58 = .ok (.iload_n 1, 1) := op_27 (rdSeg sd_23_cX8_melt_1 26 rfl rfl)
theorem dX8_melt_59 : decode cX8_melt 59 = .ok (.bipush 12, 2) := op_16 (rdSeg sd_23_cX8_melt_1 27 rfl rfl) (rdSeg sd_23_cX8_melt_1 28 rfl rfl) (by decide +kernel)
theorem dX8_melt_61 : decode cX8_melt 61 = .ok (.iload_n 2, 1) := op_28 (rdSeg sd_23_cX8_melt_1 29 rfl rfl)
theorem dX8_melt_62 : decode cX8_melt 62 = .ok (.invokevirtual 103, 3) := op_182 (rdSeg sd_23_cX8_melt_1 30 rfl rfl) (rdSeg sd_23_cX8_melt_1 31 rfl rfl) (rdSeg sd_23_cX8_melt_2 0 rfl rfl) rfl
theorem dX8_melt_65 : decode cX8_melt 65 = .ok (.aload_n 0, 1) := op_42 (rdSeg sd_23_cX8_melt_2 1 rfl rfl)
theorem dX8_melt_66 : decode cX8_melt 66 = .ok (.getfield 12, 3) := op_180 (rdSeg sd_23_cX8_melt_2 2 rfl rfl) (rdSeg sd_23_cX8_melt_2 3 rfl rfl) (rdSeg sd_23_cX8_melt_2 4 rfl rfl) rfl
theorem dX8_melt_69 : decode cX8_melt 69 = .ok (.getfield 71, 3) := op_180 (rdSeg sd_23_cX8_melt_2 5 rfl rfl) (rdSeg sd_23_cX8_melt_2 6 rfl rfl) (rdSeg sd_23_cX8_melt_2 7 rfl rfl) rfl
theorem dX8_melt_72 : decode cX8_melt 72 = .ok (.bipush 12, 2) := op_16 (rdSeg sd_23_cX8_melt_2 8 rfl rfl) (rdSeg sd_23_cX8_melt_2 9 rfl rfl) (by decide +kernel)
theorem dX8_melt_74 : decode cX8_melt 74 = .ok (.iconst 2, 1) := op_5 (rdSeg sd_23_cX8_melt_2 10 rfl rfl)
theorem dX8_melt_75 : decode cX8_melt 75 = .ok (.invokevirtual 89, 3) := op_182 (rdSeg sd_23_cX8_melt_2 11 rfl rfl) (rdSeg sd_23_cX8_melt_2 12 rfl rfl) (rdSeg sd_23_cX8_melt_2 13 rfl rfl) rfl
theorem dX8_melt_78 : decode cX8_melt 78 = .ok (.ireturn, 1) := op_172 (rdSeg sd_23_cX8_melt_2 14 rfl rfl)
def sg_23_cX8_crucible_0 : List UInt8 := [0x1b, 0x05, 0x10, 0x09, 0xb8, 0x00, 0x3f, 0x9a, 0x00, 0x09, 0x2a, 0x04, 0xb6, 0x00, 0x43, 0xac, 0x2a, 0xb4, 0x00, 0x0c, 0xb4, 0x00, 0x47, 0x10, 0x0c, 0x1b, 0xb6, 0x00, 0x59, 0xac]
set_option maxRecDepth 100000 in
theorem sd_23_cX8_crucible_0 : cX8_crucible.data.toList.drop 0 = sg_23_cX8_crucible_0 := by decide +kernel
theorem dX8_crucible_0 : decode cX8_crucible 0 = .ok (.iload_n 1, 1) := op_27 (rdSeg sd_23_cX8_crucible_0 0 rfl rfl)
theorem dX8_crucible_1 : decode cX8_crucible 1 = .ok (.iconst 2, 1) := op_5 (rdSeg sd_23_cX8_crucible_0 1 rfl rfl)
theorem dX8_crucible_2 : decode cX8_crucible 2 = .ok (.bipush 9, 2) := op_16 (rdSeg sd_23_cX8_crucible_0 2 rfl rfl) (rdSeg sd_23_cX8_crucible_0 3 rfl rfl) (by decide +kernel)
theorem dX8_crucible_4 : decode cX8_crucible 4 = .ok (.invokestatic 63, 3) := op_184 (rdSeg sd_23_cX8_crucible_0 4 rfl rfl) (rdSeg sd_23_cX8_crucible_0 5 rfl rfl) (rdSeg sd_23_cX8_crucible_0 6 rfl rfl) rfl
theorem dX8_crucible_7 : decode cX8_crucible 7 = .ok (.ifCond .ne 9, 3) := op_154 (rdSeg sd_23_cX8_crucible_0 7 rfl rfl) (rdSeg sd_23_cX8_crucible_0 8 rfl rfl) (rdSeg sd_23_cX8_crucible_0 9 rfl rfl) (by decide +kernel)
theorem dX8_crucible_10 : decode cX8_crucible 10 = .ok (.aload_n 0, 1) := op_42 (rdSeg sd_23_cX8_crucible_0 10 rfl rfl)
theorem dX8_crucible_11 : decode cX8_crucible 11 = .ok (.iconst 1, 1) := op_4 (rdSeg sd_23_cX8_crucible_0 11 rfl rfl)
theorem dX8_crucible_12 : decode cX8_crucible 12 = .ok (.invokevirtual 67, 3) := op_182 (rdSeg sd_23_cX8_crucible_0 12 rfl rfl) (rdSeg sd_23_cX8_crucible_0 13 rfl rfl) (rdSeg sd_23_cX8_crucible_0 14 rfl rfl) rfl
theorem dX8_crucible_15 : decode cX8_crucible 15 = .ok (.ireturn, 1) := op_172 (rdSeg sd_23_cX8_crucible_0 15 rfl rfl)
theorem dX8_crucible_16 : decode cX8_crucible 16 = .ok (.aload_n 0, 1) := op_42 (rdSeg sd_23_cX8_crucible_0 16 rfl rfl)
theorem dX8_crucible_17 : decode cX8_crucible 17 = .ok (.getfield 12, 3) := op_180 (rdSeg sd_23_cX8_crucible_0 17 rfl rfl) (rdSeg sd_23_cX8_crucible_0 18 rfl rfl) (rdSeg sd_23_cX8_crucible_0 19 rfl rfl) rfl
theorem dX8_crucible_20 : decode cX8_crucible 20 = .ok (.getfield 71, 3) := op_180 (rdSeg sd_23_cX8_crucible_0 20 rfl rfl) (rdSeg sd_23_cX8_crucible_0 21 rfl rfl) (rdSeg sd_23_cX8_crucible_0 22 rfl rfl) rfl
theorem dX8_crucible_23 : decode cX8_crucible 23 = .ok (.bipush 12, 2) := op_16 (rdSeg sd_23_cX8_crucible_0 23 rfl rfl) (rdSeg sd_23_cX8_crucible_0 24 rfl rfl) (by decide +kernel)
theorem dX8_crucible_25 : decode cX8_crucible 25 = .ok (.iload_n 1, 1) := op_27 (rdSeg sd_23_cX8_crucible_0 25 rfl rfl)
theorem dX8_crucible_26 : decode cX8_crucible 26 = .ok (.invokevirtual 89, 3) := op_182 (rdSeg sd_23_cX8_crucible_0 26 rfl rfl) (rdSeg sd_23_cX8_crucible_0 27 rfl rfl) (rdSeg sd_23_cX8_crucible_0 28 rfl rfl) rfl
theorem dX8_crucible_29 : decode cX8_crucible 29 = .ok (.ireturn, 1) := op_172 (rdSeg sd_23_cX8_crucible_0 29 rfl rfl)
def sg_23_cX8_cast_4 : List UInt8 := [0x15, 0x04, 0x10, 0x64, 0xb6, 0x00, 0x6e, 0x2a, 0xb4, 0x00, 0x0c, 0xb4, 0x00, 0x47, 0x1b, 0x15, 0x05, 0xb6, 0x00, 0x71, 0xac]
def sg_23_cX8_cast_3 : List UInt8 := 0x00 :: 0x04 :: 0x04 :: 0xa2 :: 0x00 :: 0x09 :: 0x2a :: 0x07 :: 0xb6 :: 0x00 :: 0x43 :: 0xac :: 0x2a :: 0xb4 :: 0x00 :: 0x0c :: 0xb4 :: 0x00 :: 0x47 :: 0x1c :: 0xb6 :: 0x00 :: 0x6a :: 0x2a :: 0xb4 :: 0x00 :: 0x0c :: 0xb4 :: 0x00 :: 0x47 :: 0x10 :: 0x0c :: sg_23_cX8_cast_4
def sg_23_cX8_cast_2 : List UInt8 := 0x1d :: 0x10 :: 0x64 :: 0x6c :: 0x36 :: 0x04 :: 0x1d :: 0x10 :: 0x0a :: 0x6c :: 0x10 :: 0x0a :: 0x70 :: 0x36 :: 0x05 :: 0x2a :: 0xb4 :: 0x00 :: 0x0c :: 0xb4 :: 0x00 :: 0x47 :: 0xb6 :: 0x00 :: 0x4a :: 0x15 :: 0x05 :: 0x9e :: 0x00 :: 0x07 :: 0x05 :: 0xa7 :: sg_23_cX8_cast_3
def sg_23_cX8_cast_1 : List UInt8 := 0x70 :: 0x99 :: 0x00 :: 0x09 :: 0x2a :: 0x04 :: 0xb6 :: 0x00 :: 0x43 :: 0xac :: 0x2a :: 0xb4 :: 0x00 :: 0x0c :: 0xb4 :: 0x00 :: 0x47 :: 0x10 :: 0x0c :: 0x05 :: 0xb6 :: 0x00 :: 0x59 :: 0x9a :: 0x00 :: 0x09 :: 0x2a :: 0x06 :: 0xb6 :: 0x00 :: 0x43 :: 0xac :: sg_23_cX8_cast_2
def sg_23_cX8_cast_0 : List UInt8 := 0x1b :: 0xb8 :: 0x00 :: 0x3a :: 0x99 :: 0x00 :: 0x20 :: 0x1c :: 0x03 :: 0x11 :: 0x27 :: 0x0f :: 0xb8 :: 0x00 :: 0x3f :: 0x99 :: 0x00 :: 0x15 :: 0x1d :: 0x03 :: 0x11 :: 0x03 :: 0xde :: 0xb8 :: 0x00 :: 0x3f :: 0x99 :: 0x00 :: 0x0a :: 0x1d :: 0x10 :: 0x0a :: sg_23_cX8_cast_1
set_option maxRecDepth 100000 in
theorem sd_23_cX8_cast_0 : cX8_cast.data.toList.drop 0 = sg_23_cX8_cast_0 := by decide +kernel
theorem sd_23_cX8_cast_1 : cX8_cast.data.toList.drop 32 = sg_23_cX8_cast_1 := sg_next sd_23_cX8_cast_0 rfl
theorem sd_23_cX8_cast_2 : cX8_cast.data.toList.drop 64 = sg_23_cX8_cast_2 := sg_next sd_23_cX8_cast_1 rfl
theorem sd_23_cX8_cast_3 : cX8_cast.data.toList.drop 96 = sg_23_cX8_cast_3 := sg_next sd_23_cX8_cast_2 rfl
theorem sd_23_cX8_cast_4 : cX8_cast.data.toList.drop 128 = sg_23_cX8_cast_4 := sg_next sd_23_cX8_cast_3 rfl
theorem dX8_cast_0 : decode cX8_cast 0 = .ok (.iload_n 1, 1) := op_27 (rdSeg sd_23_cX8_cast_0 0 rfl rfl)
theorem dX8_cast_1 : decode cX8_cast 1 = .ok (.invokestatic 58, 3) := op_184 (rdSeg sd_23_cX8_cast_0 1 rfl rfl) (rdSeg sd_23_cX8_cast_0 2 rfl rfl) (rdSeg sd_23_cX8_cast_0 3 rfl rfl) rfl
theorem dX8_cast_4 : decode cX8_cast 4 = .ok (.ifCond .eq 32, 3) := op_153 (rdSeg sd_23_cX8_cast_0 4 rfl rfl) (rdSeg sd_23_cX8_cast_0 5 rfl rfl) (rdSeg sd_23_cX8_cast_0 6 rfl rfl) (by decide +kernel)
theorem dX8_cast_7 : decode cX8_cast 7 = .ok (.iload_n 2, 1) := op_28 (rdSeg sd_23_cX8_cast_0 7 rfl rfl)
theorem dX8_cast_8 : decode cX8_cast 8 = .ok (.iconst 0, 1) := op_3 (rdSeg sd_23_cX8_cast_0 8 rfl rfl)
theorem dX8_cast_9 : decode cX8_cast 9 = .ok (.sipush 9999, 3) := op_17 (rdSeg sd_23_cX8_cast_0 9 rfl rfl) (rdSeg sd_23_cX8_cast_0 10 rfl rfl) (rdSeg sd_23_cX8_cast_0 11 rfl rfl) (by decide +kernel)
theorem dX8_cast_12 : decode cX8_cast 12 = .ok (.invokestatic 63, 3) := op_184 (rdSeg sd_23_cX8_cast_0 12 rfl rfl) (rdSeg sd_23_cX8_cast_0 13 rfl rfl) (rdSeg sd_23_cX8_cast_0 14 rfl rfl) rfl
theorem dX8_cast_15 : decode cX8_cast 15 = .ok (.ifCond .eq 21, 3) := op_153 (rdSeg sd_23_cX8_cast_0 15 rfl rfl) (rdSeg sd_23_cX8_cast_0 16 rfl rfl) (rdSeg sd_23_cX8_cast_0 17 rfl rfl) (by decide +kernel)
theorem dX8_cast_18 : decode cX8_cast 18 = .ok (.iload_n 3, 1) := op_29 (rdSeg sd_23_cX8_cast_0 18 rfl rfl)
theorem dX8_cast_19 : decode cX8_cast 19 = .ok (.iconst 0, 1) := op_3 (rdSeg sd_23_cX8_cast_0 19 rfl rfl)
theorem dX8_cast_20 : decode cX8_cast 20 = .ok (.sipush 990, 3) := op_17 (rdSeg sd_23_cX8_cast_0 20 rfl rfl) (rdSeg sd_23_cX8_cast_0 21 rfl rfl) (rdSeg sd_23_cX8_cast_0 22 rfl rfl) (by decide +kernel)
theorem dX8_cast_23 : decode cX8_cast 23 = .ok (.invokestatic 63, 3) := op_184 (rdSeg sd_23_cX8_cast_0 23 rfl rfl) (rdSeg sd_23_cX8_cast_0 24 rfl rfl) (rdSeg sd_23_cX8_cast_0 25 rfl rfl) rfl
theorem dX8_cast_26 : decode cX8_cast 26 = .ok (.ifCond .eq 10, 3) := op_153 (rdSeg sd_23_cX8_cast_0 26 rfl rfl) (rdSeg sd_23_cX8_cast_0 27 rfl rfl) (rdSeg sd_23_cX8_cast_0 28 rfl rfl) (by decide +kernel)
theorem dX8_cast_29 : decode cX8_cast 29 = .ok (.iload_n 3, 1) := op_29 (rdSeg sd_23_cX8_cast_0 29 rfl rfl)
theorem dX8_cast_30 : decode cX8_cast 30 = .ok (.bipush 10, 2) := op_16 (rdSeg sd_23_cX8_cast_0 30 rfl rfl) (rdSeg sd_23_cX8_cast_0 31 rfl rfl) (by decide +kernel)
theorem dX8_cast_32 : decode cX8_cast 32 = .ok (.irem, 1) := op_112 (rdSeg sd_23_cX8_cast_1 0 rfl rfl)
theorem dX8_cast_33 : decode cX8_cast 33 = .ok (.ifCond .eq 9, 3) := op_153 (rdSeg sd_23_cX8_cast_1 1 rfl rfl) (rdSeg sd_23_cX8_cast_1 2 rfl rfl) (rdSeg sd_23_cX8_cast_1 3 rfl rfl) (by decide +kernel)
theorem dX8_cast_36 : decode cX8_cast 36 = .ok (.aload_n 0, 1) := op_42 (rdSeg sd_23_cX8_cast_1 4 rfl rfl)
theorem dX8_cast_37 : decode cX8_cast 37 = .ok (.iconst 1, 1) := op_4 (rdSeg sd_23_cX8_cast_1 5 rfl rfl)
theorem dX8_cast_38 : decode cX8_cast 38 = .ok (.invokevirtual 67, 3) := op_182 (rdSeg sd_23_cX8_cast_1 6 rfl rfl) (rdSeg sd_23_cX8_cast_1 7 rfl rfl) (rdSeg sd_23_cX8_cast_1 8 rfl rfl) rfl
theorem dX8_cast_41 : decode cX8_cast 41 = .ok (.ireturn, 1) := op_172 (rdSeg sd_23_cX8_cast_1 9 rfl rfl)
theorem dX8_cast_42 : decode cX8_cast 42 = .ok (.aload_n 0, 1) := op_42 (rdSeg sd_23_cX8_cast_1 10 rfl rfl)
theorem dX8_cast_43 : decode cX8_cast 43 = .ok (.getfield 12, 3) := op_180 (rdSeg sd_23_cX8_cast_1 11 rfl rfl) (rdSeg sd_23_cX8_cast_1 12 rfl rfl) (rdSeg sd_23_cX8_cast_1 13 rfl rfl) rfl
theorem dX8_cast_46 : decode cX8_cast 46 = .ok (.getfield 71, 3) := op_180 (rdSeg sd_23_cX8_cast_1 14 rfl rfl) (rdSeg sd_23_cX8_cast_1 15 rfl rfl) (rdSeg sd_23_cX8_cast_1 16 rfl rfl) rfl
theorem dX8_cast_49 : decode cX8_cast 49 = .ok (.bipush 12, 2) := op_16 (rdSeg sd_23_cX8_cast_1 17 rfl rfl) (rdSeg sd_23_cX8_cast_1 18 rfl rfl) (by decide +kernel)
theorem dX8_cast_51 : decode cX8_cast 51 = .ok (.iconst 2, 1) := op_5 (rdSeg sd_23_cX8_cast_1 19 rfl rfl)
theorem dX8_cast_52 : decode cX8_cast 52 = .ok (.invokevirtual 89, 3) := op_182 (rdSeg sd_23_cX8_cast_1 20 rfl rfl) (rdSeg sd_23_cX8_cast_1 21 rfl rfl) (rdSeg sd_23_cX8_cast_1 22 rfl rfl) rfl
theorem dX8_cast_55 : decode cX8_cast 55 = .ok (.ifCond .ne 9, 3) := op_154 (rdSeg sd_23_cX8_cast_1 23 rfl rfl) (rdSeg sd_23_cX8_cast_1 24 rfl rfl) (rdSeg sd_23_cX8_cast_1 25 rfl rfl) (by decide +kernel)
theorem dX8_cast_58 : decode cX8_cast 58 = .ok (.aload_n 0, 1) := op_42 (rdSeg sd_23_cX8_cast_1 26 rfl rfl)
theorem dX8_cast_59 : decode cX8_cast 59 = .ok (.iconst 3, 1) := op_6 (rdSeg sd_23_cX8_cast_1 27 rfl rfl)
theorem dX8_cast_60 : decode cX8_cast 60 = .ok (.invokevirtual 67, 3) := op_182 (rdSeg sd_23_cX8_cast_1 28 rfl rfl) (rdSeg sd_23_cX8_cast_1 29 rfl rfl) (rdSeg sd_23_cX8_cast_1 30 rfl rfl) rfl
theorem dX8_cast_63 : decode cX8_cast 63 = .ok (.ireturn, 1) := op_172 (rdSeg sd_23_cX8_cast_1 31 rfl rfl)
theorem dX8_cast_64 : decode cX8_cast 64 = .ok (.iload_n 3, 1) := op_29 (rdSeg sd_23_cX8_cast_2 0 rfl rfl)
theorem dX8_cast_65 : decode cX8_cast 65 = .ok (.bipush 100, 2) := op_16 (rdSeg sd_23_cX8_cast_2 1 rfl rfl) (rdSeg sd_23_cX8_cast_2 2 rfl rfl) (by decide +kernel)
theorem dX8_cast_67 : decode cX8_cast 67 = .ok (.idiv, 1) := op_108 (rdSeg sd_23_cX8_cast_2 3 rfl rfl)
theorem dX8_cast_68 : decode cX8_cast 68 = .ok (.istore 4, 2) := op_54 (rdSeg sd_23_cX8_cast_2 4 rfl rfl) (rdSeg sd_23_cX8_cast_2 5 rfl rfl)
theorem dX8_cast_70 : decode cX8_cast 70 = .ok (.iload_n 3, 1) := op_29 (rdSeg sd_23_cX8_cast_2 6 rfl rfl)
theorem dX8_cast_71 : decode cX8_cast 71 = .ok (.bipush 10, 2) := op_16 (rdSeg sd_23_cX8_cast_2 7 rfl rfl) (rdSeg sd_23_cX8_cast_2 8 rfl rfl) (by decide +kernel)
theorem dX8_cast_73 : decode cX8_cast 73 = .ok (.idiv, 1) := op_108 (rdSeg sd_23_cX8_cast_2 9 rfl rfl)
theorem dX8_cast_74 : decode cX8_cast 74 = .ok (.bipush 10, 2) := op_16 (rdSeg sd_23_cX8_cast_2 10 rfl rfl) (rdSeg sd_23_cX8_cast_2 11 rfl rfl) (by decide +kernel)
theorem dX8_cast_76 : decode cX8_cast 76 = .ok (.irem, 1) := op_112 (rdSeg sd_23_cX8_cast_2 12 rfl rfl)
theorem dX8_cast_77 : decode cX8_cast 77 = .ok (.istore 5, 2) := op_54 (rdSeg sd_23_cX8_cast_2 13 rfl rfl) (rdSeg sd_23_cX8_cast_2 14 rfl rfl)
theorem dX8_cast_79 : decode cX8_cast 79 = .ok (.aload_n 0, 1) := op_42 (rdSeg sd_23_cX8_cast_2 15 rfl rfl)
theorem dX8_cast_80 : decode cX8_cast 80 = .ok (.getfield 12, 3) := op_180 (rdSeg sd_23_cX8_cast_2 16 rfl rfl) (rdSeg sd_23_cX8_cast_2 17 rfl rfl) (rdSeg sd_23_cX8_cast_2 18 rfl rfl) rfl
theorem dX8_cast_83 : decode cX8_cast 83 = .ok (.getfield 71, 3) := op_180 (rdSeg sd_23_cX8_cast_2 19 rfl rfl) (rdSeg sd_23_cX8_cast_2 20 rfl rfl) (rdSeg sd_23_cX8_cast_2 21 rfl rfl) rfl
theorem dX8_cast_86 : decode cX8_cast 86 = .ok (.invokevirtual 74, 3) := op_182 (rdSeg sd_23_cX8_cast_2 22 rfl rfl) (rdSeg sd_23_cX8_cast_2 23 rfl rfl) (rdSeg sd_23_cX8_cast_2 24 rfl rfl) rfl
theorem dX8_cast_89 : decode cX8_cast 89 = .ok (.iload 5, 2) := op_21 (rdSeg sd_23_cX8_cast_2 25 rfl rfl) (rdSeg sd_23_cX8_cast_2 26 rfl rfl)
theorem dX8_cast_91 : decode cX8_cast 91 = .ok (.ifCond .le 7, 3) := op_158 (rdSeg sd_23_cX8_cast_2 27 rfl rfl) (rdSeg sd_23_cX8_cast_2 28 rfl rfl) (rdSeg sd_23_cX8_cast_2 29 rfl rfl) (by decide +kernel)
theorem dX8_cast_94 : decode cX8_cast 94 = .ok (.iconst 2, 1) := op_5 (rdSeg sd_23_cX8_cast_2 30 rfl rfl)
theorem dX8_cast_95 : decode cX8_cast 95 = .ok (.goto 4, 3) := op_167 (rdSeg sd_23_cX8_cast_2 31 rfl rfl) (rdSeg sd_23_cX8_cast_3 0 rfl rfl) (rdSeg sd_23_cX8_cast_3 1 rfl rfl) (by decide +kernel)
theorem dX8_cast_98 : decode cX8_cast 98 = .ok (.iconst 1, 1) := op_4 (rdSeg sd_23_cX8_cast_3 2 rfl rfl)
theorem dX8_cast_99 : decode cX8_cast 99 = .ok (.if_icmp .ge 9, 3) := op_162 (rdSeg sd_23_cX8_cast_3 3 rfl rfl) (rdSeg sd_23_cX8_cast_3 4 rfl rfl) (rdSeg sd_23_cX8_cast_3 5 rfl rfl) (by decide +kernel)
theorem dX8_cast_102 : decode cX8_cast 102 = .ok (.aload_n 0, 1) := op_42 (rdSeg sd_23_cX8_cast_3 6 rfl rfl)
theorem dX8_cast_103 : decode cX8_cast 103 = .ok (.iconst 4, 1) := op_7 (rdSeg sd_23_cX8_cast_3 7 rfl rfl)
theorem dX8_cast_104 : decode cX8_cast 104 = .ok (.invokevirtual 67, 3) := op_182 (rdSeg sd_23_cX8_cast_3 8 rfl rfl) (rdSeg sd_23_cX8_cast_3 9 rfl rfl) (rdSeg sd_23_cX8_cast_3 10 rfl rfl) rfl
theorem dX8_cast_107 : decode cX8_cast 107 = .ok (.ireturn, 1) := op_172 (rdSeg sd_23_cX8_cast_3 11 rfl rfl)
theorem dX8_cast_108 : decode cX8_cast 108 = .ok (.aload_n 0, 1) := op_42 (rdSeg sd_23_cX8_cast_3 12 rfl rfl)
theorem dX8_cast_109 : decode cX8_cast 109 = .ok (.getfield 12, 3) := op_180 (rdSeg sd_23_cX8_cast_3 13 rfl rfl) (rdSeg sd_23_cX8_cast_3 14 rfl rfl) (rdSeg sd_23_cX8_cast_3 15 rfl rfl) rfl
theorem dX8_cast_112 : decode cX8_cast 112 = .ok (.getfield 71, 3) := op_180 (rdSeg sd_23_cX8_cast_3 16 rfl rfl) (rdSeg sd_23_cX8_cast_3 17 rfl rfl) (rdSeg sd_23_cX8_cast_3 18 rfl rfl) rfl
theorem dX8_cast_115 : decode cX8_cast 115 = .ok (.iload_n 2, 1) := op_28 (rdSeg sd_23_cX8_cast_3 19 rfl rfl)
theorem dX8_cast_116 : decode cX8_cast 116 = .ok (.invokevirtual 106, 3) := op_182 (rdSeg sd_23_cX8_cast_3 20 rfl rfl) (rdSeg sd_23_cX8_cast_3 21 rfl rfl) (rdSeg sd_23_cX8_cast_3 22 rfl rfl) rfl
theorem dX8_cast_119 : decode cX8_cast 119 = .ok (.aload_n 0, 1) := op_42 (rdSeg sd_23_cX8_cast_3 23 rfl rfl)
theorem dX8_cast_120 : decode cX8_cast 120 = .ok (.getfield 12, 3) := op_180 (rdSeg sd_23_cX8_cast_3 24 rfl rfl) (rdSeg sd_23_cX8_cast_3 25 rfl rfl) (rdSeg sd_23_cX8_cast_3 26 rfl rfl) rfl
theorem dX8_cast_123 : decode cX8_cast 123 = .ok (.getfield 71, 3) := op_180 (rdSeg sd_23_cX8_cast_3 27 rfl rfl) (rdSeg sd_23_cX8_cast_3 28 rfl rfl) (rdSeg sd_23_cX8_cast_3 29 rfl rfl) rfl
theorem dX8_cast_126 : decode cX8_cast 126 = .ok (.bipush 12, 2) := op_16 (rdSeg sd_23_cX8_cast_3 30 rfl rfl) (rdSeg sd_23_cX8_cast_3 31 rfl rfl) (by decide +kernel)
theorem dX8_cast_128 : decode cX8_cast 128 = .ok (.iload 4, 2) := op_21 (rdSeg sd_23_cX8_cast_4 0 rfl rfl) (rdSeg sd_23_cX8_cast_4 1 rfl rfl)
theorem dX8_cast_130 : decode cX8_cast 130 = .ok (.bipush 100, 2) := op_16 (rdSeg sd_23_cX8_cast_4 2 rfl rfl) (rdSeg sd_23_cX8_cast_4 3 rfl rfl) (by decide +kernel)
theorem dX8_cast_132 : decode cX8_cast 132 = .ok (.invokevirtual 110, 3) := op_182 (rdSeg sd_23_cX8_cast_4 4 rfl rfl) (rdSeg sd_23_cX8_cast_4 5 rfl rfl) (rdSeg sd_23_cX8_cast_4 6 rfl rfl) rfl
theorem dX8_cast_135 : decode cX8_cast 135 = .ok (.aload_n 0, 1) := op_42 (rdSeg sd_23_cX8_cast_4 7 rfl rfl)
theorem dX8_cast_136 : decode cX8_cast 136 = .ok (.getfield 12, 3) := op_180 (rdSeg sd_23_cX8_cast_4 8 rfl rfl) (rdSeg sd_23_cX8_cast_4 9 rfl rfl) (rdSeg sd_23_cX8_cast_4 10 rfl rfl) rfl
theorem dX8_cast_139 : decode cX8_cast 139 = .ok (.getfield 71, 3) := op_180 (rdSeg sd_23_cX8_cast_4 11 rfl rfl) (rdSeg sd_23_cX8_cast_4 12 rfl rfl) (rdSeg sd_23_cX8_cast_4 13 rfl rfl) rfl
theorem dX8_cast_142 : decode cX8_cast 142 = .ok (.iload_n 1, 1) := op_27 (rdSeg sd_23_cX8_cast_4 14 rfl rfl)
theorem dX8_cast_143 : decode cX8_cast 143 = .ok (.iload 5, 2) := op_21 (rdSeg sd_23_cX8_cast_4 15 rfl rfl) (rdSeg sd_23_cX8_cast_4 16 rfl rfl)
theorem dX8_cast_145 : decode cX8_cast 145 = .ok (.invokevirtual 113, 3) := op_182 (rdSeg sd_23_cX8_cast_4 17 rfl rfl) (rdSeg sd_23_cX8_cast_4 18 rfl rfl) (rdSeg sd_23_cX8_cast_4 19 rfl rfl) rfl
theorem dX8_cast_148 : decode cX8_cast 148 = .ok (.ireturn, 1) := op_172 (rdSeg sd_23_cX8_cast_4 20 rfl rfl)
def sg_23_cX8_years_1 : List UInt8 := [0x00, 0x09, 0x2a, 0x06, 0xb6, 0x00, 0x43, 0xac, 0x2a, 0xb4, 0x00, 0x0c, 0xb4, 0x00, 0x47, 0x1b, 0xb6, 0x00, 0x77, 0x2a, 0xb4, 0x00, 0x0c, 0xb4, 0x00, 0x47, 0xb6, 0x00, 0x7a, 0xac]
def sg_23_cX8_years_0 : List UInt8 := 0x1b :: 0x04 :: 0x10 :: 0x3c :: 0xb8 :: 0x00 :: 0x3f :: 0x9a :: 0x00 :: 0x09 :: 0x2a :: 0x04 :: 0xb6 :: 0x00 :: 0x43 :: 0xac :: 0x2a :: 0xb4 :: 0x00 :: 0x0c :: 0xb4 :: 0x00 :: 0x47 :: 0xb6 :: 0x00 :: 0x74 :: 0x1b :: 0x60 :: 0x11 :: 0x27 :: 0x0f :: 0xa4 :: sg_23_cX8_years_1
set_option maxRecDepth 100000 in
theorem sd_23_cX8_years_0 : cX8_years.data.toList.drop 0 = sg_23_cX8_years_0 := by decide +kernel
theorem sd_23_cX8_years_1 : cX8_years.data.toList.drop 32 = sg_23_cX8_years_1 := sg_next sd_23_cX8_years_0 rfl
theorem dX8_years_0 : decode cX8_years 0 = .ok (.iload_n 1, 1) := op_27 (rdSeg sd_23_cX8_years_0 0 rfl rfl)
theorem dX8_years_1 : decode cX8_years 1 = .ok (.iconst 1, 1) := op_4 (rdSeg sd_23_cX8_years_0 1 rfl rfl)
theorem dX8_years_2 : decode cX8_years 2 = .ok (.bipush 60, 2) := op_16 (rdSeg sd_23_cX8_years_0 2 rfl rfl) (rdSeg sd_23_cX8_years_0 3 rfl rfl) (by decide +kernel)
theorem dX8_years_4 : decode cX8_years 4 = .ok (.invokestatic 63, 3) := op_184 (rdSeg sd_23_cX8_years_0 4 rfl rfl) (rdSeg sd_23_cX8_years_0 5 rfl rfl) (rdSeg sd_23_cX8_years_0 6 rfl rfl) rfl
theorem dX8_years_7 : decode cX8_years 7 = .ok (.ifCond .ne 9, 3) := op_154 (rdSeg sd_23_cX8_years_0 7 rfl rfl) (rdSeg sd_23_cX8_years_0 8 rfl rfl) (rdSeg sd_23_cX8_years_0 9 rfl rfl) (by decide +kernel)
theorem dX8_years_10 : decode cX8_years 10 = .ok (.aload_n 0, 1) := op_42 (rdSeg sd_23_cX8_years_0 10 rfl rfl)
theorem dX8_years_11 : decode cX8_years 11 = .ok (.iconst 1, 1) := op_4 (rdSeg sd_23_cX8_years_0 11 rfl rfl)
theorem dX8_years_12 : decode cX8_years 12 = .ok (.invokevirtual 67, 3) := op_182 (rdSeg sd_23_cX8_years_0 12 rfl rfl) (rdSeg sd_23_cX8_years_0 13 rfl rfl) (rdSeg sd_23_cX8_years_0 14 rfl rfl) rfl
theorem dX8_years_15 : decode cX8_years 15 = .ok (.ireturn, 1) := op_172 (rdSeg sd_23_cX8_years_0 15 rfl rfl)
theorem dX8_years_16 : decode cX8_years 16 = .ok (.aload_n 0, 1) := op_42 (rdSeg sd_23_cX8_years_0 16 rfl rfl)
theorem dX8_years_17 : decode cX8_years 17 = .ok (.getfield 12, 3) := op_180 (rdSeg sd_23_cX8_years_0 17 rfl rfl) (rdSeg sd_23_cX8_years_0 18 rfl rfl) (rdSeg sd_23_cX8_years_0 19 rfl rfl) rfl
theorem dX8_years_20 : decode cX8_years 20 = .ok (.getfield 71, 3) := op_180 (rdSeg sd_23_cX8_years_0 20 rfl rfl) (rdSeg sd_23_cX8_years_0 21 rfl rfl) (rdSeg sd_23_cX8_years_0 22 rfl rfl) rfl
theorem dX8_years_23 : decode cX8_years 23 = .ok (.invokevirtual 116, 3) := op_182 (rdSeg sd_23_cX8_years_0 23 rfl rfl) (rdSeg sd_23_cX8_years_0 24 rfl rfl) (rdSeg sd_23_cX8_years_0 25 rfl rfl) rfl
theorem dX8_years_26 : decode cX8_years 26 = .ok (.iload_n 1, 1) := op_27 (rdSeg sd_23_cX8_years_0 26 rfl rfl)
theorem dX8_years_27 : decode cX8_years 27 = .ok (.iadd, 1) := op_96 (rdSeg sd_23_cX8_years_0 27 rfl rfl)
theorem dX8_years_28 : decode cX8_years 28 = .ok (.sipush 9999, 3) := op_17 (rdSeg sd_23_cX8_years_0 28 rfl rfl) (rdSeg sd_23_cX8_years_0 29 rfl rfl) (rdSeg sd_23_cX8_years_0 30 rfl rfl) (by decide +kernel)
theorem dX8_years_31 : decode cX8_years 31 = .ok (.if_icmp .le 9, 3) := op_164 (rdSeg sd_23_cX8_years_0 31 rfl rfl) (rdSeg sd_23_cX8_years_1 0 rfl rfl) (rdSeg sd_23_cX8_years_1 1 rfl rfl) (by decide +kernel)
theorem dX8_years_34 : decode cX8_years 34 = .ok (.aload_n 0, 1) := op_42 (rdSeg sd_23_cX8_years_1 2 rfl rfl)
theorem dX8_years_35 : decode cX8_years 35 = .ok (.iconst 3, 1) := op_6 (rdSeg sd_23_cX8_years_1 3 rfl rfl)
theorem dX8_years_36 : decode cX8_years 36 = .ok (.invokevirtual 67, 3) := op_182 (rdSeg sd_23_cX8_years_1 4 rfl rfl) (rdSeg sd_23_cX8_years_1 5 rfl rfl) (rdSeg sd_23_cX8_years_1 6 rfl rfl) rfl
theorem dX8_years_39 : decode cX8_years 39 = .ok (.ireturn, 1) := op_172 (rdSeg sd_23_cX8_years_1 7 rfl rfl)
theorem dX8_years_40 : decode cX8_years 40 = .ok (.aload_n 0, 1) := op_42 (rdSeg sd_23_cX8_years_1 8 rfl rfl)
theorem dX8_years_41 : decode cX8_years 41 = .ok (.getfield 12, 3) := op_180 (rdSeg sd_23_cX8_years_1 9 rfl rfl) (rdSeg sd_23_cX8_years_1 10 rfl rfl) (rdSeg sd_23_cX8_years_1 11 rfl rfl) rfl
theorem dX8_years_44 : decode cX8_years 44 = .ok (.getfield 71, 3) := op_180 (rdSeg sd_23_cX8_years_1 12 rfl rfl) (rdSeg sd_23_cX8_years_1 13 rfl rfl) (rdSeg sd_23_cX8_years_1 14 rfl rfl) rfl
theorem dX8_years_47 : decode cX8_years 47 = .ok (.iload_n 1, 1) := op_27 (rdSeg sd_23_cX8_years_1 15 rfl rfl)
theorem dX8_years_48 : decode cX8_years 48 = .ok (.invokevirtual 119, 3) := op_182 (rdSeg sd_23_cX8_years_1 16 rfl rfl) (rdSeg sd_23_cX8_years_1 17 rfl rfl) (rdSeg sd_23_cX8_years_1 18 rfl rfl) rfl
theorem dX8_years_51 : decode cX8_years 51 = .ok (.aload_n 0, 1) := op_42 (rdSeg sd_23_cX8_years_1 19 rfl rfl)
theorem dX8_years_52 : decode cX8_years 52 = .ok (.getfield 12, 3) := op_180 (rdSeg sd_23_cX8_years_1 20 rfl rfl) (rdSeg sd_23_cX8_years_1 21 rfl rfl) (rdSeg sd_23_cX8_years_1 22 rfl rfl) rfl
theorem dX8_years_55 : decode cX8_years 55 = .ok (.getfield 71, 3) := op_180 (rdSeg sd_23_cX8_years_1 23 rfl rfl) (rdSeg sd_23_cX8_years_1 24 rfl rfl) (rdSeg sd_23_cX8_years_1 25 rfl rfl) rfl
theorem dX8_years_58 : decode cX8_years 58 = .ok (.invokevirtual 122, 3) := op_182 (rdSeg sd_23_cX8_years_1 26 rfl rfl) (rdSeg sd_23_cX8_years_1 27 rfl rfl) (rdSeg sd_23_cX8_years_1 28 rfl rfl) rfl
theorem dX8_years_61 : decode cX8_years 61 = .ok (.ireturn, 1) := op_172 (rdSeg sd_23_cX8_years_1 29 rfl rfl)
def sg_23_cX8_then_2 : List UInt8 := [0x00, 0x0c, 0x2a, 0xb4, 0x00, 0x16, 0x1c, 0x1d, 0xb6, 0x00, 0x55, 0xac]
def sg_23_cX8_then_1 : List UInt8 := 0x00 :: 0x09 :: 0x2a :: 0x04 :: 0xb6 :: 0x00 :: 0x43 :: 0xac :: 0x2a :: 0xb4 :: 0x00 :: 0x16 :: 0x2a :: 0xb4 :: 0x00 :: 0x0c :: 0xb4 :: 0x00 :: 0x47 :: 0xb6 :: 0x00 :: 0x7d :: 0x2a :: 0xb4 :: 0x00 :: 0x16 :: 0x1b :: 0xb6 :: 0x00 :: 0x77 :: 0x2a :: 0xb4 :: sg_23_cX8_then_2
def sg_23_cX8_then_0 : List UInt8 := 0x1b :: 0x03 :: 0x10 :: 0x3c :: 0xb8 :: 0x00 :: 0x3f :: 0x99 :: 0x00 :: 0x1b :: 0x2a :: 0xb4 :: 0x00 :: 0x0c :: 0xb4 :: 0x00 :: 0x47 :: 0x1c :: 0xb6 :: 0x00 :: 0x52 :: 0x99 :: 0x00 :: 0x0d :: 0x1d :: 0x03 :: 0x10 :: 0x0a :: 0xb8 :: 0x00 :: 0x3f :: 0x9a :: sg_23_cX8_then_1
set_option maxRecDepth 100000 in
theorem sd_23_cX8_then_0 : cX8_then.data.toList.drop 0 = sg_23_cX8_then_0 := by decide +kernel
theorem sd_23_cX8_then_1 : cX8_then.data.toList.drop 32 = sg_23_cX8_then_1 := sg_next sd_23_cX8_then_0 rfl
theorem sd_23_cX8_then_2 : cX8_then.data.toList.drop 64 = sg_23_cX8_then_2 := sg_next sd_23_cX8_then_1 rfl
theorem dX8_then_0 : decode cX8_then 0 = .ok (.iload_n 1, 1) := op_27 (rdSeg sd_23_cX8_then_0 0 rfl rfl)
theorem dX8_then_1 : decode cX8_then 1 = .ok (.iconst 0, 1) := op_3 (rdSeg sd_23_cX8_then_0 1 rfl rfl)
theorem dX8_then_2 : decode cX8_then 2 = .ok (.bipush 60, 2) := op_16 (rdSeg sd_23_cX8_then_0 2 rfl rfl) (rdSeg sd_23_cX8_then_0 3 rfl rfl) (by decide +kernel)
theorem dX8_then_4 : decode cX8_then 4 = .ok (.invokestatic 63, 3) := op_184 (rdSeg sd_23_cX8_then_0 4 rfl rfl) (rdSeg sd_23_cX8_then_0 5 rfl rfl) (rdSeg sd_23_cX8_then_0 6 rfl rfl) rfl
theorem dX8_then_7 : decode cX8_then 7 = .ok (.ifCond .eq 27, 3) := op_153 (rdSeg sd_23_cX8_then_0 7 rfl rfl) (rdSeg sd_23_cX8_then_0 8 rfl rfl) (rdSeg sd_23_cX8_then_0 9 rfl rfl) (by decide +kernel)
theorem dX8_then_10 : decode cX8_then 10 = .ok (.aload_n 0, 1) := op_42 (rdSeg sd_23_cX8_then_0 10 rfl rfl)
theorem dX8_then_11 : decode cX8_then 11 = .ok (.getfield 12, 3) := op_180 (rdSeg sd_23_cX8_then_0 11 rfl rfl) (rdSeg sd_23_cX8_then_0 12 rfl rfl) (rdSeg sd_23_cX8_then_0 13 rfl rfl) rfl
theorem dX8_then_14 : decode cX8_then 14 = .ok (.getfield 71, 3) := op_180 (rdSeg sd_23_cX8_then_0 14 rfl rfl) (rdSeg sd_23_cX8_then_0 15 rfl rfl) (rdSeg sd_23_cX8_then_0 16 rfl rfl) rfl
theorem dX8_then_17 : decode cX8_then 17 = .ok (.iload_n 2, 1) := op_28 (rdSeg sd_23_cX8_then_0 17 rfl rfl)
theorem dX8_then_18 : decode cX8_then 18 = .ok (.invokevirtual 82, 3) := op_182 (rdSeg sd_23_cX8_then_0 18 rfl rfl) (rdSeg sd_23_cX8_then_0 19 rfl rfl) (rdSeg sd_23_cX8_then_0 20 rfl rfl) rfl
theorem dX8_then_21 : decode cX8_then 21 = .ok (.ifCond .eq 13, 3) := op_153 (rdSeg sd_23_cX8_then_0 21 rfl rfl) (rdSeg sd_23_cX8_then_0 22 rfl rfl) (rdSeg sd_23_cX8_then_0 23 rfl rfl) (by decide +kernel)
theorem dX8_then_24 : decode cX8_then 24 = .ok (.iload_n 3, 1) := op_29 (rdSeg sd_23_cX8_then_0 24 rfl rfl)
theorem dX8_then_25 : decode cX8_then 25 = .ok (.iconst 0, 1) := op_3 (rdSeg sd_23_cX8_then_0 25 rfl rfl)
theorem dX8_then_26 : decode cX8_then 26 = .ok (.bipush 10, 2) := op_16 (rdSeg sd_23_cX8_then_0 26 rfl rfl) (rdSeg sd_23_cX8_then_0 27 rfl rfl) (by decide +kernel)
theorem dX8_then_28 : decode cX8_then 28 = .ok (.invokestatic 63, 3) := op_184 (rdSeg sd_23_cX8_then_0 28 rfl rfl) (rdSeg sd_23_cX8_then_0 29 rfl rfl) (rdSeg sd_23_cX8_then_0 30 rfl rfl) rfl
theorem dX8_then_31 : decode cX8_then 31 = .ok (.ifCond .ne 9, 3) := op_154 (rdSeg sd_23_cX8_then_0 31 rfl rfl) (rdSeg sd_23_cX8_then_1 0 rfl rfl) (rdSeg sd_23_cX8_then_1 1 rfl rfl) (by decide +kernel)
theorem dX8_then_34 : decode cX8_then 34 = .ok (.aload_n 0, 1) := op_42 (rdSeg sd_23_cX8_then_1 2 rfl rfl)
theorem dX8_then_35 : decode cX8_then 35 = .ok (.iconst 1, 1) := op_4 (rdSeg sd_23_cX8_then_1 3 rfl rfl)
theorem dX8_then_36 : decode cX8_then 36 = .ok (.invokevirtual 67, 3) := op_182 (rdSeg sd_23_cX8_then_1 4 rfl rfl) (rdSeg sd_23_cX8_then_1 5 rfl rfl) (rdSeg sd_23_cX8_then_1 6 rfl rfl) rfl
theorem dX8_then_39 : decode cX8_then 39 = .ok (.ireturn, 1) := op_172 (rdSeg sd_23_cX8_then_1 7 rfl rfl)
theorem dX8_then_40 : decode cX8_then 40 = .ok (.aload_n 0, 1) := op_42 (rdSeg sd_23_cX8_then_1 8 rfl rfl)
theorem dX8_then_41 : decode cX8_then 41 = .ok (.getfield 22, 3) := op_180 (rdSeg sd_23_cX8_then_1 9 rfl rfl) (rdSeg sd_23_cX8_then_1 10 rfl rfl) (rdSeg sd_23_cX8_then_1 11 rfl rfl) rfl
theorem dX8_then_44 : decode cX8_then 44 = .ok (.aload_n 0, 1) := op_42 (rdSeg sd_23_cX8_then_1 12 rfl rfl)
theorem dX8_then_45 : decode cX8_then 45 = .ok (.getfield 12, 3) := op_180 (rdSeg sd_23_cX8_then_1 13 rfl rfl) (rdSeg sd_23_cX8_then_1 14 rfl rfl) (rdSeg sd_23_cX8_then_1 15 rfl rfl) rfl
theorem dX8_then_48 : decode cX8_then 48 = .ok (.getfield 71, 3) := op_180 (rdSeg sd_23_cX8_then_1 16 rfl rfl) (rdSeg sd_23_cX8_then_1 17 rfl rfl) (rdSeg sd_23_cX8_then_1 18 rfl rfl) rfl
theorem dX8_then_51 : decode cX8_then 51 = .ok (.invokevirtual 125, 3) := op_182 (rdSeg sd_23_cX8_then_1 19 rfl rfl) (rdSeg sd_23_cX8_then_1 20 rfl rfl) (rdSeg sd_23_cX8_then_1 21 rfl rfl) rfl
theorem dX8_then_54 : decode cX8_then 54 = .ok (.aload_n 0, 1) := op_42 (rdSeg sd_23_cX8_then_1 22 rfl rfl)
theorem dX8_then_55 : decode cX8_then 55 = .ok (.getfield 22, 3) := op_180 (rdSeg sd_23_cX8_then_1 23 rfl rfl) (rdSeg sd_23_cX8_then_1 24 rfl rfl) (rdSeg sd_23_cX8_then_1 25 rfl rfl) rfl
theorem dX8_then_58 : decode cX8_then 58 = .ok (.iload_n 1, 1) := op_27 (rdSeg sd_23_cX8_then_1 26 rfl rfl)
theorem dX8_then_59 : decode cX8_then 59 = .ok (.invokevirtual 119, 3) := op_182 (rdSeg sd_23_cX8_then_1 27 rfl rfl) (rdSeg sd_23_cX8_then_1 28 rfl rfl) (rdSeg sd_23_cX8_then_1 29 rfl rfl) rfl
theorem dX8_then_62 : decode cX8_then 62 = .ok (.aload_n 0, 1) := op_42 (rdSeg sd_23_cX8_then_1 30 rfl rfl)
theorem dX8_then_63 : decode cX8_then 63 = .ok (.getfield 12, 3) := op_180 (rdSeg sd_23_cX8_then_1 31 rfl rfl) (rdSeg sd_23_cX8_then_2 0 rfl rfl) (rdSeg sd_23_cX8_then_2 1 rfl rfl) rfl
theorem dX8_then_66 : decode cX8_then 66 = .ok (.aload_n 0, 1) := op_42 (rdSeg sd_23_cX8_then_2 2 rfl rfl)
theorem dX8_then_67 : decode cX8_then 67 = .ok (.getfield 22, 3) := op_180 (rdSeg sd_23_cX8_then_2 3 rfl rfl) (rdSeg sd_23_cX8_then_2 4 rfl rfl) (rdSeg sd_23_cX8_then_2 5 rfl rfl) rfl
theorem dX8_then_70 : decode cX8_then 70 = .ok (.iload_n 2, 1) := op_28 (rdSeg sd_23_cX8_then_2 6 rfl rfl)
theorem dX8_then_71 : decode cX8_then 71 = .ok (.iload_n 3, 1) := op_29 (rdSeg sd_23_cX8_then_2 7 rfl rfl)
theorem dX8_then_72 : decode cX8_then 72 = .ok (.invokevirtual 85, 3) := op_182 (rdSeg sd_23_cX8_then_2 8 rfl rfl) (rdSeg sd_23_cX8_then_2 9 rfl rfl) (rdSeg sd_23_cX8_then_2 10 rfl rfl) rfl
theorem dX8_then_75 : decode cX8_then 75 = .ok (.ireturn, 1) := op_172 (rdSeg sd_23_cX8_then_2 11 rfl rfl)
def sg_23_cX8_seed_0 : List UInt8 := [0x2a, 0xb4, 0x00, 0x0c, 0xb4, 0x00, 0x47, 0x1b, 0xb6, 0x00, 0x81, 0xac]
set_option maxRecDepth 100000 in
theorem sd_23_cX8_seed_0 : cX8_seed.data.toList.drop 0 = sg_23_cX8_seed_0 := by decide +kernel
theorem dX8_seed_0 : decode cX8_seed 0 = .ok (.aload_n 0, 1) := op_42 (rdSeg sd_23_cX8_seed_0 0 rfl rfl)
theorem dX8_seed_1 : decode cX8_seed 1 = .ok (.getfield 12, 3) := op_180 (rdSeg sd_23_cX8_seed_0 1 rfl rfl) (rdSeg sd_23_cX8_seed_0 2 rfl rfl) (rdSeg sd_23_cX8_seed_0 3 rfl rfl) rfl
theorem dX8_seed_4 : decode cX8_seed 4 = .ok (.getfield 71, 3) := op_180 (rdSeg sd_23_cX8_seed_0 4 rfl rfl) (rdSeg sd_23_cX8_seed_0 5 rfl rfl) (rdSeg sd_23_cX8_seed_0 6 rfl rfl) rfl
theorem dX8_seed_7 : decode cX8_seed 7 = .ok (.iload_n 1, 1) := op_27 (rdSeg sd_23_cX8_seed_0 7 rfl rfl)
theorem dX8_seed_8 : decode cX8_seed 8 = .ok (.invokevirtual 129, 3) := op_182 (rdSeg sd_23_cX8_seed_0 8 rfl rfl) (rdSeg sd_23_cX8_seed_0 9 rfl rfl) (rdSeg sd_23_cX8_seed_0 10 rfl rfl) rfl
theorem dX8_seed_11 : decode cX8_seed 11 = .ok (.ireturn, 1) := op_172 (rdSeg sd_23_cX8_seed_0 11 rfl rfl)
def sg_23_cX8_feed_2 : List UInt8 := [0x03, 0x03, 0xb6, 0x00, 0x8b, 0x57, 0x84, 0x04, 0x01, 0xa7, 0xff, 0xde, 0x2a, 0xb4, 0x00, 0x0c, 0xb4, 0x00, 0x84, 0xb6, 0x00, 0x8f, 0xac]
def sg_23_cX8_feed_1 : List UInt8 := 0xb6 :: 0x00 :: 0x43 :: 0xac :: 0x03 :: 0x36 :: 0x04 :: 0x15 :: 0x04 :: 0x1d :: 0xa2 :: 0x00 :: 0x22 :: 0x2a :: 0xb4 :: 0x00 :: 0x0c :: 0xb4 :: 0x00 :: 0x84 :: 0x1f :: 0x10 :: 0x08 :: 0x15 :: 0x04 :: 0x68 :: 0x7b :: 0x88 :: 0x11 :: 0x00 :: 0xff :: 0x7e :: sg_23_cX8_feed_2
def sg_23_cX8_feed_0 : List UInt8 := 0x1d :: 0x04 :: 0x10 :: 0x08 :: 0xb8 :: 0x00 :: 0x3f :: 0x9a :: 0x00 :: 0x09 :: 0x2a :: 0x04 :: 0xb6 :: 0x00 :: 0x43 :: 0xac :: 0x2a :: 0xb4 :: 0x00 :: 0x0c :: 0xb4 :: 0x00 :: 0x84 :: 0xb6 :: 0x00 :: 0x88 :: 0x1d :: 0xa2 :: 0x00 :: 0x09 :: 0x2a :: 0x07 :: sg_23_cX8_feed_1
set_option maxRecDepth 100000 in
theorem sd_23_cX8_feed_0 : cX8_feed.data.toList.drop 0 = sg_23_cX8_feed_0 := by decide +kernel
theorem sd_23_cX8_feed_1 : cX8_feed.data.toList.drop 32 = sg_23_cX8_feed_1 := sg_next sd_23_cX8_feed_0 rfl
theorem sd_23_cX8_feed_2 : cX8_feed.data.toList.drop 64 = sg_23_cX8_feed_2 := sg_next sd_23_cX8_feed_1 rfl
theorem dX8_feed_0 : decode cX8_feed 0 = .ok (.iload_n 3, 1) := op_29 (rdSeg sd_23_cX8_feed_0 0 rfl rfl)
theorem dX8_feed_1 : decode cX8_feed 1 = .ok (.iconst 1, 1) := op_4 (rdSeg sd_23_cX8_feed_0 1 rfl rfl)
theorem dX8_feed_2 : decode cX8_feed 2 = .ok (.bipush 8, 2) := op_16 (rdSeg sd_23_cX8_feed_0 2 rfl rfl) (rdSeg sd_23_cX8_feed_0 3 rfl rfl) (by decide +kernel)
theorem dX8_feed_4 : decode cX8_feed 4 = .ok (.invokestatic 63, 3) := op_184 (rdSeg sd_23_cX8_feed_0 4 rfl rfl) (rdSeg sd_23_cX8_feed_0 5 rfl rfl) (rdSeg sd_23_cX8_feed_0 6 rfl rfl) rfl
theorem dX8_feed_7 : decode cX8_feed 7 = .ok (.ifCond .ne 9, 3) := op_154 (rdSeg sd_23_cX8_feed_0 7 rfl rfl) (rdSeg sd_23_cX8_feed_0 8 rfl rfl) (rdSeg sd_23_cX8_feed_0 9 rfl rfl) (by decide +kernel)
theorem dX8_feed_10 : decode cX8_feed 10 = .ok (.aload_n 0, 1) := op_42 (rdSeg sd_23_cX8_feed_0 10 rfl rfl)
theorem dX8_feed_11 : decode cX8_feed 11 = .ok (.iconst 1, 1) := op_4 (rdSeg sd_23_cX8_feed_0 11 rfl rfl)
theorem dX8_feed_12 : decode cX8_feed 12 = .ok (.invokevirtual 67, 3) := op_182 (rdSeg sd_23_cX8_feed_0 12 rfl rfl) (rdSeg sd_23_cX8_feed_0 13 rfl rfl) (rdSeg sd_23_cX8_feed_0 14 rfl rfl) rfl
theorem dX8_feed_15 : decode cX8_feed 15 = .ok (.ireturn, 1) := op_172 (rdSeg sd_23_cX8_feed_0 15 rfl rfl)
theorem dX8_feed_16 : decode cX8_feed 16 = .ok (.aload_n 0, 1) := op_42 (rdSeg sd_23_cX8_feed_0 16 rfl rfl)
theorem dX8_feed_17 : decode cX8_feed 17 = .ok (.getfield 12, 3) := op_180 (rdSeg sd_23_cX8_feed_0 17 rfl rfl) (rdSeg sd_23_cX8_feed_0 18 rfl rfl) (rdSeg sd_23_cX8_feed_0 19 rfl rfl) rfl
theorem dX8_feed_20 : decode cX8_feed 20 = .ok (.getfield 132, 3) := op_180 (rdSeg sd_23_cX8_feed_0 20 rfl rfl) (rdSeg sd_23_cX8_feed_0 21 rfl rfl) (rdSeg sd_23_cX8_feed_0 22 rfl rfl) rfl
theorem dX8_feed_23 : decode cX8_feed 23 = .ok (.invokevirtual 136, 3) := op_182 (rdSeg sd_23_cX8_feed_0 23 rfl rfl) (rdSeg sd_23_cX8_feed_0 24 rfl rfl) (rdSeg sd_23_cX8_feed_0 25 rfl rfl) rfl
theorem dX8_feed_26 : decode cX8_feed 26 = .ok (.iload_n 3, 1) := op_29 (rdSeg sd_23_cX8_feed_0 26 rfl rfl)
theorem dX8_feed_27 : decode cX8_feed 27 = .ok (.if_icmp .ge 9, 3) := op_162 (rdSeg sd_23_cX8_feed_0 27 rfl rfl) (rdSeg sd_23_cX8_feed_0 28 rfl rfl) (rdSeg sd_23_cX8_feed_0 29 rfl rfl) (by decide +kernel)
theorem dX8_feed_30 : decode cX8_feed 30 = .ok (.aload_n 0, 1) := op_42 (rdSeg sd_23_cX8_feed_0 30 rfl rfl)
theorem dX8_feed_31 : decode cX8_feed 31 = .ok (.iconst 4, 1) := op_7 (rdSeg sd_23_cX8_feed_0 31 rfl rfl)
theorem dX8_feed_32 : decode cX8_feed 32 = .ok (.invokevirtual 67, 3) := op_182 (rdSeg sd_23_cX8_feed_1 0 rfl rfl) (rdSeg sd_23_cX8_feed_1 1 rfl rfl) (rdSeg sd_23_cX8_feed_1 2 rfl rfl) rfl
theorem dX8_feed_35 : decode cX8_feed 35 = .ok (.ireturn, 1) := op_172 (rdSeg sd_23_cX8_feed_1 3 rfl rfl)
theorem dX8_feed_36 : decode cX8_feed 36 = .ok (.iconst 0, 1) := op_3 (rdSeg sd_23_cX8_feed_1 4 rfl rfl)
theorem dX8_feed_37 : decode cX8_feed 37 = .ok (.istore 4, 2) := op_54 (rdSeg sd_23_cX8_feed_1 5 rfl rfl) (rdSeg sd_23_cX8_feed_1 6 rfl rfl)
theorem dX8_feed_39 : decode cX8_feed 39 = .ok (.iload 4, 2) := op_21 (rdSeg sd_23_cX8_feed_1 7 rfl rfl) (rdSeg sd_23_cX8_feed_1 8 rfl rfl)
theorem dX8_feed_41 : decode cX8_feed 41 = .ok (.iload_n 3, 1) := op_29 (rdSeg sd_23_cX8_feed_1 9 rfl rfl)
theorem dX8_feed_42 : decode cX8_feed 42 = .ok (.if_icmp .ge 34, 3) := op_162 (rdSeg sd_23_cX8_feed_1 10 rfl rfl) (rdSeg sd_23_cX8_feed_1 11 rfl rfl) (rdSeg sd_23_cX8_feed_1 12 rfl rfl) (by decide +kernel)
theorem dX8_feed_45 : decode cX8_feed 45 = .ok (.aload_n 0, 1) := op_42 (rdSeg sd_23_cX8_feed_1 13 rfl rfl)
theorem dX8_feed_46 : decode cX8_feed 46 = .ok (.getfield 12, 3) := op_180 (rdSeg sd_23_cX8_feed_1 14 rfl rfl) (rdSeg sd_23_cX8_feed_1 15 rfl rfl) (rdSeg sd_23_cX8_feed_1 16 rfl rfl) rfl
theorem dX8_feed_49 : decode cX8_feed 49 = .ok (.getfield 132, 3) := op_180 (rdSeg sd_23_cX8_feed_1 17 rfl rfl) (rdSeg sd_23_cX8_feed_1 18 rfl rfl) (rdSeg sd_23_cX8_feed_1 19 rfl rfl) rfl
theorem dX8_feed_52 : decode cX8_feed 52 = .ok (.lload_n 1, 1) := op_31 (rdSeg sd_23_cX8_feed_1 20 rfl rfl)
theorem dX8_feed_53 : decode cX8_feed 53 = .ok (.bipush 8, 2) := op_16 (rdSeg sd_23_cX8_feed_1 21 rfl rfl) (rdSeg sd_23_cX8_feed_1 22 rfl rfl) (by decide +kernel)
theorem dX8_feed_55 : decode cX8_feed 55 = .ok (.iload 4, 2) := op_21 (rdSeg sd_23_cX8_feed_1 23 rfl rfl) (rdSeg sd_23_cX8_feed_1 24 rfl rfl)
theorem dX8_feed_57 : decode cX8_feed 57 = .ok (.imul, 1) := op_104 (rdSeg sd_23_cX8_feed_1 25 rfl rfl)
theorem dX8_feed_58 : decode cX8_feed 58 = .ok (.lshr, 1) := op_123 (rdSeg sd_23_cX8_feed_1 26 rfl rfl)
theorem dX8_feed_59 : decode cX8_feed 59 = .ok (.l2i, 1) := op_136 (rdSeg sd_23_cX8_feed_1 27 rfl rfl)
theorem dX8_feed_60 : decode cX8_feed 60 = .ok (.sipush 255, 3) := op_17 (rdSeg sd_23_cX8_feed_1 28 rfl rfl) (rdSeg sd_23_cX8_feed_1 29 rfl rfl) (rdSeg sd_23_cX8_feed_1 30 rfl rfl) (by decide +kernel)
theorem dX8_feed_63 : decode cX8_feed 63 = .ok (.iand, 1) := op_126 (rdSeg sd_23_cX8_feed_1 31 rfl rfl)
theorem dX8_feed_64 : decode cX8_feed 64 = .ok (.iconst 0, 1) := op_3 (rdSeg sd_23_cX8_feed_2 0 rfl rfl)
theorem dX8_feed_65 : decode cX8_feed 65 = .ok (.iconst 0, 1) := op_3 (rdSeg sd_23_cX8_feed_2 1 rfl rfl)
theorem dX8_feed_66 : decode cX8_feed 66 = .ok (.invokevirtual 139, 3) := op_182 (rdSeg sd_23_cX8_feed_2 2 rfl rfl) (rdSeg sd_23_cX8_feed_2 3 rfl rfl) (rdSeg sd_23_cX8_feed_2 4 rfl rfl) rfl
theorem dX8_feed_69 : decode cX8_feed 69 = .ok (.pop, 1) := op_87 (rdSeg sd_23_cX8_feed_2 5 rfl rfl)
theorem dX8_feed_70 : decode cX8_feed 70 = .ok (.iinc 4 1, 3) := op_132 (rdSeg sd_23_cX8_feed_2 6 rfl rfl) (rdSeg sd_23_cX8_feed_2 7 rfl rfl) (rdSeg sd_23_cX8_feed_2 8 rfl rfl) (by decide +kernel)
theorem dX8_feed_73 : decode cX8_feed 73 = .ok (.goto (-34), 3) := op_167 (rdSeg sd_23_cX8_feed_2 9 rfl rfl) (rdSeg sd_23_cX8_feed_2 10 rfl rfl) (rdSeg sd_23_cX8_feed_2 11 rfl rfl) (by decide +kernel)
theorem dX8_feed_76 : decode cX8_feed 76 = .ok (.aload_n 0, 1) := op_42 (rdSeg sd_23_cX8_feed_2 12 rfl rfl)
theorem dX8_feed_77 : decode cX8_feed 77 = .ok (.getfield 12, 3) := op_180 (rdSeg sd_23_cX8_feed_2 13 rfl rfl) (rdSeg sd_23_cX8_feed_2 14 rfl rfl) (rdSeg sd_23_cX8_feed_2 15 rfl rfl) rfl
theorem dX8_feed_80 : decode cX8_feed 80 = .ok (.getfield 132, 3) := op_180 (rdSeg sd_23_cX8_feed_2 16 rfl rfl) (rdSeg sd_23_cX8_feed_2 17 rfl rfl) (rdSeg sd_23_cX8_feed_2 18 rfl rfl) rfl
theorem dX8_feed_83 : decode cX8_feed 83 = .ok (.invokevirtual 143, 3) := op_182 (rdSeg sd_23_cX8_feed_2 19 rfl rfl) (rdSeg sd_23_cX8_feed_2 20 rfl rfl) (rdSeg sd_23_cX8_feed_2 21 rfl rfl) rfl
theorem dX8_feed_86 : decode cX8_feed 86 = .ok (.ireturn, 1) := op_172 (rdSeg sd_23_cX8_feed_2 22 rfl rfl)
def sg_23_cX8_text_2 : List UInt8 := [0x9d, 0x04, 0xac]
def sg_23_cX8_text_1 : List UInt8 := 0xb4 :: 0x00 :: 0x0c :: 0xb4 :: 0x00 :: 0x84 :: 0xb6 :: 0x00 :: 0x96 :: 0x1c :: 0x9b :: 0x00 :: 0x08 :: 0x10 :: 0xf6 :: 0x1c :: 0x64 :: 0xac :: 0x2a :: 0xb4 :: 0x00 :: 0x24 :: 0x2a :: 0xb4 :: 0x00 :: 0x0c :: 0x1b :: 0xb6 :: 0x00 :: 0x99 :: 0xb6 :: 0x00 :: sg_23_cX8_text_2
def sg_23_cX8_text_0 : List UInt8 := 0x1b :: 0x03 :: 0x04 :: 0xb8 :: 0x00 :: 0x3f :: 0x9a :: 0x00 :: 0x09 :: 0x2a :: 0x04 :: 0xb6 :: 0x00 :: 0x43 :: 0xac :: 0x2a :: 0xb4 :: 0x00 :: 0x24 :: 0x2a :: 0xb4 :: 0x00 :: 0x0c :: 0xb4 :: 0x00 :: 0x84 :: 0x1b :: 0xb6 :: 0x00 :: 0x92 :: 0x3d :: 0x2a :: sg_23_cX8_text_1
set_option maxRecDepth 100000 in
theorem sd_23_cX8_text_0 : cX8_text.data.toList.drop 0 = sg_23_cX8_text_0 := by decide +kernel
theorem sd_23_cX8_text_1 : cX8_text.data.toList.drop 32 = sg_23_cX8_text_1 := sg_next sd_23_cX8_text_0 rfl
theorem sd_23_cX8_text_2 : cX8_text.data.toList.drop 64 = sg_23_cX8_text_2 := sg_next sd_23_cX8_text_1 rfl
theorem dX8_text_0 : decode cX8_text 0 = .ok (.iload_n 1, 1) := op_27 (rdSeg sd_23_cX8_text_0 0 rfl rfl)
theorem dX8_text_1 : decode cX8_text 1 = .ok (.iconst 0, 1) := op_3 (rdSeg sd_23_cX8_text_0 1 rfl rfl)
theorem dX8_text_2 : decode cX8_text 2 = .ok (.iconst 1, 1) := op_4 (rdSeg sd_23_cX8_text_0 2 rfl rfl)
theorem dX8_text_3 : decode cX8_text 3 = .ok (.invokestatic 63, 3) := op_184 (rdSeg sd_23_cX8_text_0 3 rfl rfl) (rdSeg sd_23_cX8_text_0 4 rfl rfl) (rdSeg sd_23_cX8_text_0 5 rfl rfl) rfl
theorem dX8_text_6 : decode cX8_text 6 = .ok (.ifCond .ne 9, 3) := op_154 (rdSeg sd_23_cX8_text_0 6 rfl rfl) (rdSeg sd_23_cX8_text_0 7 rfl rfl) (rdSeg sd_23_cX8_text_0 8 rfl rfl) (by decide +kernel)
theorem dX8_text_9 : decode cX8_text 9 = .ok (.aload_n 0, 1) := op_42 (rdSeg sd_23_cX8_text_0 9 rfl rfl)
theorem dX8_text_10 : decode cX8_text 10 = .ok (.iconst 1, 1) := op_4 (rdSeg sd_23_cX8_text_0 10 rfl rfl)
theorem dX8_text_11 : decode cX8_text 11 = .ok (.invokevirtual 67, 3) := op_182 (rdSeg sd_23_cX8_text_0 11 rfl rfl) (rdSeg sd_23_cX8_text_0 12 rfl rfl) (rdSeg sd_23_cX8_text_0 13 rfl rfl) rfl
theorem dX8_text_14 : decode cX8_text 14 = .ok (.ireturn, 1) := op_172 (rdSeg sd_23_cX8_text_0 14 rfl rfl)
theorem dX8_text_15 : decode cX8_text 15 = .ok (.aload_n 0, 1) := op_42 (rdSeg sd_23_cX8_text_0 15 rfl rfl)
theorem dX8_text_16 : decode cX8_text 16 = .ok (.getfield 36, 3) := op_180 (rdSeg sd_23_cX8_text_0 16 rfl rfl) (rdSeg sd_23_cX8_text_0 17 rfl rfl) (rdSeg sd_23_cX8_text_0 18 rfl rfl) rfl
theorem dX8_text_19 : decode cX8_text 19 = .ok (.aload_n 0, 1) := op_42 (rdSeg sd_23_cX8_text_0 19 rfl rfl)
theorem dX8_text_20 : decode cX8_text 20 = .ok (.getfield 12, 3) := op_180 (rdSeg sd_23_cX8_text_0 20 rfl rfl) (rdSeg sd_23_cX8_text_0 21 rfl rfl) (rdSeg sd_23_cX8_text_0 22 rfl rfl) rfl
theorem dX8_text_23 : decode cX8_text 23 = .ok (.getfield 132, 3) := op_180 (rdSeg sd_23_cX8_text_0 23 rfl rfl) (rdSeg sd_23_cX8_text_0 24 rfl rfl) (rdSeg sd_23_cX8_text_0 25 rfl rfl) rfl
theorem dX8_text_26 : decode cX8_text 26 = .ok (.iload_n 1, 1) := op_27 (rdSeg sd_23_cX8_text_0 26 rfl rfl)
theorem dX8_text_27 : decode cX8_text 27 = .ok (.invokevirtual 146, 3) := op_182 (rdSeg sd_23_cX8_text_0 27 rfl rfl) (rdSeg sd_23_cX8_text_0 28 rfl rfl) (rdSeg sd_23_cX8_text_0 29 rfl rfl) rfl
theorem dX8_text_30 : decode cX8_text 30 = .ok (.istore_n 2, 1) := op_61 (rdSeg sd_23_cX8_text_0 30 rfl rfl)
theorem dX8_text_31 : decode cX8_text 31 = .ok (.aload_n 0, 1) := op_42 (rdSeg sd_23_cX8_text_0 31 rfl rfl)
theorem dX8_text_32 : decode cX8_text 32 = .ok (.getfield 12, 3) := op_180 (rdSeg sd_23_cX8_text_1 0 rfl rfl) (rdSeg sd_23_cX8_text_1 1 rfl rfl) (rdSeg sd_23_cX8_text_1 2 rfl rfl) rfl
theorem dX8_text_35 : decode cX8_text 35 = .ok (.getfield 132, 3) := op_180 (rdSeg sd_23_cX8_text_1 3 rfl rfl) (rdSeg sd_23_cX8_text_1 4 rfl rfl) (rdSeg sd_23_cX8_text_1 5 rfl rfl) rfl
theorem dX8_text_38 : decode cX8_text 38 = .ok (.invokevirtual 150, 3) := op_182 (rdSeg sd_23_cX8_text_1 6 rfl rfl) (rdSeg sd_23_cX8_text_1 7 rfl rfl) (rdSeg sd_23_cX8_text_1 8 rfl rfl) rfl
theorem dX8_text_41 : decode cX8_text 41 = .ok (.iload_n 2, 1) := op_28 (rdSeg sd_23_cX8_text_1 9 rfl rfl)
theorem dX8_text_42 : decode cX8_text 42 = .ok (.ifCond .lt 8, 3) := op_155 (rdSeg sd_23_cX8_text_1 10 rfl rfl) (rdSeg sd_23_cX8_text_1 11 rfl rfl) (rdSeg sd_23_cX8_text_1 12 rfl rfl) (by decide +kernel)
theorem dX8_text_45 : decode cX8_text 45 = .ok (.bipush (-10), 2) := op_16 (rdSeg sd_23_cX8_text_1 13 rfl rfl) (rdSeg sd_23_cX8_text_1 14 rfl rfl) (by decide +kernel)
theorem dX8_text_47 : decode cX8_text 47 = .ok (.iload_n 2, 1) := op_28 (rdSeg sd_23_cX8_text_1 15 rfl rfl)
theorem dX8_text_48 : decode cX8_text 48 = .ok (.isub, 1) := op_100 (rdSeg sd_23_cX8_text_1 16 rfl rfl)
theorem dX8_text_49 : decode cX8_text 49 = .ok (.ireturn, 1) := op_172 (rdSeg sd_23_cX8_text_1 17 rfl rfl)
theorem dX8_text_50 : decode cX8_text 50 = .ok (.aload_n 0, 1) := op_42 (rdSeg sd_23_cX8_text_1 18 rfl rfl)
theorem dX8_text_51 : decode cX8_text 51 = .ok (.getfield 36, 3) := op_180 (rdSeg sd_23_cX8_text_1 19 rfl rfl) (rdSeg sd_23_cX8_text_1 20 rfl rfl) (rdSeg sd_23_cX8_text_1 21 rfl rfl) rfl
theorem dX8_text_54 : decode cX8_text 54 = .ok (.aload_n 0, 1) := op_42 (rdSeg sd_23_cX8_text_1 22 rfl rfl)
theorem dX8_text_55 : decode cX8_text 55 = .ok (.getfield 12, 3) := op_180 (rdSeg sd_23_cX8_text_1 23 rfl rfl) (rdSeg sd_23_cX8_text_1 24 rfl rfl) (rdSeg sd_23_cX8_text_1 25 rfl rfl) rfl
theorem dX8_text_58 : decode cX8_text 58 = .ok (.iload_n 1, 1) := op_27 (rdSeg sd_23_cX8_text_1 26 rfl rfl)
theorem dX8_text_59 : decode cX8_text 59 = .ok (.invokevirtual 153, 3) := op_182 (rdSeg sd_23_cX8_text_1 27 rfl rfl) (rdSeg sd_23_cX8_text_1 28 rfl rfl) (rdSeg sd_23_cX8_text_1 29 rfl rfl) rfl
theorem dX8_text_62 : decode cX8_text 62 = .ok (.invokevirtual 157, 3) := op_182 (rdSeg sd_23_cX8_text_1 30 rfl rfl) (rdSeg sd_23_cX8_text_1 31 rfl rfl) (rdSeg sd_23_cX8_text_2 0 rfl rfl) rfl
theorem dX8_text_65 : decode cX8_text 65 = .ok (.iconst 1, 1) := op_4 (rdSeg sd_23_cX8_text_2 1 rfl rfl)
theorem dX8_text_66 : decode cX8_text 66 = .ok (.ireturn, 1) := op_172 (rdSeg sd_23_cX8_text_2 2 rfl rfl)
def sg_23_cX8_untell_1 : List UInt8 := [0x04, 0x03, 0x3d, 0x2a, 0xb4, 0x00, 0x0c, 0x1b, 0xb6, 0x00, 0x99, 0xb6, 0x00, 0x96, 0x1c, 0xac]
def sg_23_cX8_untell_0 : List UInt8 := 0x1b :: 0x03 :: 0x04 :: 0xb8 :: 0x00 :: 0x3f :: 0x9a :: 0x00 :: 0x09 :: 0x2a :: 0x04 :: 0xb6 :: 0x00 :: 0x43 :: 0xac :: 0x2a :: 0xb4 :: 0x00 :: 0x0c :: 0x1b :: 0xb6 :: 0x00 :: 0x99 :: 0xb6 :: 0x00 :: 0x8f :: 0x9e :: 0x00 :: 0x07 :: 0x04 :: 0xa7 :: 0x00 :: sg_23_cX8_untell_1
set_option maxRecDepth 100000 in
theorem sd_23_cX8_untell_0 : cX8_untell.data.toList.drop 0 = sg_23_cX8_untell_0 := by decide +kernel
theorem sd_23_cX8_untell_1 : cX8_untell.data.toList.drop 32 = sg_23_cX8_untell_1 := sg_next sd_23_cX8_untell_0 rfl
theorem dX8_untell_0 : decode cX8_untell 0 = .ok (.iload_n 1, 1) := op_27 (rdSeg sd_23_cX8_untell_0 0 rfl rfl)
theorem dX8_untell_1 : decode cX8_untell 1 = .ok (.iconst 0, 1) := op_3 (rdSeg sd_23_cX8_untell_0 1 rfl rfl)
theorem dX8_untell_2 : decode cX8_untell 2 = .ok (.iconst 1, 1) := op_4 (rdSeg sd_23_cX8_untell_0 2 rfl rfl)
theorem dX8_untell_3 : decode cX8_untell 3 = .ok (.invokestatic 63, 3) := op_184 (rdSeg sd_23_cX8_untell_0 3 rfl rfl) (rdSeg sd_23_cX8_untell_0 4 rfl rfl) (rdSeg sd_23_cX8_untell_0 5 rfl rfl) rfl
theorem dX8_untell_6 : decode cX8_untell 6 = .ok (.ifCond .ne 9, 3) := op_154 (rdSeg sd_23_cX8_untell_0 6 rfl rfl) (rdSeg sd_23_cX8_untell_0 7 rfl rfl) (rdSeg sd_23_cX8_untell_0 8 rfl rfl) (by decide +kernel)
theorem dX8_untell_9 : decode cX8_untell 9 = .ok (.aload_n 0, 1) := op_42 (rdSeg sd_23_cX8_untell_0 9 rfl rfl)
theorem dX8_untell_10 : decode cX8_untell 10 = .ok (.iconst 1, 1) := op_4 (rdSeg sd_23_cX8_untell_0 10 rfl rfl)
theorem dX8_untell_11 : decode cX8_untell 11 = .ok (.invokevirtual 67, 3) := op_182 (rdSeg sd_23_cX8_untell_0 11 rfl rfl) (rdSeg sd_23_cX8_untell_0 12 rfl rfl) (rdSeg sd_23_cX8_untell_0 13 rfl rfl) rfl
theorem dX8_untell_14 : decode cX8_untell 14 = .ok (.ireturn, 1) := op_172 (rdSeg sd_23_cX8_untell_0 14 rfl rfl)
theorem dX8_untell_15 : decode cX8_untell 15 = .ok (.aload_n 0, 1) := op_42 (rdSeg sd_23_cX8_untell_0 15 rfl rfl)
theorem dX8_untell_16 : decode cX8_untell 16 = .ok (.getfield 12, 3) := op_180 (rdSeg sd_23_cX8_untell_0 16 rfl rfl) (rdSeg sd_23_cX8_untell_0 17 rfl rfl) (rdSeg sd_23_cX8_untell_0 18 rfl rfl) rfl
theorem dX8_untell_19 : decode cX8_untell 19 = .ok (.iload_n 1, 1) := op_27 (rdSeg sd_23_cX8_untell_0 19 rfl rfl)
theorem dX8_untell_20 : decode cX8_untell 20 = .ok (.invokevirtual 153, 3) := op_182 (rdSeg sd_23_cX8_untell_0 20 rfl rfl) (rdSeg sd_23_cX8_untell_0 21 rfl rfl) (rdSeg sd_23_cX8_untell_0 22 rfl rfl) rfl
theorem dX8_untell_23 : decode cX8_untell 23 = .ok (.invokevirtual 143, 3) := op_182 (rdSeg sd_23_cX8_untell_0 23 rfl rfl) (rdSeg sd_23_cX8_untell_0 24 rfl rfl) (rdSeg sd_23_cX8_untell_0 25 rfl rfl) rfl
theorem dX8_untell_26 : decode cX8_untell 26 = .ok (.ifCond .le 7, 3) := op_158 (rdSeg sd_23_cX8_untell_0 26 rfl rfl) (rdSeg sd_23_cX8_untell_0 27 rfl rfl) (rdSeg sd_23_cX8_untell_0 28 rfl rfl) (by decide +kernel)
theorem dX8_untell_29 : decode cX8_untell 29 = .ok (.iconst 1, 1) := op_4 (rdSeg sd_23_cX8_untell_0 29 rfl rfl)
theorem dX8_untell_30 : decode cX8_untell 30 = .ok (.goto 4, 3) := op_167 (rdSeg sd_23_cX8_untell_0 30 rfl rfl) (rdSeg sd_23_cX8_untell_0 31 rfl rfl) (rdSeg sd_23_cX8_untell_1 0 rfl rfl) (by decide +kernel)
theorem dX8_untell_33 : decode cX8_untell 33 = .ok (.iconst 0, 1) := op_3 (rdSeg sd_23_cX8_untell_1 1 rfl rfl)
theorem dX8_untell_34 : decode cX8_untell 34 = .ok (.istore_n 2, 1) := op_61 (rdSeg sd_23_cX8_untell_1 2 rfl rfl)
theorem dX8_untell_35 : decode cX8_untell 35 = .ok (.aload_n 0, 1) := op_42 (rdSeg sd_23_cX8_untell_1 3 rfl rfl)
theorem dX8_untell_36 : decode cX8_untell 36 = .ok (.getfield 12, 3) := op_180 (rdSeg sd_23_cX8_untell_1 4 rfl rfl) (rdSeg sd_23_cX8_untell_1 5 rfl rfl) (rdSeg sd_23_cX8_untell_1 6 rfl rfl) rfl
theorem dX8_untell_39 : decode cX8_untell 39 = .ok (.iload_n 1, 1) := op_27 (rdSeg sd_23_cX8_untell_1 7 rfl rfl)
theorem dX8_untell_40 : decode cX8_untell 40 = .ok (.invokevirtual 153, 3) := op_182 (rdSeg sd_23_cX8_untell_1 8 rfl rfl) (rdSeg sd_23_cX8_untell_1 9 rfl rfl) (rdSeg sd_23_cX8_untell_1 10 rfl rfl) rfl
theorem dX8_untell_43 : decode cX8_untell 43 = .ok (.invokevirtual 150, 3) := op_182 (rdSeg sd_23_cX8_untell_1 11 rfl rfl) (rdSeg sd_23_cX8_untell_1 12 rfl rfl) (rdSeg sd_23_cX8_untell_1 13 rfl rfl) rfl
theorem dX8_untell_46 : decode cX8_untell 46 = .ok (.iload_n 2, 1) := op_28 (rdSeg sd_23_cX8_untell_1 14 rfl rfl)
theorem dX8_untell_47 : decode cX8_untell 47 = .ok (.ireturn, 1) := op_172 (rdSeg sd_23_cX8_untell_1 15 rfl rfl)
def sg_23_cX8_claim_1 : List UInt8 := [0x00, 0x0c, 0xb4, 0x00, 0xa2, 0xb6, 0x00, 0x88, 0x04, 0xa2, 0x00, 0x09, 0x2a, 0x07, 0xb6, 0x00, 0x43, 0xac, 0x2a, 0xb4, 0x00, 0x0c, 0xb4, 0x00, 0xa2, 0x1b, 0x1c, 0x03, 0xb6, 0x00, 0x8b, 0xac]
def sg_23_cX8_claim_0 : List UInt8 := 0x2a :: 0xb4 :: 0x00 :: 0x0c :: 0xb4 :: 0x00 :: 0x47 :: 0x1b :: 0xb6 :: 0x00 :: 0x52 :: 0x99 :: 0x00 :: 0x0d :: 0x1c :: 0x04 :: 0x12 :: 0xa1 :: 0xb8 :: 0x00 :: 0x3f :: 0x9a :: 0x00 :: 0x09 :: 0x2a :: 0x04 :: 0xb6 :: 0x00 :: 0x43 :: 0xac :: 0x2a :: 0xb4 :: sg_23_cX8_claim_1
set_option maxRecDepth 100000 in
theorem sd_23_cX8_claim_0 : cX8_claim.data.toList.drop 0 = sg_23_cX8_claim_0 := by decide +kernel
theorem sd_23_cX8_claim_1 : cX8_claim.data.toList.drop 32 = sg_23_cX8_claim_1 := sg_next sd_23_cX8_claim_0 rfl
theorem dX8_claim_0 : decode cX8_claim 0 = .ok (.aload_n 0, 1) := op_42 (rdSeg sd_23_cX8_claim_0 0 rfl rfl)
theorem dX8_claim_1 : decode cX8_claim 1 = .ok (.getfield 12, 3) := op_180 (rdSeg sd_23_cX8_claim_0 1 rfl rfl) (rdSeg sd_23_cX8_claim_0 2 rfl rfl) (rdSeg sd_23_cX8_claim_0 3 rfl rfl) rfl
theorem dX8_claim_4 : decode cX8_claim 4 = .ok (.getfield 71, 3) := op_180 (rdSeg sd_23_cX8_claim_0 4 rfl rfl) (rdSeg sd_23_cX8_claim_0 5 rfl rfl) (rdSeg sd_23_cX8_claim_0 6 rfl rfl) rfl
theorem dX8_claim_7 : decode cX8_claim 7 = .ok (.iload_n 1, 1) := op_27 (rdSeg sd_23_cX8_claim_0 7 rfl rfl)
theorem dX8_claim_8 : decode cX8_claim 8 = .ok (.invokevirtual 82, 3) := op_182 (rdSeg sd_23_cX8_claim_0 8 rfl rfl) (rdSeg sd_23_cX8_claim_0 9 rfl rfl) (rdSeg sd_23_cX8_claim_0 10 rfl rfl) rfl
theorem dX8_claim_11 : decode cX8_claim 11 = .ok (.ifCond .eq 13, 3) := op_153 (rdSeg sd_23_cX8_claim_0 11 rfl rfl) (rdSeg sd_23_cX8_claim_0 12 rfl rfl) (rdSeg sd_23_cX8_claim_0 13 rfl rfl) (by decide +kernel)
theorem dX8_claim_14 : decode cX8_claim 14 = .ok (.iload_n 2, 1) := op_28 (rdSeg sd_23_cX8_claim_0 14 rfl rfl)
theorem dX8_claim_15 : decode cX8_claim 15 = .ok (.iconst 1, 1) := op_4 (rdSeg sd_23_cX8_claim_0 15 rfl rfl)
theorem dX8_claim_16 : decode cX8_claim 16 = .ok (.ldc 161, 2) := op_18 (rdSeg sd_23_cX8_claim_0 16 rfl rfl) (rdSeg sd_23_cX8_claim_0 17 rfl rfl)
theorem dX8_claim_18 : decode cX8_claim 18 = .ok (.invokestatic 63, 3) := op_184 (rdSeg sd_23_cX8_claim_0 18 rfl rfl) (rdSeg sd_23_cX8_claim_0 19 rfl rfl) (rdSeg sd_23_cX8_claim_0 20 rfl rfl) rfl
theorem dX8_claim_21 : decode cX8_claim 21 = .ok (.ifCond .ne 9, 3) := op_154 (rdSeg sd_23_cX8_claim_0 21 rfl rfl) (rdSeg sd_23_cX8_claim_0 22 rfl rfl) (rdSeg sd_23_cX8_claim_0 23 rfl rfl) (by decide +kernel)
theorem dX8_claim_24 : decode cX8_claim 24 = .ok (.aload_n 0, 1) := op_42 (rdSeg sd_23_cX8_claim_0 24 rfl rfl)
theorem dX8_claim_25 : decode cX8_claim 25 = .ok (.iconst 1, 1) := op_4 (rdSeg sd_23_cX8_claim_0 25 rfl rfl)
theorem dX8_claim_26 : decode cX8_claim 26 = .ok (.invokevirtual 67, 3) := op_182 (rdSeg sd_23_cX8_claim_0 26 rfl rfl) (rdSeg sd_23_cX8_claim_0 27 rfl rfl) (rdSeg sd_23_cX8_claim_0 28 rfl rfl) rfl
theorem dX8_claim_29 : decode cX8_claim 29 = .ok (.ireturn, 1) := op_172 (rdSeg sd_23_cX8_claim_0 29 rfl rfl)
theorem dX8_claim_30 : decode cX8_claim 30 = .ok (.aload_n 0, 1) := op_42 (rdSeg sd_23_cX8_claim_0 30 rfl rfl)
theorem dX8_claim_31 : decode cX8_claim 31 = .ok (.getfield 12, 3) := op_180 (rdSeg sd_23_cX8_claim_0 31 rfl rfl) (rdSeg sd_23_cX8_claim_1 0 rfl rfl) (rdSeg sd_23_cX8_claim_1 1 rfl rfl) rfl
theorem dX8_claim_34 : decode cX8_claim 34 = .ok (.getfield 162, 3) := op_180 (rdSeg sd_23_cX8_claim_1 2 rfl rfl) (rdSeg sd_23_cX8_claim_1 3 rfl rfl) (rdSeg sd_23_cX8_claim_1 4 rfl rfl) rfl
theorem dX8_claim_37 : decode cX8_claim 37 = .ok (.invokevirtual 136, 3) := op_182 (rdSeg sd_23_cX8_claim_1 5 rfl rfl) (rdSeg sd_23_cX8_claim_1 6 rfl rfl) (rdSeg sd_23_cX8_claim_1 7 rfl rfl) rfl
theorem dX8_claim_40 : decode cX8_claim 40 = .ok (.iconst 1, 1) := op_4 (rdSeg sd_23_cX8_claim_1 8 rfl rfl)
theorem dX8_claim_41 : decode cX8_claim 41 = .ok (.if_icmp .ge 9, 3) := op_162 (rdSeg sd_23_cX8_claim_1 9 rfl rfl) (rdSeg sd_23_cX8_claim_1 10 rfl rfl) (rdSeg sd_23_cX8_claim_1 11 rfl rfl) (by decide +kernel)
theorem dX8_claim_44 : decode cX8_claim 44 = .ok (.aload_n 0, 1) := op_42 (rdSeg sd_23_cX8_claim_1 12 rfl rfl)
theorem dX8_claim_45 : decode cX8_claim 45 = .ok (.iconst 4, 1) := op_7 (rdSeg sd_23_cX8_claim_1 13 rfl rfl)
theorem dX8_claim_46 : decode cX8_claim 46 = .ok (.invokevirtual 67, 3) := op_182 (rdSeg sd_23_cX8_claim_1 14 rfl rfl) (rdSeg sd_23_cX8_claim_1 15 rfl rfl) (rdSeg sd_23_cX8_claim_1 16 rfl rfl) rfl
theorem dX8_claim_49 : decode cX8_claim 49 = .ok (.ireturn, 1) := op_172 (rdSeg sd_23_cX8_claim_1 17 rfl rfl)
theorem dX8_claim_50 : decode cX8_claim 50 = .ok (.aload_n 0, 1) := op_42 (rdSeg sd_23_cX8_claim_1 18 rfl rfl)
theorem dX8_claim_51 : decode cX8_claim 51 = .ok (.getfield 12, 3) := op_180 (rdSeg sd_23_cX8_claim_1 19 rfl rfl) (rdSeg sd_23_cX8_claim_1 20 rfl rfl) (rdSeg sd_23_cX8_claim_1 21 rfl rfl) rfl
theorem dX8_claim_54 : decode cX8_claim 54 = .ok (.getfield 162, 3) := op_180 (rdSeg sd_23_cX8_claim_1 22 rfl rfl) (rdSeg sd_23_cX8_claim_1 23 rfl rfl) (rdSeg sd_23_cX8_claim_1 24 rfl rfl) rfl
theorem dX8_claim_57 : decode cX8_claim 57 = .ok (.iload_n 1, 1) := op_27 (rdSeg sd_23_cX8_claim_1 25 rfl rfl)
theorem dX8_claim_58 : decode cX8_claim 58 = .ok (.iload_n 2, 1) := op_28 (rdSeg sd_23_cX8_claim_1 26 rfl rfl)
end
section
-- decode rows of the class
def sg_24_cX8_claim_1 : List UInt8 := [0x00, 0x0c, 0xb4, 0x00, 0xa2, 0xb6, 0x00, 0x88, 0x04, 0xa2, 0x00, 0x09, 0x2a, 0x07, 0xb6, 0x00, 0x43, 0xac, 0x2a, 0xb4, 0x00, 0x0c, 0xb4, 0x00, 0xa2, 0x1b, 0x1c, 0x03, 0xb6, 0x00, 0x8b, 0xac]
def sg_24_cX8_claim_0 : List UInt8 := 0x2a :: 0xb4 :: 0x00 :: 0x0c :: 0xb4 :: 0x00 :: 0x47 :: 0x1b :: 0xb6 :: 0x00 :: 0x52 :: 0x99 :: 0x00 :: 0x0d :: 0x1c :: 0x04 :: 0x12 :: 0xa1 :: 0xb8 :: 0x00 :: 0x3f :: 0x9a :: 0x00 :: 0x09 :: 0x2a :: 0x04 :: 0xb6 :: 0x00 :: 0x43 :: 0xac :: 0x2a :: 0xb4 :: sg_24_cX8_claim_1
set_option maxRecDepth 100000 in
theorem sd_24_cX8_claim_0 : cX8_claim.data.toList.drop 0 = sg_24_cX8_claim_0 := by decide +kernel
theorem sd_24_cX8_claim_1 : cX8_claim.data.toList.drop 32 = sg_24_cX8_claim_1 := sg_next sd_24_cX8_claim_0 rfl
theorem dX8_claim_59 : decode cX8_claim 59 = .ok (.iconst 0, 1) := op_3 (rdSeg sd_24_cX8_claim_1 27 rfl rfl)
theorem dX8_claim_60 : decode cX8_claim 60 = .ok (.invokevirtual 139, 3) := op_182 (rdSeg sd_24_cX8_claim_1 28 rfl rfl) (rdSeg sd_24_cX8_claim_1 29 rfl rfl) (rdSeg sd_24_cX8_claim_1 30 rfl rfl) rfl
theorem dX8_claim_63 : decode cX8_claim 63 = .ok (.ireturn, 1) := op_172 (rdSeg sd_24_cX8_claim_1 31 rfl rfl)
def sg_24_cX8_claimIs_1 : List UInt8 := [0x00, 0x0e, 0x2a, 0xb4, 0x00, 0x0c, 0x1b, 0xb6, 0x00, 0xa6, 0xa7, 0x00, 0x0f, 0x2a, 0xb4, 0x00, 0x0c, 0xb4, 0x00, 0xa2, 0x1b, 0x1c, 0xb6, 0x00, 0xa9, 0xac]
def sg_24_cX8_claimIs_0 : List UInt8 := 0x2a :: 0xb4 :: 0x00 :: 0x0c :: 0xb4 :: 0x00 :: 0xa2 :: 0x1b :: 0xb6 :: 0x00 :: 0xa5 :: 0x99 :: 0x00 :: 0x0c :: 0x1c :: 0x03 :: 0x05 :: 0xb8 :: 0x00 :: 0x3f :: 0x9a :: 0x00 :: 0x09 :: 0x2a :: 0x04 :: 0xb6 :: 0x00 :: 0x43 :: 0xac :: 0x1c :: 0x05 :: 0xa0 :: sg_24_cX8_claimIs_1
set_option maxRecDepth 100000 in
theorem sd_24_cX8_claimIs_0 : cX8_claimIs.data.toList.drop 0 = sg_24_cX8_claimIs_0 := by decide +kernel
theorem sd_24_cX8_claimIs_1 : cX8_claimIs.data.toList.drop 32 = sg_24_cX8_claimIs_1 := sg_next sd_24_cX8_claimIs_0 rfl
theorem dX8_claimIs_0 : decode cX8_claimIs 0 = .ok (.aload_n 0, 1) := op_42 (rdSeg sd_24_cX8_claimIs_0 0 rfl rfl)
theorem dX8_claimIs_1 : decode cX8_claimIs 1 = .ok (.getfield 12, 3) := op_180 (rdSeg sd_24_cX8_claimIs_0 1 rfl rfl) (rdSeg sd_24_cX8_claimIs_0 2 rfl rfl) (rdSeg sd_24_cX8_claimIs_0 3 rfl rfl) rfl
theorem dX8_claimIs_4 : decode cX8_claimIs 4 = .ok (.getfield 162, 3) := op_180 (rdSeg sd_24_cX8_claimIs_0 4 rfl rfl) (rdSeg sd_24_cX8_claimIs_0 5 rfl rfl) (rdSeg sd_24_cX8_claimIs_0 6 rfl rfl) rfl
theorem dX8_claimIs_7 : decode cX8_claimIs 7 = .ok (.iload_n 1, 1) := op_27 (rdSeg sd_24_cX8_claimIs_0 7 rfl rfl)
theorem dX8_claimIs_8 : decode cX8_claimIs 8 = .ok (.invokevirtual 165, 3) := op_182 (rdSeg sd_24_cX8_claimIs_0 8 rfl rfl) (rdSeg sd_24_cX8_claimIs_0 9 rfl rfl) (rdSeg sd_24_cX8_claimIs_0 10 rfl rfl) rfl
theorem dX8_claimIs_11 : decode cX8_claimIs 11 = .ok (.ifCond .eq 12, 3) := op_153 (rdSeg sd_24_cX8_claimIs_0 11 rfl rfl) (rdSeg sd_24_cX8_claimIs_0 12 rfl rfl) (rdSeg sd_24_cX8_claimIs_0 13 rfl rfl) (by decide +kernel)
theorem dX8_claimIs_14 : decode cX8_claimIs 14 = .ok (.iload_n 2, 1) := op_28 (rdSeg sd_24_cX8_claimIs_0 14 rfl rfl)
theorem dX8_claimIs_15 : decode cX8_claimIs 15 = .ok (.iconst 0, 1) := op_3 (rdSeg sd_24_cX8_claimIs_0 15 rfl rfl)
theorem dX8_claimIs_16 : decode cX8_claimIs 16 = .ok (.iconst 2, 1) := op_5 (rdSeg sd_24_cX8_claimIs_0 16 rfl rfl)
theorem dX8_claimIs_17 : decode cX8_claimIs 17 = .ok (.invokestatic 63, 3) := op_184 (rdSeg sd_24_cX8_claimIs_0 17 rfl rfl) (rdSeg sd_24_cX8_claimIs_0 18 rfl rfl) (rdSeg sd_24_cX8_claimIs_0 19 rfl rfl) rfl
theorem dX8_claimIs_20 : decode cX8_claimIs 20 = .ok (.ifCond .ne 9, 3) := op_154 (rdSeg sd_24_cX8_claimIs_0 20 rfl rfl) (rdSeg sd_24_cX8_claimIs_0 21 rfl rfl) (rdSeg sd_24_cX8_claimIs_0 22 rfl rfl) (by decide +kernel)
theorem dX8_claimIs_23 : decode cX8_claimIs 23 = .ok (.aload_n 0, 1) := op_42 (rdSeg sd_24_cX8_claimIs_0 23 rfl rfl)
theorem dX8_claimIs_24 : decode cX8_claimIs 24 = .ok (.iconst 1, 1) := op_4 (rdSeg sd_24_cX8_claimIs_0 24 rfl rfl)
theorem dX8_claimIs_25 : decode cX8_claimIs 25 = .ok (.invokevirtual 67, 3) := op_182 (rdSeg sd_24_cX8_claimIs_0 25 rfl rfl) (rdSeg sd_24_cX8_claimIs_0 26 rfl rfl) (rdSeg sd_24_cX8_claimIs_0 27 rfl rfl) rfl
theorem dX8_claimIs_28 : decode cX8_claimIs 28 = .ok (.ireturn, 1) := op_172 (rdSeg sd_24_cX8_claimIs_0 28 rfl rfl)
theorem dX8_claimIs_29 : decode cX8_claimIs 29 = .ok (.iload_n 2, 1) := op_28 (rdSeg sd_24_cX8_claimIs_0 29 rfl rfl)
theorem dX8_claimIs_30 : decode cX8_claimIs 30 = .ok (.iconst 2, 1) := op_5 (rdSeg sd_24_cX8_claimIs_0 30 rfl rfl)
theorem dX8_claimIs_31 : decode cX8_claimIs 31 = .ok (.if_icmp .ne 14, 3) := op_160 (rdSeg sd_24_cX8_claimIs_0 31 rfl rfl) (rdSeg sd_24_cX8_claimIs_1 0 rfl rfl) (rdSeg sd_24_cX8_claimIs_1 1 rfl rfl) (by decide +kernel)
theorem dX8_claimIs_34 : decode cX8_claimIs 34 = .ok (.aload_n 0, 1) := op_42 (rdSeg sd_24_cX8_claimIs_1 2 rfl rfl)
theorem dX8_claimIs_35 : decode cX8_claimIs 35 = .ok (.getfield 12, 3) := op_180 (rdSeg sd_24_cX8_claimIs_1 3 rfl rfl) (rdSeg sd_24_cX8_claimIs_1 4 rfl rfl) (rdSeg sd_24_cX8_claimIs_1 5 rfl rfl) rfl
theorem dX8_claimIs_38 : decode cX8_claimIs 38 = .ok (.iload_n 1, 1) := op_27 (rdSeg sd_24_cX8_claimIs_1 6 rfl rfl)
theorem dX8_claimIs_39 : decode cX8_claimIs 39 = .ok (.invokevirtual 166, 3) := op_182 (rdSeg sd_24_cX8_claimIs_1 7 rfl rfl) (rdSeg sd_24_cX8_claimIs_1 8 rfl rfl) (rdSeg sd_24_cX8_claimIs_1 9 rfl rfl) rfl
theorem dX8_claimIs_42 : decode cX8_claimIs 42 = .ok (.goto 15, 3) := op_167 (rdSeg sd_24_cX8_claimIs_1 10 rfl rfl) (rdSeg sd_24_cX8_claimIs_1 11 rfl rfl) (rdSeg sd_24_cX8_claimIs_1 12 rfl rfl) (by decide +kernel)
theorem dX8_claimIs_45 : decode cX8_claimIs 45 = .ok (.aload_n 0, 1) := op_42 (rdSeg sd_24_cX8_claimIs_1 13 rfl rfl)
theorem dX8_claimIs_46 : decode cX8_claimIs 46 = .ok (.getfield 12, 3) := op_180 (rdSeg sd_24_cX8_claimIs_1 14 rfl rfl) (rdSeg sd_24_cX8_claimIs_1 15 rfl rfl) (rdSeg sd_24_cX8_claimIs_1 16 rfl rfl) rfl
theorem dX8_claimIs_49 : decode cX8_claimIs 49 = .ok (.getfield 162, 3) := op_180 (rdSeg sd_24_cX8_claimIs_1 17 rfl rfl) (rdSeg sd_24_cX8_claimIs_1 18 rfl rfl) (rdSeg sd_24_cX8_claimIs_1 19 rfl rfl) rfl
theorem dX8_claimIs_52 : decode cX8_claimIs 52 = .ok (.iload_n 1, 1) := op_27 (rdSeg sd_24_cX8_claimIs_1 20 rfl rfl)
theorem dX8_claimIs_53 : decode cX8_claimIs 53 = .ok (.iload_n 2, 1) := op_28 (rdSeg sd_24_cX8_claimIs_1 21 rfl rfl)
theorem dX8_claimIs_54 : decode cX8_claimIs 54 = .ok (.invokevirtual 169, 3) := op_182 (rdSeg sd_24_cX8_claimIs_1 22 rfl rfl) (rdSeg sd_24_cX8_claimIs_1 23 rfl rfl) (rdSeg sd_24_cX8_claimIs_1 24 rfl rfl) rfl
theorem dX8_claimIs_57 : decode cX8_claimIs 57 = .ok (.ireturn, 1) := op_172 (rdSeg sd_24_cX8_claimIs_1 25 rfl rfl)
def sg_24_cX8_share_1 : List UInt8 := [0x0c, 0x1b, 0x1c, 0xb6, 0x00, 0xac, 0xac]
def sg_24_cX8_share_0 : List UInt8 := 0x2a :: 0xb4 :: 0x00 :: 0x0c :: 0xb4 :: 0x00 :: 0xa2 :: 0x1b :: 0xb6 :: 0x00 :: 0xa5 :: 0x99 :: 0x00 :: 0x0c :: 0x1c :: 0x03 :: 0x05 :: 0xb8 :: 0x00 :: 0x3f :: 0x9a :: 0x00 :: 0x09 :: 0x2a :: 0x04 :: 0xb6 :: 0x00 :: 0x43 :: 0xac :: 0x2a :: 0xb4 :: 0x00 :: sg_24_cX8_share_1
set_option maxRecDepth 100000 in
theorem sd_24_cX8_share_0 : cX8_share.data.toList.drop 0 = sg_24_cX8_share_0 := by decide +kernel
theorem sd_24_cX8_share_1 : cX8_share.data.toList.drop 32 = sg_24_cX8_share_1 := sg_next sd_24_cX8_share_0 rfl
theorem dX8_share_0 : decode cX8_share 0 = .ok (.aload_n 0, 1) := op_42 (rdSeg sd_24_cX8_share_0 0 rfl rfl)
theorem dX8_share_1 : decode cX8_share 1 = .ok (.getfield 12, 3) := op_180 (rdSeg sd_24_cX8_share_0 1 rfl rfl) (rdSeg sd_24_cX8_share_0 2 rfl rfl) (rdSeg sd_24_cX8_share_0 3 rfl rfl) rfl
theorem dX8_share_4 : decode cX8_share 4 = .ok (.getfield 162, 3) := op_180 (rdSeg sd_24_cX8_share_0 4 rfl rfl) (rdSeg sd_24_cX8_share_0 5 rfl rfl) (rdSeg sd_24_cX8_share_0 6 rfl rfl) rfl
theorem dX8_share_7 : decode cX8_share 7 = .ok (.iload_n 1, 1) := op_27 (rdSeg sd_24_cX8_share_0 7 rfl rfl)
theorem dX8_share_8 : decode cX8_share 8 = .ok (.invokevirtual 165, 3) := op_182 (rdSeg sd_24_cX8_share_0 8 rfl rfl) (rdSeg sd_24_cX8_share_0 9 rfl rfl) (rdSeg sd_24_cX8_share_0 10 rfl rfl) rfl
theorem dX8_share_11 : decode cX8_share 11 = .ok (.ifCond .eq 12, 3) := op_153 (rdSeg sd_24_cX8_share_0 11 rfl rfl) (rdSeg sd_24_cX8_share_0 12 rfl rfl) (rdSeg sd_24_cX8_share_0 13 rfl rfl) (by decide +kernel)
theorem dX8_share_14 : decode cX8_share 14 = .ok (.iload_n 2, 1) := op_28 (rdSeg sd_24_cX8_share_0 14 rfl rfl)
theorem dX8_share_15 : decode cX8_share 15 = .ok (.iconst 0, 1) := op_3 (rdSeg sd_24_cX8_share_0 15 rfl rfl)
theorem dX8_share_16 : decode cX8_share 16 = .ok (.iconst 2, 1) := op_5 (rdSeg sd_24_cX8_share_0 16 rfl rfl)
theorem dX8_share_17 : decode cX8_share 17 = .ok (.invokestatic 63, 3) := op_184 (rdSeg sd_24_cX8_share_0 17 rfl rfl) (rdSeg sd_24_cX8_share_0 18 rfl rfl) (rdSeg sd_24_cX8_share_0 19 rfl rfl) rfl
theorem dX8_share_20 : decode cX8_share 20 = .ok (.ifCond .ne 9, 3) := op_154 (rdSeg sd_24_cX8_share_0 20 rfl rfl) (rdSeg sd_24_cX8_share_0 21 rfl rfl) (rdSeg sd_24_cX8_share_0 22 rfl rfl) (by decide +kernel)
theorem dX8_share_23 : decode cX8_share 23 = .ok (.aload_n 0, 1) := op_42 (rdSeg sd_24_cX8_share_0 23 rfl rfl)
theorem dX8_share_24 : decode cX8_share 24 = .ok (.iconst 1, 1) := op_4 (rdSeg sd_24_cX8_share_0 24 rfl rfl)
theorem dX8_share_25 : decode cX8_share 25 = .ok (.invokevirtual 67, 3) := op_182 (rdSeg sd_24_cX8_share_0 25 rfl rfl) (rdSeg sd_24_cX8_share_0 26 rfl rfl) (rdSeg sd_24_cX8_share_0 27 rfl rfl) rfl
theorem dX8_share_28 : decode cX8_share 28 = .ok (.ireturn, 1) := op_172 (rdSeg sd_24_cX8_share_0 28 rfl rfl)
theorem dX8_share_29 : decode cX8_share 29 = .ok (.aload_n 0, 1) := op_42 (rdSeg sd_24_cX8_share_0 29 rfl rfl)
theorem dX8_share_30 : decode cX8_share 30 = .ok (.getfield 12, 3) := op_180 (rdSeg sd_24_cX8_share_0 30 rfl rfl) (rdSeg sd_24_cX8_share_0 31 rfl rfl) (rdSeg sd_24_cX8_share_1 0 rfl rfl) rfl
theorem dX8_share_33 : decode cX8_share 33 = .ok (.iload_n 1, 1) := op_27 (rdSeg sd_24_cX8_share_1 1 rfl rfl)
theorem dX8_share_34 : decode cX8_share 34 = .ok (.iload_n 2, 1) := op_28 (rdSeg sd_24_cX8_share_1 2 rfl rfl)
theorem dX8_share_35 : decode cX8_share 35 = .ok (.invokevirtual 172, 3) := op_182 (rdSeg sd_24_cX8_share_1 3 rfl rfl) (rdSeg sd_24_cX8_share_1 4 rfl rfl) (rdSeg sd_24_cX8_share_1 5 rfl rfl) rfl
theorem dX8_share_38 : decode cX8_share 38 = .ok (.ireturn, 1) := op_172 (rdSeg sd_24_cX8_share_1 6 rfl rfl)
def sg_24_cX8_left_1 : List UInt8 := [0x0c, 0x1b, 0x1c, 0xb6, 0x00, 0xaf, 0xac]
def sg_24_cX8_left_0 : List UInt8 := 0x2a :: 0xb4 :: 0x00 :: 0x0c :: 0xb4 :: 0x00 :: 0x47 :: 0x1b :: 0xb6 :: 0x00 :: 0x52 :: 0x99 :: 0x00 :: 0x0c :: 0x1c :: 0x03 :: 0x05 :: 0xb8 :: 0x00 :: 0x3f :: 0x9a :: 0x00 :: 0x09 :: 0x2a :: 0x04 :: 0xb6 :: 0x00 :: 0x43 :: 0xac :: 0x2a :: 0xb4 :: 0x00 :: sg_24_cX8_left_1
set_option maxRecDepth 100000 in
theorem sd_24_cX8_left_0 : cX8_left.data.toList.drop 0 = sg_24_cX8_left_0 := by decide +kernel
theorem sd_24_cX8_left_1 : cX8_left.data.toList.drop 32 = sg_24_cX8_left_1 := sg_next sd_24_cX8_left_0 rfl
theorem dX8_left_0 : decode cX8_left 0 = .ok (.aload_n 0, 1) := op_42 (rdSeg sd_24_cX8_left_0 0 rfl rfl)
theorem dX8_left_1 : decode cX8_left 1 = .ok (.getfield 12, 3) := op_180 (rdSeg sd_24_cX8_left_0 1 rfl rfl) (rdSeg sd_24_cX8_left_0 2 rfl rfl) (rdSeg sd_24_cX8_left_0 3 rfl rfl) rfl
theorem dX8_left_4 : decode cX8_left 4 = .ok (.getfield 71, 3) := op_180 (rdSeg sd_24_cX8_left_0 4 rfl rfl) (rdSeg sd_24_cX8_left_0 5 rfl rfl) (rdSeg sd_24_cX8_left_0 6 rfl rfl) rfl
theorem dX8_left_7 : decode cX8_left 7 = .ok (.iload_n 1, 1) := op_27 (rdSeg sd_24_cX8_left_0 7 rfl rfl)
theorem dX8_left_8 : decode cX8_left 8 = .ok (.invokevirtual 82, 3) := op_182 (rdSeg sd_24_cX8_left_0 8 rfl rfl) (rdSeg sd_24_cX8_left_0 9 rfl rfl) (rdSeg sd_24_cX8_left_0 10 rfl rfl) rfl
theorem dX8_left_11 : decode cX8_left 11 = .ok (.ifCond .eq 12, 3) := op_153 (rdSeg sd_24_cX8_left_0 11 rfl rfl) (rdSeg sd_24_cX8_left_0 12 rfl rfl) (rdSeg sd_24_cX8_left_0 13 rfl rfl) (by decide +kernel)
theorem dX8_left_14 : decode cX8_left 14 = .ok (.iload_n 2, 1) := op_28 (rdSeg sd_24_cX8_left_0 14 rfl rfl)
theorem dX8_left_15 : decode cX8_left 15 = .ok (.iconst 0, 1) := op_3 (rdSeg sd_24_cX8_left_0 15 rfl rfl)
theorem dX8_left_16 : decode cX8_left 16 = .ok (.iconst 2, 1) := op_5 (rdSeg sd_24_cX8_left_0 16 rfl rfl)
theorem dX8_left_17 : decode cX8_left 17 = .ok (.invokestatic 63, 3) := op_184 (rdSeg sd_24_cX8_left_0 17 rfl rfl) (rdSeg sd_24_cX8_left_0 18 rfl rfl) (rdSeg sd_24_cX8_left_0 19 rfl rfl) rfl
theorem dX8_left_20 : decode cX8_left 20 = .ok (.ifCond .ne 9, 3) := op_154 (rdSeg sd_24_cX8_left_0 20 rfl rfl) (rdSeg sd_24_cX8_left_0 21 rfl rfl) (rdSeg sd_24_cX8_left_0 22 rfl rfl) (by decide +kernel)
theorem dX8_left_23 : decode cX8_left 23 = .ok (.aload_n 0, 1) := op_42 (rdSeg sd_24_cX8_left_0 23 rfl rfl)
theorem dX8_left_24 : decode cX8_left 24 = .ok (.iconst 1, 1) := op_4 (rdSeg sd_24_cX8_left_0 24 rfl rfl)
theorem dX8_left_25 : decode cX8_left 25 = .ok (.invokevirtual 67, 3) := op_182 (rdSeg sd_24_cX8_left_0 25 rfl rfl) (rdSeg sd_24_cX8_left_0 26 rfl rfl) (rdSeg sd_24_cX8_left_0 27 rfl rfl) rfl
theorem dX8_left_28 : decode cX8_left 28 = .ok (.ireturn, 1) := op_172 (rdSeg sd_24_cX8_left_0 28 rfl rfl)
theorem dX8_left_29 : decode cX8_left 29 = .ok (.aload_n 0, 1) := op_42 (rdSeg sd_24_cX8_left_0 29 rfl rfl)
theorem dX8_left_30 : decode cX8_left 30 = .ok (.getfield 12, 3) := op_180 (rdSeg sd_24_cX8_left_0 30 rfl rfl) (rdSeg sd_24_cX8_left_0 31 rfl rfl) (rdSeg sd_24_cX8_left_1 0 rfl rfl) rfl
theorem dX8_left_33 : decode cX8_left 33 = .ok (.iload_n 1, 1) := op_27 (rdSeg sd_24_cX8_left_1 1 rfl rfl)
theorem dX8_left_34 : decode cX8_left 34 = .ok (.iload_n 2, 1) := op_28 (rdSeg sd_24_cX8_left_1 2 rfl rfl)
theorem dX8_left_35 : decode cX8_left 35 = .ok (.invokevirtual 175, 3) := op_182 (rdSeg sd_24_cX8_left_1 3 rfl rfl) (rdSeg sd_24_cX8_left_1 4 rfl rfl) (rdSeg sd_24_cX8_left_1 5 rfl rfl) rfl
theorem dX8_left_38 : decode cX8_left 38 = .ok (.ireturn, 1) := op_172 (rdSeg sd_24_cX8_left_1 6 rfl rfl)
def sg_24_cX8_paper_1 : List UInt8 := [0xb6, 0x00, 0x43, 0xac, 0x2a, 0xb4, 0x00, 0x0c, 0xb4, 0x00, 0xb5, 0x1b, 0x1c, 0x1d, 0xb6, 0x00, 0x8b, 0xac]
def sg_24_cX8_paper_0 : List UInt8 := 0x2a :: 0x1b :: 0x1c :: 0x1d :: 0xb6 :: 0x00 :: 0xb2 :: 0x9a :: 0x00 :: 0x09 :: 0x2a :: 0x04 :: 0xb6 :: 0x00 :: 0x43 :: 0xac :: 0x2a :: 0xb4 :: 0x00 :: 0x0c :: 0xb4 :: 0x00 :: 0xb5 :: 0xb6 :: 0x00 :: 0x88 :: 0x04 :: 0xa2 :: 0x00 :: 0x09 :: 0x2a :: 0x07 :: sg_24_cX8_paper_1
set_option maxRecDepth 100000 in
theorem sd_24_cX8_paper_0 : cX8_paper.data.toList.drop 0 = sg_24_cX8_paper_0 := by decide +kernel
theorem sd_24_cX8_paper_1 : cX8_paper.data.toList.drop 32 = sg_24_cX8_paper_1 := sg_next sd_24_cX8_paper_0 rfl
theorem dX8_paper_0 : decode cX8_paper 0 = .ok (.aload_n 0, 1) := op_42 (rdSeg sd_24_cX8_paper_0 0 rfl rfl)
theorem dX8_paper_1 : decode cX8_paper 1 = .ok (.iload_n 1, 1) := op_27 (rdSeg sd_24_cX8_paper_0 1 rfl rfl)
theorem dX8_paper_2 : decode cX8_paper 2 = .ok (.iload_n 2, 1) := op_28 (rdSeg sd_24_cX8_paper_0 2 rfl rfl)
theorem dX8_paper_3 : decode cX8_paper 3 = .ok (.iload_n 3, 1) := op_29 (rdSeg sd_24_cX8_paper_0 3 rfl rfl)
theorem dX8_paper_4 : decode cX8_paper 4 = .ok (.invokevirtual 178, 3) := op_182 (rdSeg sd_24_cX8_paper_0 4 rfl rfl) (rdSeg sd_24_cX8_paper_0 5 rfl rfl) (rdSeg sd_24_cX8_paper_0 6 rfl rfl) rfl
theorem dX8_paper_7 : decode cX8_paper 7 = .ok (.ifCond .ne 9, 3) := op_154 (rdSeg sd_24_cX8_paper_0 7 rfl rfl) (rdSeg sd_24_cX8_paper_0 8 rfl rfl) (rdSeg sd_24_cX8_paper_0 9 rfl rfl) (by decide +kernel)
theorem dX8_paper_10 : decode cX8_paper 10 = .ok (.aload_n 0, 1) := op_42 (rdSeg sd_24_cX8_paper_0 10 rfl rfl)
theorem dX8_paper_11 : decode cX8_paper 11 = .ok (.iconst 1, 1) := op_4 (rdSeg sd_24_cX8_paper_0 11 rfl rfl)
theorem dX8_paper_12 : decode cX8_paper 12 = .ok (.invokevirtual 67, 3) := op_182 (rdSeg sd_24_cX8_paper_0 12 rfl rfl) (rdSeg sd_24_cX8_paper_0 13 rfl rfl) (rdSeg sd_24_cX8_paper_0 14 rfl rfl) rfl
theorem dX8_paper_15 : decode cX8_paper 15 = .ok (.ireturn, 1) := op_172 (rdSeg sd_24_cX8_paper_0 15 rfl rfl)
theorem dX8_paper_16 : decode cX8_paper 16 = .ok (.aload_n 0, 1) := op_42 (rdSeg sd_24_cX8_paper_0 16 rfl rfl)
theorem dX8_paper_17 : decode cX8_paper 17 = .ok (.getfield 12, 3) := op_180 (rdSeg sd_24_cX8_paper_0 17 rfl rfl) (rdSeg sd_24_cX8_paper_0 18 rfl rfl) (rdSeg sd_24_cX8_paper_0 19 rfl rfl) rfl
theorem dX8_paper_20 : decode cX8_paper 20 = .ok (.getfield 181, 3) := op_180 (rdSeg sd_24_cX8_paper_0 20 rfl rfl) (rdSeg sd_24_cX8_paper_0 21 rfl rfl) (rdSeg sd_24_cX8_paper_0 22 rfl rfl) rfl
theorem dX8_paper_23 : decode cX8_paper 23 = .ok (.invokevirtual 136, 3) := op_182 (rdSeg sd_24_cX8_paper_0 23 rfl rfl) (rdSeg sd_24_cX8_paper_0 24 rfl rfl) (rdSeg sd_24_cX8_paper_0 25 rfl rfl) rfl
theorem dX8_paper_26 : decode cX8_paper 26 = .ok (.iconst 1, 1) := op_4 (rdSeg sd_24_cX8_paper_0 26 rfl rfl)
theorem dX8_paper_27 : decode cX8_paper 27 = .ok (.if_icmp .ge 9, 3) := op_162 (rdSeg sd_24_cX8_paper_0 27 rfl rfl) (rdSeg sd_24_cX8_paper_0 28 rfl rfl) (rdSeg sd_24_cX8_paper_0 29 rfl rfl) (by decide +kernel)
theorem dX8_paper_30 : decode cX8_paper 30 = .ok (.aload_n 0, 1) := op_42 (rdSeg sd_24_cX8_paper_0 30 rfl rfl)
theorem dX8_paper_31 : decode cX8_paper 31 = .ok (.iconst 4, 1) := op_7 (rdSeg sd_24_cX8_paper_0 31 rfl rfl)
theorem dX8_paper_32 : decode cX8_paper 32 = .ok (.invokevirtual 67, 3) := op_182 (rdSeg sd_24_cX8_paper_1 0 rfl rfl) (rdSeg sd_24_cX8_paper_1 1 rfl rfl) (rdSeg sd_24_cX8_paper_1 2 rfl rfl) rfl
theorem dX8_paper_35 : decode cX8_paper 35 = .ok (.ireturn, 1) := op_172 (rdSeg sd_24_cX8_paper_1 3 rfl rfl)
theorem dX8_paper_36 : decode cX8_paper 36 = .ok (.aload_n 0, 1) := op_42 (rdSeg sd_24_cX8_paper_1 4 rfl rfl)
theorem dX8_paper_37 : decode cX8_paper 37 = .ok (.getfield 12, 3) := op_180 (rdSeg sd_24_cX8_paper_1 5 rfl rfl) (rdSeg sd_24_cX8_paper_1 6 rfl rfl) (rdSeg sd_24_cX8_paper_1 7 rfl rfl) rfl
theorem dX8_paper_40 : decode cX8_paper 40 = .ok (.getfield 181, 3) := op_180 (rdSeg sd_24_cX8_paper_1 8 rfl rfl) (rdSeg sd_24_cX8_paper_1 9 rfl rfl) (rdSeg sd_24_cX8_paper_1 10 rfl rfl) rfl
theorem dX8_paper_43 : decode cX8_paper 43 = .ok (.iload_n 1, 1) := op_27 (rdSeg sd_24_cX8_paper_1 11 rfl rfl)
theorem dX8_paper_44 : decode cX8_paper 44 = .ok (.iload_n 2, 1) := op_28 (rdSeg sd_24_cX8_paper_1 12 rfl rfl)
theorem dX8_paper_45 : decode cX8_paper 45 = .ok (.iload_n 3, 1) := op_29 (rdSeg sd_24_cX8_paper_1 13 rfl rfl)
theorem dX8_paper_46 : decode cX8_paper 46 = .ok (.invokevirtual 139, 3) := op_182 (rdSeg sd_24_cX8_paper_1 14 rfl rfl) (rdSeg sd_24_cX8_paper_1 15 rfl rfl) (rdSeg sd_24_cX8_paper_1 16 rfl rfl) rfl
theorem dX8_paper_49 : decode cX8_paper 49 = .ok (.ireturn, 1) := op_172 (rdSeg sd_24_cX8_paper_1 17 rfl rfl)
def sg_24_cX8_weigh_2 : List UInt8 := [0xb4, 0x00, 0xb8, 0x1b, 0x1c, 0x1d, 0xb6, 0x00, 0x8b, 0xac]
def sg_24_cX8_weigh_1 : List UInt8 := 0x00 :: 0x09 :: 0x2a :: 0x04 :: 0xb6 :: 0x00 :: 0x43 :: 0xac :: 0x2a :: 0xb4 :: 0x00 :: 0x0c :: 0xb4 :: 0x00 :: 0xb8 :: 0xb6 :: 0x00 :: 0x88 :: 0x04 :: 0xa2 :: 0x00 :: 0x09 :: 0x2a :: 0x07 :: 0xb6 :: 0x00 :: 0x43 :: 0xac :: 0x2a :: 0xb4 :: 0x00 :: 0x0c :: sg_24_cX8_weigh_2
def sg_24_cX8_weigh_0 : List UInt8 := 0x2a :: 0xb4 :: 0x00 :: 0x0c :: 0xb4 :: 0x00 :: 0x47 :: 0x1b :: 0xb6 :: 0x00 :: 0x52 :: 0x99 :: 0x00 :: 0x17 :: 0x1c :: 0x03 :: 0x12 :: 0x3e :: 0xb8 :: 0x00 :: 0x3f :: 0x99 :: 0x00 :: 0x0d :: 0x1d :: 0x03 :: 0x10 :: 0x63 :: 0xb8 :: 0x00 :: 0x3f :: 0x9a :: sg_24_cX8_weigh_1
set_option maxRecDepth 100000 in
theorem sd_24_cX8_weigh_0 : cX8_weigh.data.toList.drop 0 = sg_24_cX8_weigh_0 := by decide +kernel
theorem sd_24_cX8_weigh_1 : cX8_weigh.data.toList.drop 32 = sg_24_cX8_weigh_1 := sg_next sd_24_cX8_weigh_0 rfl
theorem sd_24_cX8_weigh_2 : cX8_weigh.data.toList.drop 64 = sg_24_cX8_weigh_2 := sg_next sd_24_cX8_weigh_1 rfl
theorem dX8_weigh_0 : decode cX8_weigh 0 = .ok (.aload_n 0, 1) := op_42 (rdSeg sd_24_cX8_weigh_0 0 rfl rfl)
theorem dX8_weigh_1 : decode cX8_weigh 1 = .ok (.getfield 12, 3) := op_180 (rdSeg sd_24_cX8_weigh_0 1 rfl rfl) (rdSeg sd_24_cX8_weigh_0 2 rfl rfl) (rdSeg sd_24_cX8_weigh_0 3 rfl rfl) rfl
theorem dX8_weigh_4 : decode cX8_weigh 4 = .ok (.getfield 71, 3) := op_180 (rdSeg sd_24_cX8_weigh_0 4 rfl rfl) (rdSeg sd_24_cX8_weigh_0 5 rfl rfl) (rdSeg sd_24_cX8_weigh_0 6 rfl rfl) rfl
theorem dX8_weigh_7 : decode cX8_weigh 7 = .ok (.iload_n 1, 1) := op_27 (rdSeg sd_24_cX8_weigh_0 7 rfl rfl)
theorem dX8_weigh_8 : decode cX8_weigh 8 = .ok (.invokevirtual 82, 3) := op_182 (rdSeg sd_24_cX8_weigh_0 8 rfl rfl) (rdSeg sd_24_cX8_weigh_0 9 rfl rfl) (rdSeg sd_24_cX8_weigh_0 10 rfl rfl) rfl
theorem dX8_weigh_11 : decode cX8_weigh 11 = .ok (.ifCond .eq 23, 3) := op_153 (rdSeg sd_24_cX8_weigh_0 11 rfl rfl) (rdSeg sd_24_cX8_weigh_0 12 rfl rfl) (rdSeg sd_24_cX8_weigh_0 13 rfl rfl) (by decide +kernel)
theorem dX8_weigh_14 : decode cX8_weigh 14 = .ok (.iload_n 2, 1) := op_28 (rdSeg sd_24_cX8_weigh_0 14 rfl rfl)
theorem dX8_weigh_15 : decode cX8_weigh 15 = .ok (.iconst 0, 1) := op_3 (rdSeg sd_24_cX8_weigh_0 15 rfl rfl)
theorem dX8_weigh_16 : decode cX8_weigh 16 = .ok (.ldc 62, 2) := op_18 (rdSeg sd_24_cX8_weigh_0 16 rfl rfl) (rdSeg sd_24_cX8_weigh_0 17 rfl rfl)
theorem dX8_weigh_18 : decode cX8_weigh 18 = .ok (.invokestatic 63, 3) := op_184 (rdSeg sd_24_cX8_weigh_0 18 rfl rfl) (rdSeg sd_24_cX8_weigh_0 19 rfl rfl) (rdSeg sd_24_cX8_weigh_0 20 rfl rfl) rfl
theorem dX8_weigh_21 : decode cX8_weigh 21 = .ok (.ifCond .eq 13, 3) := op_153 (rdSeg sd_24_cX8_weigh_0 21 rfl rfl) (rdSeg sd_24_cX8_weigh_0 22 rfl rfl) (rdSeg sd_24_cX8_weigh_0 23 rfl rfl) (by decide +kernel)
theorem dX8_weigh_24 : decode cX8_weigh 24 = .ok (.iload_n 3, 1) := op_29 (rdSeg sd_24_cX8_weigh_0 24 rfl rfl)
theorem dX8_weigh_25 : decode cX8_weigh 25 = .ok (.iconst 0, 1) := op_3 (rdSeg sd_24_cX8_weigh_0 25 rfl rfl)
theorem dX8_weigh_26 : decode cX8_weigh 26 = .ok (.bipush 99, 2) := op_16 (rdSeg sd_24_cX8_weigh_0 26 rfl rfl) (rdSeg sd_24_cX8_weigh_0 27 rfl rfl) (by decide +kernel)
theorem dX8_weigh_28 : decode cX8_weigh 28 = .ok (.invokestatic 63, 3) := op_184 (rdSeg sd_24_cX8_weigh_0 28 rfl rfl) (rdSeg sd_24_cX8_weigh_0 29 rfl rfl) (rdSeg sd_24_cX8_weigh_0 30 rfl rfl) rfl
theorem dX8_weigh_31 : decode cX8_weigh 31 = .ok (.ifCond .ne 9, 3) := op_154 (rdSeg sd_24_cX8_weigh_0 31 rfl rfl) (rdSeg sd_24_cX8_weigh_1 0 rfl rfl) (rdSeg sd_24_cX8_weigh_1 1 rfl rfl) (by decide +kernel)
theorem dX8_weigh_34 : decode cX8_weigh 34 = .ok (.aload_n 0, 1) := op_42 (rdSeg sd_24_cX8_weigh_1 2 rfl rfl)
theorem dX8_weigh_35 : decode cX8_weigh 35 = .ok (.iconst 1, 1) := op_4 (rdSeg sd_24_cX8_weigh_1 3 rfl rfl)
theorem dX8_weigh_36 : decode cX8_weigh 36 = .ok (.invokevirtual 67, 3) := op_182 (rdSeg sd_24_cX8_weigh_1 4 rfl rfl) (rdSeg sd_24_cX8_weigh_1 5 rfl rfl) (rdSeg sd_24_cX8_weigh_1 6 rfl rfl) rfl
theorem dX8_weigh_39 : decode cX8_weigh 39 = .ok (.ireturn, 1) := op_172 (rdSeg sd_24_cX8_weigh_1 7 rfl rfl)
theorem dX8_weigh_40 : decode cX8_weigh 40 = .ok (.aload_n 0, 1) := op_42 (rdSeg sd_24_cX8_weigh_1 8 rfl rfl)
theorem dX8_weigh_41 : decode cX8_weigh 41 = .ok (.getfield 12, 3) := op_180 (rdSeg sd_24_cX8_weigh_1 9 rfl rfl) (rdSeg sd_24_cX8_weigh_1 10 rfl rfl) (rdSeg sd_24_cX8_weigh_1 11 rfl rfl) rfl
theorem dX8_weigh_44 : decode cX8_weigh 44 = .ok (.getfield 184, 3) := op_180 (rdSeg sd_24_cX8_weigh_1 12 rfl rfl) (rdSeg sd_24_cX8_weigh_1 13 rfl rfl) (rdSeg sd_24_cX8_weigh_1 14 rfl rfl) rfl
theorem dX8_weigh_47 : decode cX8_weigh 47 = .ok (.invokevirtual 136, 3) := op_182 (rdSeg sd_24_cX8_weigh_1 15 rfl rfl) (rdSeg sd_24_cX8_weigh_1 16 rfl rfl) (rdSeg sd_24_cX8_weigh_1 17 rfl rfl) rfl
theorem dX8_weigh_50 : decode cX8_weigh 50 = .ok (.iconst 1, 1) := op_4 (rdSeg sd_24_cX8_weigh_1 18 rfl rfl)
theorem dX8_weigh_51 : decode cX8_weigh 51 = .ok (.if_icmp .ge 9, 3) := op_162 (rdSeg sd_24_cX8_weigh_1 19 rfl rfl) (rdSeg sd_24_cX8_weigh_1 20 rfl rfl) (rdSeg sd_24_cX8_weigh_1 21 rfl rfl) (by decide +kernel)
theorem dX8_weigh_54 : decode cX8_weigh 54 = .ok (.aload_n 0, 1) := op_42 (rdSeg sd_24_cX8_weigh_1 22 rfl rfl)
theorem dX8_weigh_55 : decode cX8_weigh 55 = .ok (.iconst 4, 1) := op_7 (rdSeg sd_24_cX8_weigh_1 23 rfl rfl)
theorem dX8_weigh_56 : decode cX8_weigh 56 = .ok (.invokevirtual 67, 3) := op_182 (rdSeg sd_24_cX8_weigh_1 24 rfl rfl) (rdSeg sd_24_cX8_weigh_1 25 rfl rfl) (rdSeg sd_24_cX8_weigh_1 26 rfl rfl) rfl
theorem dX8_weigh_59 : decode cX8_weigh 59 = .ok (.ireturn, 1) := op_172 (rdSeg sd_24_cX8_weigh_1 27 rfl rfl)
theorem dX8_weigh_60 : decode cX8_weigh 60 = .ok (.aload_n 0, 1) := op_42 (rdSeg sd_24_cX8_weigh_1 28 rfl rfl)
theorem dX8_weigh_61 : decode cX8_weigh 61 = .ok (.getfield 12, 3) := op_180 (rdSeg sd_24_cX8_weigh_1 29 rfl rfl) (rdSeg sd_24_cX8_weigh_1 30 rfl rfl) (rdSeg sd_24_cX8_weigh_1 31 rfl rfl) rfl
theorem dX8_weigh_64 : decode cX8_weigh 64 = .ok (.getfield 184, 3) := op_180 (rdSeg sd_24_cX8_weigh_2 0 rfl rfl) (rdSeg sd_24_cX8_weigh_2 1 rfl rfl) (rdSeg sd_24_cX8_weigh_2 2 rfl rfl) rfl
theorem dX8_weigh_67 : decode cX8_weigh 67 = .ok (.iload_n 1, 1) := op_27 (rdSeg sd_24_cX8_weigh_2 3 rfl rfl)
theorem dX8_weigh_68 : decode cX8_weigh 68 = .ok (.iload_n 2, 1) := op_28 (rdSeg sd_24_cX8_weigh_2 4 rfl rfl)
theorem dX8_weigh_69 : decode cX8_weigh 69 = .ok (.iload_n 3, 1) := op_29 (rdSeg sd_24_cX8_weigh_2 5 rfl rfl)
theorem dX8_weigh_70 : decode cX8_weigh 70 = .ok (.invokevirtual 139, 3) := op_182 (rdSeg sd_24_cX8_weigh_2 6 rfl rfl) (rdSeg sd_24_cX8_weigh_2 7 rfl rfl) (rdSeg sd_24_cX8_weigh_2 8 rfl rfl) rfl
theorem dX8_weigh_73 : decode cX8_weigh 73 = .ok (.ireturn, 1) := op_172 (rdSeg sd_24_cX8_weigh_2 9 rfl rfl)
def sg_24_cX8_forget_1 : List UInt8 := [0x0c, 0xb4, 0x00, 0xb8, 0x4d, 0x2c, 0xb6, 0x00, 0x8f, 0x3e, 0x2c, 0xb6, 0x00, 0x96, 0x1d, 0xac]
def sg_24_cX8_forget_0 : List UInt8 := 0x1b :: 0x03 :: 0x04 :: 0xb8 :: 0x00 :: 0x3f :: 0x9a :: 0x00 :: 0x09 :: 0x2a :: 0x04 :: 0xb6 :: 0x00 :: 0x43 :: 0xac :: 0x1b :: 0x9a :: 0x00 :: 0x0d :: 0x2a :: 0xb4 :: 0x00 :: 0x0c :: 0xb4 :: 0x00 :: 0xb5 :: 0xa7 :: 0x00 :: 0x0a :: 0x2a :: 0xb4 :: 0x00 :: sg_24_cX8_forget_1
set_option maxRecDepth 100000 in
theorem sd_24_cX8_forget_0 : cX8_forget.data.toList.drop 0 = sg_24_cX8_forget_0 := by decide +kernel
theorem sd_24_cX8_forget_1 : cX8_forget.data.toList.drop 32 = sg_24_cX8_forget_1 := sg_next sd_24_cX8_forget_0 rfl
theorem dX8_forget_0 : decode cX8_forget 0 = .ok (.iload_n 1, 1) := op_27 (rdSeg sd_24_cX8_forget_0 0 rfl rfl)
theorem dX8_forget_1 : decode cX8_forget 1 = .ok (.iconst 0, 1) := op_3 (rdSeg sd_24_cX8_forget_0 1 rfl rfl)
theorem dX8_forget_2 : decode cX8_forget 2 = .ok (.iconst 1, 1) := op_4 (rdSeg sd_24_cX8_forget_0 2 rfl rfl)
theorem dX8_forget_3 : decode cX8_forget 3 = .ok (.invokestatic 63, 3) := op_184 (rdSeg sd_24_cX8_forget_0 3 rfl rfl) (rdSeg sd_24_cX8_forget_0 4 rfl rfl) (rdSeg sd_24_cX8_forget_0 5 rfl rfl) rfl
theorem dX8_forget_6 : decode cX8_forget 6 = .ok (.ifCond .ne 9, 3) := op_154 (rdSeg sd_24_cX8_forget_0 6 rfl rfl) (rdSeg sd_24_cX8_forget_0 7 rfl rfl) (rdSeg sd_24_cX8_forget_0 8 rfl rfl) (by decide +kernel)
theorem dX8_forget_9 : decode cX8_forget 9 = .ok (.aload_n 0, 1) := op_42 (rdSeg sd_24_cX8_forget_0 9 rfl rfl)
theorem dX8_forget_10 : decode cX8_forget 10 = .ok (.iconst 1, 1) := op_4 (rdSeg sd_24_cX8_forget_0 10 rfl rfl)
theorem dX8_forget_11 : decode cX8_forget 11 = .ok (.invokevirtual 67, 3) := op_182 (rdSeg sd_24_cX8_forget_0 11 rfl rfl) (rdSeg sd_24_cX8_forget_0 12 rfl rfl) (rdSeg sd_24_cX8_forget_0 13 rfl rfl) rfl
theorem dX8_forget_14 : decode cX8_forget 14 = .ok (.ireturn, 1) := op_172 (rdSeg sd_24_cX8_forget_0 14 rfl rfl)
theorem dX8_forget_15 : decode cX8_forget 15 = .ok (.iload_n 1, 1) := op_27 (rdSeg sd_24_cX8_forget_0 15 rfl rfl)
theorem dX8_forget_16 : decode cX8_forget 16 = .ok (.ifCond .ne 13, 3) := op_154 (rdSeg sd_24_cX8_forget_0 16 rfl rfl) (rdSeg sd_24_cX8_forget_0 17 rfl rfl) (rdSeg sd_24_cX8_forget_0 18 rfl rfl) (by decide +kernel)
theorem dX8_forget_19 : decode cX8_forget 19 = .ok (.aload_n 0, 1) := op_42 (rdSeg sd_24_cX8_forget_0 19 rfl rfl)
theorem dX8_forget_20 : decode cX8_forget 20 = .ok (.getfield 12, 3) := op_180 (rdSeg sd_24_cX8_forget_0 20 rfl rfl) (rdSeg sd_24_cX8_forget_0 21 rfl rfl) (rdSeg sd_24_cX8_forget_0 22 rfl rfl) rfl
theorem dX8_forget_23 : decode cX8_forget 23 = .ok (.getfield 181, 3) := op_180 (rdSeg sd_24_cX8_forget_0 23 rfl rfl) (rdSeg sd_24_cX8_forget_0 24 rfl rfl) (rdSeg sd_24_cX8_forget_0 25 rfl rfl) rfl
theorem dX8_forget_26 : decode cX8_forget 26 = .ok (.goto 10, 3) := op_167 (rdSeg sd_24_cX8_forget_0 26 rfl rfl) (rdSeg sd_24_cX8_forget_0 27 rfl rfl) (rdSeg sd_24_cX8_forget_0 28 rfl rfl) (by decide +kernel)
theorem dX8_forget_29 : decode cX8_forget 29 = .ok (.aload_n 0, 1) := op_42 (rdSeg sd_24_cX8_forget_0 29 rfl rfl)
theorem dX8_forget_30 : decode cX8_forget 30 = .ok (.getfield 12, 3) := op_180 (rdSeg sd_24_cX8_forget_0 30 rfl rfl) (rdSeg sd_24_cX8_forget_0 31 rfl rfl) (rdSeg sd_24_cX8_forget_1 0 rfl rfl) rfl
theorem dX8_forget_33 : decode cX8_forget 33 = .ok (.getfield 184, 3) := op_180 (rdSeg sd_24_cX8_forget_1 1 rfl rfl) (rdSeg sd_24_cX8_forget_1 2 rfl rfl) (rdSeg sd_24_cX8_forget_1 3 rfl rfl) rfl
theorem dX8_forget_36 : decode cX8_forget 36 = .ok (.astore_n 2, 1) := op_77 (rdSeg sd_24_cX8_forget_1 4 rfl rfl)
theorem dX8_forget_37 : decode cX8_forget 37 = .ok (.aload_n 2, 1) := op_44 (rdSeg sd_24_cX8_forget_1 5 rfl rfl)
theorem dX8_forget_38 : decode cX8_forget 38 = .ok (.invokevirtual 143, 3) := op_182 (rdSeg sd_24_cX8_forget_1 6 rfl rfl) (rdSeg sd_24_cX8_forget_1 7 rfl rfl) (rdSeg sd_24_cX8_forget_1 8 rfl rfl) rfl
theorem dX8_forget_41 : decode cX8_forget 41 = .ok (.istore_n 3, 1) := op_62 (rdSeg sd_24_cX8_forget_1 9 rfl rfl)
theorem dX8_forget_42 : decode cX8_forget 42 = .ok (.aload_n 2, 1) := op_44 (rdSeg sd_24_cX8_forget_1 10 rfl rfl)
theorem dX8_forget_43 : decode cX8_forget 43 = .ok (.invokevirtual 150, 3) := op_182 (rdSeg sd_24_cX8_forget_1 11 rfl rfl) (rdSeg sd_24_cX8_forget_1 12 rfl rfl) (rdSeg sd_24_cX8_forget_1 13 rfl rfl) rfl
theorem dX8_forget_46 : decode cX8_forget 46 = .ok (.iload_n 3, 1) := op_29 (rdSeg sd_24_cX8_forget_1 14 rfl rfl)
theorem dX8_forget_47 : decode cX8_forget 47 = .ok (.ireturn, 1) := op_172 (rdSeg sd_24_cX8_forget_1 15 rfl rfl)
def sg_24_cX8_by_1 : List UInt8 := [0x2a, 0x04, 0xb6, 0x00, 0x43, 0xac, 0x2a, 0xb4, 0x00, 0x1d, 0x2a, 0xb4, 0x00, 0x0c, 0x1b, 0xb6, 0x00, 0xbe, 0x2a, 0xb4, 0x00, 0x1d, 0x1c, 0x1d, 0xb6, 0x00, 0xc2, 0xac]
def sg_24_cX8_by_0 : List UInt8 := 0x2a :: 0x1b :: 0xb6 :: 0x00 :: 0xbb :: 0x99 :: 0x00 :: 0x1b :: 0x2a :: 0xb4 :: 0x00 :: 0x0c :: 0xb4 :: 0x00 :: 0x47 :: 0x1c :: 0xb6 :: 0x00 :: 0x52 :: 0x99 :: 0x00 :: 0x0d :: 0x1d :: 0x05 :: 0x10 :: 0x09 :: 0xb8 :: 0x00 :: 0x3f :: 0x9a :: 0x00 :: 0x09 :: sg_24_cX8_by_1
set_option maxRecDepth 100000 in
theorem sd_24_cX8_by_0 : cX8_by.data.toList.drop 0 = sg_24_cX8_by_0 := by decide +kernel
theorem sd_24_cX8_by_1 : cX8_by.data.toList.drop 32 = sg_24_cX8_by_1 := sg_next sd_24_cX8_by_0 rfl
theorem dX8_by_0 : decode cX8_by 0 = .ok (.aload_n 0, 1) := op_42 (rdSeg sd_24_cX8_by_0 0 rfl rfl)
theorem dX8_by_1 : decode cX8_by 1 = .ok (.iload_n 1, 1) := op_27 (rdSeg sd_24_cX8_by_0 1 rfl rfl)
theorem dX8_by_2 : decode cX8_by 2 = .ok (.invokevirtual 187, 3) := op_182 (rdSeg sd_24_cX8_by_0 2 rfl rfl) (rdSeg sd_24_cX8_by_0 3 rfl rfl) (rdSeg sd_24_cX8_by_0 4 rfl rfl) rfl
theorem dX8_by_5 : decode cX8_by 5 = .ok (.ifCond .eq 27, 3) := op_153 (rdSeg sd_24_cX8_by_0 5 rfl rfl) (rdSeg sd_24_cX8_by_0 6 rfl rfl) (rdSeg sd_24_cX8_by_0 7 rfl rfl) (by decide +kernel)
theorem dX8_by_8 : decode cX8_by 8 = .ok (.aload_n 0, 1) := op_42 (rdSeg sd_24_cX8_by_0 8 rfl rfl)
theorem dX8_by_9 : decode cX8_by 9 = .ok (.getfield 12, 3) := op_180 (rdSeg sd_24_cX8_by_0 9 rfl rfl) (rdSeg sd_24_cX8_by_0 10 rfl rfl) (rdSeg sd_24_cX8_by_0 11 rfl rfl) rfl
theorem dX8_by_12 : decode cX8_by 12 = .ok (.getfield 71, 3) := op_180 (rdSeg sd_24_cX8_by_0 12 rfl rfl) (rdSeg sd_24_cX8_by_0 13 rfl rfl) (rdSeg sd_24_cX8_by_0 14 rfl rfl) rfl
theorem dX8_by_15 : decode cX8_by 15 = .ok (.iload_n 2, 1) := op_28 (rdSeg sd_24_cX8_by_0 15 rfl rfl)
theorem dX8_by_16 : decode cX8_by 16 = .ok (.invokevirtual 82, 3) := op_182 (rdSeg sd_24_cX8_by_0 16 rfl rfl) (rdSeg sd_24_cX8_by_0 17 rfl rfl) (rdSeg sd_24_cX8_by_0 18 rfl rfl) rfl
theorem dX8_by_19 : decode cX8_by 19 = .ok (.ifCond .eq 13, 3) := op_153 (rdSeg sd_24_cX8_by_0 19 rfl rfl) (rdSeg sd_24_cX8_by_0 20 rfl rfl) (rdSeg sd_24_cX8_by_0 21 rfl rfl) (by decide +kernel)
theorem dX8_by_22 : decode cX8_by 22 = .ok (.iload_n 3, 1) := op_29 (rdSeg sd_24_cX8_by_0 22 rfl rfl)
theorem dX8_by_23 : decode cX8_by 23 = .ok (.iconst 2, 1) := op_5 (rdSeg sd_24_cX8_by_0 23 rfl rfl)
theorem dX8_by_24 : decode cX8_by 24 = .ok (.bipush 9, 2) := op_16 (rdSeg sd_24_cX8_by_0 24 rfl rfl) (rdSeg sd_24_cX8_by_0 25 rfl rfl) (by decide +kernel)
theorem dX8_by_26 : decode cX8_by 26 = .ok (.invokestatic 63, 3) := op_184 (rdSeg sd_24_cX8_by_0 26 rfl rfl) (rdSeg sd_24_cX8_by_0 27 rfl rfl) (rdSeg sd_24_cX8_by_0 28 rfl rfl) rfl
theorem dX8_by_29 : decode cX8_by 29 = .ok (.ifCond .ne 9, 3) := op_154 (rdSeg sd_24_cX8_by_0 29 rfl rfl) (rdSeg sd_24_cX8_by_0 30 rfl rfl) (rdSeg sd_24_cX8_by_0 31 rfl rfl) (by decide +kernel)
theorem dX8_by_32 : decode cX8_by 32 = .ok (.aload_n 0, 1) := op_42 (rdSeg sd_24_cX8_by_1 0 rfl rfl)
theorem dX8_by_33 : decode cX8_by 33 = .ok (.iconst 1, 1) := op_4 (rdSeg sd_24_cX8_by_1 1 rfl rfl)
theorem dX8_by_34 : decode cX8_by 34 = .ok (.invokevirtual 67, 3) := op_182 (rdSeg sd_24_cX8_by_1 2 rfl rfl) (rdSeg sd_24_cX8_by_1 3 rfl rfl) (rdSeg sd_24_cX8_by_1 4 rfl rfl) rfl
theorem dX8_by_37 : decode cX8_by 37 = .ok (.ireturn, 1) := op_172 (rdSeg sd_24_cX8_by_1 5 rfl rfl)
theorem dX8_by_38 : decode cX8_by 38 = .ok (.aload_n 0, 1) := op_42 (rdSeg sd_24_cX8_by_1 6 rfl rfl)
theorem dX8_by_39 : decode cX8_by 39 = .ok (.getfield 29, 3) := op_180 (rdSeg sd_24_cX8_by_1 7 rfl rfl) (rdSeg sd_24_cX8_by_1 8 rfl rfl) (rdSeg sd_24_cX8_by_1 9 rfl rfl) rfl
theorem dX8_by_42 : decode cX8_by 42 = .ok (.aload_n 0, 1) := op_42 (rdSeg sd_24_cX8_by_1 10 rfl rfl)
theorem dX8_by_43 : decode cX8_by 43 = .ok (.getfield 12, 3) := op_180 (rdSeg sd_24_cX8_by_1 11 rfl rfl) (rdSeg sd_24_cX8_by_1 12 rfl rfl) (rdSeg sd_24_cX8_by_1 13 rfl rfl) rfl
theorem dX8_by_46 : decode cX8_by 46 = .ok (.iload_n 1, 1) := op_27 (rdSeg sd_24_cX8_by_1 14 rfl rfl)
theorem dX8_by_47 : decode cX8_by 47 = .ok (.invokevirtual 190, 3) := op_182 (rdSeg sd_24_cX8_by_1 15 rfl rfl) (rdSeg sd_24_cX8_by_1 16 rfl rfl) (rdSeg sd_24_cX8_by_1 17 rfl rfl) rfl
theorem dX8_by_50 : decode cX8_by 50 = .ok (.aload_n 0, 1) := op_42 (rdSeg sd_24_cX8_by_1 18 rfl rfl)
theorem dX8_by_51 : decode cX8_by 51 = .ok (.getfield 29, 3) := op_180 (rdSeg sd_24_cX8_by_1 19 rfl rfl) (rdSeg sd_24_cX8_by_1 20 rfl rfl) (rdSeg sd_24_cX8_by_1 21 rfl rfl) rfl
theorem dX8_by_54 : decode cX8_by 54 = .ok (.iload_n 2, 1) := op_28 (rdSeg sd_24_cX8_by_1 22 rfl rfl)
theorem dX8_by_55 : decode cX8_by 55 = .ok (.iload_n 3, 1) := op_29 (rdSeg sd_24_cX8_by_1 23 rfl rfl)
theorem dX8_by_56 : decode cX8_by 56 = .ok (.invokevirtual 194, 3) := op_182 (rdSeg sd_24_cX8_by_1 24 rfl rfl) (rdSeg sd_24_cX8_by_1 25 rfl rfl) (rdSeg sd_24_cX8_by_1 26 rfl rfl) rfl
theorem dX8_by_59 : decode cX8_by 59 = .ok (.ireturn, 1) := op_172 (rdSeg sd_24_cX8_by_1 27 rfl rfl)
def sg_24_cX8_fits_4 : List UInt8 := [0xb5, 0xb6, 0x00, 0x8f, 0x2a, 0xb4, 0x00, 0x1d, 0xb6, 0x00, 0xd6, 0x64, 0xac]
def sg_24_cX8_fits_3 : List UInt8 := 0x2a :: 0xb4 :: 0x00 :: 0x1d :: 0x03 :: 0xb6 :: 0x00 :: 0xcd :: 0xac :: 0x2a :: 0xb4 :: 0x00 :: 0x1d :: 0x1c :: 0xb6 :: 0x00 :: 0xd0 :: 0xac :: 0x2a :: 0xb4 :: 0x00 :: 0x1d :: 0xb6 :: 0x00 :: 0xd3 :: 0xac :: 0x2a :: 0xb4 :: 0x00 :: 0x0c :: 0xb4 :: 0x00 :: sg_24_cX8_fits_4
def sg_24_cX8_fits_2 : List UInt8 := 0x00 :: 0x00 :: 0x00 :: 0x00 :: 0x00 :: 0x00 :: 0x00 :: 0x03 :: 0x00 :: 0x00 :: 0x00 :: 0x1e :: 0x00 :: 0x00 :: 0x00 :: 0x26 :: 0x00 :: 0x00 :: 0x00 :: 0x2f :: 0x00 :: 0x00 :: 0x00 :: 0x38 :: 0x2a :: 0xb4 :: 0x00 :: 0x1d :: 0xb6 :: 0x00 :: 0xcc :: 0xac :: sg_24_cX8_fits_3
def sg_24_cX8_fits_1 : List UInt8 := 0xb4 :: 0x00 :: 0x1d :: 0xb6 :: 0x00 :: 0xcc :: 0x9a :: 0x00 :: 0x13 :: 0x1b :: 0x04 :: 0x9f :: 0x00 :: 0x08 :: 0x1b :: 0x07 :: 0xa0 :: 0x00 :: 0x09 :: 0x2a :: 0x05 :: 0xb6 :: 0x00 :: 0x43 :: 0xac :: 0x1b :: 0xaa :: 0x00 :: 0x00 :: 0x00 :: 0x00 :: 0x40 :: sg_24_cX8_fits_2
def sg_24_cX8_fits_0 : List UInt8 := 0x1b :: 0x03 :: 0x07 :: 0xb8 :: 0x00 :: 0x3f :: 0x9a :: 0x00 :: 0x09 :: 0x2a :: 0x04 :: 0xb6 :: 0x00 :: 0x43 :: 0xac :: 0x2a :: 0xb4 :: 0x00 :: 0x1d :: 0x2a :: 0xb4 :: 0x00 :: 0x0c :: 0xb6 :: 0x00 :: 0xc5 :: 0x2a :: 0xb6 :: 0x00 :: 0xc9 :: 0x3d :: 0x2a :: sg_24_cX8_fits_1
set_option maxRecDepth 100000 in
theorem sd_24_cX8_fits_0 : cX8_fits.data.toList.drop 0 = sg_24_cX8_fits_0 := by decide +kernel
theorem sd_24_cX8_fits_1 : cX8_fits.data.toList.drop 32 = sg_24_cX8_fits_1 := sg_next sd_24_cX8_fits_0 rfl
theorem sd_24_cX8_fits_2 : cX8_fits.data.toList.drop 64 = sg_24_cX8_fits_2 := sg_next sd_24_cX8_fits_1 rfl
theorem sd_24_cX8_fits_3 : cX8_fits.data.toList.drop 96 = sg_24_cX8_fits_3 := sg_next sd_24_cX8_fits_2 rfl
theorem sd_24_cX8_fits_4 : cX8_fits.data.toList.drop 128 = sg_24_cX8_fits_4 := sg_next sd_24_cX8_fits_3 rfl
theorem dX8_fits_0 : decode cX8_fits 0 = .ok (.iload_n 1, 1) := op_27 (rdSeg sd_24_cX8_fits_0 0 rfl rfl)
theorem dX8_fits_1 : decode cX8_fits 1 = .ok (.iconst 0, 1) := op_3 (rdSeg sd_24_cX8_fits_0 1 rfl rfl)
theorem dX8_fits_2 : decode cX8_fits 2 = .ok (.iconst 4, 1) := op_7 (rdSeg sd_24_cX8_fits_0 2 rfl rfl)
theorem dX8_fits_3 : decode cX8_fits 3 = .ok (.invokestatic 63, 3) := op_184 (rdSeg sd_24_cX8_fits_0 3 rfl rfl) (rdSeg sd_24_cX8_fits_0 4 rfl rfl) (rdSeg sd_24_cX8_fits_0 5 rfl rfl) rfl
theorem dX8_fits_6 : decode cX8_fits 6 = .ok (.ifCond .ne 9, 3) := op_154 (rdSeg sd_24_cX8_fits_0 6 rfl rfl) (rdSeg sd_24_cX8_fits_0 7 rfl rfl) (rdSeg sd_24_cX8_fits_0 8 rfl rfl) (by decide +kernel)
theorem dX8_fits_9 : decode cX8_fits 9 = .ok (.aload_n 0, 1) := op_42 (rdSeg sd_24_cX8_fits_0 9 rfl rfl)
theorem dX8_fits_10 : decode cX8_fits 10 = .ok (.iconst 1, 1) := op_4 (rdSeg sd_24_cX8_fits_0 10 rfl rfl)
theorem dX8_fits_11 : decode cX8_fits 11 = .ok (.invokevirtual 67, 3) := op_182 (rdSeg sd_24_cX8_fits_0 11 rfl rfl) (rdSeg sd_24_cX8_fits_0 12 rfl rfl) (rdSeg sd_24_cX8_fits_0 13 rfl rfl) rfl
theorem dX8_fits_14 : decode cX8_fits 14 = .ok (.ireturn, 1) := op_172 (rdSeg sd_24_cX8_fits_0 14 rfl rfl)
theorem dX8_fits_15 : decode cX8_fits 15 = .ok (.aload_n 0, 1) := op_42 (rdSeg sd_24_cX8_fits_0 15 rfl rfl)
theorem dX8_fits_16 : decode cX8_fits 16 = .ok (.getfield 29, 3) := op_180 (rdSeg sd_24_cX8_fits_0 16 rfl rfl) (rdSeg sd_24_cX8_fits_0 17 rfl rfl) (rdSeg sd_24_cX8_fits_0 18 rfl rfl) rfl
theorem dX8_fits_19 : decode cX8_fits 19 = .ok (.aload_n 0, 1) := op_42 (rdSeg sd_24_cX8_fits_0 19 rfl rfl)
theorem dX8_fits_20 : decode cX8_fits 20 = .ok (.getfield 12, 3) := op_180 (rdSeg sd_24_cX8_fits_0 20 rfl rfl) (rdSeg sd_24_cX8_fits_0 21 rfl rfl) (rdSeg sd_24_cX8_fits_0 22 rfl rfl) rfl
theorem dX8_fits_23 : decode cX8_fits 23 = .ok (.invokevirtual 197, 3) := op_182 (rdSeg sd_24_cX8_fits_0 23 rfl rfl) (rdSeg sd_24_cX8_fits_0 24 rfl rfl) (rdSeg sd_24_cX8_fits_0 25 rfl rfl) rfl
theorem dX8_fits_26 : decode cX8_fits 26 = .ok (.aload_n 0, 1) := op_42 (rdSeg sd_24_cX8_fits_0 26 rfl rfl)
theorem dX8_fits_27 : decode cX8_fits 27 = .ok (.invokevirtual 201, 3) := op_182 (rdSeg sd_24_cX8_fits_0 27 rfl rfl) (rdSeg sd_24_cX8_fits_0 28 rfl rfl) (rdSeg sd_24_cX8_fits_0 29 rfl rfl) rfl
theorem dX8_fits_30 : decode cX8_fits 30 = .ok (.istore_n 2, 1) := op_61 (rdSeg sd_24_cX8_fits_0 30 rfl rfl)
theorem dX8_fits_31 : decode cX8_fits 31 = .ok (.aload_n 0, 1) := op_42 (rdSeg sd_24_cX8_fits_0 31 rfl rfl)
theorem dX8_fits_32 : decode cX8_fits 32 = .ok (.getfield 29, 3) := op_180 (rdSeg sd_24_cX8_fits_1 0 rfl rfl) (rdSeg sd_24_cX8_fits_1 1 rfl rfl) (rdSeg sd_24_cX8_fits_1 2 rfl rfl) rfl
theorem dX8_fits_35 : decode cX8_fits 35 = .ok (.invokevirtual 204, 3) := op_182 (rdSeg sd_24_cX8_fits_1 3 rfl rfl) (rdSeg sd_24_cX8_fits_1 4 rfl rfl) (rdSeg sd_24_cX8_fits_1 5 rfl rfl) rfl
theorem dX8_fits_38 : decode cX8_fits 38 = .ok (.ifCond .ne 19, 3) := op_154 (rdSeg sd_24_cX8_fits_1 6 rfl rfl) (rdSeg sd_24_cX8_fits_1 7 rfl rfl) (rdSeg sd_24_cX8_fits_1 8 rfl rfl) (by decide +kernel)
theorem dX8_fits_41 : decode cX8_fits 41 = .ok (.iload_n 1, 1) := op_27 (rdSeg sd_24_cX8_fits_1 9 rfl rfl)
theorem dX8_fits_42 : decode cX8_fits 42 = .ok (.iconst 1, 1) := op_4 (rdSeg sd_24_cX8_fits_1 10 rfl rfl)
theorem dX8_fits_43 : decode cX8_fits 43 = .ok (.if_icmp .eq 8, 3) := op_159 (rdSeg sd_24_cX8_fits_1 11 rfl rfl) (rdSeg sd_24_cX8_fits_1 12 rfl rfl) (rdSeg sd_24_cX8_fits_1 13 rfl rfl) (by decide +kernel)
theorem dX8_fits_46 : decode cX8_fits 46 = .ok (.iload_n 1, 1) := op_27 (rdSeg sd_24_cX8_fits_1 14 rfl rfl)
theorem dX8_fits_47 : decode cX8_fits 47 = .ok (.iconst 4, 1) := op_7 (rdSeg sd_24_cX8_fits_1 15 rfl rfl)
theorem dX8_fits_48 : decode cX8_fits 48 = .ok (.if_icmp .ne 9, 3) := op_160 (rdSeg sd_24_cX8_fits_1 16 rfl rfl) (rdSeg sd_24_cX8_fits_1 17 rfl rfl) (rdSeg sd_24_cX8_fits_1 18 rfl rfl) (by decide +kernel)
theorem dX8_fits_51 : decode cX8_fits 51 = .ok (.aload_n 0, 1) := op_42 (rdSeg sd_24_cX8_fits_1 19 rfl rfl)
theorem dX8_fits_52 : decode cX8_fits 52 = .ok (.iconst 2, 1) := op_5 (rdSeg sd_24_cX8_fits_1 20 rfl rfl)
theorem dX8_fits_53 : decode cX8_fits 53 = .ok (.invokevirtual 67, 3) := op_182 (rdSeg sd_24_cX8_fits_1 21 rfl rfl) (rdSeg sd_24_cX8_fits_1 22 rfl rfl) (rdSeg sd_24_cX8_fits_1 23 rfl rfl) rfl
theorem dX8_fits_56 : decode cX8_fits 56 = .ok (.ireturn, 1) := op_172 (rdSeg sd_24_cX8_fits_1 24 rfl rfl)
theorem dX8_fits_57 : decode cX8_fits 57 = .ok (.iload_n 1, 1) := op_27 (rdSeg sd_24_cX8_fits_1 25 rfl rfl)
theorem dX8_fits_58 : decode cX8_fits 58 = .ok (.tableswitch 64 0 3 #[30, 38, 47, 56], 30) := by decide +kernel
theorem dX8_fits_88 : decode cX8_fits 88 = .ok (.aload_n 0, 1) := op_42 (rdSeg sd_24_cX8_fits_2 24 rfl rfl)
theorem dX8_fits_89 : decode cX8_fits 89 = .ok (.getfield 29, 3) := op_180 (rdSeg sd_24_cX8_fits_2 25 rfl rfl) (rdSeg sd_24_cX8_fits_2 26 rfl rfl) (rdSeg sd_24_cX8_fits_2 27 rfl rfl) rfl
theorem dX8_fits_92 : decode cX8_fits 92 = .ok (.invokevirtual 204, 3) := op_182 (rdSeg sd_24_cX8_fits_2 28 rfl rfl) (rdSeg sd_24_cX8_fits_2 29 rfl rfl) (rdSeg sd_24_cX8_fits_2 30 rfl rfl) rfl
theorem dX8_fits_95 : decode cX8_fits 95 = .ok (.ireturn, 1) := op_172 (rdSeg sd_24_cX8_fits_2 31 rfl rfl)
theorem dX8_fits_96 : decode cX8_fits 96 = .ok (.aload_n 0, 1) := op_42 (rdSeg sd_24_cX8_fits_3 0 rfl rfl)
theorem dX8_fits_97 : decode cX8_fits 97 = .ok (.getfield 29, 3) := op_180 (rdSeg sd_24_cX8_fits_3 1 rfl rfl) (rdSeg sd_24_cX8_fits_3 2 rfl rfl) (rdSeg sd_24_cX8_fits_3 3 rfl rfl) rfl
theorem dX8_fits_100 : decode cX8_fits 100 = .ok (.iconst 0, 1) := op_3 (rdSeg sd_24_cX8_fits_3 4 rfl rfl)
theorem dX8_fits_101 : decode cX8_fits 101 = .ok (.invokevirtual 205, 3) := op_182 (rdSeg sd_24_cX8_fits_3 5 rfl rfl) (rdSeg sd_24_cX8_fits_3 6 rfl rfl) (rdSeg sd_24_cX8_fits_3 7 rfl rfl) rfl
theorem dX8_fits_104 : decode cX8_fits 104 = .ok (.ireturn, 1) := op_172 (rdSeg sd_24_cX8_fits_3 8 rfl rfl)
theorem dX8_fits_105 : decode cX8_fits 105 = .ok (.aload_n 0, 1) := op_42 (rdSeg sd_24_cX8_fits_3 9 rfl rfl)
theorem dX8_fits_106 : decode cX8_fits 106 = .ok (.getfield 29, 3) := op_180 (rdSeg sd_24_cX8_fits_3 10 rfl rfl) (rdSeg sd_24_cX8_fits_3 11 rfl rfl) (rdSeg sd_24_cX8_fits_3 12 rfl rfl) rfl
theorem dX8_fits_109 : decode cX8_fits 109 = .ok (.iload_n 2, 1) := op_28 (rdSeg sd_24_cX8_fits_3 13 rfl rfl)
theorem dX8_fits_110 : decode cX8_fits 110 = .ok (.invokevirtual 208, 3) := op_182 (rdSeg sd_24_cX8_fits_3 14 rfl rfl) (rdSeg sd_24_cX8_fits_3 15 rfl rfl) (rdSeg sd_24_cX8_fits_3 16 rfl rfl) rfl
theorem dX8_fits_113 : decode cX8_fits 113 = .ok (.ireturn, 1) := op_172 (rdSeg sd_24_cX8_fits_3 17 rfl rfl)
theorem dX8_fits_114 : decode cX8_fits 114 = .ok (.aload_n 0, 1) := op_42 (rdSeg sd_24_cX8_fits_3 18 rfl rfl)
theorem dX8_fits_115 : decode cX8_fits 115 = .ok (.getfield 29, 3) := op_180 (rdSeg sd_24_cX8_fits_3 19 rfl rfl) (rdSeg sd_24_cX8_fits_3 20 rfl rfl) (rdSeg sd_24_cX8_fits_3 21 rfl rfl) rfl
theorem dX8_fits_118 : decode cX8_fits 118 = .ok (.invokevirtual 211, 3) := op_182 (rdSeg sd_24_cX8_fits_3 22 rfl rfl) (rdSeg sd_24_cX8_fits_3 23 rfl rfl) (rdSeg sd_24_cX8_fits_3 24 rfl rfl) rfl
theorem dX8_fits_121 : decode cX8_fits 121 = .ok (.ireturn, 1) := op_172 (rdSeg sd_24_cX8_fits_3 25 rfl rfl)
theorem dX8_fits_122 : decode cX8_fits 122 = .ok (.aload_n 0, 1) := op_42 (rdSeg sd_24_cX8_fits_3 26 rfl rfl)
theorem dX8_fits_123 : decode cX8_fits 123 = .ok (.getfield 12, 3) := op_180 (rdSeg sd_24_cX8_fits_3 27 rfl rfl) (rdSeg sd_24_cX8_fits_3 28 rfl rfl) (rdSeg sd_24_cX8_fits_3 29 rfl rfl) rfl
theorem dX8_fits_126 : decode cX8_fits 126 = .ok (.getfield 181, 3) := op_180 (rdSeg sd_24_cX8_fits_3 30 rfl rfl) (rdSeg sd_24_cX8_fits_3 31 rfl rfl) (rdSeg sd_24_cX8_fits_4 0 rfl rfl) rfl
theorem dX8_fits_129 : decode cX8_fits 129 = .ok (.invokevirtual 143, 3) := op_182 (rdSeg sd_24_cX8_fits_4 1 rfl rfl) (rdSeg sd_24_cX8_fits_4 2 rfl rfl) (rdSeg sd_24_cX8_fits_4 3 rfl rfl) rfl
theorem dX8_fits_132 : decode cX8_fits 132 = .ok (.aload_n 0, 1) := op_42 (rdSeg sd_24_cX8_fits_4 4 rfl rfl)
theorem dX8_fits_133 : decode cX8_fits 133 = .ok (.getfield 29, 3) := op_180 (rdSeg sd_24_cX8_fits_4 5 rfl rfl) (rdSeg sd_24_cX8_fits_4 6 rfl rfl) (rdSeg sd_24_cX8_fits_4 7 rfl rfl) rfl
theorem dX8_fits_136 : decode cX8_fits 136 = .ok (.invokevirtual 214, 3) := op_182 (rdSeg sd_24_cX8_fits_4 8 rfl rfl) (rdSeg sd_24_cX8_fits_4 9 rfl rfl) (rdSeg sd_24_cX8_fits_4 10 rfl rfl) rfl
theorem dX8_fits_139 : decode cX8_fits 139 = .ok (.isub, 1) := op_100 (rdSeg sd_24_cX8_fits_4 11 rfl rfl)
theorem dX8_fits_140 : decode cX8_fits 140 = .ok (.ireturn, 1) := op_172 (rdSeg sd_24_cX8_fits_4 12 rfl rfl)
def sg_24_cX8_span_2 : List UInt8 := [0xac, 0x2a, 0xb4, 0x00, 0x1d, 0x2a, 0xb4, 0x00, 0x0c, 0x1b, 0x10, 0x06, 0x1c, 0x60, 0x1d, 0x04, 0xa0, 0x00, 0x07, 0x04, 0xa7, 0x00, 0x04, 0x03, 0xb6, 0x00, 0xd9, 0xac]
def sg_24_cX8_span_1 : List UInt8 := 0x2a :: 0x04 :: 0xb6 :: 0x00 :: 0x43 :: 0xac :: 0x2a :: 0xb4 :: 0x00 :: 0x1d :: 0x2a :: 0xb4 :: 0x00 :: 0x0c :: 0xb6 :: 0x00 :: 0xc5 :: 0x2a :: 0xb4 :: 0x00 :: 0x1d :: 0xb6 :: 0x00 :: 0xcc :: 0x9a :: 0x00 :: 0x09 :: 0x2a :: 0x05 :: 0xb6 :: 0x00 :: 0x43 :: sg_24_cX8_span_2
def sg_24_cX8_span_0 : List UInt8 := 0x2a :: 0xb4 :: 0x00 :: 0x0c :: 0xb4 :: 0x00 :: 0x47 :: 0x1b :: 0xb6 :: 0x00 :: 0x52 :: 0x99 :: 0x00 :: 0x15 :: 0x1c :: 0x03 :: 0x06 :: 0xb8 :: 0x00 :: 0x3f :: 0x99 :: 0x00 :: 0x0c :: 0x1d :: 0x03 :: 0x04 :: 0xb8 :: 0x00 :: 0x3f :: 0x9a :: 0x00 :: 0x09 :: sg_24_cX8_span_1
set_option maxRecDepth 100000 in
theorem sd_24_cX8_span_0 : cX8_span.data.toList.drop 0 = sg_24_cX8_span_0 := by decide +kernel
theorem sd_24_cX8_span_1 : cX8_span.data.toList.drop 32 = sg_24_cX8_span_1 := sg_next sd_24_cX8_span_0 rfl
theorem sd_24_cX8_span_2 : cX8_span.data.toList.drop 64 = sg_24_cX8_span_2 := sg_next sd_24_cX8_span_1 rfl
theorem dX8_span_0 : decode cX8_span 0 = .ok (.aload_n 0, 1) := op_42 (rdSeg sd_24_cX8_span_0 0 rfl rfl)
theorem dX8_span_1 : decode cX8_span 1 = .ok (.getfield 12, 3) := op_180 (rdSeg sd_24_cX8_span_0 1 rfl rfl) (rdSeg sd_24_cX8_span_0 2 rfl rfl) (rdSeg sd_24_cX8_span_0 3 rfl rfl) rfl
theorem dX8_span_4 : decode cX8_span 4 = .ok (.getfield 71, 3) := op_180 (rdSeg sd_24_cX8_span_0 4 rfl rfl) (rdSeg sd_24_cX8_span_0 5 rfl rfl) (rdSeg sd_24_cX8_span_0 6 rfl rfl) rfl
theorem dX8_span_7 : decode cX8_span 7 = .ok (.iload_n 1, 1) := op_27 (rdSeg sd_24_cX8_span_0 7 rfl rfl)
theorem dX8_span_8 : decode cX8_span 8 = .ok (.invokevirtual 82, 3) := op_182 (rdSeg sd_24_cX8_span_0 8 rfl rfl) (rdSeg sd_24_cX8_span_0 9 rfl rfl) (rdSeg sd_24_cX8_span_0 10 rfl rfl) rfl
theorem dX8_span_11 : decode cX8_span 11 = .ok (.ifCond .eq 21, 3) := op_153 (rdSeg sd_24_cX8_span_0 11 rfl rfl) (rdSeg sd_24_cX8_span_0 12 rfl rfl) (rdSeg sd_24_cX8_span_0 13 rfl rfl) (by decide +kernel)
theorem dX8_span_14 : decode cX8_span 14 = .ok (.iload_n 2, 1) := op_28 (rdSeg sd_24_cX8_span_0 14 rfl rfl)
theorem dX8_span_15 : decode cX8_span 15 = .ok (.iconst 0, 1) := op_3 (rdSeg sd_24_cX8_span_0 15 rfl rfl)
theorem dX8_span_16 : decode cX8_span 16 = .ok (.iconst 3, 1) := op_6 (rdSeg sd_24_cX8_span_0 16 rfl rfl)
theorem dX8_span_17 : decode cX8_span 17 = .ok (.invokestatic 63, 3) := op_184 (rdSeg sd_24_cX8_span_0 17 rfl rfl) (rdSeg sd_24_cX8_span_0 18 rfl rfl) (rdSeg sd_24_cX8_span_0 19 rfl rfl) rfl
theorem dX8_span_20 : decode cX8_span 20 = .ok (.ifCond .eq 12, 3) := op_153 (rdSeg sd_24_cX8_span_0 20 rfl rfl) (rdSeg sd_24_cX8_span_0 21 rfl rfl) (rdSeg sd_24_cX8_span_0 22 rfl rfl) (by decide +kernel)
theorem dX8_span_23 : decode cX8_span 23 = .ok (.iload_n 3, 1) := op_29 (rdSeg sd_24_cX8_span_0 23 rfl rfl)
theorem dX8_span_24 : decode cX8_span 24 = .ok (.iconst 0, 1) := op_3 (rdSeg sd_24_cX8_span_0 24 rfl rfl)
theorem dX8_span_25 : decode cX8_span 25 = .ok (.iconst 1, 1) := op_4 (rdSeg sd_24_cX8_span_0 25 rfl rfl)
theorem dX8_span_26 : decode cX8_span 26 = .ok (.invokestatic 63, 3) := op_184 (rdSeg sd_24_cX8_span_0 26 rfl rfl) (rdSeg sd_24_cX8_span_0 27 rfl rfl) (rdSeg sd_24_cX8_span_0 28 rfl rfl) rfl
theorem dX8_span_29 : decode cX8_span 29 = .ok (.ifCond .ne 9, 3) := op_154 (rdSeg sd_24_cX8_span_0 29 rfl rfl) (rdSeg sd_24_cX8_span_0 30 rfl rfl) (rdSeg sd_24_cX8_span_0 31 rfl rfl) (by decide +kernel)
theorem dX8_span_32 : decode cX8_span 32 = .ok (.aload_n 0, 1) := op_42 (rdSeg sd_24_cX8_span_1 0 rfl rfl)
theorem dX8_span_33 : decode cX8_span 33 = .ok (.iconst 1, 1) := op_4 (rdSeg sd_24_cX8_span_1 1 rfl rfl)
theorem dX8_span_34 : decode cX8_span 34 = .ok (.invokevirtual 67, 3) := op_182 (rdSeg sd_24_cX8_span_1 2 rfl rfl) (rdSeg sd_24_cX8_span_1 3 rfl rfl) (rdSeg sd_24_cX8_span_1 4 rfl rfl) rfl
theorem dX8_span_37 : decode cX8_span 37 = .ok (.ireturn, 1) := op_172 (rdSeg sd_24_cX8_span_1 5 rfl rfl)
theorem dX8_span_38 : decode cX8_span 38 = .ok (.aload_n 0, 1) := op_42 (rdSeg sd_24_cX8_span_1 6 rfl rfl)
theorem dX8_span_39 : decode cX8_span 39 = .ok (.getfield 29, 3) := op_180 (rdSeg sd_24_cX8_span_1 7 rfl rfl) (rdSeg sd_24_cX8_span_1 8 rfl rfl) (rdSeg sd_24_cX8_span_1 9 rfl rfl) rfl
theorem dX8_span_42 : decode cX8_span 42 = .ok (.aload_n 0, 1) := op_42 (rdSeg sd_24_cX8_span_1 10 rfl rfl)
theorem dX8_span_43 : decode cX8_span 43 = .ok (.getfield 12, 3) := op_180 (rdSeg sd_24_cX8_span_1 11 rfl rfl) (rdSeg sd_24_cX8_span_1 12 rfl rfl) (rdSeg sd_24_cX8_span_1 13 rfl rfl) rfl
theorem dX8_span_46 : decode cX8_span 46 = .ok (.invokevirtual 197, 3) := op_182 (rdSeg sd_24_cX8_span_1 14 rfl rfl) (rdSeg sd_24_cX8_span_1 15 rfl rfl) (rdSeg sd_24_cX8_span_1 16 rfl rfl) rfl
theorem dX8_span_49 : decode cX8_span 49 = .ok (.aload_n 0, 1) := op_42 (rdSeg sd_24_cX8_span_1 17 rfl rfl)
theorem dX8_span_50 : decode cX8_span 50 = .ok (.getfield 29, 3) := op_180 (rdSeg sd_24_cX8_span_1 18 rfl rfl) (rdSeg sd_24_cX8_span_1 19 rfl rfl) (rdSeg sd_24_cX8_span_1 20 rfl rfl) rfl
theorem dX8_span_53 : decode cX8_span 53 = .ok (.invokevirtual 204, 3) := op_182 (rdSeg sd_24_cX8_span_1 21 rfl rfl) (rdSeg sd_24_cX8_span_1 22 rfl rfl) (rdSeg sd_24_cX8_span_1 23 rfl rfl) rfl
theorem dX8_span_56 : decode cX8_span 56 = .ok (.ifCond .ne 9, 3) := op_154 (rdSeg sd_24_cX8_span_1 24 rfl rfl) (rdSeg sd_24_cX8_span_1 25 rfl rfl) (rdSeg sd_24_cX8_span_1 26 rfl rfl) (by decide +kernel)
theorem dX8_span_59 : decode cX8_span 59 = .ok (.aload_n 0, 1) := op_42 (rdSeg sd_24_cX8_span_1 27 rfl rfl)
theorem dX8_span_60 : decode cX8_span 60 = .ok (.iconst 2, 1) := op_5 (rdSeg sd_24_cX8_span_1 28 rfl rfl)
theorem dX8_span_61 : decode cX8_span 61 = .ok (.invokevirtual 67, 3) := op_182 (rdSeg sd_24_cX8_span_1 29 rfl rfl) (rdSeg sd_24_cX8_span_1 30 rfl rfl) (rdSeg sd_24_cX8_span_1 31 rfl rfl) rfl
theorem dX8_span_64 : decode cX8_span 64 = .ok (.ireturn, 1) := op_172 (rdSeg sd_24_cX8_span_2 0 rfl rfl)
theorem dX8_span_65 : decode cX8_span 65 = .ok (.aload_n 0, 1) := op_42 (rdSeg sd_24_cX8_span_2 1 rfl rfl)
theorem dX8_span_66 : decode cX8_span 66 = .ok (.getfield 29, 3) := op_180 (rdSeg sd_24_cX8_span_2 2 rfl rfl) (rdSeg sd_24_cX8_span_2 3 rfl rfl) (rdSeg sd_24_cX8_span_2 4 rfl rfl) rfl
theorem dX8_span_69 : decode cX8_span 69 = .ok (.aload_n 0, 1) := op_42 (rdSeg sd_24_cX8_span_2 5 rfl rfl)
theorem dX8_span_70 : decode cX8_span 70 = .ok (.getfield 12, 3) := op_180 (rdSeg sd_24_cX8_span_2 6 rfl rfl) (rdSeg sd_24_cX8_span_2 7 rfl rfl) (rdSeg sd_24_cX8_span_2 8 rfl rfl) rfl
theorem dX8_span_73 : decode cX8_span 73 = .ok (.iload_n 1, 1) := op_27 (rdSeg sd_24_cX8_span_2 9 rfl rfl)
theorem dX8_span_74 : decode cX8_span 74 = .ok (.bipush 6, 2) := op_16 (rdSeg sd_24_cX8_span_2 10 rfl rfl) (rdSeg sd_24_cX8_span_2 11 rfl rfl) (by decide +kernel)
theorem dX8_span_76 : decode cX8_span 76 = .ok (.iload_n 2, 1) := op_28 (rdSeg sd_24_cX8_span_2 12 rfl rfl)
theorem dX8_span_77 : decode cX8_span 77 = .ok (.iadd, 1) := op_96 (rdSeg sd_24_cX8_span_2 13 rfl rfl)
theorem dX8_span_78 : decode cX8_span 78 = .ok (.iload_n 3, 1) := op_29 (rdSeg sd_24_cX8_span_2 14 rfl rfl)
theorem dX8_span_79 : decode cX8_span 79 = .ok (.iconst 1, 1) := op_4 (rdSeg sd_24_cX8_span_2 15 rfl rfl)
theorem dX8_span_80 : decode cX8_span 80 = .ok (.if_icmp .ne 7, 3) := op_160 (rdSeg sd_24_cX8_span_2 16 rfl rfl) (rdSeg sd_24_cX8_span_2 17 rfl rfl) (rdSeg sd_24_cX8_span_2 18 rfl rfl) (by decide +kernel)
theorem dX8_span_83 : decode cX8_span 83 = .ok (.iconst 1, 1) := op_4 (rdSeg sd_24_cX8_span_2 19 rfl rfl)
theorem dX8_span_84 : decode cX8_span 84 = .ok (.goto 4, 3) := op_167 (rdSeg sd_24_cX8_span_2 20 rfl rfl) (rdSeg sd_24_cX8_span_2 21 rfl rfl) (rdSeg sd_24_cX8_span_2 22 rfl rfl) (by decide +kernel)
theorem dX8_span_87 : decode cX8_span 87 = .ok (.iconst 0, 1) := op_3 (rdSeg sd_24_cX8_span_2 23 rfl rfl)
theorem dX8_span_88 : decode cX8_span 88 = .ok (.invokevirtual 217, 3) := op_182 (rdSeg sd_24_cX8_span_2 24 rfl rfl) (rdSeg sd_24_cX8_span_2 25 rfl rfl) (rdSeg sd_24_cX8_span_2 26 rfl rfl) rfl
theorem dX8_span_91 : decode cX8_span 91 = .ok (.ireturn, 1) := op_172 (rdSeg sd_24_cX8_span_2 27 rfl rfl)
def sg_24_cX8_next_1 : List UInt8 := [0x00, 0x09, 0x2a, 0x05, 0xb6, 0x00, 0x43, 0xac, 0x2a, 0xb4, 0x00, 0x1d, 0x2a, 0xb4, 0x00, 0x0c, 0xb4, 0x00, 0x47, 0xb6, 0x00, 0xdd, 0xb6, 0x00, 0xde, 0xac]
def sg_24_cX8_next_0 : List UInt8 := 0x2a :: 0xb4 :: 0x00 :: 0x1d :: 0x2a :: 0xb4 :: 0x00 :: 0x0c :: 0xb6 :: 0x00 :: 0xc5 :: 0x2a :: 0xb4 :: 0x00 :: 0x1d :: 0xb6 :: 0x00 :: 0xcc :: 0x99 :: 0x00 :: 0x10 :: 0x2a :: 0xb4 :: 0x00 :: 0x0c :: 0xb4 :: 0x00 :: 0x47 :: 0xb6 :: 0x00 :: 0xdd :: 0x9a :: sg_24_cX8_next_1
set_option maxRecDepth 100000 in
theorem sd_24_cX8_next_0 : cX8_next.data.toList.drop 0 = sg_24_cX8_next_0 := by decide +kernel
theorem sd_24_cX8_next_1 : cX8_next.data.toList.drop 32 = sg_24_cX8_next_1 := sg_next sd_24_cX8_next_0 rfl
theorem dX8_next_0 : decode cX8_next 0 = .ok (.aload_n 0, 1) := op_42 (rdSeg sd_24_cX8_next_0 0 rfl rfl)
theorem dX8_next_1 : decode cX8_next 1 = .ok (.getfield 29, 3) := op_180 (rdSeg sd_24_cX8_next_0 1 rfl rfl) (rdSeg sd_24_cX8_next_0 2 rfl rfl) (rdSeg sd_24_cX8_next_0 3 rfl rfl) rfl
theorem dX8_next_4 : decode cX8_next 4 = .ok (.aload_n 0, 1) := op_42 (rdSeg sd_24_cX8_next_0 4 rfl rfl)
theorem dX8_next_5 : decode cX8_next 5 = .ok (.getfield 12, 3) := op_180 (rdSeg sd_24_cX8_next_0 5 rfl rfl) (rdSeg sd_24_cX8_next_0 6 rfl rfl) (rdSeg sd_24_cX8_next_0 7 rfl rfl) rfl
theorem dX8_next_8 : decode cX8_next 8 = .ok (.invokevirtual 197, 3) := op_182 (rdSeg sd_24_cX8_next_0 8 rfl rfl) (rdSeg sd_24_cX8_next_0 9 rfl rfl) (rdSeg sd_24_cX8_next_0 10 rfl rfl) rfl
theorem dX8_next_11 : decode cX8_next 11 = .ok (.aload_n 0, 1) := op_42 (rdSeg sd_24_cX8_next_0 11 rfl rfl)
theorem dX8_next_12 : decode cX8_next 12 = .ok (.getfield 29, 3) := op_180 (rdSeg sd_24_cX8_next_0 12 rfl rfl) (rdSeg sd_24_cX8_next_0 13 rfl rfl) (rdSeg sd_24_cX8_next_0 14 rfl rfl) rfl
theorem dX8_next_15 : decode cX8_next 15 = .ok (.invokevirtual 204, 3) := op_182 (rdSeg sd_24_cX8_next_0 15 rfl rfl) (rdSeg sd_24_cX8_next_0 16 rfl rfl) (rdSeg sd_24_cX8_next_0 17 rfl rfl) rfl
theorem dX8_next_18 : decode cX8_next 18 = .ok (.ifCond .eq 16, 3) := op_153 (rdSeg sd_24_cX8_next_0 18 rfl rfl) (rdSeg sd_24_cX8_next_0 19 rfl rfl) (rdSeg sd_24_cX8_next_0 20 rfl rfl) (by decide +kernel)
theorem dX8_next_21 : decode cX8_next 21 = .ok (.aload_n 0, 1) := op_42 (rdSeg sd_24_cX8_next_0 21 rfl rfl)
theorem dX8_next_22 : decode cX8_next 22 = .ok (.getfield 12, 3) := op_180 (rdSeg sd_24_cX8_next_0 22 rfl rfl) (rdSeg sd_24_cX8_next_0 23 rfl rfl) (rdSeg sd_24_cX8_next_0 24 rfl rfl) rfl
theorem dX8_next_25 : decode cX8_next 25 = .ok (.getfield 71, 3) := op_180 (rdSeg sd_24_cX8_next_0 25 rfl rfl) (rdSeg sd_24_cX8_next_0 26 rfl rfl) (rdSeg sd_24_cX8_next_0 27 rfl rfl) rfl
theorem dX8_next_28 : decode cX8_next 28 = .ok (.invokevirtual 221, 3) := op_182 (rdSeg sd_24_cX8_next_0 28 rfl rfl) (rdSeg sd_24_cX8_next_0 29 rfl rfl) (rdSeg sd_24_cX8_next_0 30 rfl rfl) rfl
theorem dX8_next_31 : decode cX8_next 31 = .ok (.ifCond .ne 9, 3) := op_154 (rdSeg sd_24_cX8_next_0 31 rfl rfl) (rdSeg sd_24_cX8_next_1 0 rfl rfl) (rdSeg sd_24_cX8_next_1 1 rfl rfl) (by decide +kernel)
theorem dX8_next_34 : decode cX8_next 34 = .ok (.aload_n 0, 1) := op_42 (rdSeg sd_24_cX8_next_1 2 rfl rfl)
theorem dX8_next_35 : decode cX8_next 35 = .ok (.iconst 2, 1) := op_5 (rdSeg sd_24_cX8_next_1 3 rfl rfl)
theorem dX8_next_36 : decode cX8_next 36 = .ok (.invokevirtual 67, 3) := op_182 (rdSeg sd_24_cX8_next_1 4 rfl rfl) (rdSeg sd_24_cX8_next_1 5 rfl rfl) (rdSeg sd_24_cX8_next_1 6 rfl rfl) rfl
theorem dX8_next_39 : decode cX8_next 39 = .ok (.ireturn, 1) := op_172 (rdSeg sd_24_cX8_next_1 7 rfl rfl)
theorem dX8_next_40 : decode cX8_next 40 = .ok (.aload_n 0, 1) := op_42 (rdSeg sd_24_cX8_next_1 8 rfl rfl)
theorem dX8_next_41 : decode cX8_next 41 = .ok (.getfield 29, 3) := op_180 (rdSeg sd_24_cX8_next_1 9 rfl rfl) (rdSeg sd_24_cX8_next_1 10 rfl rfl) (rdSeg sd_24_cX8_next_1 11 rfl rfl) rfl
theorem dX8_next_44 : decode cX8_next 44 = .ok (.aload_n 0, 1) := op_42 (rdSeg sd_24_cX8_next_1 12 rfl rfl)
theorem dX8_next_45 : decode cX8_next 45 = .ok (.getfield 12, 3) := op_180 (rdSeg sd_24_cX8_next_1 13 rfl rfl) (rdSeg sd_24_cX8_next_1 14 rfl rfl) (rdSeg sd_24_cX8_next_1 15 rfl rfl) rfl
theorem dX8_next_48 : decode cX8_next 48 = .ok (.getfield 71, 3) := op_180 (rdSeg sd_24_cX8_next_1 16 rfl rfl) (rdSeg sd_24_cX8_next_1 17 rfl rfl) (rdSeg sd_24_cX8_next_1 18 rfl rfl) rfl
theorem dX8_next_51 : decode cX8_next 51 = .ok (.invokevirtual 221, 3) := op_182 (rdSeg sd_24_cX8_next_1 19 rfl rfl) (rdSeg sd_24_cX8_next_1 20 rfl rfl) (rdSeg sd_24_cX8_next_1 21 rfl rfl) rfl
theorem dX8_next_54 : decode cX8_next 54 = .ok (.invokevirtual 222, 3) := op_182 (rdSeg sd_24_cX8_next_1 22 rfl rfl) (rdSeg sd_24_cX8_next_1 23 rfl rfl) (rdSeg sd_24_cX8_next_1 24 rfl rfl) rfl
theorem dX8_next_57 : decode cX8_next 57 = .ok (.ireturn, 1) := op_172 (rdSeg sd_24_cX8_next_1 25 rfl rfl)
def sg_24_cX8_most_2 : List UInt8 := [0xb4, 0x00, 0x47, 0x15, 0x04, 0x10, 0x06, 0x1b, 0x60, 0xb6, 0x00, 0xe4, 0xb8, 0x00, 0xe7, 0xac]
def sg_24_cX8_most_1 : List UInt8 := 0xac :: 0x2a :: 0xb4 :: 0x00 :: 0x0c :: 0xb4 :: 0x00 :: 0x47 :: 0x10 :: 0x06 :: 0x1b :: 0x60 :: 0x1c :: 0xb6 :: 0x00 :: 0xe1 :: 0x36 :: 0x04 :: 0x1d :: 0x9a :: 0x00 :: 0x08 :: 0x15 :: 0x04 :: 0xa7 :: 0x00 :: 0x17 :: 0x03 :: 0x2a :: 0xb4 :: 0x00 :: 0x0c :: sg_24_cX8_most_2
def sg_24_cX8_most_0 : List UInt8 := 0x1b :: 0x03 :: 0x06 :: 0xb8 :: 0x00 :: 0x3f :: 0x99 :: 0x00 :: 0x15 :: 0x1c :: 0x03 :: 0x06 :: 0xb8 :: 0x00 :: 0x3f :: 0x99 :: 0x00 :: 0x0c :: 0x1d :: 0x03 :: 0x04 :: 0xb8 :: 0x00 :: 0x3f :: 0x9a :: 0x00 :: 0x09 :: 0x2a :: 0x04 :: 0xb6 :: 0x00 :: 0x43 :: sg_24_cX8_most_1
set_option maxRecDepth 100000 in
theorem sd_24_cX8_most_0 : cX8_most.data.toList.drop 0 = sg_24_cX8_most_0 := by decide +kernel
theorem sd_24_cX8_most_1 : cX8_most.data.toList.drop 32 = sg_24_cX8_most_1 := sg_next sd_24_cX8_most_0 rfl
theorem sd_24_cX8_most_2 : cX8_most.data.toList.drop 64 = sg_24_cX8_most_2 := sg_next sd_24_cX8_most_1 rfl
theorem dX8_most_0 : decode cX8_most 0 = .ok (.iload_n 1, 1) := op_27 (rdSeg sd_24_cX8_most_0 0 rfl rfl)
theorem dX8_most_1 : decode cX8_most 1 = .ok (.iconst 0, 1) := op_3 (rdSeg sd_24_cX8_most_0 1 rfl rfl)
theorem dX8_most_2 : decode cX8_most 2 = .ok (.iconst 3, 1) := op_6 (rdSeg sd_24_cX8_most_0 2 rfl rfl)
theorem dX8_most_3 : decode cX8_most 3 = .ok (.invokestatic 63, 3) := op_184 (rdSeg sd_24_cX8_most_0 3 rfl rfl) (rdSeg sd_24_cX8_most_0 4 rfl rfl) (rdSeg sd_24_cX8_most_0 5 rfl rfl) rfl
theorem dX8_most_6 : decode cX8_most 6 = .ok (.ifCond .eq 21, 3) := op_153 (rdSeg sd_24_cX8_most_0 6 rfl rfl) (rdSeg sd_24_cX8_most_0 7 rfl rfl) (rdSeg sd_24_cX8_most_0 8 rfl rfl) (by decide +kernel)
theorem dX8_most_9 : decode cX8_most 9 = .ok (.iload_n 2, 1) := op_28 (rdSeg sd_24_cX8_most_0 9 rfl rfl)
theorem dX8_most_10 : decode cX8_most 10 = .ok (.iconst 0, 1) := op_3 (rdSeg sd_24_cX8_most_0 10 rfl rfl)
theorem dX8_most_11 : decode cX8_most 11 = .ok (.iconst 3, 1) := op_6 (rdSeg sd_24_cX8_most_0 11 rfl rfl)
theorem dX8_most_12 : decode cX8_most 12 = .ok (.invokestatic 63, 3) := op_184 (rdSeg sd_24_cX8_most_0 12 rfl rfl) (rdSeg sd_24_cX8_most_0 13 rfl rfl) (rdSeg sd_24_cX8_most_0 14 rfl rfl) rfl
theorem dX8_most_15 : decode cX8_most 15 = .ok (.ifCond .eq 12, 3) := op_153 (rdSeg sd_24_cX8_most_0 15 rfl rfl) (rdSeg sd_24_cX8_most_0 16 rfl rfl) (rdSeg sd_24_cX8_most_0 17 rfl rfl) (by decide +kernel)
theorem dX8_most_18 : decode cX8_most 18 = .ok (.iload_n 3, 1) := op_29 (rdSeg sd_24_cX8_most_0 18 rfl rfl)
theorem dX8_most_19 : decode cX8_most 19 = .ok (.iconst 0, 1) := op_3 (rdSeg sd_24_cX8_most_0 19 rfl rfl)
theorem dX8_most_20 : decode cX8_most 20 = .ok (.iconst 1, 1) := op_4 (rdSeg sd_24_cX8_most_0 20 rfl rfl)
theorem dX8_most_21 : decode cX8_most 21 = .ok (.invokestatic 63, 3) := op_184 (rdSeg sd_24_cX8_most_0 21 rfl rfl) (rdSeg sd_24_cX8_most_0 22 rfl rfl) (rdSeg sd_24_cX8_most_0 23 rfl rfl) rfl
theorem dX8_most_24 : decode cX8_most 24 = .ok (.ifCond .ne 9, 3) := op_154 (rdSeg sd_24_cX8_most_0 24 rfl rfl) (rdSeg sd_24_cX8_most_0 25 rfl rfl) (rdSeg sd_24_cX8_most_0 26 rfl rfl) (by decide +kernel)
theorem dX8_most_27 : decode cX8_most 27 = .ok (.aload_n 0, 1) := op_42 (rdSeg sd_24_cX8_most_0 27 rfl rfl)
theorem dX8_most_28 : decode cX8_most 28 = .ok (.iconst 1, 1) := op_4 (rdSeg sd_24_cX8_most_0 28 rfl rfl)
theorem dX8_most_29 : decode cX8_most 29 = .ok (.invokevirtual 67, 3) := op_182 (rdSeg sd_24_cX8_most_0 29 rfl rfl) (rdSeg sd_24_cX8_most_0 30 rfl rfl) (rdSeg sd_24_cX8_most_0 31 rfl rfl) rfl
theorem dX8_most_32 : decode cX8_most 32 = .ok (.ireturn, 1) := op_172 (rdSeg sd_24_cX8_most_1 0 rfl rfl)
theorem dX8_most_33 : decode cX8_most 33 = .ok (.aload_n 0, 1) := op_42 (rdSeg sd_24_cX8_most_1 1 rfl rfl)
theorem dX8_most_34 : decode cX8_most 34 = .ok (.getfield 12, 3) := op_180 (rdSeg sd_24_cX8_most_1 2 rfl rfl) (rdSeg sd_24_cX8_most_1 3 rfl rfl) (rdSeg sd_24_cX8_most_1 4 rfl rfl) rfl
theorem dX8_most_37 : decode cX8_most 37 = .ok (.getfield 71, 3) := op_180 (rdSeg sd_24_cX8_most_1 5 rfl rfl) (rdSeg sd_24_cX8_most_1 6 rfl rfl) (rdSeg sd_24_cX8_most_1 7 rfl rfl) rfl
theorem dX8_most_40 : decode cX8_most 40 = .ok (.bipush 6, 2) := op_16 (rdSeg sd_24_cX8_most_1 8 rfl rfl) (rdSeg sd_24_cX8_most_1 9 rfl rfl) (by decide +kernel)
theorem dX8_most_42 : decode cX8_most 42 = .ok (.iload_n 1, 1) := op_27 (rdSeg sd_24_cX8_most_1 10 rfl rfl)
theorem dX8_most_43 : decode cX8_most 43 = .ok (.iadd, 1) := op_96 (rdSeg sd_24_cX8_most_1 11 rfl rfl)
theorem dX8_most_44 : decode cX8_most 44 = .ok (.iload_n 2, 1) := op_28 (rdSeg sd_24_cX8_most_1 12 rfl rfl)
theorem dX8_most_45 : decode cX8_most 45 = .ok (.invokevirtual 225, 3) := op_182 (rdSeg sd_24_cX8_most_1 13 rfl rfl) (rdSeg sd_24_cX8_most_1 14 rfl rfl) (rdSeg sd_24_cX8_most_1 15 rfl rfl) rfl
theorem dX8_most_48 : decode cX8_most 48 = .ok (.istore 4, 2) := op_54 (rdSeg sd_24_cX8_most_1 16 rfl rfl) (rdSeg sd_24_cX8_most_1 17 rfl rfl)
theorem dX8_most_50 : decode cX8_most 50 = .ok (.iload_n 3, 1) := op_29 (rdSeg sd_24_cX8_most_1 18 rfl rfl)
theorem dX8_most_51 : decode cX8_most 51 = .ok (.ifCond .ne 8, 3) := op_154 (rdSeg sd_24_cX8_most_1 19 rfl rfl) (rdSeg sd_24_cX8_most_1 20 rfl rfl) (rdSeg sd_24_cX8_most_1 21 rfl rfl) (by decide +kernel)
theorem dX8_most_54 : decode cX8_most 54 = .ok (.iload 4, 2) := op_21 (rdSeg sd_24_cX8_most_1 22 rfl rfl) (rdSeg sd_24_cX8_most_1 23 rfl rfl)
theorem dX8_most_56 : decode cX8_most 56 = .ok (.goto 23, 3) := op_167 (rdSeg sd_24_cX8_most_1 24 rfl rfl) (rdSeg sd_24_cX8_most_1 25 rfl rfl) (rdSeg sd_24_cX8_most_1 26 rfl rfl) (by decide +kernel)
theorem dX8_most_59 : decode cX8_most 59 = .ok (.iconst 0, 1) := op_3 (rdSeg sd_24_cX8_most_1 27 rfl rfl)
theorem dX8_most_60 : decode cX8_most 60 = .ok (.aload_n 0, 1) := op_42 (rdSeg sd_24_cX8_most_1 28 rfl rfl)
theorem dX8_most_61 : decode cX8_most 61 = .ok (.getfield 12, 3) := op_180 (rdSeg sd_24_cX8_most_1 29 rfl rfl) (rdSeg sd_24_cX8_most_1 30 rfl rfl) (rdSeg sd_24_cX8_most_1 31 rfl rfl) rfl
theorem dX8_most_64 : decode cX8_most 64 = .ok (.getfield 71, 3) := op_180 (rdSeg sd_24_cX8_most_2 0 rfl rfl) (rdSeg sd_24_cX8_most_2 1 rfl rfl) (rdSeg sd_24_cX8_most_2 2 rfl rfl) rfl
theorem dX8_most_67 : decode cX8_most 67 = .ok (.iload 4, 2) := op_21 (rdSeg sd_24_cX8_most_2 3 rfl rfl) (rdSeg sd_24_cX8_most_2 4 rfl rfl)
theorem dX8_most_69 : decode cX8_most 69 = .ok (.bipush 6, 2) := op_16 (rdSeg sd_24_cX8_most_2 5 rfl rfl) (rdSeg sd_24_cX8_most_2 6 rfl rfl) (by decide +kernel)
theorem dX8_most_71 : decode cX8_most 71 = .ok (.iload_n 1, 1) := op_27 (rdSeg sd_24_cX8_most_2 7 rfl rfl)
theorem dX8_most_72 : decode cX8_most 72 = .ok (.iadd, 1) := op_96 (rdSeg sd_24_cX8_most_2 8 rfl rfl)
theorem dX8_most_73 : decode cX8_most 73 = .ok (.invokevirtual 228, 3) := op_182 (rdSeg sd_24_cX8_most_2 9 rfl rfl) (rdSeg sd_24_cX8_most_2 10 rfl rfl) (rdSeg sd_24_cX8_most_2 11 rfl rfl) rfl
theorem dX8_most_76 : decode cX8_most 76 = .ok (.invokestatic 231, 3) := op_184 (rdSeg sd_24_cX8_most_2 12 rfl rfl) (rdSeg sd_24_cX8_most_2 13 rfl rfl) (rdSeg sd_24_cX8_most_2 14 rfl rfl) rfl
theorem dX8_most_79 : decode cX8_most 79 = .ok (.ireturn, 1) := op_172 (rdSeg sd_24_cX8_most_2 15 rfl rfl)
def sg_24_cX8_voice_2 : List UInt8 := [0x2b, 0x1c, 0x1d, 0x03, 0xb6, 0x00, 0xef, 0x36, 0x04, 0x2a, 0xb4, 0x00, 0x2b, 0xb6, 0x00, 0xf2, 0x99, 0x00, 0x0c, 0x2a, 0x10, 0x06, 0xb6, 0x00, 0x43, 0xa7, 0x00, 0x05, 0x15, 0x04, 0xac]
def sg_24_cX8_voice_1 : List UInt8 := 0x2b :: 0x2a :: 0xb4 :: 0x00 :: 0x0c :: 0xb4 :: 0x00 :: 0x47 :: 0x1b :: 0x03 :: 0xb6 :: 0x00 :: 0x59 :: 0x1b :: 0x2a :: 0xb4 :: 0x00 :: 0x0c :: 0xb4 :: 0x00 :: 0x47 :: 0x1b :: 0x04 :: 0xb6 :: 0x00 :: 0x59 :: 0xb6 :: 0x00 :: 0xec :: 0x2a :: 0xb4 :: 0x00 :: sg_24_cX8_voice_2
def sg_24_cX8_voice_0 : List UInt8 := 0x2a :: 0xb4 :: 0x00 :: 0x0c :: 0xb4 :: 0x00 :: 0x47 :: 0x1b :: 0xb6 :: 0x00 :: 0x52 :: 0x99 :: 0x00 :: 0x0c :: 0x1c :: 0x03 :: 0x06 :: 0xb8 :: 0x00 :: 0x3f :: 0x9a :: 0x00 :: 0x09 :: 0x2a :: 0x04 :: 0xb6 :: 0x00 :: 0x43 :: 0xac :: 0x2a :: 0xb4 :: 0x00 :: sg_24_cX8_voice_1
set_option maxRecDepth 100000 in
theorem sd_24_cX8_voice_0 : cX8_voice.data.toList.drop 0 = sg_24_cX8_voice_0 := by decide +kernel
theorem sd_24_cX8_voice_1 : cX8_voice.data.toList.drop 32 = sg_24_cX8_voice_1 := sg_next sd_24_cX8_voice_0 rfl
theorem sd_24_cX8_voice_2 : cX8_voice.data.toList.drop 64 = sg_24_cX8_voice_2 := sg_next sd_24_cX8_voice_1 rfl
theorem dX8_voice_0 : decode cX8_voice 0 = .ok (.aload_n 0, 1) := op_42 (rdSeg sd_24_cX8_voice_0 0 rfl rfl)
theorem dX8_voice_1 : decode cX8_voice 1 = .ok (.getfield 12, 3) := op_180 (rdSeg sd_24_cX8_voice_0 1 rfl rfl) (rdSeg sd_24_cX8_voice_0 2 rfl rfl) (rdSeg sd_24_cX8_voice_0 3 rfl rfl) rfl
theorem dX8_voice_4 : decode cX8_voice 4 = .ok (.getfield 71, 3) := op_180 (rdSeg sd_24_cX8_voice_0 4 rfl rfl) (rdSeg sd_24_cX8_voice_0 5 rfl rfl) (rdSeg sd_24_cX8_voice_0 6 rfl rfl) rfl
theorem dX8_voice_7 : decode cX8_voice 7 = .ok (.iload_n 1, 1) := op_27 (rdSeg sd_24_cX8_voice_0 7 rfl rfl)
theorem dX8_voice_8 : decode cX8_voice 8 = .ok (.invokevirtual 82, 3) := op_182 (rdSeg sd_24_cX8_voice_0 8 rfl rfl) (rdSeg sd_24_cX8_voice_0 9 rfl rfl) (rdSeg sd_24_cX8_voice_0 10 rfl rfl) rfl
theorem dX8_voice_11 : decode cX8_voice 11 = .ok (.ifCond .eq 12, 3) := op_153 (rdSeg sd_24_cX8_voice_0 11 rfl rfl) (rdSeg sd_24_cX8_voice_0 12 rfl rfl) (rdSeg sd_24_cX8_voice_0 13 rfl rfl) (by decide +kernel)
theorem dX8_voice_14 : decode cX8_voice 14 = .ok (.iload_n 2, 1) := op_28 (rdSeg sd_24_cX8_voice_0 14 rfl rfl)
theorem dX8_voice_15 : decode cX8_voice 15 = .ok (.iconst 0, 1) := op_3 (rdSeg sd_24_cX8_voice_0 15 rfl rfl)
theorem dX8_voice_16 : decode cX8_voice 16 = .ok (.iconst 3, 1) := op_6 (rdSeg sd_24_cX8_voice_0 16 rfl rfl)
theorem dX8_voice_17 : decode cX8_voice 17 = .ok (.invokestatic 63, 3) := op_184 (rdSeg sd_24_cX8_voice_0 17 rfl rfl) (rdSeg sd_24_cX8_voice_0 18 rfl rfl) (rdSeg sd_24_cX8_voice_0 19 rfl rfl) rfl
theorem dX8_voice_20 : decode cX8_voice 20 = .ok (.ifCond .ne 9, 3) := op_154 (rdSeg sd_24_cX8_voice_0 20 rfl rfl) (rdSeg sd_24_cX8_voice_0 21 rfl rfl) (rdSeg sd_24_cX8_voice_0 22 rfl rfl) (by decide +kernel)
theorem dX8_voice_23 : decode cX8_voice 23 = .ok (.aload_n 0, 1) := op_42 (rdSeg sd_24_cX8_voice_0 23 rfl rfl)
theorem dX8_voice_24 : decode cX8_voice 24 = .ok (.iconst 1, 1) := op_4 (rdSeg sd_24_cX8_voice_0 24 rfl rfl)
theorem dX8_voice_25 : decode cX8_voice 25 = .ok (.invokevirtual 67, 3) := op_182 (rdSeg sd_24_cX8_voice_0 25 rfl rfl) (rdSeg sd_24_cX8_voice_0 26 rfl rfl) (rdSeg sd_24_cX8_voice_0 27 rfl rfl) rfl
theorem dX8_voice_28 : decode cX8_voice 28 = .ok (.ireturn, 1) := op_172 (rdSeg sd_24_cX8_voice_0 28 rfl rfl)
theorem dX8_voice_29 : decode cX8_voice 29 = .ok (.aload_n 0, 1) := op_42 (rdSeg sd_24_cX8_voice_0 29 rfl rfl)
theorem dX8_voice_30 : decode cX8_voice 30 = .ok (.getfield 43, 3) := op_180 (rdSeg sd_24_cX8_voice_0 30 rfl rfl) (rdSeg sd_24_cX8_voice_0 31 rfl rfl) (rdSeg sd_24_cX8_voice_1 0 rfl rfl) rfl
theorem dX8_voice_33 : decode cX8_voice 33 = .ok (.aload_n 0, 1) := op_42 (rdSeg sd_24_cX8_voice_1 1 rfl rfl)
theorem dX8_voice_34 : decode cX8_voice 34 = .ok (.getfield 12, 3) := op_180 (rdSeg sd_24_cX8_voice_1 2 rfl rfl) (rdSeg sd_24_cX8_voice_1 3 rfl rfl) (rdSeg sd_24_cX8_voice_1 4 rfl rfl) rfl
theorem dX8_voice_37 : decode cX8_voice 37 = .ok (.getfield 71, 3) := op_180 (rdSeg sd_24_cX8_voice_1 5 rfl rfl) (rdSeg sd_24_cX8_voice_1 6 rfl rfl) (rdSeg sd_24_cX8_voice_1 7 rfl rfl) rfl
theorem dX8_voice_40 : decode cX8_voice 40 = .ok (.iload_n 1, 1) := op_27 (rdSeg sd_24_cX8_voice_1 8 rfl rfl)
theorem dX8_voice_41 : decode cX8_voice 41 = .ok (.iconst 0, 1) := op_3 (rdSeg sd_24_cX8_voice_1 9 rfl rfl)
theorem dX8_voice_42 : decode cX8_voice 42 = .ok (.invokevirtual 89, 3) := op_182 (rdSeg sd_24_cX8_voice_1 10 rfl rfl) (rdSeg sd_24_cX8_voice_1 11 rfl rfl) (rdSeg sd_24_cX8_voice_1 12 rfl rfl) rfl
theorem dX8_voice_45 : decode cX8_voice 45 = .ok (.iload_n 1, 1) := op_27 (rdSeg sd_24_cX8_voice_1 13 rfl rfl)
theorem dX8_voice_46 : decode cX8_voice 46 = .ok (.aload_n 0, 1) := op_42 (rdSeg sd_24_cX8_voice_1 14 rfl rfl)
theorem dX8_voice_47 : decode cX8_voice 47 = .ok (.getfield 12, 3) := op_180 (rdSeg sd_24_cX8_voice_1 15 rfl rfl) (rdSeg sd_24_cX8_voice_1 16 rfl rfl) (rdSeg sd_24_cX8_voice_1 17 rfl rfl) rfl
theorem dX8_voice_50 : decode cX8_voice 50 = .ok (.getfield 71, 3) := op_180 (rdSeg sd_24_cX8_voice_1 18 rfl rfl) (rdSeg sd_24_cX8_voice_1 19 rfl rfl) (rdSeg sd_24_cX8_voice_1 20 rfl rfl) rfl
theorem dX8_voice_53 : decode cX8_voice 53 = .ok (.iload_n 1, 1) := op_27 (rdSeg sd_24_cX8_voice_1 21 rfl rfl)
theorem dX8_voice_54 : decode cX8_voice 54 = .ok (.iconst 1, 1) := op_4 (rdSeg sd_24_cX8_voice_1 22 rfl rfl)
theorem dX8_voice_55 : decode cX8_voice 55 = .ok (.invokevirtual 89, 3) := op_182 (rdSeg sd_24_cX8_voice_1 23 rfl rfl) (rdSeg sd_24_cX8_voice_1 24 rfl rfl) (rdSeg sd_24_cX8_voice_1 25 rfl rfl) rfl
theorem dX8_voice_58 : decode cX8_voice 58 = .ok (.invokevirtual 236, 3) := op_182 (rdSeg sd_24_cX8_voice_1 26 rfl rfl) (rdSeg sd_24_cX8_voice_1 27 rfl rfl) (rdSeg sd_24_cX8_voice_1 28 rfl rfl) rfl
theorem dX8_voice_61 : decode cX8_voice 61 = .ok (.aload_n 0, 1) := op_42 (rdSeg sd_24_cX8_voice_1 29 rfl rfl)
theorem dX8_voice_62 : decode cX8_voice 62 = .ok (.getfield 43, 3) := op_180 (rdSeg sd_24_cX8_voice_1 30 rfl rfl) (rdSeg sd_24_cX8_voice_1 31 rfl rfl) (rdSeg sd_24_cX8_voice_2 0 rfl rfl) rfl
theorem dX8_voice_65 : decode cX8_voice 65 = .ok (.iload_n 2, 1) := op_28 (rdSeg sd_24_cX8_voice_2 1 rfl rfl)
theorem dX8_voice_66 : decode cX8_voice 66 = .ok (.iload_n 3, 1) := op_29 (rdSeg sd_24_cX8_voice_2 2 rfl rfl)
theorem dX8_voice_67 : decode cX8_voice 67 = .ok (.iconst 0, 1) := op_3 (rdSeg sd_24_cX8_voice_2 3 rfl rfl)
theorem dX8_voice_68 : decode cX8_voice 68 = .ok (.invokevirtual 239, 3) := op_182 (rdSeg sd_24_cX8_voice_2 4 rfl rfl) (rdSeg sd_24_cX8_voice_2 5 rfl rfl) (rdSeg sd_24_cX8_voice_2 6 rfl rfl) rfl
theorem dX8_voice_71 : decode cX8_voice 71 = .ok (.istore 4, 2) := op_54 (rdSeg sd_24_cX8_voice_2 7 rfl rfl) (rdSeg sd_24_cX8_voice_2 8 rfl rfl)
theorem dX8_voice_73 : decode cX8_voice 73 = .ok (.aload_n 0, 1) := op_42 (rdSeg sd_24_cX8_voice_2 9 rfl rfl)
theorem dX8_voice_74 : decode cX8_voice 74 = .ok (.getfield 43, 3) := op_180 (rdSeg sd_24_cX8_voice_2 10 rfl rfl) (rdSeg sd_24_cX8_voice_2 11 rfl rfl) (rdSeg sd_24_cX8_voice_2 12 rfl rfl) rfl
theorem dX8_voice_77 : decode cX8_voice 77 = .ok (.invokevirtual 242, 3) := op_182 (rdSeg sd_24_cX8_voice_2 13 rfl rfl) (rdSeg sd_24_cX8_voice_2 14 rfl rfl) (rdSeg sd_24_cX8_voice_2 15 rfl rfl) rfl
theorem dX8_voice_80 : decode cX8_voice 80 = .ok (.ifCond .eq 12, 3) := op_153 (rdSeg sd_24_cX8_voice_2 16 rfl rfl) (rdSeg sd_24_cX8_voice_2 17 rfl rfl) (rdSeg sd_24_cX8_voice_2 18 rfl rfl) (by decide +kernel)
theorem dX8_voice_83 : decode cX8_voice 83 = .ok (.aload_n 0, 1) := op_42 (rdSeg sd_24_cX8_voice_2 19 rfl rfl)
theorem dX8_voice_84 : decode cX8_voice 84 = .ok (.bipush 6, 2) := op_16 (rdSeg sd_24_cX8_voice_2 20 rfl rfl) (rdSeg sd_24_cX8_voice_2 21 rfl rfl) (by decide +kernel)
theorem dX8_voice_86 : decode cX8_voice 86 = .ok (.invokevirtual 67, 3) := op_182 (rdSeg sd_24_cX8_voice_2 22 rfl rfl) (rdSeg sd_24_cX8_voice_2 23 rfl rfl) (rdSeg sd_24_cX8_voice_2 24 rfl rfl) rfl
theorem dX8_voice_89 : decode cX8_voice 89 = .ok (.goto 5, 3) := op_167 (rdSeg sd_24_cX8_voice_2 25 rfl rfl) (rdSeg sd_24_cX8_voice_2 26 rfl rfl) (rdSeg sd_24_cX8_voice_2 27 rfl rfl) (by decide +kernel)
theorem dX8_voice_92 : decode cX8_voice 92 = .ok (.iload 4, 2) := op_21 (rdSeg sd_24_cX8_voice_2 28 rfl rfl) (rdSeg sd_24_cX8_voice_2 29 rfl rfl)
theorem dX8_voice_94 : decode cX8_voice 94 = .ok (.ireturn, 1) := op_172 (rdSeg sd_24_cX8_voice_2 30 rfl rfl)
def sg_24_cX8_body_1 : List UInt8 := [0x00, 0x43, 0xac]
def sg_24_cX8_body_0 : List UInt8 := 0x2a :: 0xb4 :: 0x00 :: 0x2b :: 0xb6 :: 0x00 :: 0xf6 :: 0x1b :: 0xb6 :: 0x00 :: 0xa5 :: 0x99 :: 0x00 :: 0x12 :: 0x2a :: 0xb4 :: 0x00 :: 0x2b :: 0xb6 :: 0x00 :: 0xf6 :: 0x1b :: 0x03 :: 0xb6 :: 0x00 :: 0xa9 :: 0xa7 :: 0x00 :: 0x08 :: 0x2a :: 0x05 :: 0xb6 :: sg_24_cX8_body_1
set_option maxRecDepth 100000 in
theorem sd_24_cX8_body_0 : cX8_body.data.toList.drop 0 = sg_24_cX8_body_0 := by decide +kernel
theorem sd_24_cX8_body_1 : cX8_body.data.toList.drop 32 = sg_24_cX8_body_1 := sg_next sd_24_cX8_body_0 rfl
theorem dX8_body_0 : decode cX8_body 0 = .ok (.aload_n 0, 1) := op_42 (rdSeg sd_24_cX8_body_0 0 rfl rfl)
theorem dX8_body_1 : decode cX8_body 1 = .ok (.getfield 43, 3) := op_180 (rdSeg sd_24_cX8_body_0 1 rfl rfl) (rdSeg sd_24_cX8_body_0 2 rfl rfl) (rdSeg sd_24_cX8_body_0 3 rfl rfl) rfl
theorem dX8_body_4 : decode cX8_body 4 = .ok (.invokevirtual 246, 3) := op_182 (rdSeg sd_24_cX8_body_0 4 rfl rfl) (rdSeg sd_24_cX8_body_0 5 rfl rfl) (rdSeg sd_24_cX8_body_0 6 rfl rfl) rfl
theorem dX8_body_7 : decode cX8_body 7 = .ok (.iload_n 1, 1) := op_27 (rdSeg sd_24_cX8_body_0 7 rfl rfl)
theorem dX8_body_8 : decode cX8_body 8 = .ok (.invokevirtual 165, 3) := op_182 (rdSeg sd_24_cX8_body_0 8 rfl rfl) (rdSeg sd_24_cX8_body_0 9 rfl rfl) (rdSeg sd_24_cX8_body_0 10 rfl rfl) rfl
theorem dX8_body_11 : decode cX8_body 11 = .ok (.ifCond .eq 18, 3) := op_153 (rdSeg sd_24_cX8_body_0 11 rfl rfl) (rdSeg sd_24_cX8_body_0 12 rfl rfl) (rdSeg sd_24_cX8_body_0 13 rfl rfl) (by decide +kernel)
theorem dX8_body_14 : decode cX8_body 14 = .ok (.aload_n 0, 1) := op_42 (rdSeg sd_24_cX8_body_0 14 rfl rfl)
theorem dX8_body_15 : decode cX8_body 15 = .ok (.getfield 43, 3) := op_180 (rdSeg sd_24_cX8_body_0 15 rfl rfl) (rdSeg sd_24_cX8_body_0 16 rfl rfl) (rdSeg sd_24_cX8_body_0 17 rfl rfl) rfl
theorem dX8_body_18 : decode cX8_body 18 = .ok (.invokevirtual 246, 3) := op_182 (rdSeg sd_24_cX8_body_0 18 rfl rfl) (rdSeg sd_24_cX8_body_0 19 rfl rfl) (rdSeg sd_24_cX8_body_0 20 rfl rfl) rfl
theorem dX8_body_21 : decode cX8_body 21 = .ok (.iload_n 1, 1) := op_27 (rdSeg sd_24_cX8_body_0 21 rfl rfl)
theorem dX8_body_22 : decode cX8_body 22 = .ok (.iconst 0, 1) := op_3 (rdSeg sd_24_cX8_body_0 22 rfl rfl)
theorem dX8_body_23 : decode cX8_body 23 = .ok (.invokevirtual 169, 3) := op_182 (rdSeg sd_24_cX8_body_0 23 rfl rfl) (rdSeg sd_24_cX8_body_0 24 rfl rfl) (rdSeg sd_24_cX8_body_0 25 rfl rfl) rfl
theorem dX8_body_26 : decode cX8_body 26 = .ok (.goto 8, 3) := op_167 (rdSeg sd_24_cX8_body_0 26 rfl rfl) (rdSeg sd_24_cX8_body_0 27 rfl rfl) (rdSeg sd_24_cX8_body_0 28 rfl rfl) (by decide +kernel)
theorem dX8_body_29 : decode cX8_body 29 = .ok (.aload_n 0, 1) := op_42 (rdSeg sd_24_cX8_body_0 29 rfl rfl)
theorem dX8_body_30 : decode cX8_body 30 = .ok (.iconst 2, 1) := op_5 (rdSeg sd_24_cX8_body_0 30 rfl rfl)
theorem dX8_body_31 : decode cX8_body 31 = .ok (.invokevirtual 67, 3) := op_182 (rdSeg sd_24_cX8_body_0 31 rfl rfl) (rdSeg sd_24_cX8_body_1 0 rfl rfl) (rdSeg sd_24_cX8_body_1 1 rfl rfl) rfl
theorem dX8_body_34 : decode cX8_body 34 = .ok (.ireturn, 1) := op_172 (rdSeg sd_24_cX8_body_1 2 rfl rfl)
def sg_24_cX8_sheet_2 : List UInt8 := [0x2a, 0x04, 0xb6, 0x00, 0x43, 0xac, 0x19, 0x04, 0x1c, 0x1c, 0x9a, 0x00, 0x07, 0x03, 0xa7, 0x00, 0x04, 0x1d, 0xb6, 0x00, 0xfe, 0x04, 0xac]
def sg_24_cX8_sheet_1 : List UInt8 := 0x00 :: 0x09 :: 0x2a :: 0x04 :: 0xb6 :: 0x00 :: 0x43 :: 0xac :: 0x1c :: 0x99 :: 0x00 :: 0x0d :: 0x1d :: 0x9c :: 0x00 :: 0x09 :: 0x2a :: 0x06 :: 0xb6 :: 0x00 :: 0x43 :: 0xac :: 0x1c :: 0x99 :: 0x00 :: 0x0f :: 0x1d :: 0x10 :: 0x18 :: 0xa4 :: 0x00 :: 0x09 :: sg_24_cX8_sheet_2
def sg_24_cX8_sheet_0 : List UInt8 := 0x2a :: 0x1b :: 0xb6 :: 0x00 :: 0xfa :: 0x3a :: 0x04 :: 0x19 :: 0x04 :: 0xc6 :: 0x00 :: 0x19 :: 0x1c :: 0x99 :: 0x00 :: 0x1b :: 0x1c :: 0x10 :: 0x08 :: 0x9f :: 0x00 :: 0x15 :: 0x1c :: 0x10 :: 0x10 :: 0x9f :: 0x00 :: 0x0f :: 0x1c :: 0x10 :: 0x20 :: 0x9f :: sg_24_cX8_sheet_1
set_option maxRecDepth 100000 in
theorem sd_24_cX8_sheet_0 : cX8_sheet.data.toList.drop 0 = sg_24_cX8_sheet_0 := by decide +kernel
theorem sd_24_cX8_sheet_1 : cX8_sheet.data.toList.drop 32 = sg_24_cX8_sheet_1 := sg_next sd_24_cX8_sheet_0 rfl
theorem sd_24_cX8_sheet_2 : cX8_sheet.data.toList.drop 64 = sg_24_cX8_sheet_2 := sg_next sd_24_cX8_sheet_1 rfl
theorem dX8_sheet_0 : decode cX8_sheet 0 = .ok (.aload_n 0, 1) := op_42 (rdSeg sd_24_cX8_sheet_0 0 rfl rfl)
theorem dX8_sheet_1 : decode cX8_sheet 1 = .ok (.iload_n 1, 1) := op_27 (rdSeg sd_24_cX8_sheet_0 1 rfl rfl)
theorem dX8_sheet_2 : decode cX8_sheet 2 = .ok (.invokevirtual 250, 3) := op_182 (rdSeg sd_24_cX8_sheet_0 2 rfl rfl) (rdSeg sd_24_cX8_sheet_0 3 rfl rfl) (rdSeg sd_24_cX8_sheet_0 4 rfl rfl) rfl
theorem dX8_sheet_5 : decode cX8_sheet 5 = .ok (.astore 4, 2) := op_58 (rdSeg sd_24_cX8_sheet_0 5 rfl rfl) (rdSeg sd_24_cX8_sheet_0 6 rfl rfl)
theorem dX8_sheet_7 : decode cX8_sheet 7 = .ok (.aload 4, 2) := op_25 (rdSeg sd_24_cX8_sheet_0 7 rfl rfl) (rdSeg sd_24_cX8_sheet_0 8 rfl rfl)
theorem dX8_sheet_9 : decode cX8_sheet 9 = .ok (.ifnull 25, 3) := op_198 (rdSeg sd_24_cX8_sheet_0 9 rfl rfl) (rdSeg sd_24_cX8_sheet_0 10 rfl rfl) (rdSeg sd_24_cX8_sheet_0 11 rfl rfl) (by decide +kernel)
theorem dX8_sheet_12 : decode cX8_sheet 12 = .ok (.iload_n 2, 1) := op_28 (rdSeg sd_24_cX8_sheet_0 12 rfl rfl)
theorem dX8_sheet_13 : decode cX8_sheet 13 = .ok (.ifCond .eq 27, 3) := op_153 (rdSeg sd_24_cX8_sheet_0 13 rfl rfl) (rdSeg sd_24_cX8_sheet_0 14 rfl rfl) (rdSeg sd_24_cX8_sheet_0 15 rfl rfl) (by decide +kernel)
theorem dX8_sheet_16 : decode cX8_sheet 16 = .ok (.iload_n 2, 1) := op_28 (rdSeg sd_24_cX8_sheet_0 16 rfl rfl)
theorem dX8_sheet_17 : decode cX8_sheet 17 = .ok (.bipush 8, 2) := op_16 (rdSeg sd_24_cX8_sheet_0 17 rfl rfl) (rdSeg sd_24_cX8_sheet_0 18 rfl rfl) (by decide +kernel)
theorem dX8_sheet_19 : decode cX8_sheet 19 = .ok (.if_icmp .eq 21, 3) := op_159 (rdSeg sd_24_cX8_sheet_0 19 rfl rfl) (rdSeg sd_24_cX8_sheet_0 20 rfl rfl) (rdSeg sd_24_cX8_sheet_0 21 rfl rfl) (by decide +kernel)
theorem dX8_sheet_22 : decode cX8_sheet 22 = .ok (.iload_n 2, 1) := op_28 (rdSeg sd_24_cX8_sheet_0 22 rfl rfl)
theorem dX8_sheet_23 : decode cX8_sheet 23 = .ok (.bipush 16, 2) := op_16 (rdSeg sd_24_cX8_sheet_0 23 rfl rfl) (rdSeg sd_24_cX8_sheet_0 24 rfl rfl) (by decide +kernel)
theorem dX8_sheet_25 : decode cX8_sheet 25 = .ok (.if_icmp .eq 15, 3) := op_159 (rdSeg sd_24_cX8_sheet_0 25 rfl rfl) (rdSeg sd_24_cX8_sheet_0 26 rfl rfl) (rdSeg sd_24_cX8_sheet_0 27 rfl rfl) (by decide +kernel)
theorem dX8_sheet_28 : decode cX8_sheet 28 = .ok (.iload_n 2, 1) := op_28 (rdSeg sd_24_cX8_sheet_0 28 rfl rfl)
theorem dX8_sheet_29 : decode cX8_sheet 29 = .ok (.bipush 32, 2) := op_16 (rdSeg sd_24_cX8_sheet_0 29 rfl rfl) (rdSeg sd_24_cX8_sheet_0 30 rfl rfl) (by decide +kernel)
theorem dX8_sheet_31 : decode cX8_sheet 31 = .ok (.if_icmp .eq 9, 3) := op_159 (rdSeg sd_24_cX8_sheet_0 31 rfl rfl) (rdSeg sd_24_cX8_sheet_1 0 rfl rfl) (rdSeg sd_24_cX8_sheet_1 1 rfl rfl) (by decide +kernel)
theorem dX8_sheet_34 : decode cX8_sheet 34 = .ok (.aload_n 0, 1) := op_42 (rdSeg sd_24_cX8_sheet_1 2 rfl rfl)
theorem dX8_sheet_35 : decode cX8_sheet 35 = .ok (.iconst 1, 1) := op_4 (rdSeg sd_24_cX8_sheet_1 3 rfl rfl)
theorem dX8_sheet_36 : decode cX8_sheet 36 = .ok (.invokevirtual 67, 3) := op_182 (rdSeg sd_24_cX8_sheet_1 4 rfl rfl) (rdSeg sd_24_cX8_sheet_1 5 rfl rfl) (rdSeg sd_24_cX8_sheet_1 6 rfl rfl) rfl
theorem dX8_sheet_39 : decode cX8_sheet 39 = .ok (.ireturn, 1) := op_172 (rdSeg sd_24_cX8_sheet_1 7 rfl rfl)
theorem dX8_sheet_40 : decode cX8_sheet 40 = .ok (.iload_n 2, 1) := op_28 (rdSeg sd_24_cX8_sheet_1 8 rfl rfl)
theorem dX8_sheet_41 : decode cX8_sheet 41 = .ok (.ifCond .eq 13, 3) := op_153 (rdSeg sd_24_cX8_sheet_1 9 rfl rfl) (rdSeg sd_24_cX8_sheet_1 10 rfl rfl) (rdSeg sd_24_cX8_sheet_1 11 rfl rfl) (by decide +kernel)
theorem dX8_sheet_44 : decode cX8_sheet 44 = .ok (.iload_n 3, 1) := op_29 (rdSeg sd_24_cX8_sheet_1 12 rfl rfl)
theorem dX8_sheet_45 : decode cX8_sheet 45 = .ok (.ifCond .ge 9, 3) := op_156 (rdSeg sd_24_cX8_sheet_1 13 rfl rfl) (rdSeg sd_24_cX8_sheet_1 14 rfl rfl) (rdSeg sd_24_cX8_sheet_1 15 rfl rfl) (by decide +kernel)
theorem dX8_sheet_48 : decode cX8_sheet 48 = .ok (.aload_n 0, 1) := op_42 (rdSeg sd_24_cX8_sheet_1 16 rfl rfl)
theorem dX8_sheet_49 : decode cX8_sheet 49 = .ok (.iconst 3, 1) := op_6 (rdSeg sd_24_cX8_sheet_1 17 rfl rfl)
theorem dX8_sheet_50 : decode cX8_sheet 50 = .ok (.invokevirtual 67, 3) := op_182 (rdSeg sd_24_cX8_sheet_1 18 rfl rfl) (rdSeg sd_24_cX8_sheet_1 19 rfl rfl) (rdSeg sd_24_cX8_sheet_1 20 rfl rfl) rfl
theorem dX8_sheet_53 : decode cX8_sheet 53 = .ok (.ireturn, 1) := op_172 (rdSeg sd_24_cX8_sheet_1 21 rfl rfl)
theorem dX8_sheet_54 : decode cX8_sheet 54 = .ok (.iload_n 2, 1) := op_28 (rdSeg sd_24_cX8_sheet_1 22 rfl rfl)
theorem dX8_sheet_55 : decode cX8_sheet 55 = .ok (.ifCond .eq 15, 3) := op_153 (rdSeg sd_24_cX8_sheet_1 23 rfl rfl) (rdSeg sd_24_cX8_sheet_1 24 rfl rfl) (rdSeg sd_24_cX8_sheet_1 25 rfl rfl) (by decide +kernel)
theorem dX8_sheet_58 : decode cX8_sheet 58 = .ok (.iload_n 3, 1) := op_29 (rdSeg sd_24_cX8_sheet_1 26 rfl rfl)
theorem dX8_sheet_59 : decode cX8_sheet 59 = .ok (.bipush 24, 2) := op_16 (rdSeg sd_24_cX8_sheet_1 27 rfl rfl) (rdSeg sd_24_cX8_sheet_1 28 rfl rfl) (by decide +kernel)
theorem dX8_sheet_61 : decode cX8_sheet 61 = .ok (.if_icmp .le 9, 3) := op_164 (rdSeg sd_24_cX8_sheet_1 29 rfl rfl) (rdSeg sd_24_cX8_sheet_1 30 rfl rfl) (rdSeg sd_24_cX8_sheet_1 31 rfl rfl) (by decide +kernel)
theorem dX8_sheet_64 : decode cX8_sheet 64 = .ok (.aload_n 0, 1) := op_42 (rdSeg sd_24_cX8_sheet_2 0 rfl rfl)
theorem dX8_sheet_65 : decode cX8_sheet 65 = .ok (.iconst 1, 1) := op_4 (rdSeg sd_24_cX8_sheet_2 1 rfl rfl)
theorem dX8_sheet_66 : decode cX8_sheet 66 = .ok (.invokevirtual 67, 3) := op_182 (rdSeg sd_24_cX8_sheet_2 2 rfl rfl) (rdSeg sd_24_cX8_sheet_2 3 rfl rfl) (rdSeg sd_24_cX8_sheet_2 4 rfl rfl) rfl
theorem dX8_sheet_69 : decode cX8_sheet 69 = .ok (.ireturn, 1) := op_172 (rdSeg sd_24_cX8_sheet_2 5 rfl rfl)
theorem dX8_sheet_70 : decode cX8_sheet 70 = .ok (.aload 4, 2) := op_25 (rdSeg sd_24_cX8_sheet_2 6 rfl rfl) (rdSeg sd_24_cX8_sheet_2 7 rfl rfl)
theorem dX8_sheet_72 : decode cX8_sheet 72 = .ok (.iload_n 2, 1) := op_28 (rdSeg sd_24_cX8_sheet_2 8 rfl rfl)
theorem dX8_sheet_73 : decode cX8_sheet 73 = .ok (.iload_n 2, 1) := op_28 (rdSeg sd_24_cX8_sheet_2 9 rfl rfl)
theorem dX8_sheet_74 : decode cX8_sheet 74 = .ok (.ifCond .ne 7, 3) := op_154 (rdSeg sd_24_cX8_sheet_2 10 rfl rfl) (rdSeg sd_24_cX8_sheet_2 11 rfl rfl) (rdSeg sd_24_cX8_sheet_2 12 rfl rfl) (by decide +kernel)
theorem dX8_sheet_77 : decode cX8_sheet 77 = .ok (.iconst 0, 1) := op_3 (rdSeg sd_24_cX8_sheet_2 13 rfl rfl)
theorem dX8_sheet_78 : decode cX8_sheet 78 = .ok (.goto 4, 3) := op_167 (rdSeg sd_24_cX8_sheet_2 14 rfl rfl) (rdSeg sd_24_cX8_sheet_2 15 rfl rfl) (rdSeg sd_24_cX8_sheet_2 16 rfl rfl) (by decide +kernel)
theorem dX8_sheet_81 : decode cX8_sheet 81 = .ok (.iload_n 3, 1) := op_29 (rdSeg sd_24_cX8_sheet_2 17 rfl rfl)
theorem dX8_sheet_82 : decode cX8_sheet 82 = .ok (.invokevirtual 254, 3) := op_182 (rdSeg sd_24_cX8_sheet_2 18 rfl rfl) (rdSeg sd_24_cX8_sheet_2 19 rfl rfl) (rdSeg sd_24_cX8_sheet_2 20 rfl rfl) rfl
theorem dX8_sheet_85 : decode cX8_sheet 85 = .ok (.iconst 1, 1) := op_4 (rdSeg sd_24_cX8_sheet_2 21 rfl rfl)
theorem dX8_sheet_86 : decode cX8_sheet 86 = .ok (.ireturn, 1) := op_172 (rdSeg sd_24_cX8_sheet_2 22 rfl rfl)
def sg_24_cX8_put_1 : List UInt8 := [0x19, 0x04, 0x1c, 0xb6, 0x01, 0x04, 0x9a, 0x00, 0x09, 0x2a, 0x04, 0xb6, 0x00, 0x43, 0xac, 0x19, 0x04, 0x1c, 0x1d, 0xb6, 0x01, 0x05, 0x04, 0xac]
def sg_24_cX8_put_0 : List UInt8 := 0x2a :: 0x1b :: 0xb6 :: 0x00 :: 0xfa :: 0x3a :: 0x04 :: 0x19 :: 0x04 :: 0xc7 :: 0x00 :: 0x09 :: 0x2a :: 0x04 :: 0xb6 :: 0x00 :: 0x43 :: 0xac :: 0x19 :: 0x04 :: 0xb6 :: 0x01 :: 0x01 :: 0x99 :: 0x00 :: 0x09 :: 0x2a :: 0x05 :: 0xb6 :: 0x00 :: 0x43 :: 0xac :: sg_24_cX8_put_1
set_option maxRecDepth 100000 in
theorem sd_24_cX8_put_0 : cX8_put.data.toList.drop 0 = sg_24_cX8_put_0 := by decide +kernel
theorem sd_24_cX8_put_1 : cX8_put.data.toList.drop 32 = sg_24_cX8_put_1 := sg_next sd_24_cX8_put_0 rfl
theorem dX8_put_0 : decode cX8_put 0 = .ok (.aload_n 0, 1) := op_42 (rdSeg sd_24_cX8_put_0 0 rfl rfl)
theorem dX8_put_1 : decode cX8_put 1 = .ok (.iload_n 1, 1) := op_27 (rdSeg sd_24_cX8_put_0 1 rfl rfl)
theorem dX8_put_2 : decode cX8_put 2 = .ok (.invokevirtual 250, 3) := op_182 (rdSeg sd_24_cX8_put_0 2 rfl rfl) (rdSeg sd_24_cX8_put_0 3 rfl rfl) (rdSeg sd_24_cX8_put_0 4 rfl rfl) rfl
theorem dX8_put_5 : decode cX8_put 5 = .ok (.astore 4, 2) := op_58 (rdSeg sd_24_cX8_put_0 5 rfl rfl) (rdSeg sd_24_cX8_put_0 6 rfl rfl)
theorem dX8_put_7 : decode cX8_put 7 = .ok (.aload 4, 2) := op_25 (rdSeg sd_24_cX8_put_0 7 rfl rfl) (rdSeg sd_24_cX8_put_0 8 rfl rfl)
theorem dX8_put_9 : decode cX8_put 9 = .ok (.ifnonnull 9, 3) := op_199 (rdSeg sd_24_cX8_put_0 9 rfl rfl) (rdSeg sd_24_cX8_put_0 10 rfl rfl) (rdSeg sd_24_cX8_put_0 11 rfl rfl) (by decide +kernel)
theorem dX8_put_12 : decode cX8_put 12 = .ok (.aload_n 0, 1) := op_42 (rdSeg sd_24_cX8_put_0 12 rfl rfl)
theorem dX8_put_13 : decode cX8_put 13 = .ok (.iconst 1, 1) := op_4 (rdSeg sd_24_cX8_put_0 13 rfl rfl)
theorem dX8_put_14 : decode cX8_put 14 = .ok (.invokevirtual 67, 3) := op_182 (rdSeg sd_24_cX8_put_0 14 rfl rfl) (rdSeg sd_24_cX8_put_0 15 rfl rfl) (rdSeg sd_24_cX8_put_0 16 rfl rfl) rfl
theorem dX8_put_17 : decode cX8_put 17 = .ok (.ireturn, 1) := op_172 (rdSeg sd_24_cX8_put_0 17 rfl rfl)
theorem dX8_put_18 : decode cX8_put 18 = .ok (.aload 4, 2) := op_25 (rdSeg sd_24_cX8_put_0 18 rfl rfl) (rdSeg sd_24_cX8_put_0 19 rfl rfl)
theorem dX8_put_20 : decode cX8_put 20 = .ok (.invokevirtual 257, 3) := op_182 (rdSeg sd_24_cX8_put_0 20 rfl rfl) (rdSeg sd_24_cX8_put_0 21 rfl rfl) (rdSeg sd_24_cX8_put_0 22 rfl rfl) rfl
theorem dX8_put_23 : decode cX8_put 23 = .ok (.ifCond .eq 9, 3) := op_153 (rdSeg sd_24_cX8_put_0 23 rfl rfl) (rdSeg sd_24_cX8_put_0 24 rfl rfl) (rdSeg sd_24_cX8_put_0 25 rfl rfl) (by decide +kernel)
theorem dX8_put_26 : decode cX8_put 26 = .ok (.aload_n 0, 1) := op_42 (rdSeg sd_24_cX8_put_0 26 rfl rfl)
theorem dX8_put_27 : decode cX8_put 27 = .ok (.iconst 2, 1) := op_5 (rdSeg sd_24_cX8_put_0 27 rfl rfl)
theorem dX8_put_28 : decode cX8_put 28 = .ok (.invokevirtual 67, 3) := op_182 (rdSeg sd_24_cX8_put_0 28 rfl rfl) (rdSeg sd_24_cX8_put_0 29 rfl rfl) (rdSeg sd_24_cX8_put_0 30 rfl rfl) rfl
theorem dX8_put_31 : decode cX8_put 31 = .ok (.ireturn, 1) := op_172 (rdSeg sd_24_cX8_put_0 31 rfl rfl)
theorem dX8_put_32 : decode cX8_put 32 = .ok (.aload 4, 2) := op_25 (rdSeg sd_24_cX8_put_1 0 rfl rfl) (rdSeg sd_24_cX8_put_1 1 rfl rfl)
theorem dX8_put_34 : decode cX8_put 34 = .ok (.iload_n 2, 1) := op_28 (rdSeg sd_24_cX8_put_1 2 rfl rfl)
theorem dX8_put_35 : decode cX8_put 35 = .ok (.invokevirtual 260, 3) := op_182 (rdSeg sd_24_cX8_put_1 3 rfl rfl) (rdSeg sd_24_cX8_put_1 4 rfl rfl) (rdSeg sd_24_cX8_put_1 5 rfl rfl) rfl
theorem dX8_put_38 : decode cX8_put 38 = .ok (.ifCond .ne 9, 3) := op_154 (rdSeg sd_24_cX8_put_1 6 rfl rfl) (rdSeg sd_24_cX8_put_1 7 rfl rfl) (rdSeg sd_24_cX8_put_1 8 rfl rfl) (by decide +kernel)
theorem dX8_put_41 : decode cX8_put 41 = .ok (.aload_n 0, 1) := op_42 (rdSeg sd_24_cX8_put_1 9 rfl rfl)
theorem dX8_put_42 : decode cX8_put 42 = .ok (.iconst 1, 1) := op_4 (rdSeg sd_24_cX8_put_1 10 rfl rfl)
theorem dX8_put_43 : decode cX8_put 43 = .ok (.invokevirtual 67, 3) := op_182 (rdSeg sd_24_cX8_put_1 11 rfl rfl) (rdSeg sd_24_cX8_put_1 12 rfl rfl) (rdSeg sd_24_cX8_put_1 13 rfl rfl) rfl
theorem dX8_put_46 : decode cX8_put 46 = .ok (.ireturn, 1) := op_172 (rdSeg sd_24_cX8_put_1 14 rfl rfl)
theorem dX8_put_47 : decode cX8_put 47 = .ok (.aload 4, 2) := op_25 (rdSeg sd_24_cX8_put_1 15 rfl rfl) (rdSeg sd_24_cX8_put_1 16 rfl rfl)
theorem dX8_put_49 : decode cX8_put 49 = .ok (.iload_n 2, 1) := op_28 (rdSeg sd_24_cX8_put_1 17 rfl rfl)
theorem dX8_put_50 : decode cX8_put 50 = .ok (.iload_n 3, 1) := op_29 (rdSeg sd_24_cX8_put_1 18 rfl rfl)
theorem dX8_put_51 : decode cX8_put 51 = .ok (.invokevirtual 261, 3) := op_182 (rdSeg sd_24_cX8_put_1 19 rfl rfl) (rdSeg sd_24_cX8_put_1 20 rfl rfl) (rdSeg sd_24_cX8_put_1 21 rfl rfl) rfl
theorem dX8_put_54 : decode cX8_put 54 = .ok (.iconst 1, 1) := op_4 (rdSeg sd_24_cX8_put_1 22 rfl rfl)
theorem dX8_put_55 : decode cX8_put 55 = .ok (.ireturn, 1) := op_172 (rdSeg sd_24_cX8_put_1 23 rfl rfl)
def sg_24_cX8_move_3 : List UInt8 := [0xac, 0x19, 0x06, 0x1c, 0x19, 0x07, 0x15, 0x04, 0x15, 0x05, 0xb6, 0x01, 0x0f, 0x15, 0x05, 0xac]
def sg_24_cX8_move_2 : List UInt8 := 0xb6 :: 0x00 :: 0x43 :: 0xac :: 0x19 :: 0x06 :: 0x1c :: 0x15 :: 0x05 :: 0xb6 :: 0x01 :: 0x0c :: 0x99 :: 0x00 :: 0x0f :: 0x19 :: 0x07 :: 0x15 :: 0x04 :: 0x15 :: 0x05 :: 0xb6 :: 0x01 :: 0x0c :: 0x9a :: 0x00 :: 0x09 :: 0x2a :: 0x04 :: 0xb6 :: 0x00 :: 0x43 :: sg_24_cX8_move_3
def sg_24_cX8_move_1 : List UInt8 := 0xb6 :: 0x01 :: 0x01 :: 0x9a :: 0x00 :: 0x0b :: 0x19 :: 0x07 :: 0xb6 :: 0x01 :: 0x01 :: 0x99 :: 0x00 :: 0x09 :: 0x2a :: 0x05 :: 0xb6 :: 0x00 :: 0x43 :: 0xac :: 0x19 :: 0x06 :: 0x19 :: 0x07 :: 0xb6 :: 0x01 :: 0x08 :: 0x9a :: 0x00 :: 0x09 :: 0x2a :: 0x08 :: sg_24_cX8_move_2
def sg_24_cX8_move_0 : List UInt8 := 0x2a :: 0x1b :: 0xb6 :: 0x00 :: 0xfa :: 0x3a :: 0x06 :: 0x2a :: 0x1d :: 0xb6 :: 0x00 :: 0xfa :: 0x3a :: 0x07 :: 0x19 :: 0x06 :: 0xc6 :: 0x00 :: 0x08 :: 0x19 :: 0x07 :: 0xc7 :: 0x00 :: 0x09 :: 0x2a :: 0x04 :: 0xb6 :: 0x00 :: 0x43 :: 0xac :: 0x19 :: 0x06 :: sg_24_cX8_move_1
set_option maxRecDepth 100000 in
theorem sd_24_cX8_move_0 : cX8_move.data.toList.drop 0 = sg_24_cX8_move_0 := by decide +kernel
theorem sd_24_cX8_move_1 : cX8_move.data.toList.drop 32 = sg_24_cX8_move_1 := sg_next sd_24_cX8_move_0 rfl
theorem sd_24_cX8_move_2 : cX8_move.data.toList.drop 64 = sg_24_cX8_move_2 := sg_next sd_24_cX8_move_1 rfl
theorem sd_24_cX8_move_3 : cX8_move.data.toList.drop 96 = sg_24_cX8_move_3 := sg_next sd_24_cX8_move_2 rfl
theorem dX8_move_0 : decode cX8_move 0 = .ok (.aload_n 0, 1) := op_42 (rdSeg sd_24_cX8_move_0 0 rfl rfl)
theorem dX8_move_1 : decode cX8_move 1 = .ok (.iload_n 1, 1) := op_27 (rdSeg sd_24_cX8_move_0 1 rfl rfl)
theorem dX8_move_2 : decode cX8_move 2 = .ok (.invokevirtual 250, 3) := op_182 (rdSeg sd_24_cX8_move_0 2 rfl rfl) (rdSeg sd_24_cX8_move_0 3 rfl rfl) (rdSeg sd_24_cX8_move_0 4 rfl rfl) rfl
theorem dX8_move_5 : decode cX8_move 5 = .ok (.astore 6, 2) := op_58 (rdSeg sd_24_cX8_move_0 5 rfl rfl) (rdSeg sd_24_cX8_move_0 6 rfl rfl)
theorem dX8_move_7 : decode cX8_move 7 = .ok (.aload_n 0, 1) := op_42 (rdSeg sd_24_cX8_move_0 7 rfl rfl)
theorem dX8_move_8 : decode cX8_move 8 = .ok (.iload_n 3, 1) := op_29 (rdSeg sd_24_cX8_move_0 8 rfl rfl)
theorem dX8_move_9 : decode cX8_move 9 = .ok (.invokevirtual 250, 3) := op_182 (rdSeg sd_24_cX8_move_0 9 rfl rfl) (rdSeg sd_24_cX8_move_0 10 rfl rfl) (rdSeg sd_24_cX8_move_0 11 rfl rfl) rfl
theorem dX8_move_12 : decode cX8_move 12 = .ok (.astore 7, 2) := op_58 (rdSeg sd_24_cX8_move_0 12 rfl rfl) (rdSeg sd_24_cX8_move_0 13 rfl rfl)
theorem dX8_move_14 : decode cX8_move 14 = .ok (.aload 6, 2) := op_25 (rdSeg sd_24_cX8_move_0 14 rfl rfl) (rdSeg sd_24_cX8_move_0 15 rfl rfl)
theorem dX8_move_16 : decode cX8_move 16 = .ok (.ifnull 8, 3) := op_198 (rdSeg sd_24_cX8_move_0 16 rfl rfl) (rdSeg sd_24_cX8_move_0 17 rfl rfl) (rdSeg sd_24_cX8_move_0 18 rfl rfl) (by decide +kernel)
theorem dX8_move_19 : decode cX8_move 19 = .ok (.aload 7, 2) := op_25 (rdSeg sd_24_cX8_move_0 19 rfl rfl) (rdSeg sd_24_cX8_move_0 20 rfl rfl)
theorem dX8_move_21 : decode cX8_move 21 = .ok (.ifnonnull 9, 3) := op_199 (rdSeg sd_24_cX8_move_0 21 rfl rfl) (rdSeg sd_24_cX8_move_0 22 rfl rfl) (rdSeg sd_24_cX8_move_0 23 rfl rfl) (by decide +kernel)
theorem dX8_move_24 : decode cX8_move 24 = .ok (.aload_n 0, 1) := op_42 (rdSeg sd_24_cX8_move_0 24 rfl rfl)
theorem dX8_move_25 : decode cX8_move 25 = .ok (.iconst 1, 1) := op_4 (rdSeg sd_24_cX8_move_0 25 rfl rfl)
theorem dX8_move_26 : decode cX8_move 26 = .ok (.invokevirtual 67, 3) := op_182 (rdSeg sd_24_cX8_move_0 26 rfl rfl) (rdSeg sd_24_cX8_move_0 27 rfl rfl) (rdSeg sd_24_cX8_move_0 28 rfl rfl) rfl
theorem dX8_move_29 : decode cX8_move 29 = .ok (.ireturn, 1) := op_172 (rdSeg sd_24_cX8_move_0 29 rfl rfl)
theorem dX8_move_30 : decode cX8_move 30 = .ok (.aload 6, 2) := op_25 (rdSeg sd_24_cX8_move_0 30 rfl rfl) (rdSeg sd_24_cX8_move_0 31 rfl rfl)
theorem dX8_move_32 : decode cX8_move 32 = .ok (.invokevirtual 257, 3) := op_182 (rdSeg sd_24_cX8_move_1 0 rfl rfl) (rdSeg sd_24_cX8_move_1 1 rfl rfl) (rdSeg sd_24_cX8_move_1 2 rfl rfl) rfl
theorem dX8_move_35 : decode cX8_move 35 = .ok (.ifCond .ne 11, 3) := op_154 (rdSeg sd_24_cX8_move_1 3 rfl rfl) (rdSeg sd_24_cX8_move_1 4 rfl rfl) (rdSeg sd_24_cX8_move_1 5 rfl rfl) (by decide +kernel)
theorem dX8_move_38 : decode cX8_move 38 = .ok (.aload 7, 2) := op_25 (rdSeg sd_24_cX8_move_1 6 rfl rfl) (rdSeg sd_24_cX8_move_1 7 rfl rfl)
theorem dX8_move_40 : decode cX8_move 40 = .ok (.invokevirtual 257, 3) := op_182 (rdSeg sd_24_cX8_move_1 8 rfl rfl) (rdSeg sd_24_cX8_move_1 9 rfl rfl) (rdSeg sd_24_cX8_move_1 10 rfl rfl) rfl
theorem dX8_move_43 : decode cX8_move 43 = .ok (.ifCond .eq 9, 3) := op_153 (rdSeg sd_24_cX8_move_1 11 rfl rfl) (rdSeg sd_24_cX8_move_1 12 rfl rfl) (rdSeg sd_24_cX8_move_1 13 rfl rfl) (by decide +kernel)
theorem dX8_move_46 : decode cX8_move 46 = .ok (.aload_n 0, 1) := op_42 (rdSeg sd_24_cX8_move_1 14 rfl rfl)
theorem dX8_move_47 : decode cX8_move 47 = .ok (.iconst 2, 1) := op_5 (rdSeg sd_24_cX8_move_1 15 rfl rfl)
theorem dX8_move_48 : decode cX8_move 48 = .ok (.invokevirtual 67, 3) := op_182 (rdSeg sd_24_cX8_move_1 16 rfl rfl) (rdSeg sd_24_cX8_move_1 17 rfl rfl) (rdSeg sd_24_cX8_move_1 18 rfl rfl) rfl
theorem dX8_move_51 : decode cX8_move 51 = .ok (.ireturn, 1) := op_172 (rdSeg sd_24_cX8_move_1 19 rfl rfl)
theorem dX8_move_52 : decode cX8_move 52 = .ok (.aload 6, 2) := op_25 (rdSeg sd_24_cX8_move_1 20 rfl rfl) (rdSeg sd_24_cX8_move_1 21 rfl rfl)
theorem dX8_move_54 : decode cX8_move 54 = .ok (.aload 7, 2) := op_25 (rdSeg sd_24_cX8_move_1 22 rfl rfl) (rdSeg sd_24_cX8_move_1 23 rfl rfl)
theorem dX8_move_56 : decode cX8_move 56 = .ok (.invokevirtual 264, 3) := op_182 (rdSeg sd_24_cX8_move_1 24 rfl rfl) (rdSeg sd_24_cX8_move_1 25 rfl rfl) (rdSeg sd_24_cX8_move_1 26 rfl rfl) rfl
theorem dX8_move_59 : decode cX8_move 59 = .ok (.ifCond .ne 9, 3) := op_154 (rdSeg sd_24_cX8_move_1 27 rfl rfl) (rdSeg sd_24_cX8_move_1 28 rfl rfl) (rdSeg sd_24_cX8_move_1 29 rfl rfl) (by decide +kernel)
theorem dX8_move_62 : decode cX8_move 62 = .ok (.aload_n 0, 1) := op_42 (rdSeg sd_24_cX8_move_1 30 rfl rfl)
theorem dX8_move_63 : decode cX8_move 63 = .ok (.iconst 5, 1) := op_8 (rdSeg sd_24_cX8_move_1 31 rfl rfl)
theorem dX8_move_64 : decode cX8_move 64 = .ok (.invokevirtual 67, 3) := op_182 (rdSeg sd_24_cX8_move_2 0 rfl rfl) (rdSeg sd_24_cX8_move_2 1 rfl rfl) (rdSeg sd_24_cX8_move_2 2 rfl rfl) rfl
theorem dX8_move_67 : decode cX8_move 67 = .ok (.ireturn, 1) := op_172 (rdSeg sd_24_cX8_move_2 3 rfl rfl)
theorem dX8_move_68 : decode cX8_move 68 = .ok (.aload 6, 2) := op_25 (rdSeg sd_24_cX8_move_2 4 rfl rfl) (rdSeg sd_24_cX8_move_2 5 rfl rfl)
theorem dX8_move_70 : decode cX8_move 70 = .ok (.iload_n 2, 1) := op_28 (rdSeg sd_24_cX8_move_2 6 rfl rfl)
theorem dX8_move_71 : decode cX8_move 71 = .ok (.iload 5, 2) := op_21 (rdSeg sd_24_cX8_move_2 7 rfl rfl) (rdSeg sd_24_cX8_move_2 8 rfl rfl)
theorem dX8_move_73 : decode cX8_move 73 = .ok (.invokevirtual 268, 3) := op_182 (rdSeg sd_24_cX8_move_2 9 rfl rfl) (rdSeg sd_24_cX8_move_2 10 rfl rfl) (rdSeg sd_24_cX8_move_2 11 rfl rfl) rfl
theorem dX8_move_76 : decode cX8_move 76 = .ok (.ifCond .eq 15, 3) := op_153 (rdSeg sd_24_cX8_move_2 12 rfl rfl) (rdSeg sd_24_cX8_move_2 13 rfl rfl) (rdSeg sd_24_cX8_move_2 14 rfl rfl) (by decide +kernel)
theorem dX8_move_79 : decode cX8_move 79 = .ok (.aload 7, 2) := op_25 (rdSeg sd_24_cX8_move_2 15 rfl rfl) (rdSeg sd_24_cX8_move_2 16 rfl rfl)
theorem dX8_move_81 : decode cX8_move 81 = .ok (.iload 4, 2) := op_21 (rdSeg sd_24_cX8_move_2 17 rfl rfl) (rdSeg sd_24_cX8_move_2 18 rfl rfl)
theorem dX8_move_83 : decode cX8_move 83 = .ok (.iload 5, 2) := op_21 (rdSeg sd_24_cX8_move_2 19 rfl rfl) (rdSeg sd_24_cX8_move_2 20 rfl rfl)
theorem dX8_move_85 : decode cX8_move 85 = .ok (.invokevirtual 268, 3) := op_182 (rdSeg sd_24_cX8_move_2 21 rfl rfl) (rdSeg sd_24_cX8_move_2 22 rfl rfl) (rdSeg sd_24_cX8_move_2 23 rfl rfl) rfl
theorem dX8_move_88 : decode cX8_move 88 = .ok (.ifCond .ne 9, 3) := op_154 (rdSeg sd_24_cX8_move_2 24 rfl rfl) (rdSeg sd_24_cX8_move_2 25 rfl rfl) (rdSeg sd_24_cX8_move_2 26 rfl rfl) (by decide +kernel)
theorem dX8_move_91 : decode cX8_move 91 = .ok (.aload_n 0, 1) := op_42 (rdSeg sd_24_cX8_move_2 27 rfl rfl)
theorem dX8_move_92 : decode cX8_move 92 = .ok (.iconst 1, 1) := op_4 (rdSeg sd_24_cX8_move_2 28 rfl rfl)
theorem dX8_move_93 : decode cX8_move 93 = .ok (.invokevirtual 67, 3) := op_182 (rdSeg sd_24_cX8_move_2 29 rfl rfl) (rdSeg sd_24_cX8_move_2 30 rfl rfl) (rdSeg sd_24_cX8_move_2 31 rfl rfl) rfl
theorem dX8_move_96 : decode cX8_move 96 = .ok (.ireturn, 1) := op_172 (rdSeg sd_24_cX8_move_3 0 rfl rfl)
theorem dX8_move_97 : decode cX8_move 97 = .ok (.aload 6, 2) := op_25 (rdSeg sd_24_cX8_move_3 1 rfl rfl) (rdSeg sd_24_cX8_move_3 2 rfl rfl)
theorem dX8_move_99 : decode cX8_move 99 = .ok (.iload_n 2, 1) := op_28 (rdSeg sd_24_cX8_move_3 3 rfl rfl)
theorem dX8_move_100 : decode cX8_move 100 = .ok (.aload 7, 2) := op_25 (rdSeg sd_24_cX8_move_3 4 rfl rfl) (rdSeg sd_24_cX8_move_3 5 rfl rfl)
theorem dX8_move_102 : decode cX8_move 102 = .ok (.iload 4, 2) := op_21 (rdSeg sd_24_cX8_move_3 6 rfl rfl) (rdSeg sd_24_cX8_move_3 7 rfl rfl)
theorem dX8_move_104 : decode cX8_move 104 = .ok (.iload 5, 2) := op_21 (rdSeg sd_24_cX8_move_3 8 rfl rfl) (rdSeg sd_24_cX8_move_3 9 rfl rfl)
theorem dX8_move_106 : decode cX8_move 106 = .ok (.invokevirtual 271, 3) := op_182 (rdSeg sd_24_cX8_move_3 10 rfl rfl) (rdSeg sd_24_cX8_move_3 11 rfl rfl) (rdSeg sd_24_cX8_move_3 12 rfl rfl) rfl
theorem dX8_move_109 : decode cX8_move 109 = .ok (.iload 5, 2) := op_21 (rdSeg sd_24_cX8_move_3 13 rfl rfl) (rdSeg sd_24_cX8_move_3 14 rfl rfl)
theorem dX8_move_111 : decode cX8_move 111 = .ok (.ireturn, 1) := op_172 (rdSeg sd_24_cX8_move_3 15 rfl rfl)
def sg_24_cX8_papers_4 : List UInt8 := [0x03, 0xa7, 0xff, 0xa1, 0x1d, 0xac]
def sg_24_cX8_papers_3 : List UInt8 := 0xb5 :: 0x2c :: 0x15 :: 0x04 :: 0xb6 :: 0x01 :: 0x14 :: 0x2c :: 0x15 :: 0x04 :: 0x04 :: 0x60 :: 0xb6 :: 0x01 :: 0x14 :: 0x2c :: 0x15 :: 0x04 :: 0x05 :: 0x60 :: 0xb6 :: 0x01 :: 0x14 :: 0xb6 :: 0x00 :: 0x8b :: 0x57 :: 0x84 :: 0x03 :: 0x01 :: 0x84 :: 0x04 :: sg_24_cX8_papers_4
def sg_24_cX8_papers_2 : List UInt8 := 0x60 :: 0xb6 :: 0x01 :: 0x14 :: 0xb6 :: 0x00 :: 0xb2 :: 0x99 :: 0x00 :: 0x11 :: 0x2a :: 0xb4 :: 0x00 :: 0x0c :: 0xb4 :: 0x00 :: 0xb5 :: 0xb6 :: 0x00 :: 0x88 :: 0x04 :: 0xa2 :: 0x00 :: 0x05 :: 0x1d :: 0xac :: 0x2a :: 0xb4 :: 0x00 :: 0x0c :: 0xb4 :: 0x00 :: sg_24_cX8_papers_3
def sg_24_cX8_papers_1 : List UInt8 := 0x36 :: 0x04 :: 0x15 :: 0x04 :: 0x05 :: 0x60 :: 0x2c :: 0xb6 :: 0x01 :: 0x13 :: 0xa2 :: 0x00 :: 0x5a :: 0x2a :: 0x2c :: 0x15 :: 0x04 :: 0xb6 :: 0x01 :: 0x14 :: 0x2c :: 0x15 :: 0x04 :: 0x04 :: 0x60 :: 0xb6 :: 0x01 :: 0x14 :: 0x2c :: 0x15 :: 0x04 :: 0x05 :: sg_24_cX8_papers_2
def sg_24_cX8_papers_0 : List UInt8 := 0x2a :: 0x1b :: 0xb6 :: 0x00 :: 0xfa :: 0x4d :: 0x2c :: 0xc7 :: 0x00 :: 0x09 :: 0x2a :: 0x04 :: 0xb6 :: 0x00 :: 0x43 :: 0xac :: 0x2c :: 0xb6 :: 0x01 :: 0x01 :: 0x99 :: 0x00 :: 0x09 :: 0x2a :: 0x05 :: 0xb6 :: 0x00 :: 0x43 :: 0xac :: 0x03 :: 0x3e :: 0x03 :: sg_24_cX8_papers_1
set_option maxRecDepth 100000 in
theorem sd_24_cX8_papers_0 : cX8_papers.data.toList.drop 0 = sg_24_cX8_papers_0 := by decide +kernel
theorem sd_24_cX8_papers_1 : cX8_papers.data.toList.drop 32 = sg_24_cX8_papers_1 := sg_next sd_24_cX8_papers_0 rfl
theorem sd_24_cX8_papers_2 : cX8_papers.data.toList.drop 64 = sg_24_cX8_papers_2 := sg_next sd_24_cX8_papers_1 rfl
theorem sd_24_cX8_papers_3 : cX8_papers.data.toList.drop 96 = sg_24_cX8_papers_3 := sg_next sd_24_cX8_papers_2 rfl
theorem sd_24_cX8_papers_4 : cX8_papers.data.toList.drop 128 = sg_24_cX8_papers_4 := sg_next sd_24_cX8_papers_3 rfl
theorem dX8_papers_0 : decode cX8_papers 0 = .ok (.aload_n 0, 1) := op_42 (rdSeg sd_24_cX8_papers_0 0 rfl rfl)
theorem dX8_papers_1 : decode cX8_papers 1 = .ok (.iload_n 1, 1) := op_27 (rdSeg sd_24_cX8_papers_0 1 rfl rfl)
theorem dX8_papers_2 : decode cX8_papers 2 = .ok (.invokevirtual 250, 3) := op_182 (rdSeg sd_24_cX8_papers_0 2 rfl rfl) (rdSeg sd_24_cX8_papers_0 3 rfl rfl) (rdSeg sd_24_cX8_papers_0 4 rfl rfl) rfl
theorem dX8_papers_5 : decode cX8_papers 5 = .ok (.astore_n 2, 1) := op_77 (rdSeg sd_24_cX8_papers_0 5 rfl rfl)
theorem dX8_papers_6 : decode cX8_papers 6 = .ok (.aload_n 2, 1) := op_44 (rdSeg sd_24_cX8_papers_0 6 rfl rfl)
theorem dX8_papers_7 : decode cX8_papers 7 = .ok (.ifnonnull 9, 3) := op_199 (rdSeg sd_24_cX8_papers_0 7 rfl rfl) (rdSeg sd_24_cX8_papers_0 8 rfl rfl) (rdSeg sd_24_cX8_papers_0 9 rfl rfl) (by decide +kernel)
theorem dX8_papers_10 : decode cX8_papers 10 = .ok (.aload_n 0, 1) := op_42 (rdSeg sd_24_cX8_papers_0 10 rfl rfl)
theorem dX8_papers_11 : decode cX8_papers 11 = .ok (.iconst 1, 1) := op_4 (rdSeg sd_24_cX8_papers_0 11 rfl rfl)
theorem dX8_papers_12 : decode cX8_papers 12 = .ok (.invokevirtual 67, 3) := op_182 (rdSeg sd_24_cX8_papers_0 12 rfl rfl) (rdSeg sd_24_cX8_papers_0 13 rfl rfl) (rdSeg sd_24_cX8_papers_0 14 rfl rfl) rfl
theorem dX8_papers_15 : decode cX8_papers 15 = .ok (.ireturn, 1) := op_172 (rdSeg sd_24_cX8_papers_0 15 rfl rfl)
theorem dX8_papers_16 : decode cX8_papers 16 = .ok (.aload_n 2, 1) := op_44 (rdSeg sd_24_cX8_papers_0 16 rfl rfl)
theorem dX8_papers_17 : decode cX8_papers 17 = .ok (.invokevirtual 257, 3) := op_182 (rdSeg sd_24_cX8_papers_0 17 rfl rfl) (rdSeg sd_24_cX8_papers_0 18 rfl rfl) (rdSeg sd_24_cX8_papers_0 19 rfl rfl) rfl
theorem dX8_papers_20 : decode cX8_papers 20 = .ok (.ifCond .eq 9, 3) := op_153 (rdSeg sd_24_cX8_papers_0 20 rfl rfl) (rdSeg sd_24_cX8_papers_0 21 rfl rfl) (rdSeg sd_24_cX8_papers_0 22 rfl rfl) (by decide +kernel)
theorem dX8_papers_23 : decode cX8_papers 23 = .ok (.aload_n 0, 1) := op_42 (rdSeg sd_24_cX8_papers_0 23 rfl rfl)
theorem dX8_papers_24 : decode cX8_papers 24 = .ok (.iconst 2, 1) := op_5 (rdSeg sd_24_cX8_papers_0 24 rfl rfl)
theorem dX8_papers_25 : decode cX8_papers 25 = .ok (.invokevirtual 67, 3) := op_182 (rdSeg sd_24_cX8_papers_0 25 rfl rfl) (rdSeg sd_24_cX8_papers_0 26 rfl rfl) (rdSeg sd_24_cX8_papers_0 27 rfl rfl) rfl
theorem dX8_papers_28 : decode cX8_papers 28 = .ok (.ireturn, 1) := op_172 (rdSeg sd_24_cX8_papers_0 28 rfl rfl)
theorem dX8_papers_29 : decode cX8_papers 29 = .ok (.iconst 0, 1) := op_3 (rdSeg sd_24_cX8_papers_0 29 rfl rfl)
theorem dX8_papers_30 : decode cX8_papers 30 = .ok (.istore_n 3, 1) := op_62 (rdSeg sd_24_cX8_papers_0 30 rfl rfl)
theorem dX8_papers_31 : decode cX8_papers 31 = .ok (.iconst 0, 1) := op_3 (rdSeg sd_24_cX8_papers_0 31 rfl rfl)
theorem dX8_papers_32 : decode cX8_papers 32 = .ok (.istore 4, 2) := op_54 (rdSeg sd_24_cX8_papers_1 0 rfl rfl) (rdSeg sd_24_cX8_papers_1 1 rfl rfl)
theorem dX8_papers_34 : decode cX8_papers 34 = .ok (.iload 4, 2) := op_21 (rdSeg sd_24_cX8_papers_1 2 rfl rfl) (rdSeg sd_24_cX8_papers_1 3 rfl rfl)
theorem dX8_papers_36 : decode cX8_papers 36 = .ok (.iconst 2, 1) := op_5 (rdSeg sd_24_cX8_papers_1 4 rfl rfl)
theorem dX8_papers_37 : decode cX8_papers 37 = .ok (.iadd, 1) := op_96 (rdSeg sd_24_cX8_papers_1 5 rfl rfl)
theorem dX8_papers_38 : decode cX8_papers 38 = .ok (.aload_n 2, 1) := op_44 (rdSeg sd_24_cX8_papers_1 6 rfl rfl)
theorem dX8_papers_39 : decode cX8_papers 39 = .ok (.invokevirtual 275, 3) := op_182 (rdSeg sd_24_cX8_papers_1 7 rfl rfl) (rdSeg sd_24_cX8_papers_1 8 rfl rfl) (rdSeg sd_24_cX8_papers_1 9 rfl rfl) rfl
theorem dX8_papers_42 : decode cX8_papers 42 = .ok (.if_icmp .ge 90, 3) := op_162 (rdSeg sd_24_cX8_papers_1 10 rfl rfl) (rdSeg sd_24_cX8_papers_1 11 rfl rfl) (rdSeg sd_24_cX8_papers_1 12 rfl rfl) (by decide +kernel)
theorem dX8_papers_45 : decode cX8_papers 45 = .ok (.aload_n 0, 1) := op_42 (rdSeg sd_24_cX8_papers_1 13 rfl rfl)
theorem dX8_papers_46 : decode cX8_papers 46 = .ok (.aload_n 2, 1) := op_44 (rdSeg sd_24_cX8_papers_1 14 rfl rfl)
theorem dX8_papers_47 : decode cX8_papers 47 = .ok (.iload 4, 2) := op_21 (rdSeg sd_24_cX8_papers_1 15 rfl rfl) (rdSeg sd_24_cX8_papers_1 16 rfl rfl)
theorem dX8_papers_49 : decode cX8_papers 49 = .ok (.invokevirtual 276, 3) := op_182 (rdSeg sd_24_cX8_papers_1 17 rfl rfl) (rdSeg sd_24_cX8_papers_1 18 rfl rfl) (rdSeg sd_24_cX8_papers_1 19 rfl rfl) rfl
theorem dX8_papers_52 : decode cX8_papers 52 = .ok (.aload_n 2, 1) := op_44 (rdSeg sd_24_cX8_papers_1 20 rfl rfl)
theorem dX8_papers_53 : decode cX8_papers 53 = .ok (.iload 4, 2) := op_21 (rdSeg sd_24_cX8_papers_1 21 rfl rfl) (rdSeg sd_24_cX8_papers_1 22 rfl rfl)
theorem dX8_papers_55 : decode cX8_papers 55 = .ok (.iconst 1, 1) := op_4 (rdSeg sd_24_cX8_papers_1 23 rfl rfl)
theorem dX8_papers_56 : decode cX8_papers 56 = .ok (.iadd, 1) := op_96 (rdSeg sd_24_cX8_papers_1 24 rfl rfl)
theorem dX8_papers_57 : decode cX8_papers 57 = .ok (.invokevirtual 276, 3) := op_182 (rdSeg sd_24_cX8_papers_1 25 rfl rfl) (rdSeg sd_24_cX8_papers_1 26 rfl rfl) (rdSeg sd_24_cX8_papers_1 27 rfl rfl) rfl
theorem dX8_papers_60 : decode cX8_papers 60 = .ok (.aload_n 2, 1) := op_44 (rdSeg sd_24_cX8_papers_1 28 rfl rfl)
theorem dX8_papers_61 : decode cX8_papers 61 = .ok (.iload 4, 2) := op_21 (rdSeg sd_24_cX8_papers_1 29 rfl rfl) (rdSeg sd_24_cX8_papers_1 30 rfl rfl)
theorem dX8_papers_63 : decode cX8_papers 63 = .ok (.iconst 2, 1) := op_5 (rdSeg sd_24_cX8_papers_1 31 rfl rfl)
theorem dX8_papers_64 : decode cX8_papers 64 = .ok (.iadd, 1) := op_96 (rdSeg sd_24_cX8_papers_2 0 rfl rfl)
theorem dX8_papers_65 : decode cX8_papers 65 = .ok (.invokevirtual 276, 3) := op_182 (rdSeg sd_24_cX8_papers_2 1 rfl rfl) (rdSeg sd_24_cX8_papers_2 2 rfl rfl) (rdSeg sd_24_cX8_papers_2 3 rfl rfl) rfl
theorem dX8_papers_68 : decode cX8_papers 68 = .ok (.invokevirtual 178, 3) := op_182 (rdSeg sd_24_cX8_papers_2 4 rfl rfl) (rdSeg sd_24_cX8_papers_2 5 rfl rfl) (rdSeg sd_24_cX8_papers_2 6 rfl rfl) rfl
theorem dX8_papers_71 : decode cX8_papers 71 = .ok (.ifCond .eq 17, 3) := op_153 (rdSeg sd_24_cX8_papers_2 7 rfl rfl) (rdSeg sd_24_cX8_papers_2 8 rfl rfl) (rdSeg sd_24_cX8_papers_2 9 rfl rfl) (by decide +kernel)
theorem dX8_papers_74 : decode cX8_papers 74 = .ok (.aload_n 0, 1) := op_42 (rdSeg sd_24_cX8_papers_2 10 rfl rfl)
theorem dX8_papers_75 : decode cX8_papers 75 = .ok (.getfield 12, 3) := op_180 (rdSeg sd_24_cX8_papers_2 11 rfl rfl) (rdSeg sd_24_cX8_papers_2 12 rfl rfl) (rdSeg sd_24_cX8_papers_2 13 rfl rfl) rfl
theorem dX8_papers_78 : decode cX8_papers 78 = .ok (.getfield 181, 3) := op_180 (rdSeg sd_24_cX8_papers_2 14 rfl rfl) (rdSeg sd_24_cX8_papers_2 15 rfl rfl) (rdSeg sd_24_cX8_papers_2 16 rfl rfl) rfl
theorem dX8_papers_81 : decode cX8_papers 81 = .ok (.invokevirtual 136, 3) := op_182 (rdSeg sd_24_cX8_papers_2 17 rfl rfl) (rdSeg sd_24_cX8_papers_2 18 rfl rfl) (rdSeg sd_24_cX8_papers_2 19 rfl rfl) rfl
theorem dX8_papers_84 : decode cX8_papers 84 = .ok (.iconst 1, 1) := op_4 (rdSeg sd_24_cX8_papers_2 20 rfl rfl)
theorem dX8_papers_85 : decode cX8_papers 85 = .ok (.if_icmp .ge 5, 3) := op_162 (rdSeg sd_24_cX8_papers_2 21 rfl rfl) (rdSeg sd_24_cX8_papers_2 22 rfl rfl) (rdSeg sd_24_cX8_papers_2 23 rfl rfl) (by decide +kernel)
theorem dX8_papers_88 : decode cX8_papers 88 = .ok (.iload_n 3, 1) := op_29 (rdSeg sd_24_cX8_papers_2 24 rfl rfl)
theorem dX8_papers_89 : decode cX8_papers 89 = .ok (.ireturn, 1) := op_172 (rdSeg sd_24_cX8_papers_2 25 rfl rfl)
theorem dX8_papers_90 : decode cX8_papers 90 = .ok (.aload_n 0, 1) := op_42 (rdSeg sd_24_cX8_papers_2 26 rfl rfl)
theorem dX8_papers_91 : decode cX8_papers 91 = .ok (.getfield 12, 3) := op_180 (rdSeg sd_24_cX8_papers_2 27 rfl rfl) (rdSeg sd_24_cX8_papers_2 28 rfl rfl) (rdSeg sd_24_cX8_papers_2 29 rfl rfl) rfl
theorem dX8_papers_94 : decode cX8_papers 94 = .ok (.getfield 181, 3) := op_180 (rdSeg sd_24_cX8_papers_2 30 rfl rfl) (rdSeg sd_24_cX8_papers_2 31 rfl rfl) (rdSeg sd_24_cX8_papers_3 0 rfl rfl) rfl
theorem dX8_papers_97 : decode cX8_papers 97 = .ok (.aload_n 2, 1) := op_44 (rdSeg sd_24_cX8_papers_3 1 rfl rfl)
theorem dX8_papers_98 : decode cX8_papers 98 = .ok (.iload 4, 2) := op_21 (rdSeg sd_24_cX8_papers_3 2 rfl rfl) (rdSeg sd_24_cX8_papers_3 3 rfl rfl)
theorem dX8_papers_100 : decode cX8_papers 100 = .ok (.invokevirtual 276, 3) := op_182 (rdSeg sd_24_cX8_papers_3 4 rfl rfl) (rdSeg sd_24_cX8_papers_3 5 rfl rfl) (rdSeg sd_24_cX8_papers_3 6 rfl rfl) rfl
theorem dX8_papers_103 : decode cX8_papers 103 = .ok (.aload_n 2, 1) := op_44 (rdSeg sd_24_cX8_papers_3 7 rfl rfl)
theorem dX8_papers_104 : decode cX8_papers 104 = .ok (.iload 4, 2) := op_21 (rdSeg sd_24_cX8_papers_3 8 rfl rfl) (rdSeg sd_24_cX8_papers_3 9 rfl rfl)
theorem dX8_papers_106 : decode cX8_papers 106 = .ok (.iconst 1, 1) := op_4 (rdSeg sd_24_cX8_papers_3 10 rfl rfl)
theorem dX8_papers_107 : decode cX8_papers 107 = .ok (.iadd, 1) := op_96 (rdSeg sd_24_cX8_papers_3 11 rfl rfl)
theorem dX8_papers_108 : decode cX8_papers 108 = .ok (.invokevirtual 276, 3) := op_182 (rdSeg sd_24_cX8_papers_3 12 rfl rfl) (rdSeg sd_24_cX8_papers_3 13 rfl rfl) (rdSeg sd_24_cX8_papers_3 14 rfl rfl) rfl
theorem dX8_papers_111 : decode cX8_papers 111 = .ok (.aload_n 2, 1) := op_44 (rdSeg sd_24_cX8_papers_3 15 rfl rfl)
theorem dX8_papers_112 : decode cX8_papers 112 = .ok (.iload 4, 2) := op_21 (rdSeg sd_24_cX8_papers_3 16 rfl rfl) (rdSeg sd_24_cX8_papers_3 17 rfl rfl)
theorem dX8_papers_114 : decode cX8_papers 114 = .ok (.iconst 2, 1) := op_5 (rdSeg sd_24_cX8_papers_3 18 rfl rfl)
theorem dX8_papers_115 : decode cX8_papers 115 = .ok (.iadd, 1) := op_96 (rdSeg sd_24_cX8_papers_3 19 rfl rfl)
theorem dX8_papers_116 : decode cX8_papers 116 = .ok (.invokevirtual 276, 3) := op_182 (rdSeg sd_24_cX8_papers_3 20 rfl rfl) (rdSeg sd_24_cX8_papers_3 21 rfl rfl) (rdSeg sd_24_cX8_papers_3 22 rfl rfl) rfl
theorem dX8_papers_119 : decode cX8_papers 119 = .ok (.invokevirtual 139, 3) := op_182 (rdSeg sd_24_cX8_papers_3 23 rfl rfl) (rdSeg sd_24_cX8_papers_3 24 rfl rfl) (rdSeg sd_24_cX8_papers_3 25 rfl rfl) rfl
theorem dX8_papers_122 : decode cX8_papers 122 = .ok (.pop, 1) := op_87 (rdSeg sd_24_cX8_papers_3 26 rfl rfl)
theorem dX8_papers_123 : decode cX8_papers 123 = .ok (.iinc 3 1, 3) := op_132 (rdSeg sd_24_cX8_papers_3 27 rfl rfl) (rdSeg sd_24_cX8_papers_3 28 rfl rfl) (rdSeg sd_24_cX8_papers_3 29 rfl rfl) (by decide +kernel)
theorem dX8_papers_126 : decode cX8_papers 126 = .ok (.iinc 4 3, 3) := op_132 (rdSeg sd_24_cX8_papers_3 30 rfl rfl) (rdSeg sd_24_cX8_papers_3 31 rfl rfl) (rdSeg sd_24_cX8_papers_4 0 rfl rfl) (by decide +kernel)
theorem dX8_papers_129 : decode cX8_papers 129 = .ok (.goto (-95), 3) := op_167 (rdSeg sd_24_cX8_papers_4 1 rfl rfl) (rdSeg sd_24_cX8_papers_4 2 rfl rfl) (rdSeg sd_24_cX8_papers_4 3 rfl rfl) (by decide +kernel)
theorem dX8_papers_132 : decode cX8_papers 132 = .ok (.iload_n 3, 1) := op_29 (rdSeg sd_24_cX8_papers_4 4 rfl rfl)
theorem dX8_papers_133 : decode cX8_papers 133 = .ok (.ireturn, 1) := op_172 (rdSeg sd_24_cX8_papers_4 5 rfl rfl)
def sg_24_cX8_judge_3 : List UInt8 := [0x9f, 0x00, 0x06, 0x15, 0x05, 0xac, 0x84, 0x05, 0x01, 0xa7, 0xff, 0xd7, 0x15, 0x04, 0xac]
def sg_24_cX8_judge_2 : List UInt8 := 0x15 :: 0x05 :: 0x15 :: 0x04 :: 0xa2 :: 0x00 :: 0x28 :: 0x2d :: 0x15 :: 0x05 :: 0xb6 :: 0x01 :: 0x04 :: 0x99 :: 0x00 :: 0x16 :: 0x2d :: 0x15 :: 0x05 :: 0xb6 :: 0x01 :: 0x14 :: 0x2a :: 0xb4 :: 0x00 :: 0x1d :: 0x15 :: 0x05 :: 0x05 :: 0xb6 :: 0x00 :: 0xc2 :: sg_24_cX8_judge_3
def sg_24_cX8_judge_1 : List UInt8 := 0x05 :: 0xb6 :: 0x00 :: 0x43 :: 0xac :: 0x2a :: 0xb4 :: 0x00 :: 0x1d :: 0x2a :: 0xb4 :: 0x00 :: 0x0c :: 0x1c :: 0xb6 :: 0x00 :: 0xbe :: 0x2a :: 0xb4 :: 0x00 :: 0x0c :: 0xb4 :: 0x00 :: 0x47 :: 0xb6 :: 0x00 :: 0xdd :: 0x36 :: 0x04 :: 0x03 :: 0x36 :: 0x05 :: sg_24_cX8_judge_2
def sg_24_cX8_judge_0 : List UInt8 := 0x2a :: 0x1b :: 0xb6 :: 0x00 :: 0xfa :: 0x4e :: 0x2d :: 0xc6 :: 0x00 :: 0x0b :: 0x2a :: 0x1c :: 0xb6 :: 0x00 :: 0xbb :: 0x9a :: 0x00 :: 0x09 :: 0x2a :: 0x04 :: 0xb6 :: 0x00 :: 0x43 :: 0xac :: 0x2d :: 0xb6 :: 0x01 :: 0x01 :: 0x99 :: 0x00 :: 0x09 :: 0x2a :: sg_24_cX8_judge_1
set_option maxRecDepth 100000 in
theorem sd_24_cX8_judge_0 : cX8_judge.data.toList.drop 0 = sg_24_cX8_judge_0 := by decide +kernel
theorem sd_24_cX8_judge_1 : cX8_judge.data.toList.drop 32 = sg_24_cX8_judge_1 := sg_next sd_24_cX8_judge_0 rfl
theorem sd_24_cX8_judge_2 : cX8_judge.data.toList.drop 64 = sg_24_cX8_judge_2 := sg_next sd_24_cX8_judge_1 rfl
theorem sd_24_cX8_judge_3 : cX8_judge.data.toList.drop 96 = sg_24_cX8_judge_3 := sg_next sd_24_cX8_judge_2 rfl
theorem dX8_judge_0 : decode cX8_judge 0 = .ok (.aload_n 0, 1) := op_42 (rdSeg sd_24_cX8_judge_0 0 rfl rfl)
theorem dX8_judge_1 : decode cX8_judge 1 = .ok (.iload_n 1, 1) := op_27 (rdSeg sd_24_cX8_judge_0 1 rfl rfl)
theorem dX8_judge_2 : decode cX8_judge 2 = .ok (.invokevirtual 250, 3) := op_182 (rdSeg sd_24_cX8_judge_0 2 rfl rfl) (rdSeg sd_24_cX8_judge_0 3 rfl rfl) (rdSeg sd_24_cX8_judge_0 4 rfl rfl) rfl
theorem dX8_judge_5 : decode cX8_judge 5 = .ok (.astore_n 3, 1) := op_78 (rdSeg sd_24_cX8_judge_0 5 rfl rfl)
theorem dX8_judge_6 : decode cX8_judge 6 = .ok (.aload_n 3, 1) := op_45 (rdSeg sd_24_cX8_judge_0 6 rfl rfl)
theorem dX8_judge_7 : decode cX8_judge 7 = .ok (.ifnull 11, 3) := op_198 (rdSeg sd_24_cX8_judge_0 7 rfl rfl) (rdSeg sd_24_cX8_judge_0 8 rfl rfl) (rdSeg sd_24_cX8_judge_0 9 rfl rfl) (by decide +kernel)
theorem dX8_judge_10 : decode cX8_judge 10 = .ok (.aload_n 0, 1) := op_42 (rdSeg sd_24_cX8_judge_0 10 rfl rfl)
theorem dX8_judge_11 : decode cX8_judge 11 = .ok (.iload_n 2, 1) := op_28 (rdSeg sd_24_cX8_judge_0 11 rfl rfl)
theorem dX8_judge_12 : decode cX8_judge 12 = .ok (.invokevirtual 187, 3) := op_182 (rdSeg sd_24_cX8_judge_0 12 rfl rfl) (rdSeg sd_24_cX8_judge_0 13 rfl rfl) (rdSeg sd_24_cX8_judge_0 14 rfl rfl) rfl
theorem dX8_judge_15 : decode cX8_judge 15 = .ok (.ifCond .ne 9, 3) := op_154 (rdSeg sd_24_cX8_judge_0 15 rfl rfl) (rdSeg sd_24_cX8_judge_0 16 rfl rfl) (rdSeg sd_24_cX8_judge_0 17 rfl rfl) (by decide +kernel)
theorem dX8_judge_18 : decode cX8_judge 18 = .ok (.aload_n 0, 1) := op_42 (rdSeg sd_24_cX8_judge_0 18 rfl rfl)
theorem dX8_judge_19 : decode cX8_judge 19 = .ok (.iconst 1, 1) := op_4 (rdSeg sd_24_cX8_judge_0 19 rfl rfl)
theorem dX8_judge_20 : decode cX8_judge 20 = .ok (.invokevirtual 67, 3) := op_182 (rdSeg sd_24_cX8_judge_0 20 rfl rfl) (rdSeg sd_24_cX8_judge_0 21 rfl rfl) (rdSeg sd_24_cX8_judge_0 22 rfl rfl) rfl
theorem dX8_judge_23 : decode cX8_judge 23 = .ok (.ireturn, 1) := op_172 (rdSeg sd_24_cX8_judge_0 23 rfl rfl)
theorem dX8_judge_24 : decode cX8_judge 24 = .ok (.aload_n 3, 1) := op_45 (rdSeg sd_24_cX8_judge_0 24 rfl rfl)
theorem dX8_judge_25 : decode cX8_judge 25 = .ok (.invokevirtual 257, 3) := op_182 (rdSeg sd_24_cX8_judge_0 25 rfl rfl) (rdSeg sd_24_cX8_judge_0 26 rfl rfl) (rdSeg sd_24_cX8_judge_0 27 rfl rfl) rfl
theorem dX8_judge_28 : decode cX8_judge 28 = .ok (.ifCond .eq 9, 3) := op_153 (rdSeg sd_24_cX8_judge_0 28 rfl rfl) (rdSeg sd_24_cX8_judge_0 29 rfl rfl) (rdSeg sd_24_cX8_judge_0 30 rfl rfl) (by decide +kernel)
theorem dX8_judge_31 : decode cX8_judge 31 = .ok (.aload_n 0, 1) := op_42 (rdSeg sd_24_cX8_judge_0 31 rfl rfl)
theorem dX8_judge_32 : decode cX8_judge 32 = .ok (.iconst 2, 1) := op_5 (rdSeg sd_24_cX8_judge_1 0 rfl rfl)
theorem dX8_judge_33 : decode cX8_judge 33 = .ok (.invokevirtual 67, 3) := op_182 (rdSeg sd_24_cX8_judge_1 1 rfl rfl) (rdSeg sd_24_cX8_judge_1 2 rfl rfl) (rdSeg sd_24_cX8_judge_1 3 rfl rfl) rfl
theorem dX8_judge_36 : decode cX8_judge 36 = .ok (.ireturn, 1) := op_172 (rdSeg sd_24_cX8_judge_1 4 rfl rfl)
theorem dX8_judge_37 : decode cX8_judge 37 = .ok (.aload_n 0, 1) := op_42 (rdSeg sd_24_cX8_judge_1 5 rfl rfl)
theorem dX8_judge_38 : decode cX8_judge 38 = .ok (.getfield 29, 3) := op_180 (rdSeg sd_24_cX8_judge_1 6 rfl rfl) (rdSeg sd_24_cX8_judge_1 7 rfl rfl) (rdSeg sd_24_cX8_judge_1 8 rfl rfl) rfl
theorem dX8_judge_41 : decode cX8_judge 41 = .ok (.aload_n 0, 1) := op_42 (rdSeg sd_24_cX8_judge_1 9 rfl rfl)
theorem dX8_judge_42 : decode cX8_judge 42 = .ok (.getfield 12, 3) := op_180 (rdSeg sd_24_cX8_judge_1 10 rfl rfl) (rdSeg sd_24_cX8_judge_1 11 rfl rfl) (rdSeg sd_24_cX8_judge_1 12 rfl rfl) rfl
theorem dX8_judge_45 : decode cX8_judge 45 = .ok (.iload_n 2, 1) := op_28 (rdSeg sd_24_cX8_judge_1 13 rfl rfl)
theorem dX8_judge_46 : decode cX8_judge 46 = .ok (.invokevirtual 190, 3) := op_182 (rdSeg sd_24_cX8_judge_1 14 rfl rfl) (rdSeg sd_24_cX8_judge_1 15 rfl rfl) (rdSeg sd_24_cX8_judge_1 16 rfl rfl) rfl
theorem dX8_judge_49 : decode cX8_judge 49 = .ok (.aload_n 0, 1) := op_42 (rdSeg sd_24_cX8_judge_1 17 rfl rfl)
theorem dX8_judge_50 : decode cX8_judge 50 = .ok (.getfield 12, 3) := op_180 (rdSeg sd_24_cX8_judge_1 18 rfl rfl) (rdSeg sd_24_cX8_judge_1 19 rfl rfl) (rdSeg sd_24_cX8_judge_1 20 rfl rfl) rfl
theorem dX8_judge_53 : decode cX8_judge 53 = .ok (.getfield 71, 3) := op_180 (rdSeg sd_24_cX8_judge_1 21 rfl rfl) (rdSeg sd_24_cX8_judge_1 22 rfl rfl) (rdSeg sd_24_cX8_judge_1 23 rfl rfl) rfl
theorem dX8_judge_56 : decode cX8_judge 56 = .ok (.invokevirtual 221, 3) := op_182 (rdSeg sd_24_cX8_judge_1 24 rfl rfl) (rdSeg sd_24_cX8_judge_1 25 rfl rfl) (rdSeg sd_24_cX8_judge_1 26 rfl rfl) rfl
theorem dX8_judge_59 : decode cX8_judge 59 = .ok (.istore 4, 2) := op_54 (rdSeg sd_24_cX8_judge_1 27 rfl rfl) (rdSeg sd_24_cX8_judge_1 28 rfl rfl)
theorem dX8_judge_61 : decode cX8_judge 61 = .ok (.iconst 0, 1) := op_3 (rdSeg sd_24_cX8_judge_1 29 rfl rfl)
theorem dX8_judge_62 : decode cX8_judge 62 = .ok (.istore 5, 2) := op_54 (rdSeg sd_24_cX8_judge_1 30 rfl rfl) (rdSeg sd_24_cX8_judge_1 31 rfl rfl)
theorem dX8_judge_64 : decode cX8_judge 64 = .ok (.iload 5, 2) := op_21 (rdSeg sd_24_cX8_judge_2 0 rfl rfl) (rdSeg sd_24_cX8_judge_2 1 rfl rfl)
theorem dX8_judge_66 : decode cX8_judge 66 = .ok (.iload 4, 2) := op_21 (rdSeg sd_24_cX8_judge_2 2 rfl rfl) (rdSeg sd_24_cX8_judge_2 3 rfl rfl)
theorem dX8_judge_68 : decode cX8_judge 68 = .ok (.if_icmp .ge 40, 3) := op_162 (rdSeg sd_24_cX8_judge_2 4 rfl rfl) (rdSeg sd_24_cX8_judge_2 5 rfl rfl) (rdSeg sd_24_cX8_judge_2 6 rfl rfl) (by decide +kernel)
theorem dX8_judge_71 : decode cX8_judge 71 = .ok (.aload_n 3, 1) := op_45 (rdSeg sd_24_cX8_judge_2 7 rfl rfl)
theorem dX8_judge_72 : decode cX8_judge 72 = .ok (.iload 5, 2) := op_21 (rdSeg sd_24_cX8_judge_2 8 rfl rfl) (rdSeg sd_24_cX8_judge_2 9 rfl rfl)
theorem dX8_judge_74 : decode cX8_judge 74 = .ok (.invokevirtual 260, 3) := op_182 (rdSeg sd_24_cX8_judge_2 10 rfl rfl) (rdSeg sd_24_cX8_judge_2 11 rfl rfl) (rdSeg sd_24_cX8_judge_2 12 rfl rfl) rfl
theorem dX8_judge_77 : decode cX8_judge 77 = .ok (.ifCond .eq 22, 3) := op_153 (rdSeg sd_24_cX8_judge_2 13 rfl rfl) (rdSeg sd_24_cX8_judge_2 14 rfl rfl) (rdSeg sd_24_cX8_judge_2 15 rfl rfl) (by decide +kernel)
theorem dX8_judge_80 : decode cX8_judge 80 = .ok (.aload_n 3, 1) := op_45 (rdSeg sd_24_cX8_judge_2 16 rfl rfl)
theorem dX8_judge_81 : decode cX8_judge 81 = .ok (.iload 5, 2) := op_21 (rdSeg sd_24_cX8_judge_2 17 rfl rfl) (rdSeg sd_24_cX8_judge_2 18 rfl rfl)
theorem dX8_judge_83 : decode cX8_judge 83 = .ok (.invokevirtual 276, 3) := op_182 (rdSeg sd_24_cX8_judge_2 19 rfl rfl) (rdSeg sd_24_cX8_judge_2 20 rfl rfl) (rdSeg sd_24_cX8_judge_2 21 rfl rfl) rfl
theorem dX8_judge_86 : decode cX8_judge 86 = .ok (.aload_n 0, 1) := op_42 (rdSeg sd_24_cX8_judge_2 22 rfl rfl)
theorem dX8_judge_87 : decode cX8_judge 87 = .ok (.getfield 29, 3) := op_180 (rdSeg sd_24_cX8_judge_2 23 rfl rfl) (rdSeg sd_24_cX8_judge_2 24 rfl rfl) (rdSeg sd_24_cX8_judge_2 25 rfl rfl) rfl
theorem dX8_judge_90 : decode cX8_judge 90 = .ok (.iload 5, 2) := op_21 (rdSeg sd_24_cX8_judge_2 26 rfl rfl) (rdSeg sd_24_cX8_judge_2 27 rfl rfl)
theorem dX8_judge_92 : decode cX8_judge 92 = .ok (.iconst 2, 1) := op_5 (rdSeg sd_24_cX8_judge_2 28 rfl rfl)
theorem dX8_judge_93 : decode cX8_judge 93 = .ok (.invokevirtual 194, 3) := op_182 (rdSeg sd_24_cX8_judge_2 29 rfl rfl) (rdSeg sd_24_cX8_judge_2 30 rfl rfl) (rdSeg sd_24_cX8_judge_2 31 rfl rfl) rfl
theorem dX8_judge_96 : decode cX8_judge 96 = .ok (.if_icmp .eq 6, 3) := op_159 (rdSeg sd_24_cX8_judge_3 0 rfl rfl) (rdSeg sd_24_cX8_judge_3 1 rfl rfl) (rdSeg sd_24_cX8_judge_3 2 rfl rfl) (by decide +kernel)
theorem dX8_judge_99 : decode cX8_judge 99 = .ok (.iload 5, 2) := op_21 (rdSeg sd_24_cX8_judge_3 3 rfl rfl) (rdSeg sd_24_cX8_judge_3 4 rfl rfl)
theorem dX8_judge_101 : decode cX8_judge 101 = .ok (.ireturn, 1) := op_172 (rdSeg sd_24_cX8_judge_3 5 rfl rfl)
theorem dX8_judge_102 : decode cX8_judge 102 = .ok (.iinc 5 1, 3) := op_132 (rdSeg sd_24_cX8_judge_3 6 rfl rfl) (rdSeg sd_24_cX8_judge_3 7 rfl rfl) (rdSeg sd_24_cX8_judge_3 8 rfl rfl) (by decide +kernel)
theorem dX8_judge_105 : decode cX8_judge 105 = .ok (.goto (-41), 3) := op_167 (rdSeg sd_24_cX8_judge_3 9 rfl rfl) (rdSeg sd_24_cX8_judge_3 10 rfl rfl) (rdSeg sd_24_cX8_judge_3 11 rfl rfl) (by decide +kernel)
theorem dX8_judge_108 : decode cX8_judge 108 = .ok (.iload 4, 2) := op_21 (rdSeg sd_24_cX8_judge_3 12 rfl rfl) (rdSeg sd_24_cX8_judge_3 13 rfl rfl)
theorem dX8_judge_110 : decode cX8_judge 110 = .ok (.ireturn, 1) := op_172 (rdSeg sd_24_cX8_judge_3 14 rfl rfl)
def sg_24_cX8_image_0 : List UInt8 := [0x2a, 0xb4, 0x00, 0x10, 0x2a, 0xb4, 0x00, 0x0c, 0xb6, 0x01, 0x16, 0x2a, 0x59, 0xb4, 0x01, 0x18, 0x04, 0x60, 0xb5, 0x01, 0x18, 0x2a, 0xb4, 0x01, 0x18, 0xac]
set_option maxRecDepth 100000 in
theorem sd_24_cX8_image_0 : cX8_image.data.toList.drop 0 = sg_24_cX8_image_0 := by decide +kernel
theorem dX8_image_0 : decode cX8_image 0 = .ok (.aload_n 0, 1) := op_42 (rdSeg sd_24_cX8_image_0 0 rfl rfl)
theorem dX8_image_1 : decode cX8_image 1 = .ok (.getfield 16, 3) := op_180 (rdSeg sd_24_cX8_image_0 1 rfl rfl) (rdSeg sd_24_cX8_image_0 2 rfl rfl) (rdSeg sd_24_cX8_image_0 3 rfl rfl) rfl
theorem dX8_image_4 : decode cX8_image 4 = .ok (.aload_n 0, 1) := op_42 (rdSeg sd_24_cX8_image_0 4 rfl rfl)
theorem dX8_image_5 : decode cX8_image 5 = .ok (.getfield 12, 3) := op_180 (rdSeg sd_24_cX8_image_0 5 rfl rfl) (rdSeg sd_24_cX8_image_0 6 rfl rfl) (rdSeg sd_24_cX8_image_0 7 rfl rfl) rfl
theorem dX8_image_8 : decode cX8_image 8 = .ok (.invokevirtual 278, 3) := op_182 (rdSeg sd_24_cX8_image_0 8 rfl rfl) (rdSeg sd_24_cX8_image_0 9 rfl rfl) (rdSeg sd_24_cX8_image_0 10 rfl rfl) rfl
theorem dX8_image_11 : decode cX8_image 11 = .ok (.aload_n 0, 1) := op_42 (rdSeg sd_24_cX8_image_0 11 rfl rfl)
theorem dX8_image_12 : decode cX8_image 12 = .ok (.dup, 1) := op_89 (rdSeg sd_24_cX8_image_0 12 rfl rfl)
theorem dX8_image_13 : decode cX8_image 13 = .ok (.getfield 280, 3) := op_180 (rdSeg sd_24_cX8_image_0 13 rfl rfl) (rdSeg sd_24_cX8_image_0 14 rfl rfl) (rdSeg sd_24_cX8_image_0 15 rfl rfl) rfl
theorem dX8_image_16 : decode cX8_image 16 = .ok (.iconst 1, 1) := op_4 (rdSeg sd_24_cX8_image_0 16 rfl rfl)
theorem dX8_image_17 : decode cX8_image 17 = .ok (.iadd, 1) := op_96 (rdSeg sd_24_cX8_image_0 17 rfl rfl)
theorem dX8_image_18 : decode cX8_image 18 = .ok (.putfield 280, 3) := op_181 (rdSeg sd_24_cX8_image_0 18 rfl rfl) (rdSeg sd_24_cX8_image_0 19 rfl rfl) (rdSeg sd_24_cX8_image_0 20 rfl rfl) rfl
theorem dX8_image_21 : decode cX8_image 21 = .ok (.aload_n 0, 1) := op_42 (rdSeg sd_24_cX8_image_0 21 rfl rfl)
theorem dX8_image_22 : decode cX8_image 22 = .ok (.getfield 280, 3) := op_180 (rdSeg sd_24_cX8_image_0 22 rfl rfl) (rdSeg sd_24_cX8_image_0 23 rfl rfl) (rdSeg sd_24_cX8_image_0 24 rfl rfl) rfl
theorem dX8_image_25 : decode cX8_image 25 = .ok (.ireturn, 1) := op_172 (rdSeg sd_24_cX8_image_0 25 rfl rfl)
def sg_24_cX8_restore_1 : List UInt8 := [0x00, 0x74, 0xac]
def sg_24_cX8_restore_0 : List UInt8 := 0x2a :: 0xb4 :: 0x01 :: 0x18 :: 0x9a :: 0x00 :: 0x09 :: 0x2a :: 0x05 :: 0xb6 :: 0x00 :: 0x43 :: 0xac :: 0x2a :: 0xb4 :: 0x00 :: 0x0c :: 0x2a :: 0xb4 :: 0x00 :: 0x10 :: 0xb6 :: 0x01 :: 0x16 :: 0x2a :: 0xb4 :: 0x00 :: 0x0c :: 0xb4 :: 0x00 :: 0x47 :: 0xb6 :: sg_24_cX8_restore_1
set_option maxRecDepth 100000 in
theorem sd_24_cX8_restore_0 : cX8_restore.data.toList.drop 0 = sg_24_cX8_restore_0 := by decide +kernel
theorem sd_24_cX8_restore_1 : cX8_restore.data.toList.drop 32 = sg_24_cX8_restore_1 := sg_next sd_24_cX8_restore_0 rfl
theorem dX8_restore_0 : decode cX8_restore 0 = .ok (.aload_n 0, 1) := op_42 (rdSeg sd_24_cX8_restore_0 0 rfl rfl)
theorem dX8_restore_1 : decode cX8_restore 1 = .ok (.getfield 280, 3) := op_180 (rdSeg sd_24_cX8_restore_0 1 rfl rfl) (rdSeg sd_24_cX8_restore_0 2 rfl rfl) (rdSeg sd_24_cX8_restore_0 3 rfl rfl) rfl
theorem dX8_restore_4 : decode cX8_restore 4 = .ok (.ifCond .ne 9, 3) := op_154 (rdSeg sd_24_cX8_restore_0 4 rfl rfl) (rdSeg sd_24_cX8_restore_0 5 rfl rfl) (rdSeg sd_24_cX8_restore_0 6 rfl rfl) (by decide +kernel)
theorem dX8_restore_7 : decode cX8_restore 7 = .ok (.aload_n 0, 1) := op_42 (rdSeg sd_24_cX8_restore_0 7 rfl rfl)
theorem dX8_restore_8 : decode cX8_restore 8 = .ok (.iconst 2, 1) := op_5 (rdSeg sd_24_cX8_restore_0 8 rfl rfl)
theorem dX8_restore_9 : decode cX8_restore 9 = .ok (.invokevirtual 67, 3) := op_182 (rdSeg sd_24_cX8_restore_0 9 rfl rfl) (rdSeg sd_24_cX8_restore_0 10 rfl rfl) (rdSeg sd_24_cX8_restore_0 11 rfl rfl) rfl
theorem dX8_restore_12 : decode cX8_restore 12 = .ok (.ireturn, 1) := op_172 (rdSeg sd_24_cX8_restore_0 12 rfl rfl)
theorem dX8_restore_13 : decode cX8_restore 13 = .ok (.aload_n 0, 1) := op_42 (rdSeg sd_24_cX8_restore_0 13 rfl rfl)
theorem dX8_restore_14 : decode cX8_restore 14 = .ok (.getfield 12, 3) := op_180 (rdSeg sd_24_cX8_restore_0 14 rfl rfl) (rdSeg sd_24_cX8_restore_0 15 rfl rfl) (rdSeg sd_24_cX8_restore_0 16 rfl rfl) rfl
theorem dX8_restore_17 : decode cX8_restore 17 = .ok (.aload_n 0, 1) := op_42 (rdSeg sd_24_cX8_restore_0 17 rfl rfl)
theorem dX8_restore_18 : decode cX8_restore 18 = .ok (.getfield 16, 3) := op_180 (rdSeg sd_24_cX8_restore_0 18 rfl rfl) (rdSeg sd_24_cX8_restore_0 19 rfl rfl) (rdSeg sd_24_cX8_restore_0 20 rfl rfl) rfl
theorem dX8_restore_21 : decode cX8_restore 21 = .ok (.invokevirtual 278, 3) := op_182 (rdSeg sd_24_cX8_restore_0 21 rfl rfl) (rdSeg sd_24_cX8_restore_0 22 rfl rfl) (rdSeg sd_24_cX8_restore_0 23 rfl rfl) rfl
theorem dX8_restore_24 : decode cX8_restore 24 = .ok (.aload_n 0, 1) := op_42 (rdSeg sd_24_cX8_restore_0 24 rfl rfl)
theorem dX8_restore_25 : decode cX8_restore 25 = .ok (.getfield 12, 3) := op_180 (rdSeg sd_24_cX8_restore_0 25 rfl rfl) (rdSeg sd_24_cX8_restore_0 26 rfl rfl) (rdSeg sd_24_cX8_restore_0 27 rfl rfl) rfl
theorem dX8_restore_28 : decode cX8_restore 28 = .ok (.getfield 71, 3) := op_180 (rdSeg sd_24_cX8_restore_0 28 rfl rfl) (rdSeg sd_24_cX8_restore_0 29 rfl rfl) (rdSeg sd_24_cX8_restore_0 30 rfl rfl) rfl
theorem dX8_restore_31 : decode cX8_restore 31 = .ok (.invokevirtual 116, 3) := op_182 (rdSeg sd_24_cX8_restore_0 31 rfl rfl) (rdSeg sd_24_cX8_restore_1 0 rfl rfl) (rdSeg sd_24_cX8_restore_1 1 rfl rfl) rfl
theorem dX8_restore_34 : decode cX8_restore 34 = .ok (.ireturn, 1) := op_172 (rdSeg sd_24_cX8_restore_1 2 rfl rfl)
def sg_24_cX8_tell_1 : List UInt8 := [0x8b, 0x57, 0x2a, 0xb4, 0x00, 0x0c, 0xb4, 0x01, 0x1c, 0xb6, 0x00, 0x8f, 0xac]
def sg_24_cX8_tell_0 : List UInt8 := 0x2a :: 0xb4 :: 0x00 :: 0x0c :: 0xb4 :: 0x01 :: 0x1c :: 0xb6 :: 0x00 :: 0x88 :: 0x04 :: 0xa2 :: 0x00 :: 0x09 :: 0x2a :: 0x07 :: 0xb6 :: 0x00 :: 0x43 :: 0xac :: 0x2a :: 0xb4 :: 0x00 :: 0x0c :: 0xb4 :: 0x01 :: 0x1c :: 0x1b :: 0x03 :: 0x03 :: 0xb6 :: 0x00 :: sg_24_cX8_tell_1
set_option maxRecDepth 100000 in
theorem sd_24_cX8_tell_0 : cX8_tell.data.toList.drop 0 = sg_24_cX8_tell_0 := by decide +kernel
theorem sd_24_cX8_tell_1 : cX8_tell.data.toList.drop 32 = sg_24_cX8_tell_1 := sg_next sd_24_cX8_tell_0 rfl
theorem dX8_tell_0 : decode cX8_tell 0 = .ok (.aload_n 0, 1) := op_42 (rdSeg sd_24_cX8_tell_0 0 rfl rfl)
theorem dX8_tell_1 : decode cX8_tell 1 = .ok (.getfield 12, 3) := op_180 (rdSeg sd_24_cX8_tell_0 1 rfl rfl) (rdSeg sd_24_cX8_tell_0 2 rfl rfl) (rdSeg sd_24_cX8_tell_0 3 rfl rfl) rfl
theorem dX8_tell_4 : decode cX8_tell 4 = .ok (.getfield 284, 3) := op_180 (rdSeg sd_24_cX8_tell_0 4 rfl rfl) (rdSeg sd_24_cX8_tell_0 5 rfl rfl) (rdSeg sd_24_cX8_tell_0 6 rfl rfl) rfl
theorem dX8_tell_7 : decode cX8_tell 7 = .ok (.invokevirtual 136, 3) := op_182 (rdSeg sd_24_cX8_tell_0 7 rfl rfl) (rdSeg sd_24_cX8_tell_0 8 rfl rfl) (rdSeg sd_24_cX8_tell_0 9 rfl rfl) rfl
theorem dX8_tell_10 : decode cX8_tell 10 = .ok (.iconst 1, 1) := op_4 (rdSeg sd_24_cX8_tell_0 10 rfl rfl)
theorem dX8_tell_11 : decode cX8_tell 11 = .ok (.if_icmp .ge 9, 3) := op_162 (rdSeg sd_24_cX8_tell_0 11 rfl rfl) (rdSeg sd_24_cX8_tell_0 12 rfl rfl) (rdSeg sd_24_cX8_tell_0 13 rfl rfl) (by decide +kernel)
theorem dX8_tell_14 : decode cX8_tell 14 = .ok (.aload_n 0, 1) := op_42 (rdSeg sd_24_cX8_tell_0 14 rfl rfl)
theorem dX8_tell_15 : decode cX8_tell 15 = .ok (.iconst 4, 1) := op_7 (rdSeg sd_24_cX8_tell_0 15 rfl rfl)
theorem dX8_tell_16 : decode cX8_tell 16 = .ok (.invokevirtual 67, 3) := op_182 (rdSeg sd_24_cX8_tell_0 16 rfl rfl) (rdSeg sd_24_cX8_tell_0 17 rfl rfl) (rdSeg sd_24_cX8_tell_0 18 rfl rfl) rfl
theorem dX8_tell_19 : decode cX8_tell 19 = .ok (.ireturn, 1) := op_172 (rdSeg sd_24_cX8_tell_0 19 rfl rfl)
theorem dX8_tell_20 : decode cX8_tell 20 = .ok (.aload_n 0, 1) := op_42 (rdSeg sd_24_cX8_tell_0 20 rfl rfl)
theorem dX8_tell_21 : decode cX8_tell 21 = .ok (.getfield 12, 3) := op_180 (rdSeg sd_24_cX8_tell_0 21 rfl rfl) (rdSeg sd_24_cX8_tell_0 22 rfl rfl) (rdSeg sd_24_cX8_tell_0 23 rfl rfl) rfl
theorem dX8_tell_24 : decode cX8_tell 24 = .ok (.getfield 284, 3) := op_180 (rdSeg sd_24_cX8_tell_0 24 rfl rfl) (rdSeg sd_24_cX8_tell_0 25 rfl rfl) (rdSeg sd_24_cX8_tell_0 26 rfl rfl) rfl
theorem dX8_tell_27 : decode cX8_tell 27 = .ok (.iload_n 1, 1) := op_27 (rdSeg sd_24_cX8_tell_0 27 rfl rfl)
theorem dX8_tell_28 : decode cX8_tell 28 = .ok (.iconst 0, 1) := op_3 (rdSeg sd_24_cX8_tell_0 28 rfl rfl)
theorem dX8_tell_29 : decode cX8_tell 29 = .ok (.iconst 0, 1) := op_3 (rdSeg sd_24_cX8_tell_0 29 rfl rfl)
theorem dX8_tell_30 : decode cX8_tell 30 = .ok (.invokevirtual 139, 3) := op_182 (rdSeg sd_24_cX8_tell_0 30 rfl rfl) (rdSeg sd_24_cX8_tell_0 31 rfl rfl) (rdSeg sd_24_cX8_tell_1 0 rfl rfl) rfl
theorem dX8_tell_33 : decode cX8_tell 33 = .ok (.pop, 1) := op_87 (rdSeg sd_24_cX8_tell_1 1 rfl rfl)
theorem dX8_tell_34 : decode cX8_tell 34 = .ok (.aload_n 0, 1) := op_42 (rdSeg sd_24_cX8_tell_1 2 rfl rfl)
theorem dX8_tell_35 : decode cX8_tell 35 = .ok (.getfield 12, 3) := op_180 (rdSeg sd_24_cX8_tell_1 3 rfl rfl) (rdSeg sd_24_cX8_tell_1 4 rfl rfl) (rdSeg sd_24_cX8_tell_1 5 rfl rfl) rfl
theorem dX8_tell_38 : decode cX8_tell 38 = .ok (.getfield 284, 3) := op_180 (rdSeg sd_24_cX8_tell_1 6 rfl rfl) (rdSeg sd_24_cX8_tell_1 7 rfl rfl) (rdSeg sd_24_cX8_tell_1 8 rfl rfl) rfl
theorem dX8_tell_41 : decode cX8_tell 41 = .ok (.invokevirtual 143, 3) := op_182 (rdSeg sd_24_cX8_tell_1 9 rfl rfl) (rdSeg sd_24_cX8_tell_1 10 rfl rfl) (rdSeg sd_24_cX8_tell_1 11 rfl rfl) rfl
theorem dX8_tell_44 : decode cX8_tell 44 = .ok (.ireturn, 1) := op_172 (rdSeg sd_24_cX8_tell_1 12 rfl rfl)
def sg_24_cX8_check_1 : List UInt8 := [0x1c, 0xb6, 0x00, 0x96, 0x1b, 0x04, 0x60, 0xac]
def sg_24_cX8_check_0 : List UInt8 := 0x2a :: 0xb4 :: 0x00 :: 0x1d :: 0x2a :: 0xb4 :: 0x00 :: 0x0c :: 0xb6 :: 0x00 :: 0xc5 :: 0x2a :: 0xb4 :: 0x00 :: 0x1d :: 0x2a :: 0xb4 :: 0x00 :: 0x0c :: 0xb4 :: 0x01 :: 0x1c :: 0xb6 :: 0x01 :: 0x1f :: 0x3c :: 0x2a :: 0xb4 :: 0x00 :: 0x0c :: 0xb4 :: 0x01 :: sg_24_cX8_check_1
set_option maxRecDepth 100000 in
theorem sd_24_cX8_check_0 : cX8_check.data.toList.drop 0 = sg_24_cX8_check_0 := by decide +kernel
theorem sd_24_cX8_check_1 : cX8_check.data.toList.drop 32 = sg_24_cX8_check_1 := sg_next sd_24_cX8_check_0 rfl
theorem dX8_check_0 : decode cX8_check 0 = .ok (.aload_n 0, 1) := op_42 (rdSeg sd_24_cX8_check_0 0 rfl rfl)
theorem dX8_check_1 : decode cX8_check 1 = .ok (.getfield 29, 3) := op_180 (rdSeg sd_24_cX8_check_0 1 rfl rfl) (rdSeg sd_24_cX8_check_0 2 rfl rfl) (rdSeg sd_24_cX8_check_0 3 rfl rfl) rfl
theorem dX8_check_4 : decode cX8_check 4 = .ok (.aload_n 0, 1) := op_42 (rdSeg sd_24_cX8_check_0 4 rfl rfl)
theorem dX8_check_5 : decode cX8_check 5 = .ok (.getfield 12, 3) := op_180 (rdSeg sd_24_cX8_check_0 5 rfl rfl) (rdSeg sd_24_cX8_check_0 6 rfl rfl) (rdSeg sd_24_cX8_check_0 7 rfl rfl) rfl
theorem dX8_check_8 : decode cX8_check 8 = .ok (.invokevirtual 197, 3) := op_182 (rdSeg sd_24_cX8_check_0 8 rfl rfl) (rdSeg sd_24_cX8_check_0 9 rfl rfl) (rdSeg sd_24_cX8_check_0 10 rfl rfl) rfl
theorem dX8_check_11 : decode cX8_check 11 = .ok (.aload_n 0, 1) := op_42 (rdSeg sd_24_cX8_check_0 11 rfl rfl)
theorem dX8_check_12 : decode cX8_check 12 = .ok (.getfield 29, 3) := op_180 (rdSeg sd_24_cX8_check_0 12 rfl rfl) (rdSeg sd_24_cX8_check_0 13 rfl rfl) (rdSeg sd_24_cX8_check_0 14 rfl rfl) rfl
theorem dX8_check_15 : decode cX8_check 15 = .ok (.aload_n 0, 1) := op_42 (rdSeg sd_24_cX8_check_0 15 rfl rfl)
theorem dX8_check_16 : decode cX8_check 16 = .ok (.getfield 12, 3) := op_180 (rdSeg sd_24_cX8_check_0 16 rfl rfl) (rdSeg sd_24_cX8_check_0 17 rfl rfl) (rdSeg sd_24_cX8_check_0 18 rfl rfl) rfl
theorem dX8_check_19 : decode cX8_check 19 = .ok (.getfield 284, 3) := op_180 (rdSeg sd_24_cX8_check_0 19 rfl rfl) (rdSeg sd_24_cX8_check_0 20 rfl rfl) (rdSeg sd_24_cX8_check_0 21 rfl rfl) rfl
theorem dX8_check_22 : decode cX8_check 22 = .ok (.invokevirtual 287, 3) := op_182 (rdSeg sd_24_cX8_check_0 22 rfl rfl) (rdSeg sd_24_cX8_check_0 23 rfl rfl) (rdSeg sd_24_cX8_check_0 24 rfl rfl) rfl
theorem dX8_check_25 : decode cX8_check 25 = .ok (.istore_n 1, 1) := op_60 (rdSeg sd_24_cX8_check_0 25 rfl rfl)
theorem dX8_check_26 : decode cX8_check 26 = .ok (.aload_n 0, 1) := op_42 (rdSeg sd_24_cX8_check_0 26 rfl rfl)
theorem dX8_check_27 : decode cX8_check 27 = .ok (.getfield 12, 3) := op_180 (rdSeg sd_24_cX8_check_0 27 rfl rfl) (rdSeg sd_24_cX8_check_0 28 rfl rfl) (rdSeg sd_24_cX8_check_0 29 rfl rfl) rfl
theorem dX8_check_30 : decode cX8_check 30 = .ok (.getfield 284, 3) := op_180 (rdSeg sd_24_cX8_check_0 30 rfl rfl) (rdSeg sd_24_cX8_check_0 31 rfl rfl) (rdSeg sd_24_cX8_check_1 0 rfl rfl) rfl
theorem dX8_check_33 : decode cX8_check 33 = .ok (.invokevirtual 150, 3) := op_182 (rdSeg sd_24_cX8_check_1 1 rfl rfl) (rdSeg sd_24_cX8_check_1 2 rfl rfl) (rdSeg sd_24_cX8_check_1 3 rfl rfl) rfl
theorem dX8_check_36 : decode cX8_check 36 = .ok (.iload_n 1, 1) := op_27 (rdSeg sd_24_cX8_check_1 4 rfl rfl)
theorem dX8_check_37 : decode cX8_check 37 = .ok (.iconst 1, 1) := op_4 (rdSeg sd_24_cX8_check_1 5 rfl rfl)
theorem dX8_check_38 : decode cX8_check 38 = .ok (.iadd, 1) := op_96 (rdSeg sd_24_cX8_check_1 6 rfl rfl)
theorem dX8_check_39 : decode cX8_check 39 = .ok (.ireturn, 1) := op_172 (rdSeg sd_24_cX8_check_1 7 rfl rfl)
def sg_24_cX8_count_5 : List UInt8 := [0xb4, 0x00, 0x2b, 0xb6, 0x00, 0xf6, 0xb6, 0x00, 0x8f, 0xac, 0x2a, 0xb4, 0x00, 0x0c, 0xb4, 0x00, 0x47, 0xb6, 0x01, 0x26, 0xac, 0x2a, 0x04, 0xb6, 0x00, 0x43, 0xac]
def sg_24_cX8_count_4 : List UInt8 := 0x00 :: 0x0c :: 0xb4 :: 0x00 :: 0x47 :: 0xb6 :: 0x00 :: 0x74 :: 0xac :: 0x2a :: 0xb4 :: 0x00 :: 0x0c :: 0xb4 :: 0x00 :: 0x84 :: 0xb6 :: 0x00 :: 0x8f :: 0xac :: 0x2a :: 0xb4 :: 0x00 :: 0x0c :: 0xb4 :: 0x01 :: 0x1c :: 0xb6 :: 0x00 :: 0x8f :: 0xac :: 0x2a :: sg_24_cX8_count_5
def sg_24_cX8_count_3 : List UInt8 := 0x0c :: 0xb4 :: 0x00 :: 0xb5 :: 0xb6 :: 0x00 :: 0x8f :: 0xac :: 0x2a :: 0xb4 :: 0x00 :: 0x0c :: 0xb4 :: 0x00 :: 0xb8 :: 0xb6 :: 0x00 :: 0x8f :: 0xac :: 0x2a :: 0xb4 :: 0x00 :: 0x0c :: 0xb4 :: 0x00 :: 0x47 :: 0xb6 :: 0x00 :: 0x7a :: 0xac :: 0x2a :: 0xb4 :: sg_24_cX8_count_4
def sg_24_cX8_count_2 : List UInt8 := 0xb4 :: 0x00 :: 0x47 :: 0xb6 :: 0x00 :: 0xdd :: 0xac :: 0x2a :: 0xb4 :: 0x00 :: 0x0c :: 0xb4 :: 0x00 :: 0x47 :: 0xb6 :: 0x01 :: 0x23 :: 0xac :: 0x2a :: 0xb4 :: 0x00 :: 0x0c :: 0xb4 :: 0x00 :: 0xa2 :: 0xb6 :: 0x00 :: 0x8f :: 0xac :: 0x2a :: 0xb4 :: 0x00 :: sg_24_cX8_count_3
def sg_24_cX8_count_1 : List UInt8 := 0x00 :: 0x00 :: 0x00 :: 0x67 :: 0x00 :: 0x00 :: 0x00 :: 0x72 :: 0x00 :: 0x00 :: 0x00 :: 0x7d :: 0x00 :: 0x00 :: 0x00 :: 0x88 :: 0x00 :: 0x00 :: 0x00 :: 0x93 :: 0x00 :: 0x00 :: 0x00 :: 0x9e :: 0x00 :: 0x00 :: 0x00 :: 0xa9 :: 0x2a :: 0xb4 :: 0x00 :: 0x0c :: sg_24_cX8_count_2
def sg_24_cX8_count_0 : List UInt8 := 0x1b :: 0xaa :: 0x00 :: 0x00 :: 0x00 :: 0x00 :: 0x00 :: 0xb4 :: 0x00 :: 0x00 :: 0x00 :: 0x00 :: 0x00 :: 0x00 :: 0x00 :: 0x0a :: 0x00 :: 0x00 :: 0x00 :: 0x3b :: 0x00 :: 0x00 :: 0x00 :: 0x46 :: 0x00 :: 0x00 :: 0x00 :: 0x51 :: 0x00 :: 0x00 :: 0x00 :: 0x5c :: sg_24_cX8_count_1
set_option maxRecDepth 100000 in
theorem sd_24_cX8_count_0 : cX8_count.data.toList.drop 0 = sg_24_cX8_count_0 := by decide +kernel
theorem sd_24_cX8_count_1 : cX8_count.data.toList.drop 32 = sg_24_cX8_count_1 := sg_next sd_24_cX8_count_0 rfl
theorem sd_24_cX8_count_2 : cX8_count.data.toList.drop 64 = sg_24_cX8_count_2 := sg_next sd_24_cX8_count_1 rfl
theorem sd_24_cX8_count_3 : cX8_count.data.toList.drop 96 = sg_24_cX8_count_3 := sg_next sd_24_cX8_count_2 rfl
theorem sd_24_cX8_count_4 : cX8_count.data.toList.drop 128 = sg_24_cX8_count_4 := sg_next sd_24_cX8_count_3 rfl
theorem sd_24_cX8_count_5 : cX8_count.data.toList.drop 160 = sg_24_cX8_count_5 := sg_next sd_24_cX8_count_4 rfl
theorem dX8_count_0 : decode cX8_count 0 = .ok (.iload_n 1, 1) := op_27 (rdSeg sd_24_cX8_count_0 0 rfl rfl)
theorem dX8_count_1 : decode cX8_count 1 = .ok (.tableswitch 180 0 10 #[59, 70, 81, 92, 103, 114, 125, 136, 147, 158, 169], 59) := by decide +kernel
theorem dX8_count_60 : decode cX8_count 60 = .ok (.aload_n 0, 1) := op_42 (rdSeg sd_24_cX8_count_1 28 rfl rfl)
theorem dX8_count_61 : decode cX8_count 61 = .ok (.getfield 12, 3) := op_180 (rdSeg sd_24_cX8_count_1 29 rfl rfl) (rdSeg sd_24_cX8_count_1 30 rfl rfl) (rdSeg sd_24_cX8_count_1 31 rfl rfl) rfl
theorem dX8_count_64 : decode cX8_count 64 = .ok (.getfield 71, 3) := op_180 (rdSeg sd_24_cX8_count_2 0 rfl rfl) (rdSeg sd_24_cX8_count_2 1 rfl rfl) (rdSeg sd_24_cX8_count_2 2 rfl rfl) rfl
theorem dX8_count_67 : decode cX8_count 67 = .ok (.invokevirtual 221, 3) := op_182 (rdSeg sd_24_cX8_count_2 3 rfl rfl) (rdSeg sd_24_cX8_count_2 4 rfl rfl) (rdSeg sd_24_cX8_count_2 5 rfl rfl) rfl
theorem dX8_count_70 : decode cX8_count 70 = .ok (.ireturn, 1) := op_172 (rdSeg sd_24_cX8_count_2 6 rfl rfl)
theorem dX8_count_71 : decode cX8_count 71 = .ok (.aload_n 0, 1) := op_42 (rdSeg sd_24_cX8_count_2 7 rfl rfl)
theorem dX8_count_72 : decode cX8_count 72 = .ok (.getfield 12, 3) := op_180 (rdSeg sd_24_cX8_count_2 8 rfl rfl) (rdSeg sd_24_cX8_count_2 9 rfl rfl) (rdSeg sd_24_cX8_count_2 10 rfl rfl) rfl
theorem dX8_count_75 : decode cX8_count 75 = .ok (.getfield 71, 3) := op_180 (rdSeg sd_24_cX8_count_2 11 rfl rfl) (rdSeg sd_24_cX8_count_2 12 rfl rfl) (rdSeg sd_24_cX8_count_2 13 rfl rfl) rfl
theorem dX8_count_78 : decode cX8_count 78 = .ok (.invokevirtual 291, 3) := op_182 (rdSeg sd_24_cX8_count_2 14 rfl rfl) (rdSeg sd_24_cX8_count_2 15 rfl rfl) (rdSeg sd_24_cX8_count_2 16 rfl rfl) rfl
theorem dX8_count_81 : decode cX8_count 81 = .ok (.ireturn, 1) := op_172 (rdSeg sd_24_cX8_count_2 17 rfl rfl)
theorem dX8_count_82 : decode cX8_count 82 = .ok (.aload_n 0, 1) := op_42 (rdSeg sd_24_cX8_count_2 18 rfl rfl)
theorem dX8_count_83 : decode cX8_count 83 = .ok (.getfield 12, 3) := op_180 (rdSeg sd_24_cX8_count_2 19 rfl rfl) (rdSeg sd_24_cX8_count_2 20 rfl rfl) (rdSeg sd_24_cX8_count_2 21 rfl rfl) rfl
theorem dX8_count_86 : decode cX8_count 86 = .ok (.getfield 162, 3) := op_180 (rdSeg sd_24_cX8_count_2 22 rfl rfl) (rdSeg sd_24_cX8_count_2 23 rfl rfl) (rdSeg sd_24_cX8_count_2 24 rfl rfl) rfl
theorem dX8_count_89 : decode cX8_count 89 = .ok (.invokevirtual 143, 3) := op_182 (rdSeg sd_24_cX8_count_2 25 rfl rfl) (rdSeg sd_24_cX8_count_2 26 rfl rfl) (rdSeg sd_24_cX8_count_2 27 rfl rfl) rfl
theorem dX8_count_92 : decode cX8_count 92 = .ok (.ireturn, 1) := op_172 (rdSeg sd_24_cX8_count_2 28 rfl rfl)
theorem dX8_count_93 : decode cX8_count 93 = .ok (.aload_n 0, 1) := op_42 (rdSeg sd_24_cX8_count_2 29 rfl rfl)
theorem dX8_count_94 : decode cX8_count 94 = .ok (.getfield 12, 3) := op_180 (rdSeg sd_24_cX8_count_2 30 rfl rfl) (rdSeg sd_24_cX8_count_2 31 rfl rfl) (rdSeg sd_24_cX8_count_3 0 rfl rfl) rfl
theorem dX8_count_97 : decode cX8_count 97 = .ok (.getfield 181, 3) := op_180 (rdSeg sd_24_cX8_count_3 1 rfl rfl) (rdSeg sd_24_cX8_count_3 2 rfl rfl) (rdSeg sd_24_cX8_count_3 3 rfl rfl) rfl
theorem dX8_count_100 : decode cX8_count 100 = .ok (.invokevirtual 143, 3) := op_182 (rdSeg sd_24_cX8_count_3 4 rfl rfl) (rdSeg sd_24_cX8_count_3 5 rfl rfl) (rdSeg sd_24_cX8_count_3 6 rfl rfl) rfl
theorem dX8_count_103 : decode cX8_count 103 = .ok (.ireturn, 1) := op_172 (rdSeg sd_24_cX8_count_3 7 rfl rfl)
theorem dX8_count_104 : decode cX8_count 104 = .ok (.aload_n 0, 1) := op_42 (rdSeg sd_24_cX8_count_3 8 rfl rfl)
theorem dX8_count_105 : decode cX8_count 105 = .ok (.getfield 12, 3) := op_180 (rdSeg sd_24_cX8_count_3 9 rfl rfl) (rdSeg sd_24_cX8_count_3 10 rfl rfl) (rdSeg sd_24_cX8_count_3 11 rfl rfl) rfl
theorem dX8_count_108 : decode cX8_count 108 = .ok (.getfield 184, 3) := op_180 (rdSeg sd_24_cX8_count_3 12 rfl rfl) (rdSeg sd_24_cX8_count_3 13 rfl rfl) (rdSeg sd_24_cX8_count_3 14 rfl rfl) rfl
theorem dX8_count_111 : decode cX8_count 111 = .ok (.invokevirtual 143, 3) := op_182 (rdSeg sd_24_cX8_count_3 15 rfl rfl) (rdSeg sd_24_cX8_count_3 16 rfl rfl) (rdSeg sd_24_cX8_count_3 17 rfl rfl) rfl
theorem dX8_count_114 : decode cX8_count 114 = .ok (.ireturn, 1) := op_172 (rdSeg sd_24_cX8_count_3 18 rfl rfl)
theorem dX8_count_115 : decode cX8_count 115 = .ok (.aload_n 0, 1) := op_42 (rdSeg sd_24_cX8_count_3 19 rfl rfl)
theorem dX8_count_116 : decode cX8_count 116 = .ok (.getfield 12, 3) := op_180 (rdSeg sd_24_cX8_count_3 20 rfl rfl) (rdSeg sd_24_cX8_count_3 21 rfl rfl) (rdSeg sd_24_cX8_count_3 22 rfl rfl) rfl
theorem dX8_count_119 : decode cX8_count 119 = .ok (.getfield 71, 3) := op_180 (rdSeg sd_24_cX8_count_3 23 rfl rfl) (rdSeg sd_24_cX8_count_3 24 rfl rfl) (rdSeg sd_24_cX8_count_3 25 rfl rfl) rfl
theorem dX8_count_122 : decode cX8_count 122 = .ok (.invokevirtual 122, 3) := op_182 (rdSeg sd_24_cX8_count_3 26 rfl rfl) (rdSeg sd_24_cX8_count_3 27 rfl rfl) (rdSeg sd_24_cX8_count_3 28 rfl rfl) rfl
theorem dX8_count_125 : decode cX8_count 125 = .ok (.ireturn, 1) := op_172 (rdSeg sd_24_cX8_count_3 29 rfl rfl)
theorem dX8_count_126 : decode cX8_count 126 = .ok (.aload_n 0, 1) := op_42 (rdSeg sd_24_cX8_count_3 30 rfl rfl)
theorem dX8_count_127 : decode cX8_count 127 = .ok (.getfield 12, 3) := op_180 (rdSeg sd_24_cX8_count_3 31 rfl rfl) (rdSeg sd_24_cX8_count_4 0 rfl rfl) (rdSeg sd_24_cX8_count_4 1 rfl rfl) rfl
theorem dX8_count_130 : decode cX8_count 130 = .ok (.getfield 71, 3) := op_180 (rdSeg sd_24_cX8_count_4 2 rfl rfl) (rdSeg sd_24_cX8_count_4 3 rfl rfl) (rdSeg sd_24_cX8_count_4 4 rfl rfl) rfl
theorem dX8_count_133 : decode cX8_count 133 = .ok (.invokevirtual 116, 3) := op_182 (rdSeg sd_24_cX8_count_4 5 rfl rfl) (rdSeg sd_24_cX8_count_4 6 rfl rfl) (rdSeg sd_24_cX8_count_4 7 rfl rfl) rfl
theorem dX8_count_136 : decode cX8_count 136 = .ok (.ireturn, 1) := op_172 (rdSeg sd_24_cX8_count_4 8 rfl rfl)
theorem dX8_count_137 : decode cX8_count 137 = .ok (.aload_n 0, 1) := op_42 (rdSeg sd_24_cX8_count_4 9 rfl rfl)
theorem dX8_count_138 : decode cX8_count 138 = .ok (.getfield 12, 3) := op_180 (rdSeg sd_24_cX8_count_4 10 rfl rfl) (rdSeg sd_24_cX8_count_4 11 rfl rfl) (rdSeg sd_24_cX8_count_4 12 rfl rfl) rfl
theorem dX8_count_141 : decode cX8_count 141 = .ok (.getfield 132, 3) := op_180 (rdSeg sd_24_cX8_count_4 13 rfl rfl) (rdSeg sd_24_cX8_count_4 14 rfl rfl) (rdSeg sd_24_cX8_count_4 15 rfl rfl) rfl
theorem dX8_count_144 : decode cX8_count 144 = .ok (.invokevirtual 143, 3) := op_182 (rdSeg sd_24_cX8_count_4 16 rfl rfl) (rdSeg sd_24_cX8_count_4 17 rfl rfl) (rdSeg sd_24_cX8_count_4 18 rfl rfl) rfl
theorem dX8_count_147 : decode cX8_count 147 = .ok (.ireturn, 1) := op_172 (rdSeg sd_24_cX8_count_4 19 rfl rfl)
theorem dX8_count_148 : decode cX8_count 148 = .ok (.aload_n 0, 1) := op_42 (rdSeg sd_24_cX8_count_4 20 rfl rfl)
theorem dX8_count_149 : decode cX8_count 149 = .ok (.getfield 12, 3) := op_180 (rdSeg sd_24_cX8_count_4 21 rfl rfl) (rdSeg sd_24_cX8_count_4 22 rfl rfl) (rdSeg sd_24_cX8_count_4 23 rfl rfl) rfl
theorem dX8_count_152 : decode cX8_count 152 = .ok (.getfield 284, 3) := op_180 (rdSeg sd_24_cX8_count_4 24 rfl rfl) (rdSeg sd_24_cX8_count_4 25 rfl rfl) (rdSeg sd_24_cX8_count_4 26 rfl rfl) rfl
theorem dX8_count_155 : decode cX8_count 155 = .ok (.invokevirtual 143, 3) := op_182 (rdSeg sd_24_cX8_count_4 27 rfl rfl) (rdSeg sd_24_cX8_count_4 28 rfl rfl) (rdSeg sd_24_cX8_count_4 29 rfl rfl) rfl
theorem dX8_count_158 : decode cX8_count 158 = .ok (.ireturn, 1) := op_172 (rdSeg sd_24_cX8_count_4 30 rfl rfl)
theorem dX8_count_159 : decode cX8_count 159 = .ok (.aload_n 0, 1) := op_42 (rdSeg sd_24_cX8_count_4 31 rfl rfl)
theorem dX8_count_160 : decode cX8_count 160 = .ok (.getfield 43, 3) := op_180 (rdSeg sd_24_cX8_count_5 0 rfl rfl) (rdSeg sd_24_cX8_count_5 1 rfl rfl) (rdSeg sd_24_cX8_count_5 2 rfl rfl) rfl
theorem dX8_count_163 : decode cX8_count 163 = .ok (.invokevirtual 246, 3) := op_182 (rdSeg sd_24_cX8_count_5 3 rfl rfl) (rdSeg sd_24_cX8_count_5 4 rfl rfl) (rdSeg sd_24_cX8_count_5 5 rfl rfl) rfl
theorem dX8_count_166 : decode cX8_count 166 = .ok (.invokevirtual 143, 3) := op_182 (rdSeg sd_24_cX8_count_5 6 rfl rfl) (rdSeg sd_24_cX8_count_5 7 rfl rfl) (rdSeg sd_24_cX8_count_5 8 rfl rfl) rfl
theorem dX8_count_169 : decode cX8_count 169 = .ok (.ireturn, 1) := op_172 (rdSeg sd_24_cX8_count_5 9 rfl rfl)
theorem dX8_count_170 : decode cX8_count 170 = .ok (.aload_n 0, 1) := op_42 (rdSeg sd_24_cX8_count_5 10 rfl rfl)
theorem dX8_count_171 : decode cX8_count 171 = .ok (.getfield 12, 3) := op_180 (rdSeg sd_24_cX8_count_5 11 rfl rfl) (rdSeg sd_24_cX8_count_5 12 rfl rfl) (rdSeg sd_24_cX8_count_5 13 rfl rfl) rfl
theorem dX8_count_174 : decode cX8_count 174 = .ok (.getfield 71, 3) := op_180 (rdSeg sd_24_cX8_count_5 14 rfl rfl) (rdSeg sd_24_cX8_count_5 15 rfl rfl) (rdSeg sd_24_cX8_count_5 16 rfl rfl) rfl
theorem dX8_count_177 : decode cX8_count 177 = .ok (.invokevirtual 294, 3) := op_182 (rdSeg sd_24_cX8_count_5 17 rfl rfl) (rdSeg sd_24_cX8_count_5 18 rfl rfl) (rdSeg sd_24_cX8_count_5 19 rfl rfl) rfl
theorem dX8_count_180 : decode cX8_count 180 = .ok (.ireturn, 1) := op_172 (rdSeg sd_24_cX8_count_5 20 rfl rfl)
theorem dX8_count_181 : decode cX8_count 181 = .ok (.aload_n 0, 1) := op_42 (rdSeg sd_24_cX8_count_5 21 rfl rfl)
theorem dX8_count_182 : decode cX8_count 182 = .ok (.iconst 1, 1) := op_4 (rdSeg sd_24_cX8_count_5 22 rfl rfl)
theorem dX8_count_183 : decode cX8_count 183 = .ok (.invokevirtual 67, 3) := op_182 (rdSeg sd_24_cX8_count_5 23 rfl rfl) (rdSeg sd_24_cX8_count_5 24 rfl rfl) (rdSeg sd_24_cX8_count_5 25 rfl rfl) rfl
theorem dX8_count_186 : decode cX8_count 186 = .ok (.ireturn, 1) := op_172 (rdSeg sd_24_cX8_count_5 26 rfl rfl)
def sg_24_cX8_told_0 : List UInt8 := [0x1b, 0x04, 0xa1, 0x00, 0x15, 0x1b, 0x2a, 0xb4, 0x00, 0x35, 0xbe, 0xa2, 0x00, 0x0c, 0x2a, 0xb4, 0x00, 0x35, 0x1b, 0x2e, 0xa7, 0x00, 0x08, 0x2a, 0x04, 0xb6, 0x00, 0x43, 0xac]
set_option maxRecDepth 100000 in
theorem sd_24_cX8_told_0 : cX8_told.data.toList.drop 0 = sg_24_cX8_told_0 := by decide +kernel
theorem dX8_told_0 : decode cX8_told 0 = .ok (.iload_n 1, 1) := op_27 (rdSeg sd_24_cX8_told_0 0 rfl rfl)
theorem dX8_told_1 : decode cX8_told 1 = .ok (.iconst 1, 1) := op_4 (rdSeg sd_24_cX8_told_0 1 rfl rfl)
theorem dX8_told_2 : decode cX8_told 2 = .ok (.if_icmp .lt 21, 3) := op_161 (rdSeg sd_24_cX8_told_0 2 rfl rfl) (rdSeg sd_24_cX8_told_0 3 rfl rfl) (rdSeg sd_24_cX8_told_0 4 rfl rfl) (by decide +kernel)
theorem dX8_told_5 : decode cX8_told 5 = .ok (.iload_n 1, 1) := op_27 (rdSeg sd_24_cX8_told_0 5 rfl rfl)
theorem dX8_told_6 : decode cX8_told 6 = .ok (.aload_n 0, 1) := op_42 (rdSeg sd_24_cX8_told_0 6 rfl rfl)
theorem dX8_told_7 : decode cX8_told 7 = .ok (.getfield 53, 3) := op_180 (rdSeg sd_24_cX8_told_0 7 rfl rfl) (rdSeg sd_24_cX8_told_0 8 rfl rfl) (rdSeg sd_24_cX8_told_0 9 rfl rfl) rfl
theorem dX8_told_10 : decode cX8_told 10 = .ok (.arraylength, 1) := op_190 (rdSeg sd_24_cX8_told_0 10 rfl rfl)
theorem dX8_told_11 : decode cX8_told 11 = .ok (.if_icmp .ge 12, 3) := op_162 (rdSeg sd_24_cX8_told_0 11 rfl rfl) (rdSeg sd_24_cX8_told_0 12 rfl rfl) (rdSeg sd_24_cX8_told_0 13 rfl rfl) (by decide +kernel)
theorem dX8_told_14 : decode cX8_told 14 = .ok (.aload_n 0, 1) := op_42 (rdSeg sd_24_cX8_told_0 14 rfl rfl)
theorem dX8_told_15 : decode cX8_told 15 = .ok (.getfield 53, 3) := op_180 (rdSeg sd_24_cX8_told_0 15 rfl rfl) (rdSeg sd_24_cX8_told_0 16 rfl rfl) (rdSeg sd_24_cX8_told_0 17 rfl rfl) rfl
theorem dX8_told_18 : decode cX8_told 18 = .ok (.iload_n 1, 1) := op_27 (rdSeg sd_24_cX8_told_0 18 rfl rfl)
theorem dX8_told_19 : decode cX8_told 19 = .ok (.iaload, 1) := op_46 (rdSeg sd_24_cX8_told_0 19 rfl rfl)
theorem dX8_told_20 : decode cX8_told 20 = .ok (.goto 8, 3) := op_167 (rdSeg sd_24_cX8_told_0 20 rfl rfl) (rdSeg sd_24_cX8_told_0 21 rfl rfl) (rdSeg sd_24_cX8_told_0 22 rfl rfl) (by decide +kernel)
theorem dX8_told_23 : decode cX8_told 23 = .ok (.aload_n 0, 1) := op_42 (rdSeg sd_24_cX8_told_0 23 rfl rfl)
theorem dX8_told_24 : decode cX8_told 24 = .ok (.iconst 1, 1) := op_4 (rdSeg sd_24_cX8_told_0 24 rfl rfl)
theorem dX8_told_25 : decode cX8_told 25 = .ok (.invokevirtual 67, 3) := op_182 (rdSeg sd_24_cX8_told_0 25 rfl rfl) (rdSeg sd_24_cX8_told_0 26 rfl rfl) (rdSeg sd_24_cX8_told_0 27 rfl rfl) rfl
theorem dX8_told_28 : decode cX8_told 28 = .ok (.ireturn, 1) := op_172 (rdSeg sd_24_cX8_told_0 28 rfl rfl)
def sg_24_cX8_refuse_0 : List UInt8 := [0x1b, 0x9b, 0x00, 0x16, 0x1b, 0x2a, 0xb4, 0x00, 0x35, 0xbe, 0xa2, 0x00, 0x0d, 0x2a, 0xb4, 0x00, 0x35, 0x1b, 0x5c, 0x2e, 0x04, 0x60, 0x4f, 0x13, 0x01, 0x29, 0x1b, 0x64, 0xac]
set_option maxRecDepth 100000 in
theorem sd_24_cX8_refuse_0 : cX8_refuse.data.toList.drop 0 = sg_24_cX8_refuse_0 := by decide +kernel
theorem dX8_refuse_0 : decode cX8_refuse 0 = .ok (.iload_n 1, 1) := op_27 (rdSeg sd_24_cX8_refuse_0 0 rfl rfl)
theorem dX8_refuse_1 : decode cX8_refuse 1 = .ok (.ifCond .lt 22, 3) := op_155 (rdSeg sd_24_cX8_refuse_0 1 rfl rfl) (rdSeg sd_24_cX8_refuse_0 2 rfl rfl) (rdSeg sd_24_cX8_refuse_0 3 rfl rfl) (by decide +kernel)
theorem dX8_refuse_4 : decode cX8_refuse 4 = .ok (.iload_n 1, 1) := op_27 (rdSeg sd_24_cX8_refuse_0 4 rfl rfl)
theorem dX8_refuse_5 : decode cX8_refuse 5 = .ok (.aload_n 0, 1) := op_42 (rdSeg sd_24_cX8_refuse_0 5 rfl rfl)
theorem dX8_refuse_6 : decode cX8_refuse 6 = .ok (.getfield 53, 3) := op_180 (rdSeg sd_24_cX8_refuse_0 6 rfl rfl) (rdSeg sd_24_cX8_refuse_0 7 rfl rfl) (rdSeg sd_24_cX8_refuse_0 8 rfl rfl) rfl
theorem dX8_refuse_9 : decode cX8_refuse 9 = .ok (.arraylength, 1) := op_190 (rdSeg sd_24_cX8_refuse_0 9 rfl rfl)
theorem dX8_refuse_10 : decode cX8_refuse 10 = .ok (.if_icmp .ge 13, 3) := op_162 (rdSeg sd_24_cX8_refuse_0 10 rfl rfl) (rdSeg sd_24_cX8_refuse_0 11 rfl rfl) (rdSeg sd_24_cX8_refuse_0 12 rfl rfl) (by decide +kernel)
theorem dX8_refuse_13 : decode cX8_refuse 13 = .ok (.aload_n 0, 1) := op_42 (rdSeg sd_24_cX8_refuse_0 13 rfl rfl)
theorem dX8_refuse_14 : decode cX8_refuse 14 = .ok (.getfield 53, 3) := op_180 (rdSeg sd_24_cX8_refuse_0 14 rfl rfl) (rdSeg sd_24_cX8_refuse_0 15 rfl rfl) (rdSeg sd_24_cX8_refuse_0 16 rfl rfl) rfl
theorem dX8_refuse_17 : decode cX8_refuse 17 = .ok (.iload_n 1, 1) := op_27 (rdSeg sd_24_cX8_refuse_0 17 rfl rfl)
theorem dX8_refuse_18 : decode cX8_refuse 18 = .ok (.dup2, 1) := op_92 (rdSeg sd_24_cX8_refuse_0 18 rfl rfl)
theorem dX8_refuse_19 : decode cX8_refuse 19 = .ok (.iaload, 1) := op_46 (rdSeg sd_24_cX8_refuse_0 19 rfl rfl)
theorem dX8_refuse_20 : decode cX8_refuse 20 = .ok (.iconst 1, 1) := op_4 (rdSeg sd_24_cX8_refuse_0 20 rfl rfl)
theorem dX8_refuse_21 : decode cX8_refuse 21 = .ok (.iadd, 1) := op_96 (rdSeg sd_24_cX8_refuse_0 21 rfl rfl)
theorem dX8_refuse_22 : decode cX8_refuse 22 = .ok (.iastore, 1) := op_79 (rdSeg sd_24_cX8_refuse_0 22 rfl rfl)
theorem dX8_refuse_23 : decode cX8_refuse 23 = .ok (.ldc_w 297, 3) := op_19 (rdSeg sd_24_cX8_refuse_0 23 rfl rfl) (rdSeg sd_24_cX8_refuse_0 24 rfl rfl) (rdSeg sd_24_cX8_refuse_0 25 rfl rfl) rfl
theorem dX8_refuse_26 : decode cX8_refuse 26 = .ok (.iload_n 1, 1) := op_27 (rdSeg sd_24_cX8_refuse_0 26 rfl rfl)
theorem dX8_refuse_27 : decode cX8_refuse 27 = .ok (.isub, 1) := op_100 (rdSeg sd_24_cX8_refuse_0 27 rfl rfl)
theorem dX8_refuse_28 : decode cX8_refuse 28 = .ok (.ireturn, 1) := op_172 (rdSeg sd_24_cX8_refuse_0 28 rfl rfl)
def sg_24_cX8_sheetAt_0 : List UInt8 := [0x1b, 0x9b, 0x00, 0x15, 0x1b, 0x2a, 0xb4, 0x00, 0x31, 0xbe, 0xa2, 0x00, 0x0c, 0x2a, 0xb4, 0x00, 0x31, 0x1b, 0x32, 0xa7, 0x00, 0x04, 0x01, 0xb0]
set_option maxRecDepth 100000 in
theorem sd_24_cX8_sheetAt_0 : cX8_sheetAt.data.toList.drop 0 = sg_24_cX8_sheetAt_0 := by decide +kernel
theorem dX8_sheetAt_0 : decode cX8_sheetAt 0 = .ok (.iload_n 1, 1) := op_27 (rdSeg sd_24_cX8_sheetAt_0 0 rfl rfl)
theorem dX8_sheetAt_1 : decode cX8_sheetAt 1 = .ok (.ifCond .lt 21, 3) := op_155 (rdSeg sd_24_cX8_sheetAt_0 1 rfl rfl) (rdSeg sd_24_cX8_sheetAt_0 2 rfl rfl) (rdSeg sd_24_cX8_sheetAt_0 3 rfl rfl) (by decide +kernel)
theorem dX8_sheetAt_4 : decode cX8_sheetAt 4 = .ok (.iload_n 1, 1) := op_27 (rdSeg sd_24_cX8_sheetAt_0 4 rfl rfl)
theorem dX8_sheetAt_5 : decode cX8_sheetAt 5 = .ok (.aload_n 0, 1) := op_42 (rdSeg sd_24_cX8_sheetAt_0 5 rfl rfl)
theorem dX8_sheetAt_6 : decode cX8_sheetAt 6 = .ok (.getfield 49, 3) := op_180 (rdSeg sd_24_cX8_sheetAt_0 6 rfl rfl) (rdSeg sd_24_cX8_sheetAt_0 7 rfl rfl) (rdSeg sd_24_cX8_sheetAt_0 8 rfl rfl) rfl
theorem dX8_sheetAt_9 : decode cX8_sheetAt 9 = .ok (.arraylength, 1) := op_190 (rdSeg sd_24_cX8_sheetAt_0 9 rfl rfl)
theorem dX8_sheetAt_10 : decode cX8_sheetAt 10 = .ok (.if_icmp .ge 12, 3) := op_162 (rdSeg sd_24_cX8_sheetAt_0 10 rfl rfl) (rdSeg sd_24_cX8_sheetAt_0 11 rfl rfl) (rdSeg sd_24_cX8_sheetAt_0 12 rfl rfl) (by decide +kernel)
theorem dX8_sheetAt_13 : decode cX8_sheetAt 13 = .ok (.aload_n 0, 1) := op_42 (rdSeg sd_24_cX8_sheetAt_0 13 rfl rfl)
theorem dX8_sheetAt_14 : decode cX8_sheetAt 14 = .ok (.getfield 49, 3) := op_180 (rdSeg sd_24_cX8_sheetAt_0 14 rfl rfl) (rdSeg sd_24_cX8_sheetAt_0 15 rfl rfl) (rdSeg sd_24_cX8_sheetAt_0 16 rfl rfl) rfl
theorem dX8_sheetAt_17 : decode cX8_sheetAt 17 = .ok (.iload_n 1, 1) := op_27 (rdSeg sd_24_cX8_sheetAt_0 17 rfl rfl)
theorem dX8_sheetAt_18 : decode cX8_sheetAt 18 = .ok (.aaload, 1) := op_50 (rdSeg sd_24_cX8_sheetAt_0 18 rfl rfl)
theorem dX8_sheetAt_19 : decode cX8_sheetAt 19 = .ok (.goto 4, 3) := op_167 (rdSeg sd_24_cX8_sheetAt_0 19 rfl rfl) (rdSeg sd_24_cX8_sheetAt_0 20 rfl rfl) (rdSeg sd_24_cX8_sheetAt_0 21 rfl rfl) (by decide +kernel)
theorem dX8_sheetAt_22 : decode cX8_sheetAt 22 = .ok (.aconst_null, 1) := op_1 (rdSeg sd_24_cX8_sheetAt_0 22 rfl rfl)
theorem dX8_sheetAt_23 : decode cX8_sheetAt 23 = .ok (.areturn, 1) := op_176 (rdSeg sd_24_cX8_sheetAt_0 23 rfl rfl)
def sg_24_cX8_allPapers_0 : List UInt8 := [0x04, 0x2a, 0xb4, 0x00, 0x0c, 0xb4, 0x00, 0xb5, 0xb6, 0x00, 0x8f, 0x78, 0x04, 0x64, 0xac]
set_option maxRecDepth 100000 in
theorem sd_24_cX8_allPapers_0 : cX8_allPapers.data.toList.drop 0 = sg_24_cX8_allPapers_0 := by decide +kernel
theorem dX8_allPapers_0 : decode cX8_allPapers 0 = .ok (.iconst 1, 1) := op_4 (rdSeg sd_24_cX8_allPapers_0 0 rfl rfl)
theorem dX8_allPapers_1 : decode cX8_allPapers 1 = .ok (.aload_n 0, 1) := op_42 (rdSeg sd_24_cX8_allPapers_0 1 rfl rfl)
theorem dX8_allPapers_2 : decode cX8_allPapers 2 = .ok (.getfield 12, 3) := op_180 (rdSeg sd_24_cX8_allPapers_0 2 rfl rfl) (rdSeg sd_24_cX8_allPapers_0 3 rfl rfl) (rdSeg sd_24_cX8_allPapers_0 4 rfl rfl) rfl
theorem dX8_allPapers_5 : decode cX8_allPapers 5 = .ok (.getfield 181, 3) := op_180 (rdSeg sd_24_cX8_allPapers_0 5 rfl rfl) (rdSeg sd_24_cX8_allPapers_0 6 rfl rfl) (rdSeg sd_24_cX8_allPapers_0 7 rfl rfl) rfl
theorem dX8_allPapers_8 : decode cX8_allPapers 8 = .ok (.invokevirtual 143, 3) := op_182 (rdSeg sd_24_cX8_allPapers_0 8 rfl rfl) (rdSeg sd_24_cX8_allPapers_0 9 rfl rfl) (rdSeg sd_24_cX8_allPapers_0 10 rfl rfl) rfl
theorem dX8_allPapers_11 : decode cX8_allPapers 11 = .ok (.ishl, 1) := op_120 (rdSeg sd_24_cX8_allPapers_0 11 rfl rfl)
theorem dX8_allPapers_12 : decode cX8_allPapers 12 = .ok (.iconst 1, 1) := op_4 (rdSeg sd_24_cX8_allPapers_0 12 rfl rfl)
theorem dX8_allPapers_13 : decode cX8_allPapers 13 = .ok (.isub, 1) := op_100 (rdSeg sd_24_cX8_allPapers_0 13 rfl rfl)
theorem dX8_allPapers_14 : decode cX8_allPapers 14 = .ok (.ireturn, 1) := op_172 (rdSeg sd_24_cX8_allPapers_0 14 rfl rfl)
def sg_24_cX8_isHistory_0 : List UInt8 := [0x1b, 0x03, 0x2a, 0xb6, 0x00, 0xc9, 0xb8, 0x00, 0x3f, 0xac]
set_option maxRecDepth 100000 in
theorem sd_24_cX8_isHistory_0 : cX8_isHistory.data.toList.drop 0 = sg_24_cX8_isHistory_0 := by decide +kernel
theorem dX8_isHistory_0 : decode cX8_isHistory 0 = .ok (.iload_n 1, 1) := op_27 (rdSeg sd_24_cX8_isHistory_0 0 rfl rfl)
theorem dX8_isHistory_1 : decode cX8_isHistory 1 = .ok (.iconst 0, 1) := op_3 (rdSeg sd_24_cX8_isHistory_0 1 rfl rfl)
theorem dX8_isHistory_2 : decode cX8_isHistory 2 = .ok (.aload_n 0, 1) := op_42 (rdSeg sd_24_cX8_isHistory_0 2 rfl rfl)
theorem dX8_isHistory_3 : decode cX8_isHistory 3 = .ok (.invokevirtual 201, 3) := op_182 (rdSeg sd_24_cX8_isHistory_0 3 rfl rfl) (rdSeg sd_24_cX8_isHistory_0 4 rfl rfl) (rdSeg sd_24_cX8_isHistory_0 5 rfl rfl) rfl
theorem dX8_isHistory_6 : decode cX8_isHistory 6 = .ok (.invokestatic 63, 3) := op_184 (rdSeg sd_24_cX8_isHistory_0 6 rfl rfl) (rdSeg sd_24_cX8_isHistory_0 7 rfl rfl) (rdSeg sd_24_cX8_isHistory_0 8 rfl rfl) rfl
theorem dX8_isHistory_9 : decode cX8_isHistory 9 = .ok (.ireturn, 1) := op_172 (rdSeg sd_24_cX8_isHistory_0 9 rfl rfl)
def sg_24_cX8_isPaper_1 : List UInt8 := [0x11, 0x1d, 0x04, 0x10, 0x08, 0xb8, 0x00, 0x3f, 0x99, 0x00, 0x07, 0x04, 0xa7, 0x00, 0x04, 0x03, 0xac]
def sg_24_cX8_isPaper_0 : List UInt8 := 0x2a :: 0xb4 :: 0x00 :: 0x0c :: 0xb4 :: 0x00 :: 0x47 :: 0x1b :: 0xb6 :: 0x00 :: 0x52 :: 0x99 :: 0x00 :: 0x24 :: 0x2a :: 0xb4 :: 0x00 :: 0x0c :: 0xb4 :: 0x00 :: 0x47 :: 0x1c :: 0xb6 :: 0x00 :: 0x52 :: 0x99 :: 0x00 :: 0x16 :: 0x1b :: 0x1c :: 0x9f :: 0x00 :: sg_24_cX8_isPaper_1
set_option maxRecDepth 100000 in
theorem sd_24_cX8_isPaper_0 : cX8_isPaper.data.toList.drop 0 = sg_24_cX8_isPaper_0 := by decide +kernel
theorem sd_24_cX8_isPaper_1 : cX8_isPaper.data.toList.drop 32 = sg_24_cX8_isPaper_1 := sg_next sd_24_cX8_isPaper_0 rfl
theorem dX8_isPaper_0 : decode cX8_isPaper 0 = .ok (.aload_n 0, 1) := op_42 (rdSeg sd_24_cX8_isPaper_0 0 rfl rfl)
theorem dX8_isPaper_1 : decode cX8_isPaper 1 = .ok (.getfield 12, 3) := op_180 (rdSeg sd_24_cX8_isPaper_0 1 rfl rfl) (rdSeg sd_24_cX8_isPaper_0 2 rfl rfl) (rdSeg sd_24_cX8_isPaper_0 3 rfl rfl) rfl
theorem dX8_isPaper_4 : decode cX8_isPaper 4 = .ok (.getfield 71, 3) := op_180 (rdSeg sd_24_cX8_isPaper_0 4 rfl rfl) (rdSeg sd_24_cX8_isPaper_0 5 rfl rfl) (rdSeg sd_24_cX8_isPaper_0 6 rfl rfl) rfl
theorem dX8_isPaper_7 : decode cX8_isPaper 7 = .ok (.iload_n 1, 1) := op_27 (rdSeg sd_24_cX8_isPaper_0 7 rfl rfl)
theorem dX8_isPaper_8 : decode cX8_isPaper 8 = .ok (.invokevirtual 82, 3) := op_182 (rdSeg sd_24_cX8_isPaper_0 8 rfl rfl) (rdSeg sd_24_cX8_isPaper_0 9 rfl rfl) (rdSeg sd_24_cX8_isPaper_0 10 rfl rfl) rfl
theorem dX8_isPaper_11 : decode cX8_isPaper 11 = .ok (.ifCond .eq 36, 3) := op_153 (rdSeg sd_24_cX8_isPaper_0 11 rfl rfl) (rdSeg sd_24_cX8_isPaper_0 12 rfl rfl) (rdSeg sd_24_cX8_isPaper_0 13 rfl rfl) (by decide +kernel)
theorem dX8_isPaper_14 : decode cX8_isPaper 14 = .ok (.aload_n 0, 1) := op_42 (rdSeg sd_24_cX8_isPaper_0 14 rfl rfl)
theorem dX8_isPaper_15 : decode cX8_isPaper 15 = .ok (.getfield 12, 3) := op_180 (rdSeg sd_24_cX8_isPaper_0 15 rfl rfl) (rdSeg sd_24_cX8_isPaper_0 16 rfl rfl) (rdSeg sd_24_cX8_isPaper_0 17 rfl rfl) rfl
theorem dX8_isPaper_18 : decode cX8_isPaper 18 = .ok (.getfield 71, 3) := op_180 (rdSeg sd_24_cX8_isPaper_0 18 rfl rfl) (rdSeg sd_24_cX8_isPaper_0 19 rfl rfl) (rdSeg sd_24_cX8_isPaper_0 20 rfl rfl) rfl
theorem dX8_isPaper_21 : decode cX8_isPaper 21 = .ok (.iload_n 2, 1) := op_28 (rdSeg sd_24_cX8_isPaper_0 21 rfl rfl)
theorem dX8_isPaper_22 : decode cX8_isPaper 22 = .ok (.invokevirtual 82, 3) := op_182 (rdSeg sd_24_cX8_isPaper_0 22 rfl rfl) (rdSeg sd_24_cX8_isPaper_0 23 rfl rfl) (rdSeg sd_24_cX8_isPaper_0 24 rfl rfl) rfl
theorem dX8_isPaper_25 : decode cX8_isPaper 25 = .ok (.ifCond .eq 22, 3) := op_153 (rdSeg sd_24_cX8_isPaper_0 25 rfl rfl) (rdSeg sd_24_cX8_isPaper_0 26 rfl rfl) (rdSeg sd_24_cX8_isPaper_0 27 rfl rfl) (by decide +kernel)
theorem dX8_isPaper_28 : decode cX8_isPaper 28 = .ok (.iload_n 1, 1) := op_27 (rdSeg sd_24_cX8_isPaper_0 28 rfl rfl)
theorem dX8_isPaper_29 : decode cX8_isPaper 29 = .ok (.iload_n 2, 1) := op_28 (rdSeg sd_24_cX8_isPaper_0 29 rfl rfl)
theorem dX8_isPaper_30 : decode cX8_isPaper 30 = .ok (.if_icmp .eq 17, 3) := op_159 (rdSeg sd_24_cX8_isPaper_0 30 rfl rfl) (rdSeg sd_24_cX8_isPaper_0 31 rfl rfl) (rdSeg sd_24_cX8_isPaper_1 0 rfl rfl) (by decide +kernel)
theorem dX8_isPaper_33 : decode cX8_isPaper 33 = .ok (.iload_n 3, 1) := op_29 (rdSeg sd_24_cX8_isPaper_1 1 rfl rfl)
theorem dX8_isPaper_34 : decode cX8_isPaper 34 = .ok (.iconst 1, 1) := op_4 (rdSeg sd_24_cX8_isPaper_1 2 rfl rfl)
theorem dX8_isPaper_35 : decode cX8_isPaper 35 = .ok (.bipush 8, 2) := op_16 (rdSeg sd_24_cX8_isPaper_1 3 rfl rfl) (rdSeg sd_24_cX8_isPaper_1 4 rfl rfl) (by decide +kernel)
theorem dX8_isPaper_37 : decode cX8_isPaper 37 = .ok (.invokestatic 63, 3) := op_184 (rdSeg sd_24_cX8_isPaper_1 5 rfl rfl) (rdSeg sd_24_cX8_isPaper_1 6 rfl rfl) (rdSeg sd_24_cX8_isPaper_1 7 rfl rfl) rfl
theorem dX8_isPaper_40 : decode cX8_isPaper 40 = .ok (.ifCond .eq 7, 3) := op_153 (rdSeg sd_24_cX8_isPaper_1 8 rfl rfl) (rdSeg sd_24_cX8_isPaper_1 9 rfl rfl) (rdSeg sd_24_cX8_isPaper_1 10 rfl rfl) (by decide +kernel)
theorem dX8_isPaper_43 : decode cX8_isPaper 43 = .ok (.iconst 1, 1) := op_4 (rdSeg sd_24_cX8_isPaper_1 11 rfl rfl)
theorem dX8_isPaper_44 : decode cX8_isPaper 44 = .ok (.goto 4, 3) := op_167 (rdSeg sd_24_cX8_isPaper_1 12 rfl rfl) (rdSeg sd_24_cX8_isPaper_1 13 rfl rfl) (rdSeg sd_24_cX8_isPaper_1 14 rfl rfl) (by decide +kernel)
theorem dX8_isPaper_47 : decode cX8_isPaper 47 = .ok (.iconst 0, 1) := op_3 (rdSeg sd_24_cX8_isPaper_1 15 rfl rfl)
theorem dX8_isPaper_48 : decode cX8_isPaper 48 = .ok (.ireturn, 1) := op_172 (rdSeg sd_24_cX8_isPaper_1 16 rfl rfl)
def sg_24_cX8_isKindAndM_0 : List UInt8 := [0x1a, 0x03, 0x11, 0x02, 0xbb, 0xb8, 0x00, 0x3f, 0xac]
set_option maxRecDepth 100000 in
theorem sd_24_cX8_isKindAndM_0 : cX8_isKindAndM.data.toList.drop 0 = sg_24_cX8_isKindAndM_0 := by decide +kernel
theorem dX8_isKindAndM_0 : decode cX8_isKindAndM 0 = .ok (.iload_n 0, 1) := op_26 (rdSeg sd_24_cX8_isKindAndM_0 0 rfl rfl)
theorem dX8_isKindAndM_1 : decode cX8_isKindAndM 1 = .ok (.iconst 0, 1) := op_3 (rdSeg sd_24_cX8_isKindAndM_0 1 rfl rfl)
theorem dX8_isKindAndM_2 : decode cX8_isKindAndM 2 = .ok (.sipush 699, 3) := op_17 (rdSeg sd_24_cX8_isKindAndM_0 2 rfl rfl) (rdSeg sd_24_cX8_isKindAndM_0 3 rfl rfl) (rdSeg sd_24_cX8_isKindAndM_0 4 rfl rfl) (by decide +kernel)
theorem dX8_isKindAndM_5 : decode cX8_isKindAndM 5 = .ok (.invokestatic 63, 3) := op_184 (rdSeg sd_24_cX8_isKindAndM_0 5 rfl rfl) (rdSeg sd_24_cX8_isKindAndM_0 6 rfl rfl) (rdSeg sd_24_cX8_isKindAndM_0 7 rfl rfl) rfl
theorem dX8_isKindAndM_8 : decode cX8_isKindAndM 8 = .ok (.ireturn, 1) := op_172 (rdSeg sd_24_cX8_isKindAndM_0 8 rfl rfl)
def sg_24_cX8_isUnder_1 : List UInt8 := [0xa0, 0x00, 0x07, 0x04, 0xa7, 0x00, 0x04, 0x03, 0xac]
def sg_24_cX8_isUnder_0 : List UInt8 := 0x1a :: 0x3d :: 0x03 :: 0x3e :: 0x1d :: 0x10 :: 0x07 :: 0xa2 :: 0x00 :: 0x17 :: 0x1c :: 0x1b :: 0x9f :: 0x00 :: 0x12 :: 0x1c :: 0x99 :: 0x00 :: 0x0e :: 0x1c :: 0xb8 :: 0x01 :: 0x2a :: 0x3d :: 0x84 :: 0x03 :: 0x01 :: 0xa7 :: 0xff :: 0xe9 :: 0x1c :: 0x1b :: sg_24_cX8_isUnder_1
set_option maxRecDepth 100000 in
theorem sd_24_cX8_isUnder_0 : cX8_isUnder.data.toList.drop 0 = sg_24_cX8_isUnder_0 := by decide +kernel
theorem sd_24_cX8_isUnder_1 : cX8_isUnder.data.toList.drop 32 = sg_24_cX8_isUnder_1 := sg_next sd_24_cX8_isUnder_0 rfl
theorem dX8_isUnder_0 : decode cX8_isUnder 0 = .ok (.iload_n 0, 1) := op_26 (rdSeg sd_24_cX8_isUnder_0 0 rfl rfl)
theorem dX8_isUnder_1 : decode cX8_isUnder 1 = .ok (.istore_n 2, 1) := op_61 (rdSeg sd_24_cX8_isUnder_0 1 rfl rfl)
theorem dX8_isUnder_2 : decode cX8_isUnder 2 = .ok (.iconst 0, 1) := op_3 (rdSeg sd_24_cX8_isUnder_0 2 rfl rfl)
theorem dX8_isUnder_3 : decode cX8_isUnder 3 = .ok (.istore_n 3, 1) := op_62 (rdSeg sd_24_cX8_isUnder_0 3 rfl rfl)
theorem dX8_isUnder_4 : decode cX8_isUnder 4 = .ok (.iload_n 3, 1) := op_29 (rdSeg sd_24_cX8_isUnder_0 4 rfl rfl)
theorem dX8_isUnder_5 : decode cX8_isUnder 5 = .ok (.bipush 7, 2) := op_16 (rdSeg sd_24_cX8_isUnder_0 5 rfl rfl) (rdSeg sd_24_cX8_isUnder_0 6 rfl rfl) (by decide +kernel)
theorem dX8_isUnder_7 : decode cX8_isUnder 7 = .ok (.if_icmp .ge 23, 3) := op_162 (rdSeg sd_24_cX8_isUnder_0 7 rfl rfl) (rdSeg sd_24_cX8_isUnder_0 8 rfl rfl) (rdSeg sd_24_cX8_isUnder_0 9 rfl rfl) (by decide +kernel)
theorem dX8_isUnder_10 : decode cX8_isUnder 10 = .ok (.iload_n 2, 1) := op_28 (rdSeg sd_24_cX8_isUnder_0 10 rfl rfl)
theorem dX8_isUnder_11 : decode cX8_isUnder 11 = .ok (.iload_n 1, 1) := op_27 (rdSeg sd_24_cX8_isUnder_0 11 rfl rfl)
theorem dX8_isUnder_12 : decode cX8_isUnder 12 = .ok (.if_icmp .eq 18, 3) := op_159 (rdSeg sd_24_cX8_isUnder_0 12 rfl rfl) (rdSeg sd_24_cX8_isUnder_0 13 rfl rfl) (rdSeg sd_24_cX8_isUnder_0 14 rfl rfl) (by decide +kernel)
theorem dX8_isUnder_15 : decode cX8_isUnder 15 = .ok (.iload_n 2, 1) := op_28 (rdSeg sd_24_cX8_isUnder_0 15 rfl rfl)
theorem dX8_isUnder_16 : decode cX8_isUnder 16 = .ok (.ifCond .eq 14, 3) := op_153 (rdSeg sd_24_cX8_isUnder_0 16 rfl rfl) (rdSeg sd_24_cX8_isUnder_0 17 rfl rfl) (rdSeg sd_24_cX8_isUnder_0 18 rfl rfl) (by decide +kernel)
theorem dX8_isUnder_19 : decode cX8_isUnder 19 = .ok (.iload_n 2, 1) := op_28 (rdSeg sd_24_cX8_isUnder_0 19 rfl rfl)
theorem dX8_isUnder_20 : decode cX8_isUnder 20 = .ok (.invokestatic 298, 3) := op_184 (rdSeg sd_24_cX8_isUnder_0 20 rfl rfl) (rdSeg sd_24_cX8_isUnder_0 21 rfl rfl) (rdSeg sd_24_cX8_isUnder_0 22 rfl rfl) rfl
theorem dX8_isUnder_23 : decode cX8_isUnder 23 = .ok (.istore_n 2, 1) := op_61 (rdSeg sd_24_cX8_isUnder_0 23 rfl rfl)
theorem dX8_isUnder_24 : decode cX8_isUnder 24 = .ok (.iinc 3 1, 3) := op_132 (rdSeg sd_24_cX8_isUnder_0 24 rfl rfl) (rdSeg sd_24_cX8_isUnder_0 25 rfl rfl) (rdSeg sd_24_cX8_isUnder_0 26 rfl rfl) (by decide +kernel)
theorem dX8_isUnder_27 : decode cX8_isUnder 27 = .ok (.goto (-23), 3) := op_167 (rdSeg sd_24_cX8_isUnder_0 27 rfl rfl) (rdSeg sd_24_cX8_isUnder_0 28 rfl rfl) (rdSeg sd_24_cX8_isUnder_0 29 rfl rfl) (by decide +kernel)
theorem dX8_isUnder_30 : decode cX8_isUnder 30 = .ok (.iload_n 2, 1) := op_28 (rdSeg sd_24_cX8_isUnder_0 30 rfl rfl)
theorem dX8_isUnder_31 : decode cX8_isUnder 31 = .ok (.iload_n 1, 1) := op_27 (rdSeg sd_24_cX8_isUnder_0 31 rfl rfl)
theorem dX8_isUnder_32 : decode cX8_isUnder 32 = .ok (.if_icmp .ne 7, 3) := op_160 (rdSeg sd_24_cX8_isUnder_1 0 rfl rfl) (rdSeg sd_24_cX8_isUnder_1 1 rfl rfl) (rdSeg sd_24_cX8_isUnder_1 2 rfl rfl) (by decide +kernel)
theorem dX8_isUnder_35 : decode cX8_isUnder 35 = .ok (.iconst 1, 1) := op_4 (rdSeg sd_24_cX8_isUnder_1 3 rfl rfl)
theorem dX8_isUnder_36 : decode cX8_isUnder 36 = .ok (.goto 4, 3) := op_167 (rdSeg sd_24_cX8_isUnder_1 4 rfl rfl) (rdSeg sd_24_cX8_isUnder_1 5 rfl rfl) (rdSeg sd_24_cX8_isUnder_1 6 rfl rfl) (by decide +kernel)
theorem dX8_isUnder_39 : decode cX8_isUnder 39 = .ok (.iconst 0, 1) := op_3 (rdSeg sd_24_cX8_isUnder_1 7 rfl rfl)
theorem dX8_isUnder_40 : decode cX8_isUnder 40 = .ok (.ireturn, 1) := op_172 (rdSeg sd_24_cX8_isUnder_1 8 rfl rfl)
def sg_24_cX8_above_0 : List UInt8 := [0x1a, 0x9b, 0x00, 0x13, 0x1a, 0xb2, 0x01, 0x2d, 0xbe, 0xa2, 0x00, 0x0b, 0xb2, 0x01, 0x2d, 0x1a, 0x2e, 0xa7, 0x00, 0x04, 0x03, 0xac]
set_option maxRecDepth 100000 in
theorem sd_24_cX8_above_0 : cX8_above.data.toList.drop 0 = sg_24_cX8_above_0 := by decide +kernel
theorem dX8_above_0 : decode cX8_above 0 = .ok (.iload_n 0, 1) := op_26 (rdSeg sd_24_cX8_above_0 0 rfl rfl)
theorem dX8_above_1 : decode cX8_above 1 = .ok (.ifCond .lt 19, 3) := op_155 (rdSeg sd_24_cX8_above_0 1 rfl rfl) (rdSeg sd_24_cX8_above_0 2 rfl rfl) (rdSeg sd_24_cX8_above_0 3 rfl rfl) (by decide +kernel)
theorem dX8_above_4 : decode cX8_above 4 = .ok (.iload_n 0, 1) := op_26 (rdSeg sd_24_cX8_above_0 4 rfl rfl)
theorem dX8_above_5 : decode cX8_above 5 = .ok (.getstatic 301, 3) := op_178 (rdSeg sd_24_cX8_above_0 5 rfl rfl) (rdSeg sd_24_cX8_above_0 6 rfl rfl) (rdSeg sd_24_cX8_above_0 7 rfl rfl) rfl
theorem dX8_above_8 : decode cX8_above 8 = .ok (.arraylength, 1) := op_190 (rdSeg sd_24_cX8_above_0 8 rfl rfl)
theorem dX8_above_9 : decode cX8_above 9 = .ok (.if_icmp .ge 11, 3) := op_162 (rdSeg sd_24_cX8_above_0 9 rfl rfl) (rdSeg sd_24_cX8_above_0 10 rfl rfl) (rdSeg sd_24_cX8_above_0 11 rfl rfl) (by decide +kernel)
theorem dX8_above_12 : decode cX8_above 12 = .ok (.getstatic 301, 3) := op_178 (rdSeg sd_24_cX8_above_0 12 rfl rfl) (rdSeg sd_24_cX8_above_0 13 rfl rfl) (rdSeg sd_24_cX8_above_0 14 rfl rfl) rfl
theorem dX8_above_15 : decode cX8_above 15 = .ok (.iload_n 0, 1) := op_26 (rdSeg sd_24_cX8_above_0 15 rfl rfl)
theorem dX8_above_16 : decode cX8_above 16 = .ok (.iaload, 1) := op_46 (rdSeg sd_24_cX8_above_0 16 rfl rfl)
theorem dX8_above_17 : decode cX8_above 17 = .ok (.goto 4, 3) := op_167 (rdSeg sd_24_cX8_above_0 17 rfl rfl) (rdSeg sd_24_cX8_above_0 18 rfl rfl) (rdSeg sd_24_cX8_above_0 19 rfl rfl) (by decide +kernel)
theorem dX8_above_20 : decode cX8_above 20 = .ok (.iconst 0, 1) := op_3 (rdSeg sd_24_cX8_above_0 20 rfl rfl)
theorem dX8_above_21 : decode cX8_above 21 = .ok (.ireturn, 1) := op_172 (rdSeg sd_24_cX8_above_0 21 rfl rfl)
def sg_24_cX8_within_0 : List UInt8 := [0x1a, 0x1b, 0xa1, 0x00, 0x0c, 0x1a, 0x1c, 0xa3, 0x00, 0x07, 0x04, 0xa7, 0x00, 0x04, 0x03, 0xac]
set_option maxRecDepth 100000 in
theorem sd_24_cX8_within_0 : cX8_within.data.toList.drop 0 = sg_24_cX8_within_0 := by decide +kernel
theorem dX8_within_0 : decode cX8_within 0 = .ok (.iload_n 0, 1) := op_26 (rdSeg sd_24_cX8_within_0 0 rfl rfl)
theorem dX8_within_1 : decode cX8_within 1 = .ok (.iload_n 1, 1) := op_27 (rdSeg sd_24_cX8_within_0 1 rfl rfl)
theorem dX8_within_2 : decode cX8_within 2 = .ok (.if_icmp .lt 12, 3) := op_161 (rdSeg sd_24_cX8_within_0 2 rfl rfl) (rdSeg sd_24_cX8_within_0 3 rfl rfl) (rdSeg sd_24_cX8_within_0 4 rfl rfl) (by decide +kernel)
theorem dX8_within_5 : decode cX8_within 5 = .ok (.iload_n 0, 1) := op_26 (rdSeg sd_24_cX8_within_0 5 rfl rfl)
theorem dX8_within_6 : decode cX8_within 6 = .ok (.iload_n 2, 1) := op_28 (rdSeg sd_24_cX8_within_0 6 rfl rfl)
theorem dX8_within_7 : decode cX8_within 7 = .ok (.if_icmp .gt 7, 3) := op_163 (rdSeg sd_24_cX8_within_0 7 rfl rfl) (rdSeg sd_24_cX8_within_0 8 rfl rfl) (rdSeg sd_24_cX8_within_0 9 rfl rfl) (by decide +kernel)
theorem dX8_within_10 : decode cX8_within 10 = .ok (.iconst 1, 1) := op_4 (rdSeg sd_24_cX8_within_0 10 rfl rfl)
theorem dX8_within_11 : decode cX8_within 11 = .ok (.goto 4, 3) := op_167 (rdSeg sd_24_cX8_within_0 11 rfl rfl) (rdSeg sd_24_cX8_within_0 12 rfl rfl) (rdSeg sd_24_cX8_within_0 13 rfl rfl) (by decide +kernel)
theorem dX8_within_14 : decode cX8_within 14 = .ok (.iconst 0, 1) := op_3 (rdSeg sd_24_cX8_within_0 14 rfl rfl)
theorem dX8_within_15 : decode cX8_within 15 = .ok (.ireturn, 1) := op_172 (rdSeg sd_24_cX8_within_0 15 rfl rfl)
def sg_24_cX8_quotient_0 : List UInt8 := [0x20, 0x09, 0x94, 0x9a, 0x00, 0x07, 0x03, 0xa7, 0x00, 0x07, 0x1e, 0x20, 0x6d, 0x88, 0xac]
set_option maxRecDepth 100000 in
theorem sd_24_cX8_quotient_0 : cX8_quotient.data.toList.drop 0 = sg_24_cX8_quotient_0 := by decide +kernel
theorem dX8_quotient_0 : decode cX8_quotient 0 = .ok (.lload_n 2, 1) := op_32 (rdSeg sd_24_cX8_quotient_0 0 rfl rfl)
theorem dX8_quotient_1 : decode cX8_quotient 1 = .ok (.lconst 0, 1) := op_9 (rdSeg sd_24_cX8_quotient_0 1 rfl rfl)
theorem dX8_quotient_2 : decode cX8_quotient 2 = .ok (.lcmp, 1) := op_148 (rdSeg sd_24_cX8_quotient_0 2 rfl rfl)
theorem dX8_quotient_3 : decode cX8_quotient 3 = .ok (.ifCond .ne 7, 3) := op_154 (rdSeg sd_24_cX8_quotient_0 3 rfl rfl) (rdSeg sd_24_cX8_quotient_0 4 rfl rfl) (rdSeg sd_24_cX8_quotient_0 5 rfl rfl) (by decide +kernel)
theorem dX8_quotient_6 : decode cX8_quotient 6 = .ok (.iconst 0, 1) := op_3 (rdSeg sd_24_cX8_quotient_0 6 rfl rfl)
theorem dX8_quotient_7 : decode cX8_quotient 7 = .ok (.goto 7, 3) := op_167 (rdSeg sd_24_cX8_quotient_0 7 rfl rfl) (rdSeg sd_24_cX8_quotient_0 8 rfl rfl) (rdSeg sd_24_cX8_quotient_0 9 rfl rfl) (by decide +kernel)
theorem dX8_quotient_10 : decode cX8_quotient 10 = .ok (.lload_n 0, 1) := op_30 (rdSeg sd_24_cX8_quotient_0 10 rfl rfl)
theorem dX8_quotient_11 : decode cX8_quotient 11 = .ok (.lload_n 2, 1) := op_32 (rdSeg sd_24_cX8_quotient_0 11 rfl rfl)
theorem dX8_quotient_12 : decode cX8_quotient 12 = .ok (.ldiv, 1) := op_109 (rdSeg sd_24_cX8_quotient_0 12 rfl rfl)
theorem dX8_quotient_13 : decode cX8_quotient 13 = .ok (.l2i, 1) := op_136 (rdSeg sd_24_cX8_quotient_0 13 rfl rfl)
theorem dX8_quotient_14 : decode cX8_quotient 14 = .ok (.ireturn, 1) := op_172 (rdSeg sd_24_cX8_quotient_0 14 rfl rfl)
def sg_24_cJ6_bitCount_0f7a4_1 : List UInt8 := [0x7e, 0x3b, 0x1a, 0x1a, 0x10, 0x08, 0x7c, 0x60, 0x3b, 0x1a, 0x1a, 0x10, 0x10, 0x7c, 0x60, 0x3b, 0x1a, 0x10, 0x3f, 0x7e, 0xac]
def sg_24_cJ6_bitCount_0f7a4_0 : List UInt8 := 0x1a :: 0x1a :: 0x04 :: 0x7c :: 0x13 :: 0x01 :: 0x09 :: 0x7e :: 0x64 :: 0x3b :: 0x1a :: 0x13 :: 0x01 :: 0x0a :: 0x7e :: 0x1a :: 0x05 :: 0x7c :: 0x13 :: 0x01 :: 0x0a :: 0x7e :: 0x60 :: 0x3b :: 0x1a :: 0x1a :: 0x07 :: 0x7c :: 0x60 :: 0x13 :: 0x01 :: 0x0b :: sg_24_cJ6_bitCount_0f7a4_1
set_option maxRecDepth 100000 in
theorem sd_24_cJ6_bitCount_0f7a4_0 : cJ6_bitCount_0f7a4.data.toList.drop 0 = sg_24_cJ6_bitCount_0f7a4_0 := by decide +kernel
theorem sd_24_cJ6_bitCount_0f7a4_1 : cJ6_bitCount_0f7a4.data.toList.drop 32 = sg_24_cJ6_bitCount_0f7a4_1 := sg_next sd_24_cJ6_bitCount_0f7a4_0 rfl
theorem dJ6_bitCount_0f7a4_0 : decode cJ6_bitCount_0f7a4 0 = .ok (.iload_n 0, 1) := op_26 (rdSeg sd_24_cJ6_bitCount_0f7a4_0 0 rfl rfl)
theorem dJ6_bitCount_0f7a4_1 : decode cJ6_bitCount_0f7a4 1 = .ok (.iload_n 0, 1) := op_26 (rdSeg sd_24_cJ6_bitCount_0f7a4_0 1 rfl rfl)
theorem dJ6_bitCount_0f7a4_2 : decode cJ6_bitCount_0f7a4 2 = .ok (.iconst 1, 1) := op_4 (rdSeg sd_24_cJ6_bitCount_0f7a4_0 2 rfl rfl)
theorem dJ6_bitCount_0f7a4_3 : decode cJ6_bitCount_0f7a4 3 = .ok (.iushr, 1) := op_124 (rdSeg sd_24_cJ6_bitCount_0f7a4_0 3 rfl rfl)
theorem dJ6_bitCount_0f7a4_4 : decode cJ6_bitCount_0f7a4 4 = .ok (.ldc_w 265, 3) := op_19 (rdSeg sd_24_cJ6_bitCount_0f7a4_0 4 rfl rfl) (rdSeg sd_24_cJ6_bitCount_0f7a4_0 5 rfl rfl) (rdSeg sd_24_cJ6_bitCount_0f7a4_0 6 rfl rfl) rfl
theorem dJ6_bitCount_0f7a4_7 : decode cJ6_bitCount_0f7a4 7 = .ok (.iand, 1) := op_126 (rdSeg sd_24_cJ6_bitCount_0f7a4_0 7 rfl rfl)
theorem dJ6_bitCount_0f7a4_8 : decode cJ6_bitCount_0f7a4 8 = .ok (.isub, 1) := op_100 (rdSeg sd_24_cJ6_bitCount_0f7a4_0 8 rfl rfl)
theorem dJ6_bitCount_0f7a4_9 : decode cJ6_bitCount_0f7a4 9 = .ok (.istore_n 0, 1) := op_59 (rdSeg sd_24_cJ6_bitCount_0f7a4_0 9 rfl rfl)
end
section
-- decode rows of the class
def sg_25_cJ6_bitCount_0f7a4_1 : List UInt8 := [0x7e, 0x3b, 0x1a, 0x1a, 0x10, 0x08, 0x7c, 0x60, 0x3b, 0x1a, 0x1a, 0x10, 0x10, 0x7c, 0x60, 0x3b, 0x1a, 0x10, 0x3f, 0x7e, 0xac]
def sg_25_cJ6_bitCount_0f7a4_0 : List UInt8 := 0x1a :: 0x1a :: 0x04 :: 0x7c :: 0x13 :: 0x01 :: 0x09 :: 0x7e :: 0x64 :: 0x3b :: 0x1a :: 0x13 :: 0x01 :: 0x0a :: 0x7e :: 0x1a :: 0x05 :: 0x7c :: 0x13 :: 0x01 :: 0x0a :: 0x7e :: 0x60 :: 0x3b :: 0x1a :: 0x1a :: 0x07 :: 0x7c :: 0x60 :: 0x13 :: 0x01 :: 0x0b :: sg_25_cJ6_bitCount_0f7a4_1
set_option maxRecDepth 100000 in
theorem sd_25_cJ6_bitCount_0f7a4_0 : cJ6_bitCount_0f7a4.data.toList.drop 0 = sg_25_cJ6_bitCount_0f7a4_0 := by decide +kernel
theorem sd_25_cJ6_bitCount_0f7a4_1 : cJ6_bitCount_0f7a4.data.toList.drop 32 = sg_25_cJ6_bitCount_0f7a4_1 := sg_next sd_25_cJ6_bitCount_0f7a4_0 rfl
theorem dJ6_bitCount_0f7a4_10 : decode cJ6_bitCount_0f7a4 10 = .ok (.iload_n 0, 1) := op_26 (rdSeg sd_25_cJ6_bitCount_0f7a4_0 10 rfl rfl)
theorem dJ6_bitCount_0f7a4_11 : decode cJ6_bitCount_0f7a4 11 = .ok (.ldc_w 266, 3) := op_19 (rdSeg sd_25_cJ6_bitCount_0f7a4_0 11 rfl rfl) (rdSeg sd_25_cJ6_bitCount_0f7a4_0 12 rfl rfl) (rdSeg sd_25_cJ6_bitCount_0f7a4_0 13 rfl rfl) rfl
theorem dJ6_bitCount_0f7a4_14 : decode cJ6_bitCount_0f7a4 14 = .ok (.iand, 1) := op_126 (rdSeg sd_25_cJ6_bitCount_0f7a4_0 14 rfl rfl)
theorem dJ6_bitCount_0f7a4_15 : decode cJ6_bitCount_0f7a4 15 = .ok (.iload_n 0, 1) := op_26 (rdSeg sd_25_cJ6_bitCount_0f7a4_0 15 rfl rfl)
theorem dJ6_bitCount_0f7a4_16 : decode cJ6_bitCount_0f7a4 16 = .ok (.iconst 2, 1) := op_5 (rdSeg sd_25_cJ6_bitCount_0f7a4_0 16 rfl rfl)
theorem dJ6_bitCount_0f7a4_17 : decode cJ6_bitCount_0f7a4 17 = .ok (.iushr, 1) := op_124 (rdSeg sd_25_cJ6_bitCount_0f7a4_0 17 rfl rfl)
theorem dJ6_bitCount_0f7a4_18 : decode cJ6_bitCount_0f7a4 18 = .ok (.ldc_w 266, 3) := op_19 (rdSeg sd_25_cJ6_bitCount_0f7a4_0 18 rfl rfl) (rdSeg sd_25_cJ6_bitCount_0f7a4_0 19 rfl rfl) (rdSeg sd_25_cJ6_bitCount_0f7a4_0 20 rfl rfl) rfl
theorem dJ6_bitCount_0f7a4_21 : decode cJ6_bitCount_0f7a4 21 = .ok (.iand, 1) := op_126 (rdSeg sd_25_cJ6_bitCount_0f7a4_0 21 rfl rfl)
theorem dJ6_bitCount_0f7a4_22 : decode cJ6_bitCount_0f7a4 22 = .ok (.iadd, 1) := op_96 (rdSeg sd_25_cJ6_bitCount_0f7a4_0 22 rfl rfl)
theorem dJ6_bitCount_0f7a4_23 : decode cJ6_bitCount_0f7a4 23 = .ok (.istore_n 0, 1) := op_59 (rdSeg sd_25_cJ6_bitCount_0f7a4_0 23 rfl rfl)
theorem dJ6_bitCount_0f7a4_24 : decode cJ6_bitCount_0f7a4 24 = .ok (.iload_n 0, 1) := op_26 (rdSeg sd_25_cJ6_bitCount_0f7a4_0 24 rfl rfl)
theorem dJ6_bitCount_0f7a4_25 : decode cJ6_bitCount_0f7a4 25 = .ok (.iload_n 0, 1) := op_26 (rdSeg sd_25_cJ6_bitCount_0f7a4_0 25 rfl rfl)
theorem dJ6_bitCount_0f7a4_26 : decode cJ6_bitCount_0f7a4 26 = .ok (.iconst 4, 1) := op_7 (rdSeg sd_25_cJ6_bitCount_0f7a4_0 26 rfl rfl)
theorem dJ6_bitCount_0f7a4_27 : decode cJ6_bitCount_0f7a4 27 = .ok (.iushr, 1) := op_124 (rdSeg sd_25_cJ6_bitCount_0f7a4_0 27 rfl rfl)
theorem dJ6_bitCount_0f7a4_28 : decode cJ6_bitCount_0f7a4 28 = .ok (.iadd, 1) := op_96 (rdSeg sd_25_cJ6_bitCount_0f7a4_0 28 rfl rfl)
theorem dJ6_bitCount_0f7a4_29 : decode cJ6_bitCount_0f7a4 29 = .ok (.ldc_w 267, 3) := op_19 (rdSeg sd_25_cJ6_bitCount_0f7a4_0 29 rfl rfl) (rdSeg sd_25_cJ6_bitCount_0f7a4_0 30 rfl rfl) (rdSeg sd_25_cJ6_bitCount_0f7a4_0 31 rfl rfl) rfl
theorem dJ6_bitCount_0f7a4_32 : decode cJ6_bitCount_0f7a4 32 = .ok (.iand, 1) := op_126 (rdSeg sd_25_cJ6_bitCount_0f7a4_1 0 rfl rfl)
theorem dJ6_bitCount_0f7a4_33 : decode cJ6_bitCount_0f7a4 33 = .ok (.istore_n 0, 1) := op_59 (rdSeg sd_25_cJ6_bitCount_0f7a4_1 1 rfl rfl)
theorem dJ6_bitCount_0f7a4_34 : decode cJ6_bitCount_0f7a4 34 = .ok (.iload_n 0, 1) := op_26 (rdSeg sd_25_cJ6_bitCount_0f7a4_1 2 rfl rfl)
theorem dJ6_bitCount_0f7a4_35 : decode cJ6_bitCount_0f7a4 35 = .ok (.iload_n 0, 1) := op_26 (rdSeg sd_25_cJ6_bitCount_0f7a4_1 3 rfl rfl)
theorem dJ6_bitCount_0f7a4_36 : decode cJ6_bitCount_0f7a4 36 = .ok (.bipush 8, 2) := op_16 (rdSeg sd_25_cJ6_bitCount_0f7a4_1 4 rfl rfl) (rdSeg sd_25_cJ6_bitCount_0f7a4_1 5 rfl rfl) (by decide +kernel)
theorem dJ6_bitCount_0f7a4_38 : decode cJ6_bitCount_0f7a4 38 = .ok (.iushr, 1) := op_124 (rdSeg sd_25_cJ6_bitCount_0f7a4_1 6 rfl rfl)
theorem dJ6_bitCount_0f7a4_39 : decode cJ6_bitCount_0f7a4 39 = .ok (.iadd, 1) := op_96 (rdSeg sd_25_cJ6_bitCount_0f7a4_1 7 rfl rfl)
theorem dJ6_bitCount_0f7a4_40 : decode cJ6_bitCount_0f7a4 40 = .ok (.istore_n 0, 1) := op_59 (rdSeg sd_25_cJ6_bitCount_0f7a4_1 8 rfl rfl)
theorem dJ6_bitCount_0f7a4_41 : decode cJ6_bitCount_0f7a4 41 = .ok (.iload_n 0, 1) := op_26 (rdSeg sd_25_cJ6_bitCount_0f7a4_1 9 rfl rfl)
theorem dJ6_bitCount_0f7a4_42 : decode cJ6_bitCount_0f7a4 42 = .ok (.iload_n 0, 1) := op_26 (rdSeg sd_25_cJ6_bitCount_0f7a4_1 10 rfl rfl)
theorem dJ6_bitCount_0f7a4_43 : decode cJ6_bitCount_0f7a4 43 = .ok (.bipush 16, 2) := op_16 (rdSeg sd_25_cJ6_bitCount_0f7a4_1 11 rfl rfl) (rdSeg sd_25_cJ6_bitCount_0f7a4_1 12 rfl rfl) (by decide +kernel)
theorem dJ6_bitCount_0f7a4_45 : decode cJ6_bitCount_0f7a4 45 = .ok (.iushr, 1) := op_124 (rdSeg sd_25_cJ6_bitCount_0f7a4_1 13 rfl rfl)
theorem dJ6_bitCount_0f7a4_46 : decode cJ6_bitCount_0f7a4 46 = .ok (.iadd, 1) := op_96 (rdSeg sd_25_cJ6_bitCount_0f7a4_1 14 rfl rfl)
theorem dJ6_bitCount_0f7a4_47 : decode cJ6_bitCount_0f7a4 47 = .ok (.istore_n 0, 1) := op_59 (rdSeg sd_25_cJ6_bitCount_0f7a4_1 15 rfl rfl)
theorem dJ6_bitCount_0f7a4_48 : decode cJ6_bitCount_0f7a4 48 = .ok (.iload_n 0, 1) := op_26 (rdSeg sd_25_cJ6_bitCount_0f7a4_1 16 rfl rfl)
theorem dJ6_bitCount_0f7a4_49 : decode cJ6_bitCount_0f7a4 49 = .ok (.bipush 63, 2) := op_16 (rdSeg sd_25_cJ6_bitCount_0f7a4_1 17 rfl rfl) (rdSeg sd_25_cJ6_bitCount_0f7a4_1 18 rfl rfl) (by decide +kernel)
theorem dJ6_bitCount_0f7a4_51 : decode cJ6_bitCount_0f7a4 51 = .ok (.iand, 1) := op_126 (rdSeg sd_25_cJ6_bitCount_0f7a4_1 19 rfl rfl)
theorem dJ6_bitCount_0f7a4_52 : decode cJ6_bitCount_0f7a4 52 = .ok (.ireturn, 1) := op_172 (rdSeg sd_25_cJ6_bitCount_0f7a4_1 20 rfl rfl)
def sg_25_cJ7_fill_53178_0 : List UInt8 := [0x03, 0x3d, 0x2a, 0xbe, 0x3e, 0x1c, 0x1d, 0xa2, 0x00, 0x0d, 0x2a, 0x1c, 0x1b, 0x4f, 0x84, 0x02, 0x01, 0xa7, 0xff, 0xf4, 0xb1]
set_option maxRecDepth 100000 in
theorem sd_25_cJ7_fill_53178_0 : cJ7_fill_53178.data.toList.drop 0 = sg_25_cJ7_fill_53178_0 := by decide +kernel
theorem dJ7_fill_53178_0 : decode cJ7_fill_53178 0 = .ok (.iconst 0, 1) := op_3 (rdSeg sd_25_cJ7_fill_53178_0 0 rfl rfl)
theorem dJ7_fill_53178_1 : decode cJ7_fill_53178 1 = .ok (.istore_n 2, 1) := op_61 (rdSeg sd_25_cJ7_fill_53178_0 1 rfl rfl)
theorem dJ7_fill_53178_2 : decode cJ7_fill_53178 2 = .ok (.aload_n 0, 1) := op_42 (rdSeg sd_25_cJ7_fill_53178_0 2 rfl rfl)
theorem dJ7_fill_53178_3 : decode cJ7_fill_53178 3 = .ok (.arraylength, 1) := op_190 (rdSeg sd_25_cJ7_fill_53178_0 3 rfl rfl)
theorem dJ7_fill_53178_4 : decode cJ7_fill_53178 4 = .ok (.istore_n 3, 1) := op_62 (rdSeg sd_25_cJ7_fill_53178_0 4 rfl rfl)
theorem dJ7_fill_53178_5 : decode cJ7_fill_53178 5 = .ok (.iload_n 2, 1) := op_28 (rdSeg sd_25_cJ7_fill_53178_0 5 rfl rfl)
theorem dJ7_fill_53178_6 : decode cJ7_fill_53178 6 = .ok (.iload_n 3, 1) := op_29 (rdSeg sd_25_cJ7_fill_53178_0 6 rfl rfl)
theorem dJ7_fill_53178_7 : decode cJ7_fill_53178 7 = .ok (.if_icmp .ge 13, 3) := op_162 (rdSeg sd_25_cJ7_fill_53178_0 7 rfl rfl) (rdSeg sd_25_cJ7_fill_53178_0 8 rfl rfl) (rdSeg sd_25_cJ7_fill_53178_0 9 rfl rfl) (by decide +kernel)
theorem dJ7_fill_53178_10 : decode cJ7_fill_53178 10 = .ok (.aload_n 0, 1) := op_42 (rdSeg sd_25_cJ7_fill_53178_0 10 rfl rfl)
theorem dJ7_fill_53178_11 : decode cJ7_fill_53178 11 = .ok (.iload_n 2, 1) := op_28 (rdSeg sd_25_cJ7_fill_53178_0 11 rfl rfl)
theorem dJ7_fill_53178_12 : decode cJ7_fill_53178 12 = .ok (.iload_n 1, 1) := op_27 (rdSeg sd_25_cJ7_fill_53178_0 12 rfl rfl)
theorem dJ7_fill_53178_13 : decode cJ7_fill_53178 13 = .ok (.iastore, 1) := op_79 (rdSeg sd_25_cJ7_fill_53178_0 13 rfl rfl)
theorem dJ7_fill_53178_14 : decode cJ7_fill_53178 14 = .ok (.iinc 2 1, 3) := op_132 (rdSeg sd_25_cJ7_fill_53178_0 14 rfl rfl) (rdSeg sd_25_cJ7_fill_53178_0 15 rfl rfl) (rdSeg sd_25_cJ7_fill_53178_0 16 rfl rfl) (by decide +kernel)
theorem dJ7_fill_53178_17 : decode cJ7_fill_53178 17 = .ok (.goto (-12), 3) := op_167 (rdSeg sd_25_cJ7_fill_53178_0 17 rfl rfl) (rdSeg sd_25_cJ7_fill_53178_0 18 rfl rfl) (rdSeg sd_25_cJ7_fill_53178_0 19 rfl rfl) (by decide +kernel)
theorem dJ7_fill_53178_20 : decode cJ7_fill_53178 20 = .ok (.return_, 1) := op_177 (rdSeg sd_25_cJ7_fill_53178_0 20 rfl rfl)
end
