-- decode rows of the class
theorem dX0_init_0 : decode cX0_init 0 = .ok (.aload_n 0, 1) := by decide +kernel
theorem dX0_init_1 : decode cX0_init 1 = .ok (.invokespecial 3, 3) := by decide +kernel
theorem dX0_init_4 : decode cX0_init 4 = .ok (.aload_n 0, 1) := by decide +kernel
theorem dX0_init_5 : decode cX0_init 5 = .ok (.sipush 130, 3) := by decide +kernel
theorem dX0_init_8 : decode cX0_init 8 = .ok (.newarray .int, 2) := by decide +kernel
theorem dX0_init_10 : decode cX0_init 10 = .ok (.putfield 9, 3) := by decide +kernel
theorem dX0_init_13 : decode cX0_init 13 = .ok (.aload_n 0, 1) := by decide +kernel
theorem dX0_init_14 : decode cX0_init 14 = .ok (.iconst 1, 1) := by decide +kernel
theorem dX0_init_15 : decode cX0_init 15 = .ok (.putfield 15, 3) := by decide +kernel
theorem dX0_init_18 : decode cX0_init 18 = .ok (.return_, 1) := by decide +kernel
theorem dX0_size_0 : decode cX0_size 0 = .ok (.aload_n 0, 1) := by decide +kernel
theorem dX0_size_1 : decode cX0_size 1 = .ok (.getfield 19, 3) := by decide +kernel
theorem dX0_size_4 : decode cX0_size 4 = .ok (.ireturn, 1) := by decide +kernel
theorem dX0_room_0 : decode cX0_room 0 = .ok (.bipush 12, 2) := by decide +kernel
theorem dX0_room_2 : decode cX0_room 2 = .ok (.aload_n 0, 1) := by decide +kernel
theorem dX0_room_3 : decode cX0_room 3 = .ok (.getfield 19, 3) := by decide +kernel
theorem dX0_room_6 : decode cX0_room 6 = .ok (.isub, 1) := by decide +kernel
theorem dX0_room_7 : decode cX0_room 7 = .ok (.ireturn, 1) := by decide +kernel
theorem dX0_has_0 : decode cX0_has 0 = .ok (.iload_n 1, 1) := by decide +kernel
theorem dX0_has_1 : decode cX0_has 1 = .ok (.ifCond .lt 15, 3) := by decide +kernel
theorem dX0_has_4 : decode cX0_has 4 = .ok (.iload_n 1, 1) := by decide +kernel
theorem dX0_has_5 : decode cX0_has 5 = .ok (.aload_n 0, 1) := by decide +kernel
theorem dX0_has_6 : decode cX0_has 6 = .ok (.getfield 19, 3) := by decide +kernel
theorem dX0_has_9 : decode cX0_has 9 = .ok (.if_icmp .ge 7, 3) := by decide +kernel
theorem dX0_has_12 : decode cX0_has 12 = .ok (.iconst 1, 1) := by decide +kernel
theorem dX0_has_13 : decode cX0_has 13 = .ok (.goto 4, 3) := by decide +kernel
theorem dX0_has_16 : decode cX0_has 16 = .ok (.iconst 0, 1) := by decide +kernel
theorem dX0_has_17 : decode cX0_has 17 = .ok (.ireturn, 1) := by decide +kernel
theorem dX0_firstsThatCount_0 : decode cX0_firstsThatCount 0 = .ok (.aload_n 0, 1) := by decide +kernel
theorem dX0_firstsThatCount_1 : decode cX0_firstsThatCount 1 = .ok (.getfield 22, 3) := by decide +kernel
theorem dX0_firstsThatCount_4 : decode cX0_firstsThatCount 4 = .ok (.ireturn, 1) := by decide +kernel
theorem dX0_yearsSoFar_0 : decode cX0_yearsSoFar 0 = .ok (.aload_n 0, 1) := by decide +kernel
theorem dX0_yearsSoFar_1 : decode cX0_yearsSoFar 1 = .ok (.getfield 25, 3) := by decide +kernel
theorem dX0_yearsSoFar_4 : decode cX0_yearsSoFar 4 = .ok (.ireturn, 1) := by decide +kernel
theorem dX0_lastDraw_0 : decode cX0_lastDraw 0 = .ok (.aload_n 0, 1) := by decide +kernel
theorem dX0_lastDraw_1 : decode cX0_lastDraw 1 = .ok (.getfield 15, 3) := by decide +kernel
theorem dX0_lastDraw_4 : decode cX0_lastDraw 4 = .ok (.ireturn, 1) := by decide +kernel
theorem dX0_reseed_0 : decode cX0_reseed 0 = .ok (.aload_n 0, 1) := by decide +kernel
theorem dX0_reseed_1 : decode cX0_reseed 1 = .ok (.getfield 15, 3) := by decide +kernel
theorem dX0_reseed_4 : decode cX0_reseed 4 = .ok (.istore_n 2, 1) := by decide +kernel
theorem dX0_reseed_5 : decode cX0_reseed 5 = .ok (.aload_n 0, 1) := by decide +kernel
theorem dX0_reseed_6 : decode cX0_reseed 6 = .ok (.iload_n 1, 1) := by decide +kernel
theorem dX0_reseed_7 : decode cX0_reseed 7 = .ok (.putfield 15, 3) := by decide +kernel
theorem dX0_reseed_10 : decode cX0_reseed 10 = .ok (.iload_n 2, 1) := by decide +kernel
theorem dX0_reseed_11 : decode cX0_reseed 11 = .ok (.ireturn, 1) := by decide +kernel
theorem dX0_number_0 : decode cX0_number 0 = .ok (.iload_n 1, 1) := by decide +kernel
theorem dX0_number_1 : decode cX0_number 1 = .ok (.iload_n 2, 1) := by decide +kernel
theorem dX0_number_2 : decode cX0_number 2 = .ok (.invokestatic 28, 3) := by decide +kernel
theorem dX0_number_5 : decode cX0_number 5 = .ok (.istore_n 3, 1) := by decide +kernel
theorem dX0_number_6 : decode cX0_number 6 = .ok (.iload_n 3, 1) := by decide +kernel
theorem dX0_number_7 : decode cX0_number 7 = .ok (.ifCond .lt 21, 3) := by decide +kernel
theorem dX0_number_10 : decode cX0_number 10 = .ok (.iload_n 3, 1) := by decide +kernel
theorem dX0_number_11 : decode cX0_number 11 = .ok (.aload_n 0, 1) := by decide +kernel
theorem dX0_number_12 : decode cX0_number 12 = .ok (.getfield 9, 3) := by decide +kernel
theorem dX0_number_15 : decode cX0_number 15 = .ok (.arraylength, 1) := by decide +kernel
theorem dX0_number_16 : decode cX0_number 16 = .ok (.if_icmp .ge 12, 3) := by decide +kernel
theorem dX0_number_19 : decode cX0_number 19 = .ok (.aload_n 0, 1) := by decide +kernel
theorem dX0_number_20 : decode cX0_number 20 = .ok (.getfield 9, 3) := by decide +kernel
theorem dX0_number_23 : decode cX0_number 23 = .ok (.iload_n 3, 1) := by decide +kernel
theorem dX0_number_24 : decode cX0_number 24 = .ok (.iaload, 1) := by decide +kernel
theorem dX0_number_25 : decode cX0_number 25 = .ok (.goto 4, 3) := by decide +kernel
theorem dX0_number_28 : decode cX0_number 28 = .ok (.iconst 0, 1) := by decide +kernel
theorem dX0_number_29 : decode cX0_number 29 = .ok (.ireturn, 1) := by decide +kernel
theorem dX0_become_0 : decode cX0_become 0 = .ok (.iload_n 1, 1) := by decide +kernel
theorem dX0_become_1 : decode cX0_become 1 = .ok (.iload_n 2, 1) := by decide +kernel
theorem dX0_become_2 : decode cX0_become 2 = .ok (.invokestatic 28, 3) := by decide +kernel
theorem dX0_become_5 : decode cX0_become 5 = .ok (.istore 4, 2) := by decide +kernel
theorem dX0_become_7 : decode cX0_become 7 = .ok (.iload 4, 2) := by decide +kernel
theorem dX0_become_9 : decode cX0_become 9 = .ok (.ifCond .lt 21, 3) := by decide +kernel
theorem dX0_become_12 : decode cX0_become 12 = .ok (.iload 4, 2) := by decide +kernel
theorem dX0_become_14 : decode cX0_become 14 = .ok (.aload_n 0, 1) := by decide +kernel
theorem dX0_become_15 : decode cX0_become 15 = .ok (.getfield 9, 3) := by decide +kernel
theorem dX0_become_18 : decode cX0_become 18 = .ok (.arraylength, 1) := by decide +kernel
theorem dX0_become_19 : decode cX0_become 19 = .ok (.if_icmp .ge 11, 3) := by decide +kernel
theorem dX0_become_22 : decode cX0_become 22 = .ok (.aload_n 0, 1) := by decide +kernel
theorem dX0_become_23 : decode cX0_become 23 = .ok (.getfield 9, 3) := by decide +kernel
theorem dX0_become_26 : decode cX0_become 26 = .ok (.iload 4, 2) := by decide +kernel
theorem dX0_become_28 : decode cX0_become 28 = .ok (.iload_n 3, 1) := by decide +kernel
theorem dX0_become_29 : decode cX0_become 29 = .ok (.iastore, 1) := by decide +kernel
theorem dX0_become_30 : decode cX0_become 30 = .ok (.return_, 1) := by decide +kernel
theorem dX0_placeOf_0 : decode cX0_placeOf 0 = .ok (.iload_n 0, 1) := by decide +kernel
theorem dX0_placeOf_1 : decode cX0_placeOf 1 = .ok (.ifCond .lt 23, 3) := by decide +kernel
theorem dX0_placeOf_4 : decode cX0_placeOf 4 = .ok (.iload_n 0, 1) := by decide +kernel
theorem dX0_placeOf_5 : decode cX0_placeOf 5 = .ok (.bipush 12, 2) := by decide +kernel
theorem dX0_placeOf_7 : decode cX0_placeOf 7 = .ok (.if_icmp .gt 17, 3) := by decide +kernel
theorem dX0_placeOf_10 : decode cX0_placeOf 10 = .ok (.iload_n 1, 1) := by decide +kernel
theorem dX0_placeOf_11 : decode cX0_placeOf 11 = .ok (.ifCond .lt 13, 3) := by decide +kernel
theorem dX0_placeOf_14 : decode cX0_placeOf 14 = .ok (.iload_n 1, 1) := by decide +kernel
theorem dX0_placeOf_15 : decode cX0_placeOf 15 = .ok (.bipush 10, 2) := by decide +kernel
theorem dX0_placeOf_17 : decode cX0_placeOf 17 = .ok (.if_icmp .ge 7, 3) := by decide +kernel
theorem dX0_placeOf_20 : decode cX0_placeOf 20 = .ok (.iconst 1, 1) := by decide +kernel
theorem dX0_placeOf_21 : decode cX0_placeOf 21 = .ok (.goto 4, 3) := by decide +kernel
theorem dX0_placeOf_24 : decode cX0_placeOf 24 = .ok (.iconst 0, 1) := by decide +kernel
theorem dX0_placeOf_25 : decode cX0_placeOf 25 = .ok (.istore_n 2, 1) := by decide +kernel
theorem dX0_placeOf_26 : decode cX0_placeOf 26 = .ok (.iload_n 2, 1) := by decide +kernel
theorem dX0_placeOf_27 : decode cX0_placeOf 27 = .ok (.ifCond .eq 12, 3) := by decide +kernel
theorem dX0_placeOf_30 : decode cX0_placeOf 30 = .ok (.iload_n 0, 1) := by decide +kernel
theorem dX0_placeOf_31 : decode cX0_placeOf 31 = .ok (.bipush 10, 2) := by decide +kernel
theorem dX0_placeOf_33 : decode cX0_placeOf 33 = .ok (.imul, 1) := by decide +kernel
theorem dX0_placeOf_34 : decode cX0_placeOf 34 = .ok (.iload_n 1, 1) := by decide +kernel
theorem dX0_placeOf_35 : decode cX0_placeOf 35 = .ok (.iadd, 1) := by decide +kernel
theorem dX0_placeOf_36 : decode cX0_placeOf 36 = .ok (.goto 4, 3) := by decide +kernel
theorem dX0_placeOf_39 : decode cX0_placeOf 39 = .ok (.iconst (-1), 1) := by decide +kernel
theorem dX0_placeOf_40 : decode cX0_placeOf 40 = .ok (.ireturn, 1) := by decide +kernel
theorem dX0_mostSettable_0 : decode cX0_mostSettable 0 = .ok (.iload_n 2, 1) := by decide +kernel
theorem dX0_mostSettable_1 : decode cX0_mostSettable 1 = .ok (.ifCond .ne 6, 3) := by decide +kernel
theorem dX0_mostSettable_4 : decode cX0_mostSettable 4 = .ok (.bipush 6, 2) := by decide +kernel
theorem dX0_mostSettable_6 : decode cX0_mostSettable 6 = .ok (.ireturn, 1) := by decide +kernel
theorem dX0_mostSettable_7 : decode cX0_mostSettable 7 = .ok (.iload_n 2, 1) := by decide +kernel
theorem dX0_mostSettable_8 : decode cX0_mostSettable 8 = .ok (.iconst 1, 1) := by decide +kernel
theorem dX0_mostSettable_9 : decode cX0_mostSettable 9 = .ok (.if_icmp .ne 6, 3) := by decide +kernel
theorem dX0_mostSettable_12 : decode cX0_mostSettable 12 = .ok (.bipush 99, 2) := by decide +kernel
theorem dX0_mostSettable_14 : decode cX0_mostSettable 14 = .ok (.ireturn, 1) := by decide +kernel
theorem dX0_mostSettable_15 : decode cX0_mostSettable 15 = .ok (.iload_n 2, 1) := by decide +kernel
theorem dX0_mostSettable_16 : decode cX0_mostSettable 16 = .ok (.iconst 3, 1) := by decide +kernel
theorem dX0_mostSettable_17 : decode cX0_mostSettable 17 = .ok (.iconst 5, 1) := by decide +kernel
theorem dX0_mostSettable_18 : decode cX0_mostSettable 18 = .ok (.invokestatic 32, 3) := by decide +kernel
theorem dX0_mostSettable_21 : decode cX0_mostSettable 21 = .ok (.ifCond .eq 12, 3) := by decide +kernel
theorem dX0_mostSettable_24 : decode cX0_mostSettable 24 = .ok (.aload_n 0, 1) := by decide +kernel
theorem dX0_mostSettable_25 : decode cX0_mostSettable 25 = .ok (.iload_n 1, 1) := by decide +kernel
theorem dX0_mostSettable_26 : decode cX0_mostSettable 26 = .ok (.iconst 2, 1) := by decide +kernel
theorem dX0_mostSettable_27 : decode cX0_mostSettable 27 = .ok (.invokevirtual 36, 3) := by decide +kernel
theorem dX0_mostSettable_30 : decode cX0_mostSettable 30 = .ok (.goto 4, 3) := by decide +kernel
theorem dX0_mostSettable_33 : decode cX0_mostSettable 33 = .ok (.iconst (-1), 1) := by decide +kernel
theorem dX0_mostSettable_34 : decode cX0_mostSettable 34 = .ok (.ireturn, 1) := by decide +kernel
theorem dX0_allGrams_0 : decode cX0_allGrams 0 = .ok (.iconst 0, 1) := by decide +kernel
theorem dX0_allGrams_1 : decode cX0_allGrams 1 = .ok (.istore_n 1, 1) := by decide +kernel
theorem dX0_allGrams_2 : decode cX0_allGrams 2 = .ok (.iconst 0, 1) := by decide +kernel
theorem dX0_allGrams_3 : decode cX0_allGrams 3 = .ok (.istore_n 2, 1) := by decide +kernel
theorem dX0_allGrams_4 : decode cX0_allGrams 4 = .ok (.iload_n 2, 1) := by decide +kernel
theorem dX0_allGrams_5 : decode cX0_allGrams 5 = .ok (.aload_n 0, 1) := by decide +kernel
theorem dX0_allGrams_6 : decode cX0_allGrams 6 = .ok (.getfield 19, 3) := by decide +kernel
theorem dX0_allGrams_9 : decode cX0_allGrams 9 = .ok (.if_icmp .ge 18, 3) := by decide +kernel
theorem dX0_allGrams_12 : decode cX0_allGrams 12 = .ok (.iload_n 1, 1) := by decide +kernel
theorem dX0_allGrams_13 : decode cX0_allGrams 13 = .ok (.aload_n 0, 1) := by decide +kernel
theorem dX0_allGrams_14 : decode cX0_allGrams 14 = .ok (.iload_n 2, 1) := by decide +kernel
theorem dX0_allGrams_15 : decode cX0_allGrams 15 = .ok (.iconst 2, 1) := by decide +kernel
theorem dX0_allGrams_16 : decode cX0_allGrams 16 = .ok (.invokevirtual 36, 3) := by decide +kernel
theorem dX0_allGrams_19 : decode cX0_allGrams 19 = .ok (.iadd, 1) := by decide +kernel
theorem dX0_allGrams_20 : decode cX0_allGrams 20 = .ok (.istore_n 1, 1) := by decide +kernel
theorem dX0_allGrams_21 : decode cX0_allGrams 21 = .ok (.iinc 2 1, 3) := by decide +kernel
theorem dX0_allGrams_24 : decode cX0_allGrams 24 = .ok (.goto (-20), 3) := by decide +kernel
theorem dX0_allGrams_27 : decode cX0_allGrams 27 = .ok (.iload_n 1, 1) := by decide +kernel
theorem dX0_allGrams_28 : decode cX0_allGrams 28 = .ok (.ireturn, 1) := by decide +kernel
theorem dX0_copyFrom_0 : decode cX0_copyFrom 0 = .ok (.aload_n 1, 1) := by decide +kernel
theorem dX0_copyFrom_1 : decode cX0_copyFrom 1 = .ok (.getfield 9, 3) := by decide +kernel
theorem dX0_copyFrom_4 : decode cX0_copyFrom 4 = .ok (.arraylength, 1) := by decide +kernel
theorem dX0_copyFrom_5 : decode cX0_copyFrom 5 = .ok (.aload_n 0, 1) := by decide +kernel
theorem dX0_copyFrom_6 : decode cX0_copyFrom 6 = .ok (.getfield 9, 3) := by decide +kernel
theorem dX0_copyFrom_9 : decode cX0_copyFrom 9 = .ok (.arraylength, 1) := by decide +kernel
theorem dX0_copyFrom_10 : decode cX0_copyFrom 10 = .ok (.if_icmp .eq 4, 3) := by decide +kernel
theorem dX0_copyFrom_13 : decode cX0_copyFrom 13 = .ok (.return_, 1) := by decide +kernel
theorem dX0_copyFrom_14 : decode cX0_copyFrom 14 = .ok (.aload_n 1, 1) := by decide +kernel
theorem dX0_copyFrom_15 : decode cX0_copyFrom 15 = .ok (.getfield 9, 3) := by decide +kernel
theorem dX0_copyFrom_18 : decode cX0_copyFrom 18 = .ok (.iconst 0, 1) := by decide +kernel
theorem dX0_copyFrom_19 : decode cX0_copyFrom 19 = .ok (.aload_n 0, 1) := by decide +kernel
theorem dX0_copyFrom_20 : decode cX0_copyFrom 20 = .ok (.getfield 9, 3) := by decide +kernel
theorem dX0_copyFrom_23 : decode cX0_copyFrom 23 = .ok (.iconst 0, 1) := by decide +kernel
theorem dX0_copyFrom_24 : decode cX0_copyFrom 24 = .ok (.aload_n 0, 1) := by decide +kernel
theorem dX0_copyFrom_25 : decode cX0_copyFrom 25 = .ok (.getfield 9, 3) := by decide +kernel
theorem dX0_copyFrom_28 : decode cX0_copyFrom 28 = .ok (.arraylength, 1) := by decide +kernel
theorem dX0_copyFrom_29 : decode cX0_copyFrom 29 = .ok (.invokestatic 39, 3) := by decide +kernel
theorem dX0_copyFrom_32 : decode cX0_copyFrom 32 = .ok (.aload_n 0, 1) := by decide +kernel
theorem dX0_copyFrom_33 : decode cX0_copyFrom 33 = .ok (.aload_n 1, 1) := by decide +kernel
theorem dX0_copyFrom_34 : decode cX0_copyFrom 34 = .ok (.getfield 19, 3) := by decide +kernel
theorem dX0_copyFrom_37 : decode cX0_copyFrom 37 = .ok (.putfield 19, 3) := by decide +kernel
theorem dX0_copyFrom_40 : decode cX0_copyFrom 40 = .ok (.aload_n 0, 1) := by decide +kernel
theorem dX0_copyFrom_41 : decode cX0_copyFrom 41 = .ok (.aload_n 1, 1) := by decide +kernel
theorem dX0_copyFrom_42 : decode cX0_copyFrom 42 = .ok (.getfield 22, 3) := by decide +kernel
theorem dX0_copyFrom_45 : decode cX0_copyFrom 45 = .ok (.putfield 22, 3) := by decide +kernel
theorem dX0_copyFrom_48 : decode cX0_copyFrom 48 = .ok (.aload_n 0, 1) := by decide +kernel
theorem dX0_copyFrom_49 : decode cX0_copyFrom 49 = .ok (.aload_n 1, 1) := by decide +kernel
theorem dX0_copyFrom_50 : decode cX0_copyFrom 50 = .ok (.getfield 25, 3) := by decide +kernel
theorem dX0_copyFrom_53 : decode cX0_copyFrom 53 = .ok (.putfield 25, 3) := by decide +kernel
theorem dX0_copyFrom_56 : decode cX0_copyFrom 56 = .ok (.aload_n 0, 1) := by decide +kernel
theorem dX0_copyFrom_57 : decode cX0_copyFrom 57 = .ok (.aload_n 1, 1) := by decide +kernel
theorem dX0_copyFrom_58 : decode cX0_copyFrom 58 = .ok (.getfield 15, 3) := by decide +kernel
theorem dX0_copyFrom_61 : decode cX0_copyFrom 61 = .ok (.putfield 15, 3) := by decide +kernel
theorem dX0_copyFrom_64 : decode cX0_copyFrom 64 = .ok (.return_, 1) := by decide +kernel
theorem dX0_add_0 : decode cX0_add 0 = .ok (.aload_n 0, 1) := by decide +kernel
theorem dX0_add_1 : decode cX0_add 1 = .ok (.invokevirtual 45, 3) := by decide +kernel
theorem dX0_add_4 : decode cX0_add 4 = .ok (.iconst 1, 1) := by decide +kernel
theorem dX0_add_5 : decode cX0_add 5 = .ok (.if_icmp .ge 5, 3) := by decide +kernel
theorem dX0_add_8 : decode cX0_add 8 = .ok (.iconst (-1), 1) := by decide +kernel
theorem dX0_add_9 : decode cX0_add 9 = .ok (.ireturn, 1) := by decide +kernel
theorem dX0_add_10 : decode cX0_add 10 = .ok (.aload_n 0, 1) := by decide +kernel
theorem dX0_add_11 : decode cX0_add 11 = .ok (.getfield 19, 3) := by decide +kernel
theorem dX0_add_14 : decode cX0_add 14 = .ok (.istore_n 2, 1) := by decide +kernel
theorem dX0_add_15 : decode cX0_add 15 = .ok (.aload_n 0, 1) := by decide +kernel
theorem dX0_add_16 : decode cX0_add 16 = .ok (.dup, 1) := by decide +kernel
theorem dX0_add_17 : decode cX0_add 17 = .ok (.getfield 19, 3) := by decide +kernel
theorem dX0_add_20 : decode cX0_add 20 = .ok (.iconst 1, 1) := by decide +kernel
theorem dX0_add_21 : decode cX0_add 21 = .ok (.iadd, 1) := by decide +kernel
theorem dX0_add_22 : decode cX0_add 22 = .ok (.putfield 19, 3) := by decide +kernel
theorem dX0_add_25 : decode cX0_add 25 = .ok (.aload_n 0, 1) := by decide +kernel
theorem dX0_add_26 : decode cX0_add 26 = .ok (.iload_n 2, 1) := by decide +kernel
theorem dX0_add_27 : decode cX0_add 27 = .ok (.iconst 0, 1) := by decide +kernel
theorem dX0_add_28 : decode cX0_add 28 = .ok (.invokevirtual 49, 3) := by decide +kernel
theorem dX0_add_31 : decode cX0_add 31 = .ok (.aload_n 0, 1) := by decide +kernel
theorem dX0_add_32 : decode cX0_add 32 = .ok (.iload_n 2, 1) := by decide +kernel
theorem dX0_add_33 : decode cX0_add 33 = .ok (.iconst 0, 1) := by decide +kernel
theorem dX0_add_34 : decode cX0_add 34 = .ok (.iload_n 1, 1) := by decide +kernel
theorem dX0_add_35 : decode cX0_add 35 = .ok (.bipush 100, 2) := by decide +kernel
theorem dX0_add_37 : decode cX0_add 37 = .ok (.idiv, 1) := by decide +kernel
theorem dX0_add_38 : decode cX0_add 38 = .ok (.invokevirtual 53, 3) := by decide +kernel
theorem dX0_add_41 : decode cX0_add 41 = .ok (.aload_n 0, 1) := by decide +kernel
theorem dX0_add_42 : decode cX0_add 42 = .ok (.iload_n 2, 1) := by decide +kernel
theorem dX0_add_43 : decode cX0_add 43 = .ok (.iconst 1, 1) := by decide +kernel
theorem dX0_add_44 : decode cX0_add 44 = .ok (.iload_n 1, 1) := by decide +kernel
theorem dX0_add_45 : decode cX0_add 45 = .ok (.bipush 100, 2) := by decide +kernel
theorem dX0_add_47 : decode cX0_add 47 = .ok (.irem, 1) := by decide +kernel
theorem dX0_add_48 : decode cX0_add 48 = .ok (.invokevirtual 53, 3) := by decide +kernel
theorem dX0_add_51 : decode cX0_add 51 = .ok (.iload_n 2, 1) := by decide +kernel
theorem dX0_add_52 : decode cX0_add 52 = .ok (.ireturn, 1) := by decide +kernel
theorem dX0_fill_0 : decode cX0_fill 0 = .ok (.iconst 0, 1) := by decide +kernel
theorem dX0_fill_1 : decode cX0_fill 1 = .ok (.istore_n 3, 1) := by decide +kernel
theorem dX0_fill_2 : decode cX0_fill 2 = .ok (.iload_n 3, 1) := by decide +kernel
theorem dX0_fill_3 : decode cX0_fill 3 = .ok (.bipush 10, 2) := by decide +kernel
theorem dX0_fill_5 : decode cX0_fill 5 = .ok (.if_icmp .ge 16, 3) := by decide +kernel
theorem dX0_fill_8 : decode cX0_fill 8 = .ok (.aload_n 0, 1) := by decide +kernel
theorem dX0_fill_9 : decode cX0_fill 9 = .ok (.iload_n 1, 1) := by decide +kernel
theorem dX0_fill_10 : decode cX0_fill 10 = .ok (.iload_n 3, 1) := by decide +kernel
theorem dX0_fill_11 : decode cX0_fill 11 = .ok (.iload_n 2, 1) := by decide +kernel
theorem dX0_fill_12 : decode cX0_fill 12 = .ok (.invokevirtual 53, 3) := by decide +kernel
theorem dX0_fill_15 : decode cX0_fill 15 = .ok (.iinc 3 1, 3) := by decide +kernel
theorem dX0_fill_18 : decode cX0_fill 18 = .ok (.goto (-16), 3) := by decide +kernel
theorem dX0_fill_21 : decode cX0_fill 21 = .ok (.return_, 1) := by decide +kernel
theorem dX0_addFirst_0 : decode cX0_addFirst 0 = .ok (.aload_n 0, 1) := by decide +kernel
theorem dX0_addFirst_1 : decode cX0_addFirst 1 = .ok (.iload_n 1, 1) := by decide +kernel
theorem dX0_addFirst_2 : decode cX0_addFirst 2 = .ok (.invokevirtual 57, 3) := by decide +kernel
theorem dX0_addFirst_5 : decode cX0_addFirst 5 = .ok (.istore_n 3, 1) := by decide +kernel
theorem dX0_addFirst_6 : decode cX0_addFirst 6 = .ok (.aload_n 0, 1) := by decide +kernel
theorem dX0_addFirst_7 : decode cX0_addFirst 7 = .ok (.iload_n 3, 1) := by decide +kernel
theorem dX0_addFirst_8 : decode cX0_addFirst 8 = .ok (.iconst 2, 1) := by decide +kernel
theorem dX0_addFirst_9 : decode cX0_addFirst 9 = .ok (.iload_n 2, 1) := by decide +kernel
theorem dX0_addFirst_10 : decode cX0_addFirst 10 = .ok (.invokevirtual 53, 3) := by decide +kernel
theorem dX0_addFirst_13 : decode cX0_addFirst 13 = .ok (.aload_n 0, 1) := by decide +kernel
theorem dX0_addFirst_14 : decode cX0_addFirst 14 = .ok (.getfield 22, 3) := by decide +kernel
theorem dX0_addFirst_17 : decode cX0_addFirst 17 = .ok (.iconst 4, 1) := by decide +kernel
theorem dX0_addFirst_18 : decode cX0_addFirst 18 = .ok (.if_icmp .ge 27, 3) := by decide +kernel
theorem dX0_addFirst_21 : decode cX0_addFirst 21 = .ok (.aload_n 0, 1) := by decide +kernel
theorem dX0_addFirst_22 : decode cX0_addFirst 22 = .ok (.iload_n 3, 1) := by decide +kernel
theorem dX0_addFirst_23 : decode cX0_addFirst 23 = .ok (.bipush 6, 2) := by decide +kernel
theorem dX0_addFirst_25 : decode cX0_addFirst 25 = .ok (.aload_n 0, 1) := by decide +kernel
theorem dX0_addFirst_26 : decode cX0_addFirst 26 = .ok (.getfield 22, 3) := by decide +kernel
theorem dX0_addFirst_29 : decode cX0_addFirst 29 = .ok (.iadd, 1) := by decide +kernel
theorem dX0_addFirst_30 : decode cX0_addFirst 30 = .ok (.ldc 61, 2) := by decide +kernel
theorem dX0_addFirst_32 : decode cX0_addFirst 32 = .ok (.invokevirtual 53, 3) := by decide +kernel
theorem dX0_addFirst_35 : decode cX0_addFirst 35 = .ok (.aload_n 0, 1) := by decide +kernel
theorem dX0_addFirst_36 : decode cX0_addFirst 36 = .ok (.dup, 1) := by decide +kernel
theorem dX0_addFirst_37 : decode cX0_addFirst 37 = .ok (.getfield 22, 3) := by decide +kernel
theorem dX0_addFirst_40 : decode cX0_addFirst 40 = .ok (.iconst 1, 1) := by decide +kernel
theorem dX0_addFirst_41 : decode cX0_addFirst 41 = .ok (.iadd, 1) := by decide +kernel
theorem dX0_addFirst_42 : decode cX0_addFirst 42 = .ok (.putfield 22, 3) := by decide +kernel
theorem dX0_addFirst_45 : decode cX0_addFirst 45 = .ok (.iload_n 3, 1) := by decide +kernel
theorem dX0_addFirst_46 : decode cX0_addFirst 46 = .ok (.ireturn, 1) := by decide +kernel
theorem dX0_pour_0 : decode cX0_pour 0 = .ok (.aload_n 0, 1) := by decide +kernel
theorem dX0_pour_1 : decode cX0_pour 1 = .ok (.iload_n 1, 1) := by decide +kernel
theorem dX0_pour_2 : decode cX0_pour 2 = .ok (.iconst 2, 1) := by decide +kernel
theorem dX0_pour_3 : decode cX0_pour 3 = .ok (.iload_n 3, 1) := by decide +kernel
theorem dX0_pour_4 : decode cX0_pour 4 = .ok (.bipush 8, 2) := by decide +kernel
theorem dX0_pour_6 : decode cX0_pour 6 = .ok (.invokevirtual 62, 3) := by decide +kernel
theorem dX0_pour_9 : decode cX0_pour 9 = .ok (.istore 4, 2) := by decide +kernel
theorem dX0_pour_11 : decode cX0_pour 11 = .ok (.aload_n 0, 1) := by decide +kernel
theorem dX0_pour_12 : decode cX0_pour 12 = .ok (.iload_n 2, 1) := by decide +kernel
theorem dX0_pour_13 : decode cX0_pour 13 = .ok (.iconst 2, 1) := by decide +kernel
theorem dX0_pour_14 : decode cX0_pour 14 = .ok (.invokevirtual 36, 3) := by decide +kernel
theorem dX0_pour_17 : decode cX0_pour 17 = .ok (.istore 5, 2) := by decide +kernel
theorem dX0_pour_19 : decode cX0_pour 19 = .ok (.bipush 6, 2) := by decide +kernel
theorem dX0_pour_21 : decode cX0_pour 21 = .ok (.istore 6, 2) := by decide +kernel
theorem dX0_pour_23 : decode cX0_pour 23 = .ok (.iload 6, 2) := by decide +kernel
theorem dX0_pour_25 : decode cX0_pour 25 = .ok (.bipush 10, 2) := by decide +kernel
theorem dX0_pour_27 : decode cX0_pour 27 = .ok (.if_icmp .ge 58, 3) := by decide +kernel
theorem dX0_pour_30 : decode cX0_pour 30 = .ok (.iload 4, 2) := by decide +kernel
theorem dX0_pour_32 : decode cX0_pour 32 = .ok (.i2l, 1) := by decide +kernel
theorem dX0_pour_33 : decode cX0_pour 33 = .ok (.aload_n 0, 1) := by decide +kernel
theorem dX0_pour_34 : decode cX0_pour 34 = .ok (.iload_n 1, 1) := by decide +kernel
theorem dX0_pour_35 : decode cX0_pour 35 = .ok (.iload 6, 2) := by decide +kernel
theorem dX0_pour_37 : decode cX0_pour 37 = .ok (.invokevirtual 36, 3) := by decide +kernel
theorem dX0_pour_40 : decode cX0_pour 40 = .ok (.i2l, 1) := by decide +kernel
theorem dX0_pour_41 : decode cX0_pour 41 = .ok (.lmul, 1) := by decide +kernel
theorem dX0_pour_42 : decode cX0_pour 42 = .ok (.lstore 7, 2) := by decide +kernel
theorem dX0_pour_44 : decode cX0_pour 44 = .ok (.iload 5, 2) := by decide +kernel
theorem dX0_pour_46 : decode cX0_pour 46 = .ok (.i2l, 1) := by decide +kernel
theorem dX0_pour_47 : decode cX0_pour 47 = .ok (.aload_n 0, 1) := by decide +kernel
theorem dX0_pour_48 : decode cX0_pour 48 = .ok (.iload_n 2, 1) := by decide +kernel
theorem dX0_pour_49 : decode cX0_pour 49 = .ok (.iload 6, 2) := by decide +kernel
theorem dX0_pour_51 : decode cX0_pour 51 = .ok (.invokevirtual 36, 3) := by decide +kernel
theorem dX0_pour_54 : decode cX0_pour 54 = .ok (.i2l, 1) := by decide +kernel
theorem dX0_pour_55 : decode cX0_pour 55 = .ok (.lmul, 1) := by decide +kernel
theorem dX0_pour_56 : decode cX0_pour 56 = .ok (.lstore 9, 2) := by decide +kernel
theorem dX0_pour_58 : decode cX0_pour 58 = .ok (.aload_n 0, 1) := by decide +kernel
theorem dX0_pour_59 : decode cX0_pour 59 = .ok (.iload_n 2, 1) := by decide +kernel
theorem dX0_pour_60 : decode cX0_pour 60 = .ok (.iload 6, 2) := by decide +kernel
theorem dX0_pour_62 : decode cX0_pour 62 = .ok (.lload 7, 2) := by decide +kernel
theorem dX0_pour_64 : decode cX0_pour 64 = .ok (.lload 9, 2) := by decide +kernel
theorem dX0_pour_66 : decode cX0_pour 66 = .ok (.ladd, 1) := by decide +kernel
theorem dX0_pour_67 : decode cX0_pour 67 = .ok (.iload 4, 2) := by decide +kernel
theorem dX0_pour_69 : decode cX0_pour 69 = .ok (.iload 5, 2) := by decide +kernel
theorem dX0_pour_71 : decode cX0_pour 71 = .ok (.iadd, 1) := by decide +kernel
theorem dX0_pour_72 : decode cX0_pour 72 = .ok (.i2l, 1) := by decide +kernel
theorem dX0_pour_73 : decode cX0_pour 73 = .ok (.invokestatic 66, 3) := by decide +kernel
theorem dX0_pour_76 : decode cX0_pour 76 = .ok (.invokevirtual 53, 3) := by decide +kernel
theorem dX0_pour_79 : decode cX0_pour 79 = .ok (.iinc 6 1, 3) := by decide +kernel
theorem dX0_pour_82 : decode cX0_pour 82 = .ok (.goto (-59), 3) := by decide +kernel
theorem dX0_pour_85 : decode cX0_pour 85 = .ok (.ldc 70, 2) := by decide +kernel
theorem dX0_pour_87 : decode cX0_pour 87 = .ok (.iload 5, 2) := by decide +kernel
theorem dX0_pour_89 : decode cX0_pour 89 = .ok (.iload 4, 2) := by decide +kernel
theorem dX0_pour_91 : decode cX0_pour 91 = .ok (.iadd, 1) := by decide +kernel
theorem dX0_pour_92 : decode cX0_pour 92 = .ok (.invokestatic 71, 3) := by decide +kernel
theorem dX0_pour_95 : decode cX0_pour 95 = .ok (.istore 6, 2) := by decide +kernel
theorem dX0_pour_97 : decode cX0_pour 97 = .ok (.aload_n 0, 1) := by decide +kernel
theorem dX0_pour_98 : decode cX0_pour 98 = .ok (.iload_n 2, 1) := by decide +kernel
theorem dX0_pour_99 : decode cX0_pour 99 = .ok (.iconst 2, 1) := by decide +kernel
theorem dX0_pour_100 : decode cX0_pour 100 = .ok (.iload 6, 2) := by decide +kernel
theorem dX0_pour_102 : decode cX0_pour 102 = .ok (.invokevirtual 53, 3) := by decide +kernel
theorem dX0_pour_105 : decode cX0_pour 105 = .ok (.iconst 3, 1) := by decide +kernel
theorem dX0_pour_106 : decode cX0_pour 106 = .ok (.istore 7, 2) := by decide +kernel
theorem dX0_pour_108 : decode cX0_pour 108 = .ok (.iload 7, 2) := by decide +kernel
theorem dX0_pour_110 : decode cX0_pour 110 = .ok (.bipush 6, 2) := by decide +kernel
theorem dX0_pour_112 : decode cX0_pour 112 = .ok (.if_icmp .ge 43, 3) := by decide +kernel
theorem dX0_pour_115 : decode cX0_pour 115 = .ok (.aload_n 0, 1) := by decide +kernel
theorem dX0_pour_116 : decode cX0_pour 116 = .ok (.iload_n 2, 1) := by decide +kernel
theorem dX0_pour_117 : decode cX0_pour 117 = .ok (.iload 7, 2) := by decide +kernel
theorem dX0_pour_119 : decode cX0_pour 119 = .ok (.invokevirtual 36, 3) := by decide +kernel
theorem dX0_pour_122 : decode cX0_pour 122 = .ok (.aload_n 0, 1) := by decide +kernel
theorem dX0_pour_123 : decode cX0_pour 123 = .ok (.iload_n 1, 1) := by decide +kernel
theorem dX0_pour_124 : decode cX0_pour 124 = .ok (.iload 7, 2) := by decide +kernel
theorem dX0_pour_126 : decode cX0_pour 126 = .ok (.iload_n 3, 1) := by decide +kernel
theorem dX0_pour_127 : decode cX0_pour 127 = .ok (.bipush 8, 2) := by decide +kernel
theorem dX0_pour_129 : decode cX0_pour 129 = .ok (.invokevirtual 62, 3) := by decide +kernel
theorem dX0_pour_132 : decode cX0_pour 132 = .ok (.iadd, 1) := by decide +kernel
theorem dX0_pour_133 : decode cX0_pour 133 = .ok (.istore 8, 2) := by decide +kernel
theorem dX0_pour_135 : decode cX0_pour 135 = .ok (.aload_n 0, 1) := by decide +kernel
theorem dX0_pour_136 : decode cX0_pour 136 = .ok (.iload_n 2, 1) := by decide +kernel
theorem dX0_pour_137 : decode cX0_pour 137 = .ok (.iload 7, 2) := by decide +kernel
theorem dX0_pour_139 : decode cX0_pour 139 = .ok (.iload 6, 2) := by decide +kernel
theorem dX0_pour_141 : decode cX0_pour 141 = .ok (.iload 8, 2) := by decide +kernel
theorem dX0_pour_143 : decode cX0_pour 143 = .ok (.invokestatic 71, 3) := by decide +kernel
theorem dX0_pour_146 : decode cX0_pour 146 = .ok (.invokevirtual 53, 3) := by decide +kernel
theorem dX0_pour_149 : decode cX0_pour 149 = .ok (.iinc 7 1, 3) := by decide +kernel
theorem dX0_pour_152 : decode cX0_pour 152 = .ok (.goto (-44), 3) := by decide +kernel
theorem dX0_pour_155 : decode cX0_pour 155 = .ok (.aload_n 0, 1) := by decide +kernel
theorem dX0_pour_156 : decode cX0_pour 156 = .ok (.iload_n 1, 1) := by decide +kernel
theorem dX0_pour_157 : decode cX0_pour 157 = .ok (.iload_n 3, 1) := by decide +kernel
theorem dX0_pour_158 : decode cX0_pour 158 = .ok (.bipush 8, 2) := by decide +kernel
theorem dX0_pour_160 : decode cX0_pour 160 = .ok (.invokevirtual 76, 3) := by decide +kernel
theorem dX0_pour_163 : decode cX0_pour 163 = .ok (.return_, 1) := by decide +kernel
theorem dX0_partOf_0 : decode cX0_partOf 0 = .ok (.aload_n 0, 1) := by decide +kernel
theorem dX0_partOf_1 : decode cX0_partOf 1 = .ok (.iload_n 1, 1) := by decide +kernel
theorem dX0_partOf_2 : decode cX0_partOf 2 = .ok (.iload_n 2, 1) := by decide +kernel
theorem dX0_partOf_3 : decode cX0_partOf 3 = .ok (.invokevirtual 36, 3) := by decide +kernel
theorem dX0_partOf_6 : decode cX0_partOf 6 = .ok (.i2l, 1) := by decide +kernel
theorem dX0_partOf_7 : decode cX0_partOf 7 = .ok (.iload_n 3, 1) := by decide +kernel
theorem dX0_partOf_8 : decode cX0_partOf 8 = .ok (.i2l, 1) := by decide +kernel
theorem dX0_partOf_9 : decode cX0_partOf 9 = .ok (.lmul, 1) := by decide +kernel
theorem dX0_partOf_10 : decode cX0_partOf 10 = .ok (.iload 4, 2) := by decide +kernel
theorem dX0_partOf_12 : decode cX0_partOf 12 = .ok (.i2l, 1) := by decide +kernel
theorem dX0_partOf_13 : decode cX0_partOf 13 = .ok (.invokestatic 66, 3) := by decide +kernel
theorem dX0_partOf_16 : decode cX0_partOf 16 = .ok (.ireturn, 1) := by decide +kernel
theorem dX0_lose_0 : decode cX0_lose 0 = .ok (.iconst 2, 1) := by decide +kernel
theorem dX0_lose_1 : decode cX0_lose 1 = .ok (.istore 4, 2) := by decide +kernel
theorem dX0_lose_3 : decode cX0_lose 3 = .ok (.iload 4, 2) := by decide +kernel
theorem dX0_lose_5 : decode cX0_lose 5 = .ok (.bipush 6, 2) := by decide +kernel
theorem dX0_lose_7 : decode cX0_lose 7 = .ok (.if_icmp .ge 33, 3) := by decide +kernel
theorem dX0_lose_10 : decode cX0_lose 10 = .ok (.aload_n 0, 1) := by decide +kernel
theorem dX0_lose_11 : decode cX0_lose 11 = .ok (.iload_n 1, 1) := by decide +kernel
theorem dX0_lose_12 : decode cX0_lose 12 = .ok (.iload 4, 2) := by decide +kernel
theorem dX0_lose_14 : decode cX0_lose 14 = .ok (.aload_n 0, 1) := by decide +kernel
theorem dX0_lose_15 : decode cX0_lose 15 = .ok (.iload_n 1, 1) := by decide +kernel
theorem dX0_lose_16 : decode cX0_lose 16 = .ok (.iload 4, 2) := by decide +kernel
theorem dX0_lose_18 : decode cX0_lose 18 = .ok (.invokevirtual 36, 3) := by decide +kernel
theorem dX0_lose_21 : decode cX0_lose 21 = .ok (.aload_n 0, 1) := by decide +kernel
theorem dX0_lose_22 : decode cX0_lose 22 = .ok (.iload_n 1, 1) := by decide +kernel
theorem dX0_lose_23 : decode cX0_lose 23 = .ok (.iload 4, 2) := by decide +kernel
theorem dX0_lose_25 : decode cX0_lose 25 = .ok (.iload_n 2, 1) := by decide +kernel
theorem dX0_lose_26 : decode cX0_lose 26 = .ok (.iload_n 3, 1) := by decide +kernel
theorem dX0_lose_27 : decode cX0_lose 27 = .ok (.invokevirtual 62, 3) := by decide +kernel
theorem dX0_lose_30 : decode cX0_lose 30 = .ok (.isub, 1) := by decide +kernel
theorem dX0_lose_31 : decode cX0_lose 31 = .ok (.invokevirtual 53, 3) := by decide +kernel
theorem dX0_lose_34 : decode cX0_lose 34 = .ok (.iinc 4 1, 3) := by decide +kernel
theorem dX0_lose_37 : decode cX0_lose 37 = .ok (.goto (-34), 3) := by decide +kernel
theorem dX0_lose_40 : decode cX0_lose 40 = .ok (.return_, 1) := by decide +kernel
theorem dX0_addTin_0 : decode cX0_addTin 0 = .ok (.aload_n 0, 1) := by decide +kernel
theorem dX0_addTin_1 : decode cX0_addTin 1 = .ok (.bipush 12, 2) := by decide +kernel
theorem dX0_addTin_3 : decode cX0_addTin 3 = .ok (.iconst 2, 1) := by decide +kernel
theorem dX0_addTin_4 : decode cX0_addTin 4 = .ok (.invokevirtual 36, 3) := by decide +kernel
theorem dX0_addTin_7 : decode cX0_addTin 7 = .ok (.istore_n 2, 1) := by decide +kernel
theorem dX0_addTin_8 : decode cX0_addTin 8 = .ok (.ldc 70, 2) := by decide +kernel
theorem dX0_addTin_10 : decode cX0_addTin 10 = .ok (.iload_n 2, 1) := by decide +kernel
theorem dX0_addTin_11 : decode cX0_addTin 11 = .ok (.iload_n 1, 1) := by decide +kernel
theorem dX0_addTin_12 : decode cX0_addTin 12 = .ok (.iadd, 1) := by decide +kernel
theorem dX0_addTin_13 : decode cX0_addTin 13 = .ok (.invokestatic 71, 3) := by decide +kernel
theorem dX0_addTin_16 : decode cX0_addTin 16 = .ok (.istore_n 3, 1) := by decide +kernel
theorem dX0_addTin_17 : decode cX0_addTin 17 = .ok (.aload_n 0, 1) := by decide +kernel
theorem dX0_addTin_18 : decode cX0_addTin 18 = .ok (.bipush 12, 2) := by decide +kernel
theorem dX0_addTin_20 : decode cX0_addTin 20 = .ok (.iconst 2, 1) := by decide +kernel
theorem dX0_addTin_21 : decode cX0_addTin 21 = .ok (.iload_n 3, 1) := by decide +kernel
theorem dX0_addTin_22 : decode cX0_addTin 22 = .ok (.invokevirtual 53, 3) := by decide +kernel
theorem dX0_addTin_25 : decode cX0_addTin 25 = .ok (.aload_n 0, 1) := by decide +kernel
theorem dX0_addTin_26 : decode cX0_addTin 26 = .ok (.bipush 12, 2) := by decide +kernel
theorem dX0_addTin_28 : decode cX0_addTin 28 = .ok (.iconst 3, 1) := by decide +kernel
theorem dX0_addTin_29 : decode cX0_addTin 29 = .ok (.iload_n 3, 1) := by decide +kernel
theorem dX0_addTin_30 : decode cX0_addTin 30 = .ok (.aload_n 0, 1) := by decide +kernel
theorem dX0_addTin_31 : decode cX0_addTin 31 = .ok (.bipush 12, 2) := by decide +kernel
theorem dX0_addTin_33 : decode cX0_addTin 33 = .ok (.iconst 3, 1) := by decide +kernel
theorem dX0_addTin_34 : decode cX0_addTin 34 = .ok (.invokevirtual 36, 3) := by decide +kernel
theorem dX0_addTin_37 : decode cX0_addTin 37 = .ok (.iload_n 1, 1) := by decide +kernel
theorem dX0_addTin_38 : decode cX0_addTin 38 = .ok (.iadd, 1) := by decide +kernel
theorem dX0_addTin_39 : decode cX0_addTin 39 = .ok (.invokestatic 71, 3) := by decide +kernel
theorem dX0_addTin_42 : decode cX0_addTin 42 = .ok (.invokevirtual 53, 3) := by decide +kernel
theorem dX0_addTin_45 : decode cX0_addTin 45 = .ok (.bipush 6, 2) := by decide +kernel
theorem dX0_addTin_47 : decode cX0_addTin 47 = .ok (.istore 4, 2) := by decide +kernel
theorem dX0_addTin_49 : decode cX0_addTin 49 = .ok (.iload 4, 2) := by decide +kernel
theorem dX0_addTin_51 : decode cX0_addTin 51 = .ok (.bipush 10, 2) := by decide +kernel
theorem dX0_addTin_53 : decode cX0_addTin 53 = .ok (.if_icmp .ge 38, 3) := by decide +kernel
theorem dX0_addTin_56 : decode cX0_addTin 56 = .ok (.aload_n 0, 1) := by decide +kernel
theorem dX0_addTin_57 : decode cX0_addTin 57 = .ok (.bipush 12, 2) := by decide +kernel
theorem dX0_addTin_59 : decode cX0_addTin 59 = .ok (.iload 4, 2) := by decide +kernel
theorem dX0_addTin_61 : decode cX0_addTin 61 = .ok (.invokevirtual 36, 3) := by decide +kernel
theorem dX0_addTin_64 : decode cX0_addTin 64 = .ok (.i2l, 1) := by decide +kernel
theorem dX0_addTin_65 : decode cX0_addTin 65 = .ok (.iload_n 2, 1) := by decide +kernel
theorem dX0_addTin_66 : decode cX0_addTin 66 = .ok (.i2l, 1) := by decide +kernel
theorem dX0_addTin_67 : decode cX0_addTin 67 = .ok (.lmul, 1) := by decide +kernel
theorem dX0_addTin_68 : decode cX0_addTin 68 = .ok (.lstore 5, 2) := by decide +kernel
theorem dX0_addTin_70 : decode cX0_addTin 70 = .ok (.aload_n 0, 1) := by decide +kernel
theorem dX0_addTin_71 : decode cX0_addTin 71 = .ok (.bipush 12, 2) := by decide +kernel
theorem dX0_addTin_73 : decode cX0_addTin 73 = .ok (.iload 4, 2) := by decide +kernel
theorem dX0_addTin_75 : decode cX0_addTin 75 = .ok (.lload 5, 2) := by decide +kernel
theorem dX0_addTin_77 : decode cX0_addTin 77 = .ok (.iload_n 3, 1) := by decide +kernel
theorem dX0_addTin_78 : decode cX0_addTin 78 = .ok (.i2l, 1) := by decide +kernel
theorem dX0_addTin_79 : decode cX0_addTin 79 = .ok (.invokestatic 66, 3) := by decide +kernel
theorem dX0_addTin_82 : decode cX0_addTin 82 = .ok (.invokevirtual 53, 3) := by decide +kernel
theorem dX0_addTin_85 : decode cX0_addTin 85 = .ok (.iinc 4 1, 3) := by decide +kernel
theorem dX0_addTin_88 : decode cX0_addTin 88 = .ok (.goto (-39), 3) := by decide +kernel
theorem dX0_addTin_91 : decode cX0_addTin 91 = .ok (.return_, 1) := by decide +kernel
theorem dX0_addCast_0 : decode cX0_addCast 0 = .ok (.aload_n 0, 1) := by decide +kernel
theorem dX0_addCast_1 : decode cX0_addCast 1 = .ok (.iload_n 1, 1) := by decide +kernel
theorem dX0_addCast_2 : decode cX0_addCast 2 = .ok (.invokevirtual 57, 3) := by decide +kernel
theorem dX0_addCast_5 : decode cX0_addCast 5 = .ok (.istore_n 3, 1) := by decide +kernel
theorem dX0_addCast_6 : decode cX0_addCast 6 = .ok (.iload_n 2, 1) := by decide +kernel
theorem dX0_addCast_7 : decode cX0_addCast 7 = .ok (.ifCond .le 13, 3) := by decide +kernel
theorem dX0_addCast_10 : decode cX0_addCast 10 = .ok (.aload_n 0, 1) := by decide +kernel
theorem dX0_addCast_11 : decode cX0_addCast 11 = .ok (.sipush 600, 3) := by decide +kernel
theorem dX0_addCast_14 : decode cX0_addCast 14 = .ok (.invokevirtual 57, 3) := by decide +kernel
theorem dX0_addCast_17 : decode cX0_addCast 17 = .ok (.goto 4, 3) := by decide +kernel
theorem dX0_addCast_20 : decode cX0_addCast 20 = .ok (.iconst (-1), 1) := by decide +kernel
theorem dX0_addCast_21 : decode cX0_addCast 21 = .ok (.istore 4, 2) := by decide +kernel
theorem dX0_addCast_23 : decode cX0_addCast 23 = .ok (.iconst 2, 1) := by decide +kernel
theorem dX0_addCast_24 : decode cX0_addCast 24 = .ok (.istore 5, 2) := by decide +kernel
theorem dX0_addCast_26 : decode cX0_addCast 26 = .ok (.iload 5, 2) := by decide +kernel
theorem dX0_addCast_28 : decode cX0_addCast 28 = .ok (.bipush 10, 2) := by decide +kernel
theorem dX0_addCast_30 : decode cX0_addCast 30 = .ok (.if_icmp .ge 88, 3) := by decide +kernel
theorem dX0_addCast_33 : decode cX0_addCast 33 = .ok (.iload 5, 2) := by decide +kernel
theorem dX0_addCast_35 : decode cX0_addCast 35 = .ok (.bipush 6, 2) := by decide +kernel
theorem dX0_addCast_37 : decode cX0_addCast 37 = .ok (.if_icmp .lt 7, 3) := by decide +kernel
theorem dX0_addCast_40 : decode cX0_addCast 40 = .ok (.iconst 1, 1) := by decide +kernel
theorem dX0_addCast_41 : decode cX0_addCast 41 = .ok (.goto 4, 3) := by decide +kernel
theorem dX0_addCast_44 : decode cX0_addCast 44 = .ok (.iconst 0, 1) := by decide +kernel
theorem dX0_addCast_45 : decode cX0_addCast 45 = .ok (.istore 6, 2) := by decide +kernel
theorem dX0_addCast_47 : decode cX0_addCast 47 = .ok (.aload_n 0, 1) := by decide +kernel
theorem dX0_addCast_48 : decode cX0_addCast 48 = .ok (.bipush 12, 2) := by decide +kernel
theorem dX0_addCast_50 : decode cX0_addCast 50 = .ok (.iload 5, 2) := by decide +kernel
theorem dX0_addCast_52 : decode cX0_addCast 52 = .ok (.invokevirtual 36, 3) := by decide +kernel
theorem dX0_addCast_55 : decode cX0_addCast 55 = .ok (.istore 7, 2) := by decide +kernel
theorem dX0_addCast_57 : decode cX0_addCast 57 = .ok (.iload 6, 2) := by decide +kernel
theorem dX0_addCast_59 : decode cX0_addCast 59 = .ok (.ifCond .eq 8, 3) := by decide +kernel
theorem dX0_addCast_62 : decode cX0_addCast 62 = .ok (.iload 7, 2) := by decide +kernel
theorem dX0_addCast_64 : decode cX0_addCast 64 = .ok (.goto 14, 3) := by decide +kernel
theorem dX0_addCast_67 : decode cX0_addCast 67 = .ok (.aload_n 0, 1) := by decide +kernel
theorem dX0_addCast_68 : decode cX0_addCast 68 = .ok (.bipush 12, 2) := by decide +kernel
theorem dX0_addCast_70 : decode cX0_addCast 70 = .ok (.iload 5, 2) := by decide +kernel
theorem dX0_addCast_72 : decode cX0_addCast 72 = .ok (.iload_n 2, 1) := by decide +kernel
theorem dX0_addCast_73 : decode cX0_addCast 73 = .ok (.bipush 10, 2) := by decide +kernel
theorem dX0_addCast_75 : decode cX0_addCast 75 = .ok (.invokevirtual 62, 3) := by decide +kernel
theorem dX0_addCast_78 : decode cX0_addCast 78 = .ok (.istore 8, 2) := by decide +kernel
theorem dX0_addCast_80 : decode cX0_addCast 80 = .ok (.aload_n 0, 1) := by decide +kernel
theorem dX0_addCast_81 : decode cX0_addCast 81 = .ok (.iload_n 3, 1) := by decide +kernel
theorem dX0_addCast_82 : decode cX0_addCast 82 = .ok (.iload 5, 2) := by decide +kernel
theorem dX0_addCast_84 : decode cX0_addCast 84 = .ok (.iload 6, 2) := by decide +kernel
theorem dX0_addCast_86 : decode cX0_addCast 86 = .ok (.ifCond .eq 8, 3) := by decide +kernel
theorem dX0_addCast_89 : decode cX0_addCast 89 = .ok (.iload 7, 2) := by decide +kernel
theorem dX0_addCast_91 : decode cX0_addCast 91 = .ok (.goto 8, 3) := by decide +kernel
theorem dX0_addCast_94 : decode cX0_addCast 94 = .ok (.iload 7, 2) := by decide +kernel
theorem dX0_addCast_96 : decode cX0_addCast 96 = .ok (.iload 8, 2) := by decide +kernel
theorem dX0_addCast_98 : decode cX0_addCast 98 = .ok (.isub, 1) := by decide +kernel
theorem dX0_addCast_99 : decode cX0_addCast 99 = .ok (.invokevirtual 53, 3) := by decide +kernel
theorem dX0_addCast_102 : decode cX0_addCast 102 = .ok (.aload_n 0, 1) := by decide +kernel
theorem dX0_addCast_103 : decode cX0_addCast 103 = .ok (.iload 4, 2) := by decide +kernel
theorem dX0_addCast_105 : decode cX0_addCast 105 = .ok (.iload 5, 2) := by decide +kernel
theorem dX0_addCast_107 : decode cX0_addCast 107 = .ok (.iload 8, 2) := by decide +kernel
theorem dX0_addCast_109 : decode cX0_addCast 109 = .ok (.invokevirtual 53, 3) := by decide +kernel
theorem dX0_addCast_112 : decode cX0_addCast 112 = .ok (.iinc 5 1, 3) := by decide +kernel
theorem dX0_addCast_115 : decode cX0_addCast 115 = .ok (.goto (-89), 3) := by decide +kernel
theorem dX0_addCast_118 : decode cX0_addCast 118 = .ok (.aload_n 0, 1) := by decide +kernel
theorem dX0_addCast_119 : decode cX0_addCast 119 = .ok (.bipush 12, 2) := by decide +kernel
theorem dX0_addCast_121 : decode cX0_addCast 121 = .ok (.iconst 0, 1) := by decide +kernel
theorem dX0_addCast_122 : decode cX0_addCast 122 = .ok (.invokevirtual 49, 3) := by decide +kernel
theorem dX0_addCast_125 : decode cX0_addCast 125 = .ok (.iload_n 3, 1) := by decide +kernel
theorem dX0_addCast_126 : decode cX0_addCast 126 = .ok (.ireturn, 1) := by decide +kernel
theorem dX0_passYears_0 : decode cX0_passYears 0 = .ok (.iconst 0, 1) := by decide +kernel
theorem dX0_passYears_1 : decode cX0_passYears 1 = .ok (.istore_n 2, 1) := by decide +kernel
theorem dX0_passYears_2 : decode cX0_passYears 2 = .ok (.iload_n 2, 1) := by decide +kernel
theorem dX0_passYears_3 : decode cX0_passYears 3 = .ok (.iload_n 1, 1) := by decide +kernel
theorem dX0_passYears_4 : decode cX0_passYears 4 = .ok (.if_icmp .ge 13, 3) := by decide +kernel
theorem dX0_passYears_7 : decode cX0_passYears 7 = .ok (.aload_n 0, 1) := by decide +kernel
theorem dX0_passYears_8 : decode cX0_passYears 8 = .ok (.invokevirtual 79, 3) := by decide +kernel
theorem dX0_passYears_11 : decode cX0_passYears 11 = .ok (.iinc 2 1, 3) := by decide +kernel
theorem dX0_passYears_14 : decode cX0_passYears 14 = .ok (.goto (-12), 3) := by decide +kernel
theorem dX0_passYears_17 : decode cX0_passYears 17 = .ok (.return_, 1) := by decide +kernel
theorem dX0_passYear_0 : decode cX0_passYear 0 = .ok (.aload_n 0, 1) := by decide +kernel
theorem dX0_passYear_1 : decode cX0_passYear 1 = .ok (.dup, 1) := by decide +kernel
theorem dX0_passYear_2 : decode cX0_passYear 2 = .ok (.getfield 25, 3) := by decide +kernel
theorem dX0_passYear_5 : decode cX0_passYear 5 = .ok (.iconst 1, 1) := by decide +kernel
theorem dX0_passYear_6 : decode cX0_passYear 6 = .ok (.iadd, 1) := by decide +kernel
theorem dX0_passYear_7 : decode cX0_passYear 7 = .ok (.putfield 25, 3) := by decide +kernel
theorem dX0_passYear_10 : decode cX0_passYear 10 = .ok (.iconst 0, 1) := by decide +kernel
theorem dX0_passYear_11 : decode cX0_passYear 11 = .ok (.istore_n 1, 1) := by decide +kernel
theorem dX0_passYear_12 : decode cX0_passYear 12 = .ok (.iload_n 1, 1) := by decide +kernel
theorem dX0_passYear_13 : decode cX0_passYear 13 = .ok (.aload_n 0, 1) := by decide +kernel
theorem dX0_passYear_14 : decode cX0_passYear 14 = .ok (.getfield 19, 3) := by decide +kernel
theorem dX0_passYear_17 : decode cX0_passYear 17 = .ok (.if_icmp .ge 51, 3) := by decide +kernel
theorem dX0_passYear_20 : decode cX0_passYear 20 = .ok (.aload_n 0, 1) := by decide +kernel
theorem dX0_passYear_21 : decode cX0_passYear 21 = .ok (.aload_n 0, 1) := by decide +kernel
theorem dX0_passYear_22 : decode cX0_passYear 22 = .ok (.getfield 15, 3) := by decide +kernel
theorem dX0_passYear_25 : decode cX0_passYear 25 = .ok (.ldc 82, 2) := by decide +kernel
theorem dX0_passYear_27 : decode cX0_passYear 27 = .ok (.imul, 1) := by decide +kernel
theorem dX0_passYear_28 : decode cX0_passYear 28 = .ok (.sipush 12345, 3) := by decide +kernel
theorem dX0_passYear_31 : decode cX0_passYear 31 = .ok (.iadd, 1) := by decide +kernel
theorem dX0_passYear_32 : decode cX0_passYear 32 = .ok (.putfield 15, 3) := by decide +kernel
theorem dX0_passYear_35 : decode cX0_passYear 35 = .ok (.aload_n 0, 1) := by decide +kernel
theorem dX0_passYear_36 : decode cX0_passYear 36 = .ok (.getfield 15, 3) := by decide +kernel
theorem dX0_passYear_39 : decode cX0_passYear 39 = .ok (.bipush 8, 2) := by decide +kernel
theorem dX0_passYear_41 : decode cX0_passYear 41 = .ok (.iushr, 1) := by decide +kernel
theorem dX0_passYear_42 : decode cX0_passYear 42 = .ok (.bipush 100, 2) := by decide +kernel
theorem dX0_passYear_44 : decode cX0_passYear 44 = .ok (.irem, 1) := by decide +kernel
theorem dX0_passYear_45 : decode cX0_passYear 45 = .ok (.aload_n 0, 1) := by decide +kernel
theorem dX0_passYear_46 : decode cX0_passYear 46 = .ok (.iload_n 1, 1) := by decide +kernel
theorem dX0_passYear_47 : decode cX0_passYear 47 = .ok (.iconst 1, 1) := by decide +kernel
theorem dX0_passYear_48 : decode cX0_passYear 48 = .ok (.invokevirtual 36, 3) := by decide +kernel
theorem dX0_passYear_51 : decode cX0_passYear 51 = .ok (.if_icmp .ge 11, 3) := by decide +kernel
theorem dX0_passYear_54 : decode cX0_passYear 54 = .ok (.aload_n 0, 1) := by decide +kernel
theorem dX0_passYear_55 : decode cX0_passYear 55 = .ok (.iload_n 1, 1) := by decide +kernel
theorem dX0_passYear_56 : decode cX0_passYear 56 = .ok (.iconst 1, 1) := by decide +kernel
theorem dX0_passYear_57 : decode cX0_passYear 57 = .ok (.bipush 100, 2) := by decide +kernel
theorem dX0_passYear_59 : decode cX0_passYear 59 = .ok (.invokevirtual 76, 3) := by decide +kernel
theorem dX0_passYear_62 : decode cX0_passYear 62 = .ok (.iinc 1 1, 3) := by decide +kernel
theorem dX0_passYear_65 : decode cX0_passYear 65 = .ok (.goto (-53), 3) := by decide +kernel
theorem dX0_passYear_68 : decode cX0_passYear 68 = .ok (.return_, 1) := by decide +kernel
theorem dX0_mostOf_0 : decode cX0_mostOf 0 = .ok (.iconst 0, 1) := by decide +kernel
theorem dX0_mostOf_1 : decode cX0_mostOf 1 = .ok (.istore_n 3, 1) := by decide +kernel
theorem dX0_mostOf_2 : decode cX0_mostOf 2 = .ok (.iconst 0, 1) := by decide +kernel
theorem dX0_mostOf_3 : decode cX0_mostOf 3 = .ok (.istore 4, 2) := by decide +kernel
theorem dX0_mostOf_5 : decode cX0_mostOf 5 = .ok (.iconst 1, 1) := by decide +kernel
theorem dX0_mostOf_6 : decode cX0_mostOf 6 = .ok (.istore 5, 2) := by decide +kernel
theorem dX0_mostOf_8 : decode cX0_mostOf 8 = .ok (.iload 5, 2) := by decide +kernel
theorem dX0_mostOf_10 : decode cX0_mostOf 10 = .ok (.iconst 1, 1) := by decide +kernel
theorem dX0_mostOf_11 : decode cX0_mostOf 11 = .ok (.aload_n 0, 1) := by decide +kernel
theorem dX0_mostOf_12 : decode cX0_mostOf 12 = .ok (.getfield 19, 3) := by decide +kernel
theorem dX0_mostOf_15 : decode cX0_mostOf 15 = .ok (.ishl, 1) := by decide +kernel
theorem dX0_mostOf_16 : decode cX0_mostOf 16 = .ok (.if_icmp .ge 65, 3) := by decide +kernel
theorem dX0_mostOf_19 : decode cX0_mostOf 19 = .ok (.iload 5, 2) := by decide +kernel
theorem dX0_mostOf_21 : decode cX0_mostOf 21 = .ok (.invokestatic 83, 3) := by decide +kernel
theorem dX0_mostOf_24 : decode cX0_mostOf 24 = .ok (.istore 6, 2) := by decide +kernel
theorem dX0_mostOf_26 : decode cX0_mostOf 26 = .ok (.iload 6, 2) := by decide +kernel
theorem dX0_mostOf_28 : decode cX0_mostOf 28 = .ok (.iload_n 2, 1) := by decide +kernel
theorem dX0_mostOf_29 : decode cX0_mostOf 29 = .ok (.if_icmp .gt 13, 3) := by decide +kernel
theorem dX0_mostOf_32 : decode cX0_mostOf 32 = .ok (.aload_n 0, 1) := by decide +kernel
theorem dX0_mostOf_33 : decode cX0_mostOf 33 = .ok (.iload 5, 2) := by decide +kernel
theorem dX0_mostOf_35 : decode cX0_mostOf 35 = .ok (.iload_n 1, 1) := by decide +kernel
theorem dX0_mostOf_36 : decode cX0_mostOf 36 = .ok (.invokevirtual 88, 3) := by decide +kernel
theorem dX0_mostOf_39 : decode cX0_mostOf 39 = .ok (.goto 4, 3) := by decide +kernel
theorem dX0_mostOf_42 : decode cX0_mostOf 42 = .ok (.iconst (-1), 1) := by decide +kernel
theorem dX0_mostOf_43 : decode cX0_mostOf 43 = .ok (.istore 7, 2) := by decide +kernel
theorem dX0_mostOf_45 : decode cX0_mostOf 45 = .ok (.iload 7, 2) := by decide +kernel
theorem dX0_mostOf_47 : decode cX0_mostOf 47 = .ok (.iload 4, 2) := by decide +kernel
theorem dX0_mostOf_49 : decode cX0_mostOf 49 = .ok (.if_icmp .gt 19, 3) := by decide +kernel
theorem dX0_mostOf_52 : decode cX0_mostOf 52 = .ok (.iload 7, 2) := by decide +kernel
theorem dX0_mostOf_54 : decode cX0_mostOf 54 = .ok (.iload 4, 2) := by decide +kernel
theorem dX0_mostOf_56 : decode cX0_mostOf 56 = .ok (.if_icmp .ne 19, 3) := by decide +kernel
theorem dX0_mostOf_59 : decode cX0_mostOf 59 = .ok (.iload 6, 2) := by decide +kernel
theorem dX0_mostOf_61 : decode cX0_mostOf 61 = .ok (.iload_n 3, 1) := by decide +kernel
theorem dX0_mostOf_62 : decode cX0_mostOf 62 = .ok (.invokestatic 83, 3) := by decide +kernel
theorem dX0_mostOf_65 : decode cX0_mostOf 65 = .ok (.if_icmp .ge 10, 3) := by decide +kernel
theorem dX0_mostOf_68 : decode cX0_mostOf 68 = .ok (.iload 5, 2) := by decide +kernel
theorem dX0_mostOf_70 : decode cX0_mostOf 70 = .ok (.istore_n 3, 1) := by decide +kernel
theorem dX0_mostOf_71 : decode cX0_mostOf 71 = .ok (.iload 7, 2) := by decide +kernel
theorem dX0_mostOf_73 : decode cX0_mostOf 73 = .ok (.istore 4, 2) := by decide +kernel
theorem dX0_mostOf_75 : decode cX0_mostOf 75 = .ok (.iinc 5 1, 3) := by decide +kernel
theorem dX0_mostOf_78 : decode cX0_mostOf 78 = .ok (.goto (-70), 3) := by decide +kernel
theorem dX0_mostOf_81 : decode cX0_mostOf 81 = .ok (.iload_n 3, 1) := by decide +kernel
theorem dX0_mostOf_82 : decode cX0_mostOf 82 = .ok (.ireturn, 1) := by decide +kernel
theorem dX0_together_0 : decode cX0_together 0 = .ok (.lconst 0, 1) := by decide +kernel
theorem dX0_together_1 : decode cX0_together 1 = .ok (.lstore_n 3, 1) := by decide +kernel
theorem dX0_together_2 : decode cX0_together 2 = .ok (.lconst 0, 1) := by decide +kernel
theorem dX0_together_3 : decode cX0_together 3 = .ok (.lstore 5, 2) := by decide +kernel
theorem dX0_together_5 : decode cX0_together 5 = .ok (.iconst 0, 1) := by decide +kernel
theorem dX0_together_6 : decode cX0_together 6 = .ok (.istore 7, 2) := by decide +kernel
theorem dX0_together_8 : decode cX0_together 8 = .ok (.iload 7, 2) := by decide +kernel
theorem dX0_together_10 : decode cX0_together 10 = .ok (.aload_n 0, 1) := by decide +kernel
theorem dX0_together_11 : decode cX0_together 11 = .ok (.getfield 19, 3) := by decide +kernel
theorem dX0_together_14 : decode cX0_together 14 = .ok (.if_icmp .ge 58, 3) := by decide +kernel
theorem dX0_together_17 : decode cX0_together 17 = .ok (.aload_n 0, 1) := by decide +kernel
theorem dX0_together_18 : decode cX0_together 18 = .ok (.iload 7, 2) := by decide +kernel
theorem dX0_together_20 : decode cX0_together 20 = .ok (.iconst 2, 1) := by decide +kernel
theorem dX0_together_21 : decode cX0_together 21 = .ok (.invokevirtual 36, 3) := by decide +kernel
theorem dX0_together_24 : decode cX0_together 24 = .ok (.istore 8, 2) := by decide +kernel
theorem dX0_together_26 : decode cX0_together 26 = .ok (.iload_n 1, 1) := by decide +kernel
theorem dX0_together_27 : decode cX0_together 27 = .ok (.iload 7, 2) := by decide +kernel
theorem dX0_together_29 : decode cX0_together 29 = .ok (.ishr, 1) := by decide +kernel
theorem dX0_together_30 : decode cX0_together 30 = .ok (.iconst 1, 1) := by decide +kernel
theorem dX0_together_31 : decode cX0_together 31 = .ok (.iand, 1) := by decide +kernel
theorem dX0_together_32 : decode cX0_together 32 = .ok (.iconst 1, 1) := by decide +kernel
theorem dX0_together_33 : decode cX0_together 33 = .ok (.if_icmp .ne 33, 3) := by decide +kernel
theorem dX0_together_36 : decode cX0_together 36 = .ok (.iload 8, 2) := by decide +kernel
theorem dX0_together_38 : decode cX0_together 38 = .ok (.ifCond .ne 5, 3) := by decide +kernel
theorem dX0_together_41 : decode cX0_together 41 = .ok (.iconst (-1), 1) := by decide +kernel
theorem dX0_together_42 : decode cX0_together 42 = .ok (.ireturn, 1) := by decide +kernel
theorem dX0_together_43 : decode cX0_together 43 = .ok (.lload_n 3, 1) := by decide +kernel
theorem dX0_together_44 : decode cX0_together 44 = .ok (.iload 8, 2) := by decide +kernel
theorem dX0_together_46 : decode cX0_together 46 = .ok (.i2l, 1) := by decide +kernel
theorem dX0_together_47 : decode cX0_together 47 = .ok (.aload_n 0, 1) := by decide +kernel
theorem dX0_together_48 : decode cX0_together 48 = .ok (.iload 7, 2) := by decide +kernel
theorem dX0_together_50 : decode cX0_together 50 = .ok (.iload_n 2, 1) := by decide +kernel
theorem dX0_together_51 : decode cX0_together 51 = .ok (.invokevirtual 36, 3) := by decide +kernel
theorem dX0_together_54 : decode cX0_together 54 = .ok (.i2l, 1) := by decide +kernel
theorem dX0_together_55 : decode cX0_together 55 = .ok (.lmul, 1) := by decide +kernel
theorem dX0_together_56 : decode cX0_together 56 = .ok (.ladd, 1) := by decide +kernel
theorem dX0_together_57 : decode cX0_together 57 = .ok (.lstore_n 3, 1) := by decide +kernel
theorem dX0_together_58 : decode cX0_together 58 = .ok (.lload 5, 2) := by decide +kernel
theorem dX0_together_60 : decode cX0_together 60 = .ok (.iload 8, 2) := by decide +kernel
theorem dX0_together_62 : decode cX0_together 62 = .ok (.i2l, 1) := by decide +kernel
theorem dX0_together_63 : decode cX0_together 63 = .ok (.ladd, 1) := by decide +kernel
theorem dX0_together_64 : decode cX0_together 64 = .ok (.lstore 5, 2) := by decide +kernel
theorem dX0_together_66 : decode cX0_together 66 = .ok (.iinc 7 1, 3) := by decide +kernel
theorem dX0_together_69 : decode cX0_together 69 = .ok (.goto (-61), 3) := by decide +kernel
theorem dX0_together_72 : decode cX0_together 72 = .ok (.lload 5, 2) := by decide +kernel
theorem dX0_together_74 : decode cX0_together 74 = .ok (.lconst 0, 1) := by decide +kernel
theorem dX0_together_75 : decode cX0_together 75 = .ok (.lcmp, 1) := by decide +kernel
theorem dX0_together_76 : decode cX0_together 76 = .ok (.ifCond .ne 7, 3) := by decide +kernel
theorem dX0_together_79 : decode cX0_together 79 = .ok (.iconst (-1), 1) := by decide +kernel
theorem dX0_together_80 : decode cX0_together 80 = .ok (.goto 9, 3) := by decide +kernel
theorem dX0_together_83 : decode cX0_together 83 = .ok (.lload_n 3, 1) := by decide +kernel
theorem dX0_together_84 : decode cX0_together 84 = .ok (.lload 5, 2) := by decide +kernel
theorem dX0_together_86 : decode cX0_together 86 = .ok (.invokestatic 66, 3) := by decide +kernel
theorem dX0_together_89 : decode cX0_together 89 = .ok (.ireturn, 1) := by decide +kernel
theorem dX1_init_0 : decode cX1_init 0 = .ok (.aload_n 0, 1) := by decide +kernel
theorem dX1_init_1 : decode cX1_init 1 = .ok (.invokespecial 3, 3) := by decide +kernel
theorem dX1_init_4 : decode cX1_init 4 = .ok (.aload_n 0, 1) := by decide +kernel
theorem dX1_init_5 : decode cX1_init 5 = .ok (.new 9, 3) := by decide +kernel
theorem dX1_init_8 : decode cX1_init 8 = .ok (.dup, 1) := by decide +kernel
theorem dX1_init_9 : decode cX1_init 9 = .ok (.invokespecial 11, 3) := by decide +kernel
theorem dX1_init_12 : decode cX1_init 12 = .ok (.putfield 12, 3) := by decide +kernel
theorem dX1_init_15 : decode cX1_init 15 = .ok (.aload_n 0, 1) := by decide +kernel
theorem dX1_init_16 : decode cX1_init 16 = .ok (.new 18, 3) := by decide +kernel
theorem dX1_init_19 : decode cX1_init 19 = .ok (.dup, 1) := by decide +kernel
theorem dX1_init_20 : decode cX1_init 20 = .ok (.bipush 60, 2) := by decide +kernel
theorem dX1_init_22 : decode cX1_init 22 = .ok (.iconst 1, 1) := by decide +kernel
theorem dX1_init_23 : decode cX1_init 23 = .ok (.invokespecial 20, 3) := by decide +kernel
theorem dX1_init_26 : decode cX1_init 26 = .ok (.putfield 23, 3) := by decide +kernel
theorem dX1_init_29 : decode cX1_init 29 = .ok (.aload_n 0, 1) := by decide +kernel
theorem dX1_init_30 : decode cX1_init 30 = .ok (.new 18, 3) := by decide +kernel
theorem dX1_init_33 : decode cX1_init 33 = .ok (.dup, 1) := by decide +kernel
theorem dX1_init_34 : decode cX1_init 34 = .ok (.bipush 10, 2) := by decide +kernel
theorem dX1_init_36 : decode cX1_init 36 = .ok (.iconst 2, 1) := by decide +kernel
theorem dX1_init_37 : decode cX1_init 37 = .ok (.invokespecial 20, 3) := by decide +kernel
theorem dX1_init_40 : decode cX1_init 40 = .ok (.putfield 27, 3) := by decide +kernel
theorem dX1_init_43 : decode cX1_init 43 = .ok (.aload_n 0, 1) := by decide +kernel
theorem dX1_init_44 : decode cX1_init 44 = .ok (.new 18, 3) := by decide +kernel
theorem dX1_init_47 : decode cX1_init 47 = .ok (.dup, 1) := by decide +kernel
theorem dX1_init_48 : decode cX1_init 48 = .ok (.bipush 6, 2) := by decide +kernel
theorem dX1_init_50 : decode cX1_init 50 = .ok (.iconst 3, 1) := by decide +kernel
theorem dX1_init_51 : decode cX1_init 51 = .ok (.invokespecial 20, 3) := by decide +kernel
theorem dX1_init_54 : decode cX1_init 54 = .ok (.putfield 30, 3) := by decide +kernel
theorem dX1_init_57 : decode cX1_init 57 = .ok (.aload_n 0, 1) := by decide +kernel
theorem dX1_init_58 : decode cX1_init 58 = .ok (.new 18, 3) := by decide +kernel
theorem dX1_init_61 : decode cX1_init 61 = .ok (.dup, 1) := by decide +kernel
theorem dX1_init_62 : decode cX1_init 62 = .ok (.bipush 8, 2) := by decide +kernel
theorem dX1_init_64 : decode cX1_init 64 = .ok (.iconst 3, 1) := by decide +kernel
theorem dX1_init_65 : decode cX1_init 65 = .ok (.invokespecial 20, 3) := by decide +kernel
theorem dX1_init_68 : decode cX1_init 68 = .ok (.putfield 33, 3) := by decide +kernel
theorem dX1_init_71 : decode cX1_init 71 = .ok (.aload_n 0, 1) := by decide +kernel
theorem dX1_init_72 : decode cX1_init 72 = .ok (.new 18, 3) := by decide +kernel
theorem dX1_init_75 : decode cX1_init 75 = .ok (.dup, 1) := by decide +kernel
theorem dX1_init_76 : decode cX1_init 76 = .ok (.bipush 24, 2) := by decide +kernel
theorem dX1_init_78 : decode cX1_init 78 = .ok (.iconst 1, 1) := by decide +kernel
theorem dX1_init_79 : decode cX1_init 79 = .ok (.invokespecial 20, 3) := by decide +kernel
theorem dX1_init_82 : decode cX1_init 82 = .ok (.putfield 36, 3) := by decide +kernel
theorem dX1_init_85 : decode cX1_init 85 = .ok (.aload_n 0, 1) := by decide +kernel
theorem dX1_init_86 : decode cX1_init 86 = .ok (.new 18, 3) := by decide +kernel
theorem dX1_init_89 : decode cX1_init 89 = .ok (.dup, 1) := by decide +kernel
theorem dX1_init_90 : decode cX1_init 90 = .ok (.bipush 60, 2) := by decide +kernel
theorem dX1_init_92 : decode cX1_init 92 = .ok (.iconst 1, 1) := by decide +kernel
theorem dX1_init_93 : decode cX1_init 93 = .ok (.invokespecial 20, 3) := by decide +kernel
theorem dX1_init_96 : decode cX1_init 96 = .ok (.putfield 39, 3) := by decide +kernel
theorem dX1_init_99 : decode cX1_init 99 = .ok (.aload_n 0, 1) := by decide +kernel
theorem dX1_init_100 : decode cX1_init 100 = .ok (.new 18, 3) := by decide +kernel
theorem dX1_init_103 : decode cX1_init 103 = .ok (.dup, 1) := by decide +kernel
theorem dX1_init_104 : decode cX1_init 104 = .ok (.bipush 60, 2) := by decide +kernel
theorem dX1_init_106 : decode cX1_init 106 = .ok (.iconst 1, 1) := by decide +kernel
theorem dX1_init_107 : decode cX1_init 107 = .ok (.invokespecial 20, 3) := by decide +kernel
theorem dX1_init_110 : decode cX1_init 110 = .ok (.putfield 42, 3) := by decide +kernel
theorem dX1_init_113 : decode cX1_init 113 = .ok (.aload_n 0, 1) := by decide +kernel
theorem dX1_init_114 : decode cX1_init 114 = .ok (.new 45, 3) := by decide +kernel
theorem dX1_init_117 : decode cX1_init 117 = .ok (.dup, 1) := by decide +kernel
theorem dX1_init_118 : decode cX1_init 118 = .ok (.invokespecial 47, 3) := by decide +kernel
theorem dX1_init_121 : decode cX1_init 121 = .ok (.putfield 48, 3) := by decide +kernel
theorem dX1_init_124 : decode cX1_init 124 = .ok (.return_, 1) := by decide +kernel
theorem dX1_copyFrom_0 : decode cX1_copyFrom 0 = .ok (.aload_n 0, 1) := by decide +kernel
theorem dX1_copyFrom_1 : decode cX1_copyFrom 1 = .ok (.getfield 12, 3) := by decide +kernel
theorem dX1_copyFrom_4 : decode cX1_copyFrom 4 = .ok (.aload_n 1, 1) := by decide +kernel
theorem dX1_copyFrom_5 : decode cX1_copyFrom 5 = .ok (.getfield 12, 3) := by decide +kernel
theorem dX1_copyFrom_8 : decode cX1_copyFrom 8 = .ok (.invokevirtual 52, 3) := by decide +kernel
theorem dX1_copyFrom_11 : decode cX1_copyFrom 11 = .ok (.aload_n 0, 1) := by decide +kernel
theorem dX1_copyFrom_12 : decode cX1_copyFrom 12 = .ok (.getfield 23, 3) := by decide +kernel
theorem dX1_copyFrom_15 : decode cX1_copyFrom 15 = .ok (.aload_n 1, 1) := by decide +kernel
theorem dX1_copyFrom_16 : decode cX1_copyFrom 16 = .ok (.getfield 23, 3) := by decide +kernel
theorem dX1_copyFrom_19 : decode cX1_copyFrom 19 = .ok (.invokevirtual 56, 3) := by decide +kernel
theorem dX1_copyFrom_22 : decode cX1_copyFrom 22 = .ok (.aload_n 0, 1) := by decide +kernel
theorem dX1_copyFrom_23 : decode cX1_copyFrom 23 = .ok (.getfield 27, 3) := by decide +kernel
theorem dX1_copyFrom_26 : decode cX1_copyFrom 26 = .ok (.aload_n 1, 1) := by decide +kernel
theorem dX1_copyFrom_27 : decode cX1_copyFrom 27 = .ok (.getfield 27, 3) := by decide +kernel
theorem dX1_copyFrom_30 : decode cX1_copyFrom 30 = .ok (.invokevirtual 56, 3) := by decide +kernel
theorem dX1_copyFrom_33 : decode cX1_copyFrom 33 = .ok (.aload_n 0, 1) := by decide +kernel
theorem dX1_copyFrom_34 : decode cX1_copyFrom 34 = .ok (.getfield 30, 3) := by decide +kernel
theorem dX1_copyFrom_37 : decode cX1_copyFrom 37 = .ok (.aload_n 1, 1) := by decide +kernel
theorem dX1_copyFrom_38 : decode cX1_copyFrom 38 = .ok (.getfield 30, 3) := by decide +kernel
theorem dX1_copyFrom_41 : decode cX1_copyFrom 41 = .ok (.invokevirtual 56, 3) := by decide +kernel
theorem dX1_copyFrom_44 : decode cX1_copyFrom 44 = .ok (.aload_n 0, 1) := by decide +kernel
theorem dX1_copyFrom_45 : decode cX1_copyFrom 45 = .ok (.getfield 33, 3) := by decide +kernel
theorem dX1_copyFrom_48 : decode cX1_copyFrom 48 = .ok (.aload_n 1, 1) := by decide +kernel
theorem dX1_copyFrom_49 : decode cX1_copyFrom 49 = .ok (.getfield 33, 3) := by decide +kernel
theorem dX1_copyFrom_52 : decode cX1_copyFrom 52 = .ok (.invokevirtual 56, 3) := by decide +kernel
theorem dX1_copyFrom_55 : decode cX1_copyFrom 55 = .ok (.aload_n 0, 1) := by decide +kernel
theorem dX1_copyFrom_56 : decode cX1_copyFrom 56 = .ok (.getfield 36, 3) := by decide +kernel
theorem dX1_copyFrom_59 : decode cX1_copyFrom 59 = .ok (.aload_n 1, 1) := by decide +kernel
theorem dX1_copyFrom_60 : decode cX1_copyFrom 60 = .ok (.getfield 36, 3) := by decide +kernel
theorem dX1_copyFrom_63 : decode cX1_copyFrom 63 = .ok (.invokevirtual 56, 3) := by decide +kernel
theorem dX1_copyFrom_66 : decode cX1_copyFrom 66 = .ok (.aload_n 0, 1) := by decide +kernel
theorem dX1_copyFrom_67 : decode cX1_copyFrom 67 = .ok (.getfield 39, 3) := by decide +kernel
theorem dX1_copyFrom_70 : decode cX1_copyFrom 70 = .ok (.aload_n 1, 1) := by decide +kernel
theorem dX1_copyFrom_71 : decode cX1_copyFrom 71 = .ok (.getfield 39, 3) := by decide +kernel
theorem dX1_copyFrom_74 : decode cX1_copyFrom 74 = .ok (.invokevirtual 56, 3) := by decide +kernel
theorem dX1_copyFrom_77 : decode cX1_copyFrom 77 = .ok (.aload_n 0, 1) := by decide +kernel
theorem dX1_copyFrom_78 : decode cX1_copyFrom 78 = .ok (.getfield 42, 3) := by decide +kernel
theorem dX1_copyFrom_81 : decode cX1_copyFrom 81 = .ok (.aload_n 1, 1) := by decide +kernel
theorem dX1_copyFrom_82 : decode cX1_copyFrom 82 = .ok (.getfield 42, 3) := by decide +kernel
theorem dX1_copyFrom_85 : decode cX1_copyFrom 85 = .ok (.invokevirtual 56, 3) := by decide +kernel
theorem dX1_copyFrom_88 : decode cX1_copyFrom 88 = .ok (.return_, 1) := by decide +kernel
theorem dX1_textOf_0 : decode cX1_textOf 0 = .ok (.iload_n 1, 1) := by decide +kernel
theorem dX1_textOf_1 : decode cX1_textOf 1 = .ok (.ifCond .ne 10, 3) := by decide +kernel
theorem dX1_textOf_4 : decode cX1_textOf 4 = .ok (.aload_n 0, 1) := by decide +kernel
theorem dX1_textOf_5 : decode cX1_textOf 5 = .ok (.getfield 39, 3) := by decide +kernel
theorem dX1_textOf_8 : decode cX1_textOf 8 = .ok (.goto 7, 3) := by decide +kernel
theorem dX1_textOf_11 : decode cX1_textOf 11 = .ok (.aload_n 0, 1) := by decide +kernel
theorem dX1_textOf_12 : decode cX1_textOf 12 = .ok (.getfield 42, 3) := by decide +kernel
theorem dX1_textOf_15 : decode cX1_textOf 15 = .ok (.areturn, 1) := by decide +kernel
theorem dX1_numberOf_0 : decode cX1_numberOf 0 = .ok (.iload_n 3, 1) := by decide +kernel
theorem dX1_numberOf_1 : decode cX1_numberOf 1 = .ok (.bipush 10, 2) := by decide +kernel
theorem dX1_numberOf_3 : decode cX1_numberOf 3 = .ok (.if_icmp .ne 12, 3) := by decide +kernel
theorem dX1_numberOf_6 : decode cX1_numberOf 6 = .ok (.aload_n 0, 1) := by decide +kernel
theorem dX1_numberOf_7 : decode cX1_numberOf 7 = .ok (.aload_n 1, 1) := by decide +kernel
theorem dX1_numberOf_8 : decode cX1_numberOf 8 = .ok (.iload_n 2, 1) := by decide +kernel
theorem dX1_numberOf_9 : decode cX1_numberOf 9 = .ok (.invokevirtual 59, 3) := by decide +kernel
theorem dX1_numberOf_12 : decode cX1_numberOf 12 = .ok (.goto 9, 3) := by decide +kernel
theorem dX1_numberOf_15 : decode cX1_numberOf 15 = .ok (.aload_n 1, 1) := by decide +kernel
theorem dX1_numberOf_16 : decode cX1_numberOf 16 = .ok (.iload_n 2, 1) := by decide +kernel
theorem dX1_numberOf_17 : decode cX1_numberOf 17 = .ok (.iload_n 3, 1) := by decide +kernel
theorem dX1_numberOf_18 : decode cX1_numberOf 18 = .ok (.invokevirtual 63, 3) := by decide +kernel
theorem dX1_numberOf_21 : decode cX1_numberOf 21 = .ok (.ireturn, 1) := by decide +kernel
theorem dX1_tone_0 : decode cX1_tone 0 = .ok (.aload_n 1, 1) := by decide +kernel
theorem dX1_tone_1 : decode cX1_tone 1 = .ok (.iload_n 2, 1) := by decide +kernel
theorem dX1_tone_2 : decode cX1_tone 2 = .ok (.iconst 2, 1) := by decide +kernel
theorem dX1_tone_3 : decode cX1_tone 3 = .ok (.invokevirtual 63, 3) := by decide +kernel
theorem dX1_tone_6 : decode cX1_tone 6 = .ok (.istore_n 3, 1) := by decide +kernel
theorem dX1_tone_7 : decode cX1_tone 7 = .ok (.aload_n 1, 1) := by decide +kernel
theorem dX1_tone_8 : decode cX1_tone 8 = .ok (.iload_n 2, 1) := by decide +kernel
theorem dX1_tone_9 : decode cX1_tone 9 = .ok (.iconst 1, 1) := by decide +kernel
theorem dX1_tone_10 : decode cX1_tone 10 = .ok (.invokevirtual 63, 3) := by decide +kernel
theorem dX1_tone_13 : decode cX1_tone 13 = .ok (.istore 4, 2) := by decide +kernel
theorem dX1_tone_15 : decode cX1_tone 15 = .ok (.ldc2_w 67, 3) := by decide +kernel
theorem dX1_tone_18 : decode cX1_tone 18 = .ok (.aload_n 1, 1) := by decide +kernel
theorem dX1_tone_19 : decode cX1_tone 19 = .ok (.iload_n 2, 1) := by decide +kernel
theorem dX1_tone_20 : decode cX1_tone 20 = .ok (.iconst 3, 1) := by decide +kernel
theorem dX1_tone_21 : decode cX1_tone 21 = .ok (.invokevirtual 63, 3) := by decide +kernel
theorem dX1_tone_24 : decode cX1_tone 24 = .ok (.i2l, 1) := by decide +kernel
theorem dX1_tone_25 : decode cX1_tone 25 = .ok (.lmul, 1) := by decide +kernel
theorem dX1_tone_26 : decode cX1_tone 26 = .ok (.iload_n 3, 1) := by decide +kernel
theorem dX1_tone_27 : decode cX1_tone 27 = .ok (.i2l, 1) := by decide +kernel
theorem dX1_tone_28 : decode cX1_tone 28 = .ok (.invokestatic 69, 3) := by decide +kernel
theorem dX1_tone_31 : decode cX1_tone 31 = .ok (.istore 5, 2) := by decide +kernel
theorem dX1_tone_33 : decode cX1_tone 33 = .ok (.sipush 1000, 3) := by decide +kernel
theorem dX1_tone_36 : decode cX1_tone 36 = .ok (.iload 5, 2) := by decide +kernel
theorem dX1_tone_38 : decode cX1_tone 38 = .ok (.isub, 1) := by decide +kernel
theorem dX1_tone_39 : decode cX1_tone 39 = .ok (.istore 6, 2) := by decide +kernel
theorem dX1_tone_41 : decode cX1_tone 41 = .ok (.aload_n 1, 1) := by decide +kernel
theorem dX1_tone_42 : decode cX1_tone 42 = .ok (.iload_n 2, 1) := by decide +kernel
theorem dX1_tone_43 : decode cX1_tone 43 = .ok (.iconst 0, 1) := by decide +kernel
theorem dX1_tone_44 : decode cX1_tone 44 = .ok (.invokevirtual 63, 3) := by decide +kernel
theorem dX1_tone_47 : decode cX1_tone 47 = .ok (.tableswitch 102 1 6 #[37, 47, 55, 63, 78, 92], 37) := by decide +kernel
theorem dX1_tone_84 : decode cX1_tone 84 = .ok (.aload_n 0, 1) := by decide +kernel
theorem dX1_tone_85 : decode cX1_tone 85 = .ok (.iload_n 3, 1) := by decide +kernel
theorem dX1_tone_86 : decode cX1_tone 86 = .ok (.iload 5, 2) := by decide +kernel
theorem dX1_tone_88 : decode cX1_tone 88 = .ok (.iload 4, 2) := by decide +kernel
theorem dX1_tone_90 : decode cX1_tone 90 = .ok (.invokevirtual 73, 3) := by decide +kernel
theorem dX1_tone_93 : decode cX1_tone 93 = .ok (.ireturn, 1) := by decide +kernel
theorem dX1_tone_94 : decode cX1_tone 94 = .ok (.iload 6, 2) := by decide +kernel
theorem dX1_tone_96 : decode cX1_tone 96 = .ok (.iconst 2, 1) := by decide +kernel
theorem dX1_tone_97 : decode cX1_tone 97 = .ok (.idiv, 1) := by decide +kernel
theorem dX1_tone_98 : decode cX1_tone 98 = .ok (.iload 4, 2) := by decide +kernel
theorem dX1_tone_100 : decode cX1_tone 100 = .ok (.iadd, 1) := by decide +kernel
theorem dX1_tone_101 : decode cX1_tone 101 = .ok (.ireturn, 1) := by decide +kernel
theorem dX1_tone_102 : decode cX1_tone 102 = .ok (.iload 6, 2) := by decide +kernel
theorem dX1_tone_104 : decode cX1_tone 104 = .ok (.iconst 2, 1) := by decide +kernel
theorem dX1_tone_105 : decode cX1_tone 105 = .ok (.iload 4, 2) := by decide +kernel
theorem dX1_tone_107 : decode cX1_tone 107 = .ok (.imul, 1) := by decide +kernel
theorem dX1_tone_108 : decode cX1_tone 108 = .ok (.isub, 1) := by decide +kernel
theorem dX1_tone_109 : decode cX1_tone 109 = .ok (.ireturn, 1) := by decide +kernel
theorem dX1_tone_110 : decode cX1_tone 110 = .ok (.aload_n 0, 1) := by decide +kernel
theorem dX1_tone_111 : decode cX1_tone 111 = .ok (.iload_n 3, 1) := by decide +kernel
theorem dX1_tone_112 : decode cX1_tone 112 = .ok (.iload 5, 2) := by decide +kernel
theorem dX1_tone_114 : decode cX1_tone 114 = .ok (.iload 4, 2) := by decide +kernel
theorem dX1_tone_116 : decode cX1_tone 116 = .ok (.invokevirtual 73, 3) := by decide +kernel
theorem dX1_tone_119 : decode cX1_tone 119 = .ok (.iconst 2, 1) := by decide +kernel
theorem dX1_tone_120 : decode cX1_tone 120 = .ok (.iload 4, 2) := by decide +kernel
theorem dX1_tone_122 : decode cX1_tone 122 = .ok (.imul, 1) := by decide +kernel
theorem dX1_tone_123 : decode cX1_tone 123 = .ok (.iadd, 1) := by decide +kernel
theorem dX1_tone_124 : decode cX1_tone 124 = .ok (.ireturn, 1) := by decide +kernel
theorem dX1_tone_125 : decode cX1_tone 125 = .ok (.iload 6, 2) := by decide +kernel
theorem dX1_tone_127 : decode cX1_tone 127 = .ok (.iconst 2, 1) := by decide +kernel
theorem dX1_tone_128 : decode cX1_tone 128 = .ok (.idiv, 1) := by decide +kernel
theorem dX1_tone_129 : decode cX1_tone 129 = .ok (.iload 4, 2) := by decide +kernel
theorem dX1_tone_131 : decode cX1_tone 131 = .ok (.iadd, 1) := by decide +kernel
theorem dX1_tone_132 : decode cX1_tone 132 = .ok (.iload_n 3, 1) := by decide +kernel
theorem dX1_tone_133 : decode cX1_tone 133 = .ok (.sipush 1000, 3) := by decide +kernel
theorem dX1_tone_136 : decode cX1_tone 136 = .ok (.idiv, 1) := by decide +kernel
theorem dX1_tone_137 : decode cX1_tone 137 = .ok (.iadd, 1) := by decide +kernel
theorem dX1_tone_138 : decode cX1_tone 138 = .ok (.ireturn, 1) := by decide +kernel
theorem dX1_tone_139 : decode cX1_tone 139 = .ok (.iconst 0, 1) := by decide +kernel
theorem dX1_tone_140 : decode cX1_tone 140 = .ok (.iload 6, 2) := by decide +kernel
theorem dX1_tone_142 : decode cX1_tone 142 = .ok (.iconst 2, 1) := by decide +kernel
theorem dX1_tone_143 : decode cX1_tone 143 = .ok (.iload 4, 2) := by decide +kernel
theorem dX1_tone_145 : decode cX1_tone 145 = .ok (.imul, 1) := by decide +kernel
theorem dX1_tone_146 : decode cX1_tone 146 = .ok (.isub, 1) := by decide +kernel
theorem dX1_tone_147 : decode cX1_tone 147 = .ok (.isub, 1) := by decide +kernel
theorem dX1_tone_148 : decode cX1_tone 148 = .ok (.ireturn, 1) := by decide +kernel
theorem dX1_tone_149 : decode cX1_tone 149 = .ok (.iload 6, 2) := by decide +kernel
theorem dX1_tone_151 : decode cX1_tone 151 = .ok (.ireturn, 1) := by decide +kernel
theorem dX1_ring_0 : decode cX1_ring 0 = .ok (.aload_n 0, 1) := by decide +kernel
theorem dX1_ring_1 : decode cX1_ring 1 = .ok (.getfield 39, 3) := by decide +kernel
theorem dX1_ring_4 : decode cX1_ring 4 = .ok (.invokevirtual 77, 3) := by decide +kernel
theorem dX1_ring_7 : decode cX1_ring 7 = .ok (.ifCond .ne 11, 3) := by decide +kernel
theorem dX1_ring_10 : decode cX1_ring 10 = .ok (.sipush 1000, 3) := by decide +kernel
theorem dX1_ring_13 : decode cX1_ring 13 = .ok (.iload_n 2, 1) := by decide +kernel
theorem dX1_ring_14 : decode cX1_ring 14 = .ok (.isub, 1) := by decide +kernel
theorem dX1_ring_15 : decode cX1_ring 15 = .ok (.iload_n 3, 1) := by decide +kernel
theorem dX1_ring_16 : decode cX1_ring 16 = .ok (.iadd, 1) := by decide +kernel
theorem dX1_ring_17 : decode cX1_ring 17 = .ok (.ireturn, 1) := by decide +kernel
theorem dX1_ring_18 : decode cX1_ring 18 = .ok (.aload_n 0, 1) := by decide +kernel
theorem dX1_ring_19 : decode cX1_ring 19 = .ok (.getfield 48, 3) := by decide +kernel
theorem dX1_ring_22 : decode cX1_ring 22 = .ok (.aload_n 0, 1) := by decide +kernel
theorem dX1_ring_23 : decode cX1_ring 23 = .ok (.getfield 39, 3) := by decide +kernel
theorem dX1_ring_26 : decode cX1_ring 26 = .ok (.iload_n 1, 1) := by decide +kernel
theorem dX1_ring_27 : decode cX1_ring 27 = .ok (.iload_n 2, 1) := by decide +kernel
theorem dX1_ring_28 : decode cX1_ring 28 = .ok (.iload_n 3, 1) := by decide +kernel
theorem dX1_ring_29 : decode cX1_ring 29 = .ok (.invokevirtual 81, 3) := by decide +kernel
theorem dX1_ring_32 : decode cX1_ring 32 = .ok (.sipush 9999, 3) := by decide +kernel
theorem dX1_ring_35 : decode cX1_ring 35 = .ok (.invokestatic 85, 3) := by decide +kernel
theorem dX1_ring_38 : decode cX1_ring 38 = .ok (.ireturn, 1) := by decide +kernel
theorem dX1_held_0 : decode cX1_held 0 = .ok (.iconst 0, 1) := by decide +kernel
theorem dX1_held_1 : decode cX1_held 1 = .ok (.iload_n 1, 1) := by decide +kernel
theorem dX1_held_2 : decode cX1_held 2 = .ok (.iload_n 0, 1) := by decide +kernel
theorem dX1_held_3 : decode cX1_held 3 = .ok (.invokestatic 88, 3) := by decide +kernel
theorem dX1_held_6 : decode cX1_held 6 = .ok (.invokestatic 93, 3) := by decide +kernel
theorem dX1_held_9 : decode cX1_held 9 = .ok (.ireturn, 1) := by decide +kernel
theorem dX1_counted_0 : decode cX1_counted 0 = .ok (.aload_n 0, 1) := by decide +kernel
theorem dX1_counted_1 : decode cX1_counted 1 = .ok (.getfield 27, 3) := by decide +kernel
theorem dX1_counted_4 : decode cX1_counted 4 = .ok (.iload_n 1, 1) := by decide +kernel
theorem dX1_counted_5 : decode cX1_counted 5 = .ok (.iconst 1, 1) := by decide +kernel
theorem dX1_counted_6 : decode cX1_counted 6 = .ok (.invokevirtual 96, 3) := by decide +kernel
theorem dX1_counted_9 : decode cX1_counted 9 = .ok (.istore_n 2, 1) := by decide +kernel
theorem dX1_counted_10 : decode cX1_counted 10 = .ok (.aload_n 0, 1) := by decide +kernel
theorem dX1_counted_11 : decode cX1_counted 11 = .ok (.getfield 42, 3) := by decide +kernel
theorem dX1_counted_14 : decode cX1_counted 14 = .ok (.invokevirtual 77, 3) := by decide +kernel
theorem dX1_counted_17 : decode cX1_counted 17 = .ok (.ifCond .ne 5, 3) := by decide +kernel
theorem dX1_counted_20 : decode cX1_counted 20 = .ok (.iload_n 2, 1) := by decide +kernel
theorem dX1_counted_21 : decode cX1_counted 21 = .ok (.ireturn, 1) := by decide +kernel
theorem dX1_counted_22 : decode cX1_counted 22 = .ok (.aload_n 0, 1) := by decide +kernel
theorem dX1_counted_23 : decode cX1_counted 23 = .ok (.getfield 27, 3) := by decide +kernel
theorem dX1_counted_26 : decode cX1_counted 26 = .ok (.iload_n 1, 1) := by decide +kernel
theorem dX1_counted_27 : decode cX1_counted 27 = .ok (.iconst 0, 1) := by decide +kernel
theorem dX1_counted_28 : decode cX1_counted 28 = .ok (.invokevirtual 96, 3) := by decide +kernel
theorem dX1_counted_31 : decode cX1_counted 31 = .ok (.istore_n 3, 1) := by decide +kernel
theorem dX1_counted_32 : decode cX1_counted 32 = .ok (.aload_n 0, 1) := by decide +kernel
theorem dX1_counted_33 : decode cX1_counted 33 = .ok (.getfield 12, 3) := by decide +kernel
theorem dX1_counted_36 : decode cX1_counted 36 = .ok (.iload_n 3, 1) := by decide +kernel
theorem dX1_counted_37 : decode cX1_counted 37 = .ok (.iconst 2, 1) := by decide +kernel
theorem dX1_counted_38 : decode cX1_counted 38 = .ok (.invokevirtual 63, 3) := by decide +kernel
theorem dX1_counted_41 : decode cX1_counted 41 = .ok (.istore 4, 2) := by decide +kernel
theorem dX1_counted_43 : decode cX1_counted 43 = .ok (.aload_n 0, 1) := by decide +kernel
theorem dX1_counted_44 : decode cX1_counted 44 = .ok (.getfield 48, 3) := by decide +kernel
theorem dX1_counted_47 : decode cX1_counted 47 = .ok (.aload_n 0, 1) := by decide +kernel
theorem dX1_counted_48 : decode cX1_counted 48 = .ok (.getfield 42, 3) := by decide +kernel
theorem dX1_counted_51 : decode cX1_counted 51 = .ok (.iload_n 2, 1) := by decide +kernel
theorem dX1_counted_52 : decode cX1_counted 52 = .ok (.iload 4, 2) := by decide +kernel
theorem dX1_counted_54 : decode cX1_counted 54 = .ok (.aload_n 0, 1) := by decide +kernel
theorem dX1_counted_55 : decode cX1_counted 55 = .ok (.iload_n 3, 1) := by decide +kernel
theorem dX1_counted_56 : decode cX1_counted 56 = .ok (.invokevirtual 99, 3) := by decide +kernel
theorem dX1_counted_59 : decode cX1_counted 59 = .ok (.invokevirtual 81, 3) := by decide +kernel
theorem dX1_counted_62 : decode cX1_counted 62 = .ok (.iload_n 2, 1) := by decide +kernel
theorem dX1_counted_63 : decode cX1_counted 63 = .ok (.invokestatic 85, 3) := by decide +kernel
theorem dX1_counted_66 : decode cX1_counted 66 = .ok (.ireturn, 1) := by decide +kernel
theorem dX1_claimants_0 : decode cX1_claimants 0 = .ok (.iconst 0, 1) := by decide +kernel
theorem dX1_claimants_1 : decode cX1_claimants 1 = .ok (.istore_n 2, 1) := by decide +kernel
theorem dX1_claimants_2 : decode cX1_claimants 2 = .ok (.iconst 0, 1) := by decide +kernel
theorem dX1_claimants_3 : decode cX1_claimants 3 = .ok (.istore_n 3, 1) := by decide +kernel
theorem dX1_claimants_4 : decode cX1_claimants 4 = .ok (.iload_n 3, 1) := by decide +kernel
theorem dX1_claimants_5 : decode cX1_claimants 5 = .ok (.aload_n 0, 1) := by decide +kernel
theorem dX1_claimants_6 : decode cX1_claimants 6 = .ok (.getfield 27, 3) := by decide +kernel
theorem dX1_claimants_9 : decode cX1_claimants 9 = .ok (.invokevirtual 77, 3) := by decide +kernel
theorem dX1_claimants_12 : decode cX1_claimants 12 = .ok (.if_icmp .ge 25, 3) := by decide +kernel
theorem dX1_claimants_15 : decode cX1_claimants 15 = .ok (.aload_n 0, 1) := by decide +kernel
theorem dX1_claimants_16 : decode cX1_claimants 16 = .ok (.getfield 27, 3) := by decide +kernel
theorem dX1_claimants_19 : decode cX1_claimants 19 = .ok (.iload_n 3, 1) := by decide +kernel
theorem dX1_claimants_20 : decode cX1_claimants 20 = .ok (.iconst 0, 1) := by decide +kernel
theorem dX1_claimants_21 : decode cX1_claimants 21 = .ok (.invokevirtual 96, 3) := by decide +kernel
theorem dX1_claimants_24 : decode cX1_claimants 24 = .ok (.iload_n 1, 1) := by decide +kernel
theorem dX1_claimants_25 : decode cX1_claimants 25 = .ok (.if_icmp .ne 6, 3) := by decide +kernel
theorem dX1_claimants_28 : decode cX1_claimants 28 = .ok (.iinc 2 1, 3) := by decide +kernel
theorem dX1_claimants_31 : decode cX1_claimants 31 = .ok (.iinc 3 1, 3) := by decide +kernel
theorem dX1_claimants_34 : decode cX1_claimants 34 = .ok (.goto (-30), 3) := by decide +kernel
theorem dX1_claimants_37 : decode cX1_claimants 37 = .ok (.iload_n 2, 1) := by decide +kernel
theorem dX1_claimants_38 : decode cX1_claimants 38 = .ok (.ireturn, 1) := by decide +kernel
theorem dX1_countedBelow_0 : decode cX1_countedBelow 0 = .ok (.iconst 0, 1) := by decide +kernel
theorem dX1_countedBelow_1 : decode cX1_countedBelow 1 = .ok (.istore_n 3, 1) := by decide +kernel
theorem dX1_countedBelow_2 : decode cX1_countedBelow 2 = .ok (.iconst 0, 1) := by decide +kernel
theorem dX1_countedBelow_3 : decode cX1_countedBelow 3 = .ok (.istore 4, 2) := by decide +kernel
theorem dX1_countedBelow_5 : decode cX1_countedBelow 5 = .ok (.iload 4, 2) := by decide +kernel
theorem dX1_countedBelow_7 : decode cX1_countedBelow 7 = .ok (.iload_n 2, 1) := by decide +kernel
theorem dX1_countedBelow_8 : decode cX1_countedBelow 8 = .ok (.if_icmp .ge 44, 3) := by decide +kernel
theorem dX1_countedBelow_11 : decode cX1_countedBelow 11 = .ok (.iload 4, 2) := by decide +kernel
theorem dX1_countedBelow_13 : decode cX1_countedBelow 13 = .ok (.aload_n 0, 1) := by decide +kernel
theorem dX1_countedBelow_14 : decode cX1_countedBelow 14 = .ok (.getfield 27, 3) := by decide +kernel
theorem dX1_countedBelow_17 : decode cX1_countedBelow 17 = .ok (.invokevirtual 77, 3) := by decide +kernel
theorem dX1_countedBelow_20 : decode cX1_countedBelow 20 = .ok (.if_icmp .ge 32, 3) := by decide +kernel
theorem dX1_countedBelow_23 : decode cX1_countedBelow 23 = .ok (.aload_n 0, 1) := by decide +kernel
theorem dX1_countedBelow_24 : decode cX1_countedBelow 24 = .ok (.getfield 27, 3) := by decide +kernel
theorem dX1_countedBelow_27 : decode cX1_countedBelow 27 = .ok (.iload 4, 2) := by decide +kernel
theorem dX1_countedBelow_29 : decode cX1_countedBelow 29 = .ok (.iconst 0, 1) := by decide +kernel
theorem dX1_countedBelow_30 : decode cX1_countedBelow 30 = .ok (.invokevirtual 96, 3) := by decide +kernel
theorem dX1_countedBelow_33 : decode cX1_countedBelow 33 = .ok (.iload_n 1, 1) := by decide +kernel
theorem dX1_countedBelow_34 : decode cX1_countedBelow 34 = .ok (.if_icmp .ne 12, 3) := by decide +kernel
theorem dX1_countedBelow_37 : decode cX1_countedBelow 37 = .ok (.iload_n 3, 1) := by decide +kernel
theorem dX1_countedBelow_38 : decode cX1_countedBelow 38 = .ok (.aload_n 0, 1) := by decide +kernel
theorem dX1_countedBelow_39 : decode cX1_countedBelow 39 = .ok (.iload 4, 2) := by decide +kernel
theorem dX1_countedBelow_41 : decode cX1_countedBelow 41 = .ok (.invokevirtual 103, 3) := by decide +kernel
theorem dX1_countedBelow_44 : decode cX1_countedBelow 44 = .ok (.iadd, 1) := by decide +kernel
theorem dX1_countedBelow_45 : decode cX1_countedBelow 45 = .ok (.istore_n 3, 1) := by decide +kernel
theorem dX1_countedBelow_46 : decode cX1_countedBelow 46 = .ok (.iinc 4 1, 3) := by decide +kernel
theorem dX1_countedBelow_49 : decode cX1_countedBelow 49 = .ok (.goto (-44), 3) := by decide +kernel
theorem dX1_countedBelow_52 : decode cX1_countedBelow 52 = .ok (.iload_n 3, 1) := by decide +kernel
theorem dX1_countedBelow_53 : decode cX1_countedBelow 53 = .ok (.ireturn, 1) := by decide +kernel
theorem dX1_shareOf_0 : decode cX1_shareOf 0 = .ok (.aload_n 0, 1) := by decide +kernel
theorem dX1_shareOf_1 : decode cX1_shareOf 1 = .ok (.getfield 27, 3) := by decide +kernel
theorem dX1_shareOf_4 : decode cX1_shareOf 4 = .ok (.iload_n 1, 1) := by decide +kernel
theorem dX1_shareOf_5 : decode cX1_shareOf 5 = .ok (.iconst 0, 1) := by decide +kernel
theorem dX1_shareOf_6 : decode cX1_shareOf 6 = .ok (.invokevirtual 96, 3) := by decide +kernel
theorem dX1_shareOf_9 : decode cX1_shareOf 9 = .ok (.istore_n 3, 1) := by decide +kernel
theorem dX1_shareOf_10 : decode cX1_shareOf 10 = .ok (.aload_n 0, 1) := by decide +kernel
theorem dX1_shareOf_11 : decode cX1_shareOf 11 = .ok (.getfield 12, 3) := by decide +kernel
theorem dX1_shareOf_14 : decode cX1_shareOf 14 = .ok (.iload_n 3, 1) := by decide +kernel
theorem dX1_shareOf_15 : decode cX1_shareOf 15 = .ok (.iconst 2, 1) := by decide +kernel
theorem dX1_shareOf_16 : decode cX1_shareOf 16 = .ok (.invokevirtual 63, 3) := by decide +kernel
theorem dX1_shareOf_19 : decode cX1_shareOf 19 = .ok (.istore 4, 2) := by decide +kernel
theorem dX1_shareOf_21 : decode cX1_shareOf 21 = .ok (.aload_n 0, 1) := by decide +kernel
theorem dX1_shareOf_22 : decode cX1_shareOf 22 = .ok (.iload_n 1, 1) := by decide +kernel
theorem dX1_shareOf_23 : decode cX1_shareOf 23 = .ok (.invokevirtual 103, 3) := by decide +kernel
theorem dX1_shareOf_26 : decode cX1_shareOf 26 = .ok (.istore 5, 2) := by decide +kernel
theorem dX1_shareOf_28 : decode cX1_shareOf 28 = .ok (.iload_n 2, 1) := by decide +kernel
theorem dX1_shareOf_29 : decode cX1_shareOf 29 = .ok (.ifCond .ne 21, 3) := by decide +kernel
theorem dX1_shareOf_32 : decode cX1_shareOf 32 = .ok (.iload 5, 2) := by decide +kernel
theorem dX1_shareOf_34 : decode cX1_shareOf 34 = .ok (.iload 4, 2) := by decide +kernel
theorem dX1_shareOf_36 : decode cX1_shareOf 36 = .ok (.i2l, 1) := by decide +kernel
theorem dX1_shareOf_37 : decode cX1_shareOf 37 = .ok (.aload_n 0, 1) := by decide +kernel
theorem dX1_shareOf_38 : decode cX1_shareOf 38 = .ok (.iload_n 3, 1) := by decide +kernel
theorem dX1_shareOf_39 : decode cX1_shareOf 39 = .ok (.invokevirtual 99, 3) := by decide +kernel
theorem dX1_shareOf_42 : decode cX1_shareOf 42 = .ok (.i2l, 1) := by decide +kernel
theorem dX1_shareOf_43 : decode cX1_shareOf 43 = .ok (.invokestatic 69, 3) := by decide +kernel
theorem dX1_shareOf_46 : decode cX1_shareOf 46 = .ok (.invokestatic 88, 3) := by decide +kernel
theorem dX1_shareOf_49 : decode cX1_shareOf 49 = .ok (.ireturn, 1) := by decide +kernel
theorem dX1_shareOf_50 : decode cX1_shareOf 50 = .ok (.iload_n 2, 1) := by decide +kernel
theorem dX1_shareOf_51 : decode cX1_shareOf 51 = .ok (.iconst 1, 1) := by decide +kernel
theorem dX1_shareOf_52 : decode cX1_shareOf 52 = .ok (.if_icmp .ne 43, 3) := by decide +kernel
theorem dX1_shareOf_55 : decode cX1_shareOf 55 = .ok (.aload_n 0, 1) := by decide +kernel
theorem dX1_shareOf_56 : decode cX1_shareOf 56 = .ok (.iload_n 3, 1) := by decide +kernel
theorem dX1_shareOf_57 : decode cX1_shareOf 57 = .ok (.aload_n 0, 1) := by decide +kernel
theorem dX1_shareOf_58 : decode cX1_shareOf 58 = .ok (.getfield 27, 3) := by decide +kernel
theorem dX1_shareOf_61 : decode cX1_shareOf 61 = .ok (.invokevirtual 77, 3) := by decide +kernel
theorem dX1_shareOf_64 : decode cX1_shareOf 64 = .ok (.invokevirtual 106, 3) := by decide +kernel
theorem dX1_shareOf_67 : decode cX1_shareOf 67 = .ok (.istore 6, 2) := by decide +kernel
