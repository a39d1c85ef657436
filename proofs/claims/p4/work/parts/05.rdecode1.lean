-- decode rows of the reference
theorem dR_init_0 : decode cX9_init 0 = .ok (.aload_n 0, 1) := by decide +kernel
theorem dR_init_1 : decode cX9_init 1 = .ok (.invokespecial 1, 3) := by decide +kernel
theorem dR_init_4 : decode cX9_init 4 = .ok (.aload_n 0, 1) := by decide +kernel
theorem dR_init_5 : decode cX9_init 5 = .ok (.sipush 536, 3) := by decide +kernel
theorem dR_init_8 : decode cX9_init 8 = .ok (.newarray .int, 2) := by decide +kernel
theorem dR_init_10 : decode cX9_init 10 = .ok (.putfield 7, 3) := by decide +kernel
theorem dR_init_13 : decode cX9_init 13 = .ok (.aload_n 0, 1) := by decide +kernel
theorem dR_init_14 : decode cX9_init 14 = .ok (.sipush 536, 3) := by decide +kernel
theorem dR_init_17 : decode cX9_init 17 = .ok (.newarray .int, 2) := by decide +kernel
theorem dR_init_19 : decode cX9_init 19 = .ok (.putfield 13, 3) := by decide +kernel
theorem dR_init_22 : decode cX9_init 22 = .ok (.aload_n 0, 1) := by decide +kernel
theorem dR_init_23 : decode cX9_init 23 = .ok (.sipush 536, 3) := by decide +kernel
theorem dR_init_26 : decode cX9_init 26 = .ok (.newarray .int, 2) := by decide +kernel
theorem dR_init_28 : decode cX9_init 28 = .ok (.putfield 16, 3) := by decide +kernel
theorem dR_init_31 : decode cX9_init 31 = .ok (.aload_n 0, 1) := by decide +kernel
theorem dR_init_32 : decode cX9_init 32 = .ok (.bipush 7, 2) := by decide +kernel
theorem dR_init_34 : decode cX9_init 34 = .ok (.newarray .int, 2) := by decide +kernel
theorem dR_init_36 : decode cX9_init 36 = .ok (.putfield 19, 3) := by decide +kernel
theorem dR_init_39 : decode cX9_init 39 = .ok (.aload_n 0, 1) := by decide +kernel
theorem dR_init_40 : decode cX9_init 40 = .ok (.bipush 124, 2) := by decide +kernel
theorem dR_init_42 : decode cX9_init 42 = .ok (.newarray .int, 2) := by decide +kernel
theorem dR_init_44 : decode cX9_init 44 = .ok (.putfield 22, 3) := by decide +kernel
theorem dR_init_47 : decode cX9_init 47 = .ok (.aload_n 0, 1) := by decide +kernel
theorem dR_init_48 : decode cX9_init 48 = .ok (.sipush 128, 3) := by decide +kernel
theorem dR_init_51 : decode cX9_init 51 = .ok (.newarray .int, 2) := by decide +kernel
theorem dR_init_53 : decode cX9_init 53 = .ok (.putfield 25, 3) := by decide +kernel
theorem dR_init_56 : decode cX9_init 56 = .ok (.aload_n 0, 1) := by decide +kernel
theorem dR_init_57 : decode cX9_init 57 = .ok (.bipush 64, 2) := by decide +kernel
theorem dR_init_59 : decode cX9_init 59 = .ok (.newarray .int, 2) := by decide +kernel
theorem dR_init_61 : decode cX9_init 61 = .ok (.putfield 28, 3) := by decide +kernel
theorem dR_init_64 : decode cX9_init 64 = .ok (.aload_n 0, 1) := by decide +kernel
theorem dR_init_65 : decode cX9_init 65 = .ok (.bipush 64, 2) := by decide +kernel
theorem dR_init_67 : decode cX9_init 67 = .ok (.newarray .int, 2) := by decide +kernel
theorem dR_init_69 : decode cX9_init 69 = .ok (.putfield 31, 3) := by decide +kernel
theorem dR_init_72 : decode cX9_init 72 = .ok (.aload_n 0, 1) := by decide +kernel
theorem dR_init_73 : decode cX9_init 73 = .ok (.bipush 64, 2) := by decide +kernel
theorem dR_init_75 : decode cX9_init 75 = .ok (.newarray .int, 2) := by decide +kernel
theorem dR_init_77 : decode cX9_init 77 = .ok (.putfield 34, 3) := by decide +kernel
theorem dR_init_80 : decode cX9_init 80 = .ok (.aload_n 0, 1) := by decide +kernel
theorem dR_init_81 : decode cX9_init 81 = .ok (.bipush 30, 2) := by decide +kernel
theorem dR_init_83 : decode cX9_init 83 = .ok (.newarray .int, 2) := by decide +kernel
theorem dR_init_85 : decode cX9_init 85 = .ok (.putfield 37, 3) := by decide +kernel
theorem dR_init_88 : decode cX9_init 88 = .ok (.aload_n 0, 1) := by decide +kernel
theorem dR_init_89 : decode cX9_init 89 = .ok (.iconst 4, 1) := by decide +kernel
theorem dR_init_90 : decode cX9_init 90 = .ok (.newarray .int, 2) := by decide +kernel
theorem dR_init_92 : decode cX9_init 92 = .ok (.putfield 40, 3) := by decide +kernel
theorem dR_init_95 : decode cX9_init 95 = .ok (.aload_n 0, 1) := by decide +kernel
theorem dR_init_96 : decode cX9_init 96 = .ok (.iconst 4, 1) := by decide +kernel
theorem dR_init_97 : decode cX9_init 97 = .ok (.newarray .int, 2) := by decide +kernel
theorem dR_init_99 : decode cX9_init 99 = .ok (.putfield 43, 3) := by decide +kernel
theorem dR_init_102 : decode cX9_init 102 = .ok (.aload_n 0, 1) := by decide +kernel
theorem dR_init_103 : decode cX9_init 103 = .ok (.bipush 96, 2) := by decide +kernel
theorem dR_init_105 : decode cX9_init 105 = .ok (.newarray .int, 2) := by decide +kernel
theorem dR_init_107 : decode cX9_init 107 = .ok (.putfield 46, 3) := by decide +kernel
theorem dR_init_110 : decode cX9_init 110 = .ok (.aload_n 0, 1) := by decide +kernel
theorem dR_init_111 : decode cX9_init 111 = .ok (.bipush 24, 2) := by decide +kernel
theorem dR_init_113 : decode cX9_init 113 = .ok (.newarray .int, 2) := by decide +kernel
theorem dR_init_115 : decode cX9_init 115 = .ok (.putfield 49, 3) := by decide +kernel
theorem dR_init_118 : decode cX9_init 118 = .ok (.aload_n 0, 1) := by decide +kernel
theorem dR_init_119 : decode cX9_init 119 = .ok (.getfield 7, 3) := by decide +kernel
theorem dR_init_122 : decode cX9_init 122 = .ok (.bipush 8, 2) := by decide +kernel
theorem dR_init_124 : decode cX9_init 124 = .ok (.iconst 1, 1) := by decide +kernel
theorem dR_init_125 : decode cX9_init 125 = .ok (.iastore, 1) := by decide +kernel
theorem dR_init_126 : decode cX9_init 126 = .ok (.return_, 1) := by decide +kernel
theorem dR_error_0 : decode cX9_error 0 = .ok (.aload_n 0, 1) := by decide +kernel
theorem dR_error_1 : decode cX9_error 1 = .ok (.getfield 19, 3) := by decide +kernel
theorem dR_error_4 : decode cX9_error 4 = .ok (.iload_n 1, 1) := by decide +kernel
theorem dR_error_5 : decode cX9_error 5 = .ok (.dup2, 1) := by decide +kernel
theorem dR_error_6 : decode cX9_error 6 = .ok (.iaload, 1) := by decide +kernel
theorem dR_error_7 : decode cX9_error 7 = .ok (.iconst 1, 1) := by decide +kernel
theorem dR_error_8 : decode cX9_error 8 = .ok (.iadd, 1) := by decide +kernel
theorem dR_error_9 : decode cX9_error 9 = .ok (.iastore, 1) := by decide +kernel
theorem dR_error_10 : decode cX9_error 10 = .ok (.ldc 52, 2) := by decide +kernel
theorem dR_error_12 : decode cX9_error 12 = .ok (.iload_n 1, 1) := by decide +kernel
theorem dR_error_13 : decode cX9_error 13 = .ok (.isub, 1) := by decide +kernel
theorem dR_error_14 : decode cX9_error 14 = .ok (.ireturn, 1) := by decide +kernel
theorem dR_in_0 : decode cX9_in 0 = .ok (.iload_n 0, 1) := by decide +kernel
theorem dR_in_1 : decode cX9_in 1 = .ok (.iload_n 1, 1) := by decide +kernel
theorem dR_in_2 : decode cX9_in 2 = .ok (.if_icmp .lt 12, 3) := by decide +kernel
theorem dR_in_5 : decode cX9_in 5 = .ok (.iload_n 0, 1) := by decide +kernel
theorem dR_in_6 : decode cX9_in 6 = .ok (.iload_n 2, 1) := by decide +kernel
theorem dR_in_7 : decode cX9_in 7 = .ok (.if_icmp .gt 7, 3) := by decide +kernel
theorem dR_in_10 : decode cX9_in 10 = .ok (.iconst 1, 1) := by decide +kernel
theorem dR_in_11 : decode cX9_in 11 = .ok (.goto 4, 3) := by decide +kernel
theorem dR_in_14 : decode cX9_in 14 = .ok (.iconst 0, 1) := by decide +kernel
theorem dR_in_15 : decode cX9_in 15 = .ok (.ireturn, 1) := by decide +kernel
theorem dR_held_0 : decode cX9_held 0 = .ok (.iload_n 0, 1) := by decide +kernel
theorem dR_held_1 : decode cX9_held 1 = .ok (.iload_n 1, 1) := by decide +kernel
theorem dR_held_2 : decode cX9_held 2 = .ok (.if_icmp .ge 7, 3) := by decide +kernel
theorem dR_held_5 : decode cX9_held 5 = .ok (.iload_n 1, 1) := by decide +kernel
theorem dR_held_6 : decode cX9_held 6 = .ok (.goto 13, 3) := by decide +kernel
theorem dR_held_9 : decode cX9_held 9 = .ok (.iload_n 0, 1) := by decide +kernel
theorem dR_held_10 : decode cX9_held 10 = .ok (.iload_n 2, 1) := by decide +kernel
theorem dR_held_11 : decode cX9_held 11 = .ok (.if_icmp .le 7, 3) := by decide +kernel
theorem dR_held_14 : decode cX9_held 14 = .ok (.iload_n 2, 1) := by decide +kernel
theorem dR_held_15 : decode cX9_held 15 = .ok (.goto 4, 3) := by decide +kernel
theorem dR_held_18 : decode cX9_held 18 = .ok (.iload_n 0, 1) := by decide +kernel
theorem dR_held_19 : decode cX9_held 19 = .ok (.ireturn, 1) := by decide +kernel
theorem dR_carry_0 : decode cX9_carry 0 = .ok (.iconst 0, 1) := by decide +kernel
theorem dR_carry_1 : decode cX9_carry 1 = .ok (.istore_n 2, 1) := by decide +kernel
theorem dR_carry_2 : decode cX9_carry 2 = .ok (.iload_n 2, 1) := by decide +kernel
theorem dR_carry_3 : decode cX9_carry 3 = .ok (.sipush 536, 3) := by decide +kernel
theorem dR_carry_6 : decode cX9_carry 6 = .ok (.if_icmp .ge 15, 3) := by decide +kernel
theorem dR_carry_9 : decode cX9_carry 9 = .ok (.aload_n 1, 1) := by decide +kernel
theorem dR_carry_10 : decode cX9_carry 10 = .ok (.iload_n 2, 1) := by decide +kernel
theorem dR_carry_11 : decode cX9_carry 11 = .ok (.aload_n 0, 1) := by decide +kernel
theorem dR_carry_12 : decode cX9_carry 12 = .ok (.iload_n 2, 1) := by decide +kernel
theorem dR_carry_13 : decode cX9_carry 13 = .ok (.iaload, 1) := by decide +kernel
theorem dR_carry_14 : decode cX9_carry 14 = .ok (.iastore, 1) := by decide +kernel
theorem dR_carry_15 : decode cX9_carry 15 = .ok (.iinc 2 1, 3) := by decide +kernel
theorem dR_carry_18 : decode cX9_carry 18 = .ok (.goto (-16), 3) := by decide +kernel
theorem dR_carry_21 : decode cX9_carry 21 = .ok (.return_, 1) := by decide +kernel
theorem dR_isThing_0 : decode cX9_isThing 0 = .ok (.iload_n 1, 1) := by decide +kernel
theorem dR_isThing_1 : decode cX9_isThing 1 = .ok (.iconst 0, 1) := by decide +kernel
theorem dR_isThing_2 : decode cX9_isThing 2 = .ok (.aload_n 0, 1) := by decide +kernel
theorem dR_isThing_3 : decode cX9_isThing 3 = .ok (.getfield 7, 3) := by decide +kernel
theorem dR_isThing_6 : decode cX9_isThing 6 = .ok (.iconst 0, 1) := by decide +kernel
theorem dR_isThing_7 : decode cX9_isThing 7 = .ok (.iaload, 1) := by decide +kernel
theorem dR_isThing_8 : decode cX9_isThing 8 = .ok (.iconst 1, 1) := by decide +kernel
theorem dR_isThing_9 : decode cX9_isThing 9 = .ok (.isub, 1) := by decide +kernel
theorem dR_isThing_10 : decode cX9_isThing 10 = .ok (.invokestatic 53, 3) := by decide +kernel
theorem dR_isThing_13 : decode cX9_isThing 13 = .ok (.ireturn, 1) := by decide +kernel
theorem dR_its_0 : decode cX9_its 0 = .ok (.aload_n 0, 1) := by decide +kernel
theorem dR_its_1 : decode cX9_its 1 = .ok (.getfield 7, 3) := by decide +kernel
theorem dR_its_4 : decode cX9_its 4 = .ok (.bipush 10, 2) := by decide +kernel
theorem dR_its_6 : decode cX9_its 6 = .ok (.bipush 10, 2) := by decide +kernel
theorem dR_its_8 : decode cX9_its 8 = .ok (.iload_n 1, 1) := by decide +kernel
theorem dR_its_9 : decode cX9_its 9 = .ok (.imul, 1) := by decide +kernel
theorem dR_its_10 : decode cX9_its 10 = .ok (.iadd, 1) := by decide +kernel
theorem dR_its_11 : decode cX9_its 11 = .ok (.iload_n 2, 1) := by decide +kernel
theorem dR_its_12 : decode cX9_its 12 = .ok (.iadd, 1) := by decide +kernel
theorem dR_its_13 : decode cX9_its 13 = .ok (.iaload, 1) := by decide +kernel
theorem dR_its_14 : decode cX9_its 14 = .ok (.ireturn, 1) := by decide +kernel
theorem dR_lays1_0 : decode cX9_lays1 0 = .ok (.aload_n 0, 1) := by decide +kernel
theorem dR_lays1_1 : decode cX9_lays1 1 = .ok (.getfield 7, 3) := by decide +kernel
theorem dR_lays1_4 : decode cX9_lays1 4 = .ok (.bipush 10, 2) := by decide +kernel
theorem dR_lays1_6 : decode cX9_lays1 6 = .ok (.bipush 10, 2) := by decide +kernel
theorem dR_lays1_8 : decode cX9_lays1 8 = .ok (.iload_n 1, 1) := by decide +kernel
theorem dR_lays1_9 : decode cX9_lays1 9 = .ok (.imul, 1) := by decide +kernel
theorem dR_lays1_10 : decode cX9_lays1 10 = .ok (.iadd, 1) := by decide +kernel
theorem dR_lays1_11 : decode cX9_lays1 11 = .ok (.iload_n 2, 1) := by decide +kernel
theorem dR_lays1_12 : decode cX9_lays1 12 = .ok (.iadd, 1) := by decide +kernel
theorem dR_lays1_13 : decode cX9_lays1 13 = .ok (.iload_n 3, 1) := by decide +kernel
theorem dR_lays1_14 : decode cX9_lays1 14 = .ok (.iastore, 1) := by decide +kernel
theorem dR_lays1_15 : decode cX9_lays1 15 = .ok (.return_, 1) := by decide +kernel
theorem dR_addThing_0 : decode cX9_addThing 0 = .ok (.aload_n 0, 1) := by decide +kernel
theorem dR_addThing_1 : decode cX9_addThing 1 = .ok (.getfield 7, 3) := by decide +kernel
theorem dR_addThing_4 : decode cX9_addThing 4 = .ok (.iconst 0, 1) := by decide +kernel
theorem dR_addThing_5 : decode cX9_addThing 5 = .ok (.iaload, 1) := by decide +kernel
theorem dR_addThing_6 : decode cX9_addThing 6 = .ok (.istore_n 2, 1) := by decide +kernel
theorem dR_addThing_7 : decode cX9_addThing 7 = .ok (.iconst 0, 1) := by decide +kernel
theorem dR_addThing_8 : decode cX9_addThing 8 = .ok (.istore_n 3, 1) := by decide +kernel
theorem dR_addThing_9 : decode cX9_addThing 9 = .ok (.iload_n 3, 1) := by decide +kernel
theorem dR_addThing_10 : decode cX9_addThing 10 = .ok (.bipush 10, 2) := by decide +kernel
theorem dR_addThing_12 : decode cX9_addThing 12 = .ok (.if_icmp .ge 16, 3) := by decide +kernel
theorem dR_addThing_15 : decode cX9_addThing 15 = .ok (.aload_n 0, 1) := by decide +kernel
theorem dR_addThing_16 : decode cX9_addThing 16 = .ok (.iload_n 2, 1) := by decide +kernel
theorem dR_addThing_17 : decode cX9_addThing 17 = .ok (.iload_n 3, 1) := by decide +kernel
theorem dR_addThing_18 : decode cX9_addThing 18 = .ok (.iconst 0, 1) := by decide +kernel
theorem dR_addThing_19 : decode cX9_addThing 19 = .ok (.invokevirtual 57, 3) := by decide +kernel
theorem dR_addThing_22 : decode cX9_addThing 22 = .ok (.iinc 3 1, 3) := by decide +kernel
theorem dR_addThing_25 : decode cX9_addThing 25 = .ok (.goto (-16), 3) := by decide +kernel
theorem dR_addThing_28 : decode cX9_addThing 28 = .ok (.aload_n 0, 1) := by decide +kernel
theorem dR_addThing_29 : decode cX9_addThing 29 = .ok (.iload_n 2, 1) := by decide +kernel
theorem dR_addThing_30 : decode cX9_addThing 30 = .ok (.iconst 0, 1) := by decide +kernel
theorem dR_addThing_31 : decode cX9_addThing 31 = .ok (.iload_n 1, 1) := by decide +kernel
theorem dR_addThing_32 : decode cX9_addThing 32 = .ok (.bipush 100, 2) := by decide +kernel
theorem dR_addThing_34 : decode cX9_addThing 34 = .ok (.idiv, 1) := by decide +kernel
theorem dR_addThing_35 : decode cX9_addThing 35 = .ok (.invokevirtual 57, 3) := by decide +kernel
theorem dR_addThing_38 : decode cX9_addThing 38 = .ok (.aload_n 0, 1) := by decide +kernel
theorem dR_addThing_39 : decode cX9_addThing 39 = .ok (.iload_n 2, 1) := by decide +kernel
theorem dR_addThing_40 : decode cX9_addThing 40 = .ok (.iconst 1, 1) := by decide +kernel
theorem dR_addThing_41 : decode cX9_addThing 41 = .ok (.iload_n 1, 1) := by decide +kernel
theorem dR_addThing_42 : decode cX9_addThing 42 = .ok (.bipush 100, 2) := by decide +kernel
theorem dR_addThing_44 : decode cX9_addThing 44 = .ok (.irem, 1) := by decide +kernel
theorem dR_addThing_45 : decode cX9_addThing 45 = .ok (.invokevirtual 57, 3) := by decide +kernel
theorem dR_addThing_48 : decode cX9_addThing 48 = .ok (.aload_n 0, 1) := by decide +kernel
theorem dR_addThing_49 : decode cX9_addThing 49 = .ok (.getfield 7, 3) := by decide +kernel
theorem dR_addThing_52 : decode cX9_addThing 52 = .ok (.iconst 0, 1) := by decide +kernel
theorem dR_addThing_53 : decode cX9_addThing 53 = .ok (.dup2, 1) := by decide +kernel
theorem dR_addThing_54 : decode cX9_addThing 54 = .ok (.iaload, 1) := by decide +kernel
theorem dR_addThing_55 : decode cX9_addThing 55 = .ok (.iconst 1, 1) := by decide +kernel
theorem dR_addThing_56 : decode cX9_addThing 56 = .ok (.iadd, 1) := by decide +kernel
theorem dR_addThing_57 : decode cX9_addThing 57 = .ok (.iastore, 1) := by decide +kernel
theorem dR_addThing_58 : decode cX9_addThing 58 = .ok (.iload_n 2, 1) := by decide +kernel
theorem dR_addThing_59 : decode cX9_addThing 59 = .ok (.ireturn, 1) := by decide +kernel
theorem dR_thing_0 : decode cX9_thing 0 = .ok (.iload_n 1, 1) := by decide +kernel
theorem dR_thing_1 : decode cX9_thing 1 = .ok (.iconst 0, 1) := by decide +kernel
theorem dR_thing_2 : decode cX9_thing 2 = .ok (.sipush 699, 3) := by decide +kernel
theorem dR_thing_5 : decode cX9_thing 5 = .ok (.invokestatic 53, 3) := by decide +kernel
theorem dR_thing_8 : decode cX9_thing 8 = .ok (.ifCond .eq 13, 3) := by decide +kernel
theorem dR_thing_11 : decode cX9_thing 11 = .ok (.iload_n 2, 1) := by decide +kernel
theorem dR_thing_12 : decode cX9_thing 12 = .ok (.iconst 0, 1) := by decide +kernel
theorem dR_thing_13 : decode cX9_thing 13 = .ok (.ldc 61, 2) := by decide +kernel
theorem dR_thing_15 : decode cX9_thing 15 = .ok (.invokestatic 53, 3) := by decide +kernel
theorem dR_thing_18 : decode cX9_thing 18 = .ok (.ifCond .ne 9, 3) := by decide +kernel
theorem dR_thing_21 : decode cX9_thing 21 = .ok (.aload_n 0, 1) := by decide +kernel
theorem dR_thing_22 : decode cX9_thing 22 = .ok (.iconst 1, 1) := by decide +kernel
theorem dR_thing_23 : decode cX9_thing 23 = .ok (.invokevirtual 62, 3) := by decide +kernel
theorem dR_thing_26 : decode cX9_thing 26 = .ok (.ireturn, 1) := by decide +kernel
theorem dR_thing_27 : decode cX9_thing 27 = .ok (.aload_n 0, 1) := by decide +kernel
theorem dR_thing_28 : decode cX9_thing 28 = .ok (.getfield 7, 3) := by decide +kernel
theorem dR_thing_31 : decode cX9_thing 31 = .ok (.iconst 0, 1) := by decide +kernel
theorem dR_thing_32 : decode cX9_thing 32 = .ok (.iaload, 1) := by decide +kernel
theorem dR_thing_33 : decode cX9_thing 33 = .ok (.bipush 12, 2) := by decide +kernel
theorem dR_thing_35 : decode cX9_thing 35 = .ok (.if_icmp .ne 9, 3) := by decide +kernel
theorem dR_thing_38 : decode cX9_thing 38 = .ok (.aload_n 0, 1) := by decide +kernel
theorem dR_thing_39 : decode cX9_thing 39 = .ok (.iconst 4, 1) := by decide +kernel
theorem dR_thing_40 : decode cX9_thing 40 = .ok (.invokevirtual 62, 3) := by decide +kernel
theorem dR_thing_43 : decode cX9_thing 43 = .ok (.ireturn, 1) := by decide +kernel
theorem dR_thing_44 : decode cX9_thing 44 = .ok (.aload_n 0, 1) := by decide +kernel
theorem dR_thing_45 : decode cX9_thing 45 = .ok (.iload_n 1, 1) := by decide +kernel
theorem dR_thing_46 : decode cX9_thing 46 = .ok (.invokevirtual 66, 3) := by decide +kernel
theorem dR_thing_49 : decode cX9_thing 49 = .ok (.istore_n 3, 1) := by decide +kernel
theorem dR_thing_50 : decode cX9_thing 50 = .ok (.aload_n 0, 1) := by decide +kernel
theorem dR_thing_51 : decode cX9_thing 51 = .ok (.iload_n 3, 1) := by decide +kernel
theorem dR_thing_52 : decode cX9_thing 52 = .ok (.iconst 2, 1) := by decide +kernel
theorem dR_thing_53 : decode cX9_thing 53 = .ok (.iload_n 2, 1) := by decide +kernel
theorem dR_thing_54 : decode cX9_thing 54 = .ok (.invokevirtual 57, 3) := by decide +kernel
theorem dR_thing_57 : decode cX9_thing 57 = .ok (.aload_n 0, 1) := by decide +kernel
theorem dR_thing_58 : decode cX9_thing 58 = .ok (.getfield 7, 3) := by decide +kernel
theorem dR_thing_61 : decode cX9_thing 61 = .ok (.iconst 1, 1) := by decide +kernel
theorem dR_thing_62 : decode cX9_thing 62 = .ok (.iaload, 1) := by decide +kernel
theorem dR_thing_63 : decode cX9_thing 63 = .ok (.iconst 4, 1) := by decide +kernel
theorem dR_thing_64 : decode cX9_thing 64 = .ok (.if_icmp .ge 29, 3) := by decide +kernel
theorem dR_thing_67 : decode cX9_thing 67 = .ok (.aload_n 0, 1) := by decide +kernel
theorem dR_thing_68 : decode cX9_thing 68 = .ok (.iload_n 3, 1) := by decide +kernel
theorem dR_thing_69 : decode cX9_thing 69 = .ok (.bipush 6, 2) := by decide +kernel
theorem dR_thing_71 : decode cX9_thing 71 = .ok (.aload_n 0, 1) := by decide +kernel
theorem dR_thing_72 : decode cX9_thing 72 = .ok (.getfield 7, 3) := by decide +kernel
theorem dR_thing_75 : decode cX9_thing 75 = .ok (.iconst 1, 1) := by decide +kernel
theorem dR_thing_76 : decode cX9_thing 76 = .ok (.iaload, 1) := by decide +kernel
theorem dR_thing_77 : decode cX9_thing 77 = .ok (.iadd, 1) := by decide +kernel
theorem dR_thing_78 : decode cX9_thing 78 = .ok (.ldc 69, 2) := by decide +kernel
theorem dR_thing_80 : decode cX9_thing 80 = .ok (.invokevirtual 57, 3) := by decide +kernel
theorem dR_thing_83 : decode cX9_thing 83 = .ok (.aload_n 0, 1) := by decide +kernel
theorem dR_thing_84 : decode cX9_thing 84 = .ok (.getfield 7, 3) := by decide +kernel
theorem dR_thing_87 : decode cX9_thing 87 = .ok (.iconst 1, 1) := by decide +kernel
theorem dR_thing_88 : decode cX9_thing 88 = .ok (.dup2, 1) := by decide +kernel
theorem dR_thing_89 : decode cX9_thing 89 = .ok (.iaload, 1) := by decide +kernel
theorem dR_thing_90 : decode cX9_thing 90 = .ok (.iconst 1, 1) := by decide +kernel
theorem dR_thing_91 : decode cX9_thing 91 = .ok (.iadd, 1) := by decide +kernel
theorem dR_thing_92 : decode cX9_thing 92 = .ok (.iastore, 1) := by decide +kernel
theorem dR_thing_93 : decode cX9_thing 93 = .ok (.iload_n 3, 1) := by decide +kernel
theorem dR_thing_94 : decode cX9_thing 94 = .ok (.ireturn, 1) := by decide +kernel
theorem dR_told1_0 : decode cX9_told1 0 = .ok (.iload_n 2, 1) := by decide +kernel
theorem dR_told1_1 : decode cX9_told1 1 = .ok (.bipush 10, 2) := by decide +kernel
theorem dR_told1_3 : decode cX9_told1 3 = .ok (.if_icmp .ne 11, 3) := by decide +kernel
theorem dR_told1_6 : decode cX9_told1 6 = .ok (.aload_n 0, 1) := by decide +kernel
theorem dR_told1_7 : decode cX9_told1 7 = .ok (.iload_n 1, 1) := by decide +kernel
theorem dR_told1_8 : decode cX9_told1 8 = .ok (.invokevirtual 70, 3) := by decide +kernel
theorem dR_told1_11 : decode cX9_told1 11 = .ok (.goto 9, 3) := by decide +kernel
theorem dR_told1_14 : decode cX9_told1 14 = .ok (.aload_n 0, 1) := by decide +kernel
theorem dR_told1_15 : decode cX9_told1 15 = .ok (.iload_n 1, 1) := by decide +kernel
theorem dR_told1_16 : decode cX9_told1 16 = .ok (.iload_n 2, 1) := by decide +kernel
theorem dR_told1_17 : decode cX9_told1 17 = .ok (.invokevirtual 73, 3) := by decide +kernel
theorem dR_told1_20 : decode cX9_told1 20 = .ok (.ireturn, 1) := by decide +kernel
theorem dR_thingIs_0 : decode cX9_thingIs 0 = .ok (.aload_n 0, 1) := by decide +kernel
theorem dR_thingIs_1 : decode cX9_thingIs 1 = .ok (.iload_n 1, 1) := by decide +kernel
theorem dR_thingIs_2 : decode cX9_thingIs 2 = .ok (.invokevirtual 77, 3) := by decide +kernel
theorem dR_thingIs_5 : decode cX9_thingIs 5 = .ok (.ifCond .eq 22, 3) := by decide +kernel
theorem dR_thingIs_8 : decode cX9_thingIs 8 = .ok (.iload_n 2, 1) := by decide +kernel
theorem dR_thingIs_9 : decode cX9_thingIs 9 = .ok (.iconst 0, 1) := by decide +kernel
theorem dR_thingIs_10 : decode cX9_thingIs 10 = .ok (.bipush 10, 2) := by decide +kernel
theorem dR_thingIs_12 : decode cX9_thingIs 12 = .ok (.invokestatic 53, 3) := by decide +kernel
theorem dR_thingIs_15 : decode cX9_thingIs 15 = .ok (.ifCond .eq 12, 3) := by decide +kernel
theorem dR_thingIs_18 : decode cX9_thingIs 18 = .ok (.aload_n 0, 1) := by decide +kernel
theorem dR_thingIs_19 : decode cX9_thingIs 19 = .ok (.iload_n 1, 1) := by decide +kernel
theorem dR_thingIs_20 : decode cX9_thingIs 20 = .ok (.iload_n 2, 1) := by decide +kernel
theorem dR_thingIs_21 : decode cX9_thingIs 21 = .ok (.invokevirtual 81, 3) := by decide +kernel
theorem dR_thingIs_24 : decode cX9_thingIs 24 = .ok (.goto 8, 3) := by decide +kernel
theorem dR_thingIs_27 : decode cX9_thingIs 27 = .ok (.aload_n 0, 1) := by decide +kernel
theorem dR_thingIs_28 : decode cX9_thingIs 28 = .ok (.iconst 1, 1) := by decide +kernel
theorem dR_thingIs_29 : decode cX9_thingIs 29 = .ok (.invokevirtual 62, 3) := by decide +kernel
theorem dR_thingIs_32 : decode cX9_thingIs 32 = .ok (.ireturn, 1) := by decide +kernel
theorem dR_isUnder_0 : decode cX9_isUnder 0 = .ok (.iload_n 1, 1) := by decide +kernel
theorem dR_isUnder_1 : decode cX9_isUnder 1 = .ok (.ifCond .eq 39, 3) := by decide +kernel
theorem dR_isUnder_4 : decode cX9_isUnder 4 = .ok (.iload_n 0, 1) := by decide +kernel
theorem dR_isUnder_5 : decode cX9_isUnder 5 = .ok (.iload_n 1, 1) := by decide +kernel
theorem dR_isUnder_6 : decode cX9_isUnder 6 = .ok (.if_icmp .eq 34, 3) := by decide +kernel
theorem dR_isUnder_9 : decode cX9_isUnder 9 = .ok (.iload_n 1, 1) := by decide +kernel
theorem dR_isUnder_10 : decode cX9_isUnder 10 = .ok (.iconst 1, 1) := by decide +kernel
theorem dR_isUnder_11 : decode cX9_isUnder 11 = .ok (.if_icmp .ne 8, 3) := by decide +kernel
theorem dR_isUnder_14 : decode cX9_isUnder 14 = .ok (.iload_n 0, 1) := by decide +kernel
theorem dR_isUnder_15 : decode cX9_isUnder 15 = .ok (.iconst 4, 1) := by decide +kernel
theorem dR_isUnder_16 : decode cX9_isUnder 16 = .ok (.if_icmp .eq 24, 3) := by decide +kernel
theorem dR_isUnder_19 : decode cX9_isUnder 19 = .ok (.iload_n 1, 1) := by decide +kernel
theorem dR_isUnder_20 : decode cX9_isUnder 20 = .ok (.iconst 2, 1) := by decide +kernel
theorem dR_isUnder_21 : decode cX9_isUnder 21 = .ok (.if_icmp .ne 8, 3) := by decide +kernel
theorem dR_isUnder_24 : decode cX9_isUnder 24 = .ok (.iload_n 0, 1) := by decide +kernel
theorem dR_isUnder_25 : decode cX9_isUnder 25 = .ok (.iconst 5, 1) := by decide +kernel
theorem dR_isUnder_26 : decode cX9_isUnder 26 = .ok (.if_icmp .eq 14, 3) := by decide +kernel
theorem dR_isUnder_29 : decode cX9_isUnder 29 = .ok (.iload_n 1, 1) := by decide +kernel
theorem dR_isUnder_30 : decode cX9_isUnder 30 = .ok (.iconst 3, 1) := by decide +kernel
theorem dR_isUnder_31 : decode cX9_isUnder 31 = .ok (.if_icmp .ne 13, 3) := by decide +kernel
theorem dR_isUnder_34 : decode cX9_isUnder 34 = .ok (.iload_n 0, 1) := by decide +kernel
theorem dR_isUnder_35 : decode cX9_isUnder 35 = .ok (.bipush 6, 2) := by decide +kernel
theorem dR_isUnder_37 : decode cX9_isUnder 37 = .ok (.if_icmp .ne 7, 3) := by decide +kernel
theorem dR_isUnder_40 : decode cX9_isUnder 40 = .ok (.iconst 1, 1) := by decide +kernel
theorem dR_isUnder_41 : decode cX9_isUnder 41 = .ok (.goto 4, 3) := by decide +kernel
theorem dR_isUnder_44 : decode cX9_isUnder 44 = .ok (.iconst 0, 1) := by decide +kernel
theorem dR_isUnder_45 : decode cX9_isUnder 45 = .ok (.ireturn, 1) := by decide +kernel
theorem dR_as_0 : decode cX9_as 0 = .ok (.aload_n 0, 1) := by decide +kernel
theorem dR_as_1 : decode cX9_as 1 = .ok (.iload_n 1, 1) := by decide +kernel
theorem dR_as_2 : decode cX9_as 2 = .ok (.invokevirtual 77, 3) := by decide +kernel
theorem dR_as_5 : decode cX9_as 5 = .ok (.ifCond .eq 13, 3) := by decide +kernel
theorem dR_as_8 : decode cX9_as 8 = .ok (.iload_n 2, 1) := by decide +kernel
theorem dR_as_9 : decode cX9_as 9 = .ok (.iconst 0, 1) := by decide +kernel
theorem dR_as_10 : decode cX9_as 10 = .ok (.bipush 6, 2) := by decide +kernel
theorem dR_as_12 : decode cX9_as 12 = .ok (.invokestatic 53, 3) := by decide +kernel
theorem dR_as_15 : decode cX9_as 15 = .ok (.ifCond .ne 9, 3) := by decide +kernel
theorem dR_as_18 : decode cX9_as 18 = .ok (.aload_n 0, 1) := by decide +kernel
theorem dR_as_19 : decode cX9_as 19 = .ok (.iconst 1, 1) := by decide +kernel
theorem dR_as_20 : decode cX9_as 20 = .ok (.invokevirtual 62, 3) := by decide +kernel
theorem dR_as_23 : decode cX9_as 23 = .ok (.ireturn, 1) := by decide +kernel
theorem dR_as_24 : decode cX9_as 24 = .ok (.aload_n 0, 1) := by decide +kernel
theorem dR_as_25 : decode cX9_as 25 = .ok (.iload_n 1, 1) := by decide +kernel
theorem dR_as_26 : decode cX9_as 26 = .ok (.iconst 0, 1) := by decide +kernel
theorem dR_as_27 : decode cX9_as 27 = .ok (.invokevirtual 73, 3) := by decide +kernel
theorem dR_as_30 : decode cX9_as 30 = .ok (.iload_n 2, 1) := by decide +kernel
theorem dR_as_31 : decode cX9_as 31 = .ok (.invokestatic 84, 3) := by decide +kernel
theorem dR_as_34 : decode cX9_as 34 = .ok (.ifCond .eq 12, 3) := by decide +kernel
theorem dR_as_37 : decode cX9_as 37 = .ok (.aload_n 0, 1) := by decide +kernel
theorem dR_as_38 : decode cX9_as 38 = .ok (.iload_n 1, 1) := by decide +kernel
theorem dR_as_39 : decode cX9_as 39 = .ok (.iconst 2, 1) := by decide +kernel
theorem dR_as_40 : decode cX9_as 40 = .ok (.invokevirtual 73, 3) := by decide +kernel
theorem dR_as_43 : decode cX9_as 43 = .ok (.goto 8, 3) := by decide +kernel
theorem dR_as_46 : decode cX9_as 46 = .ok (.aload_n 0, 1) := by decide +kernel
theorem dR_as_47 : decode cX9_as 47 = .ok (.iconst 5, 1) := by decide +kernel
theorem dR_as_48 : decode cX9_as 48 = .ok (.invokevirtual 62, 3) := by decide +kernel
theorem dR_as_51 : decode cX9_as 51 = .ok (.ireturn, 1) := by decide +kernel
theorem dR_set_0 : decode cX9_set 0 = .ok (.aload_n 0, 1) := by decide +kernel
theorem dR_set_1 : decode cX9_set 1 = .ok (.iload_n 1, 1) := by decide +kernel
theorem dR_set_2 : decode cX9_set 2 = .ok (.invokevirtual 77, 3) := by decide +kernel
theorem dR_set_5 : decode cX9_set 5 = .ok (.ifCond .eq 17, 3) := by decide +kernel
theorem dR_set_8 : decode cX9_set 8 = .ok (.iload_n 2, 1) := by decide +kernel
theorem dR_set_9 : decode cX9_set 9 = .ok (.iconst 0, 1) := by decide +kernel
theorem dR_set_10 : decode cX9_set 10 = .ok (.iconst 5, 1) := by decide +kernel
theorem dR_set_11 : decode cX9_set 11 = .ok (.invokestatic 53, 3) := by decide +kernel
theorem dR_set_14 : decode cX9_set 14 = .ok (.ifCond .eq 8, 3) := by decide +kernel
theorem dR_set_17 : decode cX9_set 17 = .ok (.iload_n 2, 1) := by decide +kernel
theorem dR_set_18 : decode cX9_set 18 = .ok (.iconst 2, 1) := by decide +kernel
theorem dR_set_19 : decode cX9_set 19 = .ok (.if_icmp .ne 9, 3) := by decide +kernel
theorem dR_set_22 : decode cX9_set 22 = .ok (.aload_n 0, 1) := by decide +kernel
theorem dR_set_23 : decode cX9_set 23 = .ok (.iconst 1, 1) := by decide +kernel
theorem dR_set_24 : decode cX9_set 24 = .ok (.invokevirtual 62, 3) := by decide +kernel
theorem dR_set_27 : decode cX9_set 27 = .ok (.ireturn, 1) := by decide +kernel
theorem dR_set_28 : decode cX9_set 28 = .ok (.iload_n 3, 1) := by decide +kernel
theorem dR_set_29 : decode cX9_set 29 = .ok (.iconst 0, 1) := by decide +kernel
theorem dR_set_30 : decode cX9_set 30 = .ok (.iload_n 2, 1) := by decide +kernel
theorem dR_set_31 : decode cX9_set 31 = .ok (.ifCond .ne 8, 3) := by decide +kernel
theorem dR_set_34 : decode cX9_set 34 = .ok (.bipush 6, 2) := by decide +kernel
theorem dR_set_36 : decode cX9_set 36 = .ok (.goto 19, 3) := by decide +kernel
theorem dR_set_39 : decode cX9_set 39 = .ok (.iload_n 2, 1) := by decide +kernel
theorem dR_set_40 : decode cX9_set 40 = .ok (.iconst 1, 1) := by decide +kernel
theorem dR_set_41 : decode cX9_set 41 = .ok (.if_icmp .ne 8, 3) := by decide +kernel
theorem dR_set_44 : decode cX9_set 44 = .ok (.bipush 99, 2) := by decide +kernel
theorem dR_set_46 : decode cX9_set 46 = .ok (.goto 9, 3) := by decide +kernel
theorem dR_set_49 : decode cX9_set 49 = .ok (.aload_n 0, 1) := by decide +kernel
theorem dR_set_50 : decode cX9_set 50 = .ok (.iload_n 1, 1) := by decide +kernel
theorem dR_set_51 : decode cX9_set 51 = .ok (.iconst 2, 1) := by decide +kernel
theorem dR_set_52 : decode cX9_set 52 = .ok (.invokevirtual 73, 3) := by decide +kernel
theorem dR_set_55 : decode cX9_set 55 = .ok (.invokestatic 53, 3) := by decide +kernel
theorem dR_set_58 : decode cX9_set 58 = .ok (.ifCond .ne 9, 3) := by decide +kernel
theorem dR_set_61 : decode cX9_set 61 = .ok (.aload_n 0, 1) := by decide +kernel
theorem dR_set_62 : decode cX9_set 62 = .ok (.iconst 1, 1) := by decide +kernel
theorem dR_set_63 : decode cX9_set 63 = .ok (.invokevirtual 62, 3) := by decide +kernel
theorem dR_set_66 : decode cX9_set 66 = .ok (.ireturn, 1) := by decide +kernel
theorem dR_set_67 : decode cX9_set 67 = .ok (.aload_n 0, 1) := by decide +kernel
theorem dR_set_68 : decode cX9_set 68 = .ok (.iload_n 1, 1) := by decide +kernel
theorem dR_set_69 : decode cX9_set 69 = .ok (.iload_n 2, 1) := by decide +kernel
theorem dR_set_70 : decode cX9_set 70 = .ok (.invokevirtual 73, 3) := by decide +kernel
theorem dR_set_73 : decode cX9_set 73 = .ok (.istore 4, 2) := by decide +kernel
theorem dR_set_75 : decode cX9_set 75 = .ok (.aload_n 0, 1) := by decide +kernel
theorem dR_set_76 : decode cX9_set 76 = .ok (.iload_n 1, 1) := by decide +kernel
theorem dR_set_77 : decode cX9_set 77 = .ok (.iload_n 2, 1) := by decide +kernel
theorem dR_set_78 : decode cX9_set 78 = .ok (.iload_n 3, 1) := by decide +kernel
theorem dR_set_79 : decode cX9_set 79 = .ok (.invokevirtual 57, 3) := by decide +kernel
theorem dR_set_82 : decode cX9_set 82 = .ok (.iload 4, 2) := by decide +kernel
theorem dR_set_84 : decode cX9_set 84 = .ok (.ireturn, 1) := by decide +kernel
theorem dR_moves_0 : decode cX9_moves 0 = .ok (.aload_n 0, 1) := by decide +kernel
theorem dR_moves_1 : decode cX9_moves 1 = .ok (.iload_n 1, 1) := by decide +kernel
theorem dR_moves_2 : decode cX9_moves 2 = .ok (.iconst 2, 1) := by decide +kernel
theorem dR_moves_3 : decode cX9_moves 3 = .ok (.invokevirtual 73, 3) := by decide +kernel
theorem dR_moves_6 : decode cX9_moves 6 = .ok (.i2l, 1) := by decide +kernel
theorem dR_moves_7 : decode cX9_moves 7 = .ok (.iload_n 3, 1) := by decide +kernel
theorem dR_moves_8 : decode cX9_moves 8 = .ok (.i2l, 1) := by decide +kernel
theorem dR_moves_9 : decode cX9_moves 9 = .ok (.lmul, 1) := by decide +kernel
theorem dR_moves_10 : decode cX9_moves 10 = .ok (.ldc2_w 88, 3) := by decide +kernel
theorem dR_moves_13 : decode cX9_moves 13 = .ok (.ldiv, 1) := by decide +kernel
theorem dR_moves_14 : decode cX9_moves 14 = .ok (.lstore 4, 2) := by decide +kernel
theorem dR_moves_16 : decode cX9_moves 16 = .ok (.aload_n 0, 1) := by decide +kernel
theorem dR_moves_17 : decode cX9_moves 17 = .ok (.iload_n 2, 1) := by decide +kernel
theorem dR_moves_18 : decode cX9_moves 18 = .ok (.iconst 2, 1) := by decide +kernel
theorem dR_moves_19 : decode cX9_moves 19 = .ok (.invokevirtual 73, 3) := by decide +kernel
theorem dR_moves_22 : decode cX9_moves 22 = .ok (.i2l, 1) := by decide +kernel
theorem dR_moves_23 : decode cX9_moves 23 = .ok (.lstore 6, 2) := by decide +kernel
theorem dR_moves_25 : decode cX9_moves 25 = .ok (.bipush 6, 2) := by decide +kernel
theorem dR_moves_27 : decode cX9_moves 27 = .ok (.istore 8, 2) := by decide +kernel
theorem dR_moves_29 : decode cX9_moves 29 = .ok (.iload 8, 2) := by decide +kernel
theorem dR_moves_31 : decode cX9_moves 31 = .ok (.bipush 10, 2) := by decide +kernel
theorem dR_moves_33 : decode cX9_moves 33 = .ok (.if_icmp .ge 64, 3) := by decide +kernel
theorem dR_moves_36 : decode cX9_moves 36 = .ok (.lload 4, 2) := by decide +kernel
theorem dR_moves_38 : decode cX9_moves 38 = .ok (.aload_n 0, 1) := by decide +kernel
theorem dR_moves_39 : decode cX9_moves 39 = .ok (.iload_n 1, 1) := by decide +kernel
theorem dR_moves_40 : decode cX9_moves 40 = .ok (.iload 8, 2) := by decide +kernel
theorem dR_moves_42 : decode cX9_moves 42 = .ok (.invokevirtual 73, 3) := by decide +kernel
theorem dR_moves_45 : decode cX9_moves 45 = .ok (.i2l, 1) := by decide +kernel
theorem dR_moves_46 : decode cX9_moves 46 = .ok (.lmul, 1) := by decide +kernel
theorem dR_moves_47 : decode cX9_moves 47 = .ok (.lload 6, 2) := by decide +kernel
theorem dR_moves_49 : decode cX9_moves 49 = .ok (.aload_n 0, 1) := by decide +kernel
theorem dR_moves_50 : decode cX9_moves 50 = .ok (.iload_n 2, 1) := by decide +kernel
theorem dR_moves_51 : decode cX9_moves 51 = .ok (.iload 8, 2) := by decide +kernel
theorem dR_moves_53 : decode cX9_moves 53 = .ok (.invokevirtual 73, 3) := by decide +kernel
theorem dR_moves_56 : decode cX9_moves 56 = .ok (.i2l, 1) := by decide +kernel
theorem dR_moves_57 : decode cX9_moves 57 = .ok (.lmul, 1) := by decide +kernel
theorem dR_moves_58 : decode cX9_moves 58 = .ok (.ladd, 1) := by decide +kernel
theorem dR_moves_59 : decode cX9_moves 59 = .ok (.lstore 9, 2) := by decide +kernel
theorem dR_moves_61 : decode cX9_moves 61 = .ok (.aload_n 0, 1) := by decide +kernel
theorem dR_moves_62 : decode cX9_moves 62 = .ok (.iload_n 2, 1) := by decide +kernel
theorem dR_moves_63 : decode cX9_moves 63 = .ok (.iload 8, 2) := by decide +kernel
theorem dR_moves_65 : decode cX9_moves 65 = .ok (.lload 4, 2) := by decide +kernel
theorem dR_moves_67 : decode cX9_moves 67 = .ok (.lload 6, 2) := by decide +kernel
theorem dR_moves_69 : decode cX9_moves 69 = .ok (.ladd, 1) := by decide +kernel
theorem dR_moves_70 : decode cX9_moves 70 = .ok (.lconst 0, 1) := by decide +kernel
theorem dR_moves_71 : decode cX9_moves 71 = .ok (.lcmp, 1) := by decide +kernel
theorem dR_moves_72 : decode cX9_moves 72 = .ok (.ifCond .ne 7, 3) := by decide +kernel
theorem dR_moves_75 : decode cX9_moves 75 = .ok (.iconst 0, 1) := by decide +kernel
theorem dR_moves_76 : decode cX9_moves 76 = .ok (.goto 12, 3) := by decide +kernel
theorem dR_moves_79 : decode cX9_moves 79 = .ok (.lload 9, 2) := by decide +kernel
theorem dR_moves_81 : decode cX9_moves 81 = .ok (.lload 4, 2) := by decide +kernel
theorem dR_moves_83 : decode cX9_moves 83 = .ok (.lload 6, 2) := by decide +kernel
theorem dR_moves_85 : decode cX9_moves 85 = .ok (.ladd, 1) := by decide +kernel
theorem dR_moves_86 : decode cX9_moves 86 = .ok (.ldiv, 1) := by decide +kernel
theorem dR_moves_87 : decode cX9_moves 87 = .ok (.l2i, 1) := by decide +kernel
theorem dR_moves_88 : decode cX9_moves 88 = .ok (.invokevirtual 57, 3) := by decide +kernel
theorem dR_moves_91 : decode cX9_moves 91 = .ok (.iinc 8 1, 3) := by decide +kernel
theorem dR_moves_94 : decode cX9_moves 94 = .ok (.goto (-65), 3) := by decide +kernel
theorem dR_moves_97 : decode cX9_moves 97 = .ok (.lload 4, 2) := by decide +kernel
theorem dR_moves_99 : decode cX9_moves 99 = .ok (.lload 6, 2) := by decide +kernel
theorem dR_moves_101 : decode cX9_moves 101 = .ok (.ladd, 1) := by decide +kernel
theorem dR_moves_102 : decode cX9_moves 102 = .ok (.ldc2_w 90, 3) := by decide +kernel
theorem dR_moves_105 : decode cX9_moves 105 = .ok (.lcmp, 1) := by decide +kernel
theorem dR_moves_106 : decode cX9_moves 106 = .ok (.ifCond .le 9, 3) := by decide +kernel
theorem dR_moves_109 : decode cX9_moves 109 = .ok (.ldc2_w 90, 3) := by decide +kernel
theorem dR_moves_112 : decode cX9_moves 112 = .ok (.goto 8, 3) := by decide +kernel
theorem dR_moves_115 : decode cX9_moves 115 = .ok (.lload 4, 2) := by decide +kernel
theorem dR_moves_117 : decode cX9_moves 117 = .ok (.lload 6, 2) := by decide +kernel
theorem dR_moves_119 : decode cX9_moves 119 = .ok (.ladd, 1) := by decide +kernel
theorem dR_moves_120 : decode cX9_moves 120 = .ok (.l2i, 1) := by decide +kernel
theorem dR_moves_121 : decode cX9_moves 121 = .ok (.istore 8, 2) := by decide +kernel
theorem dR_moves_123 : decode cX9_moves 123 = .ok (.aload_n 0, 1) := by decide +kernel
theorem dR_moves_124 : decode cX9_moves 124 = .ok (.iload_n 2, 1) := by decide +kernel
theorem dR_moves_125 : decode cX9_moves 125 = .ok (.iconst 2, 1) := by decide +kernel
theorem dR_moves_126 : decode cX9_moves 126 = .ok (.iload 8, 2) := by decide +kernel
theorem dR_moves_128 : decode cX9_moves 128 = .ok (.invokevirtual 57, 3) := by decide +kernel
theorem dR_moves_131 : decode cX9_moves 131 = .ok (.iconst 3, 1) := by decide +kernel
theorem dR_moves_132 : decode cX9_moves 132 = .ok (.istore 9, 2) := by decide +kernel
theorem dR_moves_134 : decode cX9_moves 134 = .ok (.iload 9, 2) := by decide +kernel
theorem dR_moves_136 : decode cX9_moves 136 = .ok (.iconst 5, 1) := by decide +kernel
theorem dR_moves_137 : decode cX9_moves 137 = .ok (.if_icmp .gt 67, 3) := by decide +kernel
theorem dR_moves_140 : decode cX9_moves 140 = .ok (.aload_n 0, 1) := by decide +kernel
theorem dR_moves_141 : decode cX9_moves 141 = .ok (.iload_n 1, 1) := by decide +kernel
theorem dR_moves_142 : decode cX9_moves 142 = .ok (.iload 9, 2) := by decide +kernel
theorem dR_moves_144 : decode cX9_moves 144 = .ok (.invokevirtual 73, 3) := by decide +kernel
theorem dR_moves_147 : decode cX9_moves 147 = .ok (.i2l, 1) := by decide +kernel
theorem dR_moves_148 : decode cX9_moves 148 = .ok (.iload_n 3, 1) := by decide +kernel
theorem dR_moves_149 : decode cX9_moves 149 = .ok (.i2l, 1) := by decide +kernel
theorem dR_moves_150 : decode cX9_moves 150 = .ok (.lmul, 1) := by decide +kernel
theorem dR_moves_151 : decode cX9_moves 151 = .ok (.ldc2_w 88, 3) := by decide +kernel
theorem dR_moves_154 : decode cX9_moves 154 = .ok (.ldiv, 1) := by decide +kernel
theorem dR_moves_155 : decode cX9_moves 155 = .ok (.l2i, 1) := by decide +kernel
theorem dR_moves_156 : decode cX9_moves 156 = .ok (.istore 10, 2) := by decide +kernel
theorem dR_moves_158 : decode cX9_moves 158 = .ok (.aload_n 0, 1) := by decide +kernel
theorem dR_moves_159 : decode cX9_moves 159 = .ok (.iload_n 1, 1) := by decide +kernel
theorem dR_moves_160 : decode cX9_moves 160 = .ok (.iload 9, 2) := by decide +kernel
theorem dR_moves_162 : decode cX9_moves 162 = .ok (.aload_n 0, 1) := by decide +kernel
theorem dR_moves_163 : decode cX9_moves 163 = .ok (.iload_n 1, 1) := by decide +kernel
theorem dR_moves_164 : decode cX9_moves 164 = .ok (.iload 9, 2) := by decide +kernel
theorem dR_moves_166 : decode cX9_moves 166 = .ok (.invokevirtual 73, 3) := by decide +kernel
theorem dR_moves_169 : decode cX9_moves 169 = .ok (.iload 10, 2) := by decide +kernel
theorem dR_moves_171 : decode cX9_moves 171 = .ok (.isub, 1) := by decide +kernel
theorem dR_moves_172 : decode cX9_moves 172 = .ok (.invokevirtual 57, 3) := by decide +kernel
theorem dR_moves_175 : decode cX9_moves 175 = .ok (.aload_n 0, 1) := by decide +kernel
theorem dR_moves_176 : decode cX9_moves 176 = .ok (.iload_n 2, 1) := by decide +kernel
theorem dR_moves_177 : decode cX9_moves 177 = .ok (.iload 9, 2) := by decide +kernel
theorem dR_moves_179 : decode cX9_moves 179 = .ok (.aload_n 0, 1) := by decide +kernel
theorem dR_moves_180 : decode cX9_moves 180 = .ok (.iload_n 2, 1) := by decide +kernel
theorem dR_moves_181 : decode cX9_moves 181 = .ok (.iload 9, 2) := by decide +kernel
theorem dR_moves_183 : decode cX9_moves 183 = .ok (.invokevirtual 73, 3) := by decide +kernel
theorem dR_moves_186 : decode cX9_moves 186 = .ok (.iload 10, 2) := by decide +kernel
theorem dR_moves_188 : decode cX9_moves 188 = .ok (.iadd, 1) := by decide +kernel
theorem dR_moves_189 : decode cX9_moves 189 = .ok (.iconst 0, 1) := by decide +kernel
theorem dR_moves_190 : decode cX9_moves 190 = .ok (.iload 8, 2) := by decide +kernel
theorem dR_moves_192 : decode cX9_moves 192 = .ok (.invokestatic 92, 3) := by decide +kernel
theorem dR_moves_195 : decode cX9_moves 195 = .ok (.invokevirtual 57, 3) := by decide +kernel
theorem dR_moves_198 : decode cX9_moves 198 = .ok (.iinc 9 1, 3) := by decide +kernel
theorem dR_moves_201 : decode cX9_moves 201 = .ok (.goto (-67), 3) := by decide +kernel
theorem dR_moves_204 : decode cX9_moves 204 = .ok (.aload_n 0, 1) := by decide +kernel
theorem dR_moves_205 : decode cX9_moves 205 = .ok (.iload_n 1, 1) := by decide +kernel
theorem dR_moves_206 : decode cX9_moves 206 = .ok (.iconst 2, 1) := by decide +kernel
theorem dR_moves_207 : decode cX9_moves 207 = .ok (.aload_n 0, 1) := by decide +kernel
theorem dR_moves_208 : decode cX9_moves 208 = .ok (.iload_n 1, 1) := by decide +kernel
theorem dR_moves_209 : decode cX9_moves 209 = .ok (.iconst 2, 1) := by decide +kernel
theorem dR_moves_210 : decode cX9_moves 210 = .ok (.invokevirtual 73, 3) := by decide +kernel
theorem dR_moves_213 : decode cX9_moves 213 = .ok (.lload 4, 2) := by decide +kernel
theorem dR_moves_215 : decode cX9_moves 215 = .ok (.l2i, 1) := by decide +kernel
theorem dR_moves_216 : decode cX9_moves 216 = .ok (.isub, 1) := by decide +kernel
theorem dR_moves_217 : decode cX9_moves 217 = .ok (.invokevirtual 57, 3) := by decide +kernel
theorem dR_moves_220 : decode cX9_moves 220 = .ok (.return_, 1) := by decide +kernel
theorem dR_melt_0 : decode cX9_melt 0 = .ok (.aload_n 0, 1) := by decide +kernel
theorem dR_melt_1 : decode cX9_melt 1 = .ok (.iload_n 1, 1) := by decide +kernel
theorem dR_melt_2 : decode cX9_melt 2 = .ok (.invokevirtual 77, 3) := by decide +kernel
theorem dR_melt_5 : decode cX9_melt 5 = .ok (.ifCond .eq 13, 3) := by decide +kernel
theorem dR_melt_8 : decode cX9_melt 8 = .ok (.iload_n 2, 1) := by decide +kernel
theorem dR_melt_9 : decode cX9_melt 9 = .ok (.iconst 1, 1) := by decide +kernel
theorem dR_melt_10 : decode cX9_melt 10 = .ok (.bipush 8, 2) := by decide +kernel
theorem dR_melt_12 : decode cX9_melt 12 = .ok (.invokestatic 53, 3) := by decide +kernel
theorem dR_melt_15 : decode cX9_melt 15 = .ok (.ifCond .ne 9, 3) := by decide +kernel
theorem dR_melt_18 : decode cX9_melt 18 = .ok (.aload_n 0, 1) := by decide +kernel
theorem dR_melt_19 : decode cX9_melt 19 = .ok (.iconst 1, 1) := by decide +kernel
theorem dR_melt_20 : decode cX9_melt 20 = .ok (.invokevirtual 62, 3) := by decide +kernel
theorem dR_melt_23 : decode cX9_melt 23 = .ok (.ireturn, 1) := by decide +kernel
theorem dR_melt_24 : decode cX9_melt 24 = .ok (.aload_n 0, 1) := by decide +kernel
theorem dR_melt_25 : decode cX9_melt 25 = .ok (.iload_n 1, 1) := by decide +kernel
theorem dR_melt_26 : decode cX9_melt 26 = .ok (.iconst 2, 1) := by decide +kernel
theorem dR_melt_27 : decode cX9_melt 27 = .ok (.invokevirtual 73, 3) := by decide +kernel
theorem dR_melt_30 : decode cX9_melt 30 = .ok (.ifCond .ne 9, 3) := by decide +kernel
theorem dR_melt_33 : decode cX9_melt 33 = .ok (.aload_n 0, 1) := by decide +kernel
theorem dR_melt_34 : decode cX9_melt 34 = .ok (.iconst 3, 1) := by decide +kernel
theorem dR_melt_35 : decode cX9_melt 35 = .ok (.invokevirtual 62, 3) := by decide +kernel
theorem dR_melt_38 : decode cX9_melt 38 = .ok (.ireturn, 1) := by decide +kernel
theorem dR_melt_39 : decode cX9_melt 39 = .ok (.aload_n 0, 1) := by decide +kernel
theorem dR_melt_40 : decode cX9_melt 40 = .ok (.iload_n 1, 1) := by decide +kernel
theorem dR_melt_41 : decode cX9_melt 41 = .ok (.bipush 12, 2) := by decide +kernel
theorem dR_melt_43 : decode cX9_melt 43 = .ok (.iload_n 2, 1) := by decide +kernel
theorem dR_melt_44 : decode cX9_melt 44 = .ok (.invokevirtual 96, 3) := by decide +kernel
theorem dR_melt_47 : decode cX9_melt 47 = .ok (.aload_n 0, 1) := by decide +kernel
theorem dR_melt_48 : decode cX9_melt 48 = .ok (.bipush 12, 2) := by decide +kernel
theorem dR_melt_50 : decode cX9_melt 50 = .ok (.iconst 2, 1) := by decide +kernel
theorem dR_melt_51 : decode cX9_melt 51 = .ok (.invokevirtual 73, 3) := by decide +kernel
theorem dR_melt_54 : decode cX9_melt 54 = .ok (.ireturn, 1) := by decide +kernel
theorem dR_crucible_0 : decode cX9_crucible 0 = .ok (.iload_n 1, 1) := by decide +kernel
theorem dR_crucible_1 : decode cX9_crucible 1 = .ok (.iconst 2, 1) := by decide +kernel
theorem dR_crucible_2 : decode cX9_crucible 2 = .ok (.bipush 9, 2) := by decide +kernel
theorem dR_crucible_4 : decode cX9_crucible 4 = .ok (.invokestatic 53, 3) := by decide +kernel
theorem dR_crucible_7 : decode cX9_crucible 7 = .ok (.ifCond .eq 13, 3) := by decide +kernel
theorem dR_crucible_10 : decode cX9_crucible 10 = .ok (.aload_n 0, 1) := by decide +kernel
theorem dR_crucible_11 : decode cX9_crucible 11 = .ok (.bipush 12, 2) := by decide +kernel
theorem dR_crucible_13 : decode cX9_crucible 13 = .ok (.iload_n 1, 1) := by decide +kernel
theorem dR_crucible_14 : decode cX9_crucible 14 = .ok (.invokevirtual 73, 3) := by decide +kernel
theorem dR_crucible_17 : decode cX9_crucible 17 = .ok (.goto 8, 3) := by decide +kernel
theorem dR_crucible_20 : decode cX9_crucible 20 = .ok (.aload_n 0, 1) := by decide +kernel
theorem dR_crucible_21 : decode cX9_crucible 21 = .ok (.iconst 1, 1) := by decide +kernel
theorem dR_crucible_22 : decode cX9_crucible 22 = .ok (.invokevirtual 62, 3) := by decide +kernel
theorem dR_crucible_25 : decode cX9_crucible 25 = .ok (.ireturn, 1) := by decide +kernel
theorem dR_partOf_0 : decode cX9_partOf 0 = .ok (.iload_n 0, 1) := by decide +kernel
theorem dR_partOf_1 : decode cX9_partOf 1 = .ok (.i2l, 1) := by decide +kernel
theorem dR_partOf_2 : decode cX9_partOf 2 = .ok (.iload_n 1, 1) := by decide +kernel
theorem dR_partOf_3 : decode cX9_partOf 3 = .ok (.i2l, 1) := by decide +kernel
theorem dR_partOf_4 : decode cX9_partOf 4 = .ok (.lmul, 1) := by decide +kernel
theorem dR_partOf_5 : decode cX9_partOf 5 = .ok (.iload_n 2, 1) := by decide +kernel
theorem dR_partOf_6 : decode cX9_partOf 6 = .ok (.i2l, 1) := by decide +kernel
theorem dR_partOf_7 : decode cX9_partOf 7 = .ok (.ldiv, 1) := by decide +kernel
theorem dR_partOf_8 : decode cX9_partOf 8 = .ok (.l2i, 1) := by decide +kernel
theorem dR_partOf_9 : decode cX9_partOf 9 = .ok (.ireturn, 1) := by decide +kernel
theorem dR_cast_0 : decode cX9_cast 0 = .ok (.iload_n 1, 1) := by decide +kernel
theorem dR_cast_1 : decode cX9_cast 1 = .ok (.iconst 0, 1) := by decide +kernel
theorem dR_cast_2 : decode cX9_cast 2 = .ok (.sipush 699, 3) := by decide +kernel
theorem dR_cast_5 : decode cX9_cast 5 = .ok (.invokestatic 53, 3) := by decide +kernel
theorem dR_cast_8 : decode cX9_cast 8 = .ok (.ifCond .eq 36, 3) := by decide +kernel
theorem dR_cast_11 : decode cX9_cast 11 = .ok (.iload_n 2, 1) := by decide +kernel
theorem dR_cast_12 : decode cX9_cast 12 = .ok (.iconst 0, 1) := by decide +kernel
theorem dR_cast_13 : decode cX9_cast 13 = .ok (.sipush 9999, 3) := by decide +kernel
theorem dR_cast_16 : decode cX9_cast 16 = .ok (.invokestatic 53, 3) := by decide +kernel
theorem dR_cast_19 : decode cX9_cast 19 = .ok (.ifCond .eq 25, 3) := by decide +kernel
theorem dR_cast_22 : decode cX9_cast 22 = .ok (.iload_n 3, 1) := by decide +kernel
theorem dR_cast_23 : decode cX9_cast 23 = .ok (.iconst 0, 1) := by decide +kernel
theorem dR_cast_24 : decode cX9_cast 24 = .ok (.sipush 990, 3) := by decide +kernel
theorem dR_cast_27 : decode cX9_cast 27 = .ok (.invokestatic 53, 3) := by decide +kernel
theorem dR_cast_30 : decode cX9_cast 30 = .ok (.ifCond .eq 14, 3) := by decide +kernel
theorem dR_cast_33 : decode cX9_cast 33 = .ok (.iload_n 3, 1) := by decide +kernel
theorem dR_cast_34 : decode cX9_cast 34 = .ok (.bipush 10, 2) := by decide +kernel
theorem dR_cast_36 : decode cX9_cast 36 = .ok (.irem, 1) := by decide +kernel
theorem dR_cast_37 : decode cX9_cast 37 = .ok (.ifCond .ne 7, 3) := by decide +kernel
theorem dR_cast_40 : decode cX9_cast 40 = .ok (.iconst 1, 1) := by decide +kernel
theorem dR_cast_41 : decode cX9_cast 41 = .ok (.goto 4, 3) := by decide +kernel
theorem dR_cast_44 : decode cX9_cast 44 = .ok (.iconst 0, 1) := by decide +kernel
theorem dR_cast_45 : decode cX9_cast 45 = .ok (.istore 4, 2) := by decide +kernel
theorem dR_cast_47 : decode cX9_cast 47 = .ok (.iload 4, 2) := by decide +kernel
theorem dR_cast_49 : decode cX9_cast 49 = .ok (.ifCond .ne 9, 3) := by decide +kernel
theorem dR_cast_52 : decode cX9_cast 52 = .ok (.aload_n 0, 1) := by decide +kernel
theorem dR_cast_53 : decode cX9_cast 53 = .ok (.iconst 1, 1) := by decide +kernel
theorem dR_cast_54 : decode cX9_cast 54 = .ok (.invokevirtual 62, 3) := by decide +kernel
theorem dR_cast_57 : decode cX9_cast 57 = .ok (.ireturn, 1) := by decide +kernel
theorem dR_cast_58 : decode cX9_cast 58 = .ok (.iload_n 3, 1) := by decide +kernel
theorem dR_cast_59 : decode cX9_cast 59 = .ok (.bipush 100, 2) := by decide +kernel
theorem dR_cast_61 : decode cX9_cast 61 = .ok (.idiv, 1) := by decide +kernel
theorem dR_cast_62 : decode cX9_cast 62 = .ok (.istore 5, 2) := by decide +kernel
theorem dR_cast_64 : decode cX9_cast 64 = .ok (.iload_n 3, 1) := by decide +kernel
theorem dR_cast_65 : decode cX9_cast 65 = .ok (.bipush 10, 2) := by decide +kernel
theorem dR_cast_67 : decode cX9_cast 67 = .ok (.idiv, 1) := by decide +kernel
theorem dR_cast_68 : decode cX9_cast 68 = .ok (.bipush 10, 2) := by decide +kernel
theorem dR_cast_70 : decode cX9_cast 70 = .ok (.irem, 1) := by decide +kernel
theorem dR_cast_71 : decode cX9_cast 71 = .ok (.istore 6, 2) := by decide +kernel
theorem dR_cast_73 : decode cX9_cast 73 = .ok (.aload_n 0, 1) := by decide +kernel
theorem dR_cast_74 : decode cX9_cast 74 = .ok (.bipush 12, 2) := by decide +kernel
theorem dR_cast_76 : decode cX9_cast 76 = .ok (.iconst 2, 1) := by decide +kernel
theorem dR_cast_77 : decode cX9_cast 77 = .ok (.invokevirtual 73, 3) := by decide +kernel
theorem dR_cast_80 : decode cX9_cast 80 = .ok (.istore 7, 2) := by decide +kernel
theorem dR_cast_82 : decode cX9_cast 82 = .ok (.iload 7, 2) := by decide +kernel
theorem dR_cast_84 : decode cX9_cast 84 = .ok (.ifCond .ne 9, 3) := by decide +kernel
theorem dR_cast_87 : decode cX9_cast 87 = .ok (.aload_n 0, 1) := by decide +kernel
theorem dR_cast_88 : decode cX9_cast 88 = .ok (.iconst 3, 1) := by decide +kernel
theorem dR_cast_89 : decode cX9_cast 89 = .ok (.invokevirtual 62, 3) := by decide +kernel
theorem dR_cast_92 : decode cX9_cast 92 = .ok (.ireturn, 1) := by decide +kernel
theorem dR_cast_93 : decode cX9_cast 93 = .ok (.aload_n 0, 1) := by decide +kernel
theorem dR_cast_94 : decode cX9_cast 94 = .ok (.getfield 7, 3) := by decide +kernel
theorem dR_cast_97 : decode cX9_cast 97 = .ok (.iconst 0, 1) := by decide +kernel
theorem dR_cast_98 : decode cX9_cast 98 = .ok (.iaload, 1) := by decide +kernel
theorem dR_cast_99 : decode cX9_cast 99 = .ok (.iload 6, 2) := by decide +kernel
theorem dR_cast_101 : decode cX9_cast 101 = .ok (.ifCond .le 7, 3) := by decide +kernel
theorem dR_cast_104 : decode cX9_cast 104 = .ok (.iconst 2, 1) := by decide +kernel
theorem dR_cast_105 : decode cX9_cast 105 = .ok (.goto 4, 3) := by decide +kernel
theorem dR_cast_108 : decode cX9_cast 108 = .ok (.iconst 1, 1) := by decide +kernel
theorem dR_cast_109 : decode cX9_cast 109 = .ok (.iadd, 1) := by decide +kernel
theorem dR_cast_110 : decode cX9_cast 110 = .ok (.bipush 12, 2) := by decide +kernel
theorem dR_cast_112 : decode cX9_cast 112 = .ok (.if_icmp .le 9, 3) := by decide +kernel
theorem dR_cast_115 : decode cX9_cast 115 = .ok (.aload_n 0, 1) := by decide +kernel
theorem dR_cast_116 : decode cX9_cast 116 = .ok (.iconst 4, 1) := by decide +kernel
theorem dR_cast_117 : decode cX9_cast 117 = .ok (.invokevirtual 62, 3) := by decide +kernel
theorem dR_cast_120 : decode cX9_cast 120 = .ok (.ireturn, 1) := by decide +kernel
theorem dR_cast_121 : decode cX9_cast 121 = .ok (.iload 7, 2) := by decide +kernel
theorem dR_cast_123 : decode cX9_cast 123 = .ok (.iload_n 2, 1) := by decide +kernel
theorem dR_cast_124 : decode cX9_cast 124 = .ok (.iadd, 1) := by decide +kernel
theorem dR_cast_125 : decode cX9_cast 125 = .ok (.iconst 0, 1) := by decide +kernel
theorem dR_cast_126 : decode cX9_cast 126 = .ok (.ldc 61, 2) := by decide +kernel
theorem dR_cast_128 : decode cX9_cast 128 = .ok (.invokestatic 92, 3) := by decide +kernel
theorem dR_cast_131 : decode cX9_cast 131 = .ok (.istore 8, 2) := by decide +kernel
theorem dR_cast_133 : decode cX9_cast 133 = .ok (.aload_n 0, 1) := by decide +kernel
theorem dR_cast_134 : decode cX9_cast 134 = .ok (.bipush 12, 2) := by decide +kernel
theorem dR_cast_136 : decode cX9_cast 136 = .ok (.iconst 2, 1) := by decide +kernel
theorem dR_cast_137 : decode cX9_cast 137 = .ok (.iload 8, 2) := by decide +kernel
theorem dR_cast_139 : decode cX9_cast 139 = .ok (.invokevirtual 57, 3) := by decide +kernel
theorem dR_cast_142 : decode cX9_cast 142 = .ok (.aload_n 0, 1) := by decide +kernel
theorem dR_cast_143 : decode cX9_cast 143 = .ok (.bipush 12, 2) := by decide +kernel
theorem dR_cast_145 : decode cX9_cast 145 = .ok (.iconst 3, 1) := by decide +kernel
theorem dR_cast_146 : decode cX9_cast 146 = .ok (.aload_n 0, 1) := by decide +kernel
theorem dR_cast_147 : decode cX9_cast 147 = .ok (.bipush 12, 2) := by decide +kernel
theorem dR_cast_149 : decode cX9_cast 149 = .ok (.iconst 3, 1) := by decide +kernel
theorem dR_cast_150 : decode cX9_cast 150 = .ok (.invokevirtual 73, 3) := by decide +kernel
theorem dR_cast_153 : decode cX9_cast 153 = .ok (.iload_n 2, 1) := by decide +kernel
theorem dR_cast_154 : decode cX9_cast 154 = .ok (.iadd, 1) := by decide +kernel
theorem dR_cast_155 : decode cX9_cast 155 = .ok (.iconst 0, 1) := by decide +kernel
theorem dR_cast_156 : decode cX9_cast 156 = .ok (.iload 8, 2) := by decide +kernel
theorem dR_cast_158 : decode cX9_cast 158 = .ok (.invokestatic 92, 3) := by decide +kernel
theorem dR_cast_161 : decode cX9_cast 161 = .ok (.invokevirtual 57, 3) := by decide +kernel
theorem dR_cast_164 : decode cX9_cast 164 = .ok (.bipush 6, 2) := by decide +kernel
theorem dR_cast_166 : decode cX9_cast 166 = .ok (.istore 9, 2) := by decide +kernel
theorem dR_cast_168 : decode cX9_cast 168 = .ok (.iload 9, 2) := by decide +kernel
theorem dR_cast_170 : decode cX9_cast 170 = .ok (.bipush 10, 2) := by decide +kernel
theorem dR_cast_172 : decode cX9_cast 172 = .ok (.if_icmp .ge 32, 3) := by decide +kernel
theorem dR_cast_175 : decode cX9_cast 175 = .ok (.aload_n 0, 1) := by decide +kernel
theorem dR_cast_176 : decode cX9_cast 176 = .ok (.bipush 12, 2) := by decide +kernel
theorem dR_cast_178 : decode cX9_cast 178 = .ok (.iload 9, 2) := by decide +kernel
theorem dR_cast_180 : decode cX9_cast 180 = .ok (.aload_n 0, 1) := by decide +kernel
theorem dR_cast_181 : decode cX9_cast 181 = .ok (.bipush 12, 2) := by decide +kernel
theorem dR_cast_183 : decode cX9_cast 183 = .ok (.iload 9, 2) := by decide +kernel
theorem dR_cast_185 : decode cX9_cast 185 = .ok (.invokevirtual 73, 3) := by decide +kernel
theorem dR_cast_188 : decode cX9_cast 188 = .ok (.iload 7, 2) := by decide +kernel
theorem dR_cast_190 : decode cX9_cast 190 = .ok (.iload 8, 2) := by decide +kernel
theorem dR_cast_192 : decode cX9_cast 192 = .ok (.invokestatic 99, 3) := by decide +kernel
theorem dR_cast_195 : decode cX9_cast 195 = .ok (.invokevirtual 57, 3) := by decide +kernel
theorem dR_cast_198 : decode cX9_cast 198 = .ok (.iinc 9 1, 3) := by decide +kernel
theorem dR_cast_201 : decode cX9_cast 201 = .ok (.goto (-33), 3) := by decide +kernel
theorem dR_cast_204 : decode cX9_cast 204 = .ok (.aload_n 0, 1) := by decide +kernel
theorem dR_cast_205 : decode cX9_cast 205 = .ok (.iload_n 1, 1) := by decide +kernel
theorem dR_cast_206 : decode cX9_cast 206 = .ok (.invokevirtual 66, 3) := by decide +kernel
theorem dR_cast_209 : decode cX9_cast 209 = .ok (.istore 9, 2) := by decide +kernel
theorem dR_cast_211 : decode cX9_cast 211 = .ok (.iload 6, 2) := by decide +kernel
theorem dR_cast_213 : decode cX9_cast 213 = .ok (.ifCond .le 13, 3) := by decide +kernel
theorem dR_cast_216 : decode cX9_cast 216 = .ok (.aload_n 0, 1) := by decide +kernel
theorem dR_cast_217 : decode cX9_cast 217 = .ok (.sipush 600, 3) := by decide +kernel
theorem dR_cast_220 : decode cX9_cast 220 = .ok (.invokevirtual 66, 3) := by decide +kernel
theorem dR_cast_223 : decode cX9_cast 223 = .ok (.goto 4, 3) := by decide +kernel
theorem dR_cast_226 : decode cX9_cast 226 = .ok (.iconst (-1), 1) := by decide +kernel
theorem dR_cast_227 : decode cX9_cast 227 = .ok (.istore 10, 2) := by decide +kernel
theorem dR_cast_229 : decode cX9_cast 229 = .ok (.iconst 2, 1) := by decide +kernel
theorem dR_cast_230 : decode cX9_cast 230 = .ok (.istore 11, 2) := by decide +kernel
theorem dR_cast_232 : decode cX9_cast 232 = .ok (.iload 11, 2) := by decide +kernel
theorem dR_cast_234 : decode cX9_cast 234 = .ok (.bipush 10, 2) := by decide +kernel
theorem dR_cast_236 : decode cX9_cast 236 = .ok (.if_icmp .ge 126, 3) := by decide +kernel
theorem dR_cast_239 : decode cX9_cast 239 = .ok (.aload_n 0, 1) := by decide +kernel
theorem dR_cast_240 : decode cX9_cast 240 = .ok (.bipush 12, 2) := by decide +kernel
theorem dR_cast_242 : decode cX9_cast 242 = .ok (.iload 11, 2) := by decide +kernel
theorem dR_cast_244 : decode cX9_cast 244 = .ok (.invokevirtual 73, 3) := by decide +kernel
theorem dR_cast_247 : decode cX9_cast 247 = .ok (.istore 12, 2) := by decide +kernel
theorem dR_cast_249 : decode cX9_cast 249 = .ok (.iload 11, 2) := by decide +kernel
theorem dR_cast_251 : decode cX9_cast 251 = .ok (.bipush 6, 2) := by decide +kernel
theorem dR_cast_253 : decode cX9_cast 253 = .ok (.if_icmp .lt 7, 3) := by decide +kernel
theorem dR_cast_256 : decode cX9_cast 256 = .ok (.iconst 1, 1) := by decide +kernel
theorem dR_cast_257 : decode cX9_cast 257 = .ok (.goto 4, 3) := by decide +kernel
theorem dR_cast_260 : decode cX9_cast 260 = .ok (.iconst 0, 1) := by decide +kernel
theorem dR_cast_261 : decode cX9_cast 261 = .ok (.istore 13, 2) := by decide +kernel
theorem dR_cast_263 : decode cX9_cast 263 = .ok (.iload 13, 2) := by decide +kernel
theorem dR_cast_265 : decode cX9_cast 265 = .ok (.ifCond .eq 8, 3) := by decide +kernel
theorem dR_cast_268 : decode cX9_cast 268 = .ok (.iload 12, 2) := by decide +kernel
theorem dR_cast_270 : decode cX9_cast 270 = .ok (.goto 15, 3) := by decide +kernel
theorem dR_cast_273 : decode cX9_cast 273 = .ok (.iload 12, 2) := by decide +kernel
theorem dR_cast_275 : decode cX9_cast 275 = .ok (.iload 12, 2) := by decide +kernel
theorem dR_cast_277 : decode cX9_cast 277 = .ok (.iload 5, 2) := by decide +kernel
theorem dR_cast_279 : decode cX9_cast 279 = .ok (.bipush 100, 2) := by decide +kernel
theorem dR_cast_281 : decode cX9_cast 281 = .ok (.invokestatic 99, 3) := by decide +kernel
theorem dR_cast_284 : decode cX9_cast 284 = .ok (.isub, 1) := by decide +kernel
theorem dR_cast_285 : decode cX9_cast 285 = .ok (.istore 14, 2) := by decide +kernel
theorem dR_cast_287 : decode cX9_cast 287 = .ok (.iload 13, 2) := by decide +kernel
theorem dR_cast_289 : decode cX9_cast 289 = .ok (.ifCond .eq 8, 3) := by decide +kernel
theorem dR_cast_292 : decode cX9_cast 292 = .ok (.iload 12, 2) := by decide +kernel
theorem dR_cast_294 : decode cX9_cast 294 = .ok (.goto 12, 3) := by decide +kernel
theorem dR_cast_297 : decode cX9_cast 297 = .ok (.iload 14, 2) := by decide +kernel
theorem dR_cast_299 : decode cX9_cast 299 = .ok (.iload 6, 2) := by decide +kernel
theorem dR_cast_301 : decode cX9_cast 301 = .ok (.bipush 10, 2) := by decide +kernel
theorem dR_cast_303 : decode cX9_cast 303 = .ok (.invokestatic 99, 3) := by decide +kernel
theorem dR_cast_306 : decode cX9_cast 306 = .ok (.istore 15, 2) := by decide +kernel
theorem dR_cast_308 : decode cX9_cast 308 = .ok (.aload_n 0, 1) := by decide +kernel
theorem dR_cast_309 : decode cX9_cast 309 = .ok (.iload 9, 2) := by decide +kernel
theorem dR_cast_311 : decode cX9_cast 311 = .ok (.iload 11, 2) := by decide +kernel
theorem dR_cast_313 : decode cX9_cast 313 = .ok (.iload 13, 2) := by decide +kernel
theorem dR_cast_315 : decode cX9_cast 315 = .ok (.ifCond .eq 8, 3) := by decide +kernel
theorem dR_cast_318 : decode cX9_cast 318 = .ok (.iload 12, 2) := by decide +kernel
theorem dR_cast_320 : decode cX9_cast 320 = .ok (.goto 8, 3) := by decide +kernel
theorem dR_cast_323 : decode cX9_cast 323 = .ok (.iload 14, 2) := by decide +kernel
theorem dR_cast_325 : decode cX9_cast 325 = .ok (.iload 15, 2) := by decide +kernel
theorem dR_cast_327 : decode cX9_cast 327 = .ok (.isub, 1) := by decide +kernel
theorem dR_cast_328 : decode cX9_cast 328 = .ok (.invokevirtual 57, 3) := by decide +kernel
theorem dR_cast_331 : decode cX9_cast 331 = .ok (.iload 10, 2) := by decide +kernel
theorem dR_cast_333 : decode cX9_cast 333 = .ok (.iconst (-1), 1) := by decide +kernel
theorem dR_cast_334 : decode cX9_cast 334 = .ok (.if_icmp .eq 13, 3) := by decide +kernel
theorem dR_cast_337 : decode cX9_cast 337 = .ok (.aload_n 0, 1) := by decide +kernel
theorem dR_cast_338 : decode cX9_cast 338 = .ok (.iload 10, 2) := by decide +kernel
theorem dR_cast_340 : decode cX9_cast 340 = .ok (.iload 11, 2) := by decide +kernel
theorem dR_cast_342 : decode cX9_cast 342 = .ok (.iload 15, 2) := by decide +kernel
theorem dR_cast_344 : decode cX9_cast 344 = .ok (.invokevirtual 57, 3) := by decide +kernel
theorem dR_cast_347 : decode cX9_cast 347 = .ok (.aload_n 0, 1) := by decide +kernel
theorem dR_cast_348 : decode cX9_cast 348 = .ok (.bipush 12, 2) := by decide +kernel
theorem dR_cast_350 : decode cX9_cast 350 = .ok (.iload 11, 2) := by decide +kernel
theorem dR_cast_352 : decode cX9_cast 352 = .ok (.iconst 0, 1) := by decide +kernel
theorem dR_cast_353 : decode cX9_cast 353 = .ok (.invokevirtual 57, 3) := by decide +kernel
theorem dR_cast_356 : decode cX9_cast 356 = .ok (.iinc 11 1, 3) := by decide +kernel
theorem dR_cast_359 : decode cX9_cast 359 = .ok (.goto (-127), 3) := by decide +kernel
theorem dR_cast_362 : decode cX9_cast 362 = .ok (.iload 9, 2) := by decide +kernel
theorem dR_cast_364 : decode cX9_cast 364 = .ok (.ireturn, 1) := by decide +kernel
theorem dR_draw_0 : decode cX9_draw 0 = .ok (.aload_n 0, 1) := by decide +kernel
theorem dR_draw_1 : decode cX9_draw 1 = .ok (.getfield 7, 3) := by decide +kernel
theorem dR_draw_4 : decode cX9_draw 4 = .ok (.bipush 8, 2) := by decide +kernel
theorem dR_draw_6 : decode cX9_draw 6 = .ok (.aload_n 0, 1) := by decide +kernel
theorem dR_draw_7 : decode cX9_draw 7 = .ok (.getfield 7, 3) := by decide +kernel
theorem dR_draw_10 : decode cX9_draw 10 = .ok (.bipush 8, 2) := by decide +kernel
theorem dR_draw_12 : decode cX9_draw 12 = .ok (.iaload, 1) := by decide +kernel
theorem dR_draw_13 : decode cX9_draw 13 = .ok (.ldc 102, 2) := by decide +kernel
theorem dR_draw_15 : decode cX9_draw 15 = .ok (.imul, 1) := by decide +kernel
theorem dR_draw_16 : decode cX9_draw 16 = .ok (.sipush 12345, 3) := by decide +kernel
theorem dR_draw_19 : decode cX9_draw 19 = .ok (.iadd, 1) := by decide +kernel
theorem dR_draw_20 : decode cX9_draw 20 = .ok (.iastore, 1) := by decide +kernel
theorem dR_draw_21 : decode cX9_draw 21 = .ok (.aload_n 0, 1) := by decide +kernel
theorem dR_draw_22 : decode cX9_draw 22 = .ok (.getfield 7, 3) := by decide +kernel
theorem dR_draw_25 : decode cX9_draw 25 = .ok (.bipush 8, 2) := by decide +kernel
theorem dR_draw_27 : decode cX9_draw 27 = .ok (.iaload, 1) := by decide +kernel
theorem dR_draw_28 : decode cX9_draw 28 = .ok (.bipush 8, 2) := by decide +kernel
theorem dR_draw_30 : decode cX9_draw 30 = .ok (.iushr, 1) := by decide +kernel
theorem dR_draw_31 : decode cX9_draw 31 = .ok (.ireturn, 1) := by decide +kernel
theorem dR_year_0 : decode cX9_year 0 = .ok (.iconst 0, 1) := by decide +kernel
theorem dR_year_1 : decode cX9_year 1 = .ok (.istore_n 1, 1) := by decide +kernel
theorem dR_year_2 : decode cX9_year 2 = .ok (.iload_n 1, 1) := by decide +kernel
theorem dR_year_3 : decode cX9_year 3 = .ok (.aload_n 0, 1) := by decide +kernel
theorem dR_year_4 : decode cX9_year 4 = .ok (.getfield 7, 3) := by decide +kernel
theorem dR_year_7 : decode cX9_year 7 = .ok (.iconst 0, 1) := by decide +kernel
theorem dR_year_8 : decode cX9_year 8 = .ok (.iaload, 1) := by decide +kernel
theorem dR_year_9 : decode cX9_year 9 = .ok (.if_icmp .ge 60, 3) := by decide +kernel
theorem dR_year_12 : decode cX9_year 12 = .ok (.aload_n 0, 1) := by decide +kernel
theorem dR_year_13 : decode cX9_year 13 = .ok (.invokevirtual 103, 3) := by decide +kernel
theorem dR_year_16 : decode cX9_year 16 = .ok (.bipush 100, 2) := by decide +kernel
theorem dR_year_18 : decode cX9_year 18 = .ok (.irem, 1) := by decide +kernel
theorem dR_year_19 : decode cX9_year 19 = .ok (.aload_n 0, 1) := by decide +kernel
theorem dR_year_20 : decode cX9_year 20 = .ok (.iload_n 1, 1) := by decide +kernel
theorem dR_year_21 : decode cX9_year 21 = .ok (.iconst 1, 1) := by decide +kernel
theorem dR_year_22 : decode cX9_year 22 = .ok (.invokevirtual 73, 3) := by decide +kernel
theorem dR_year_25 : decode cX9_year 25 = .ok (.if_icmp .ge 38, 3) := by decide +kernel
theorem dR_year_28 : decode cX9_year 28 = .ok (.iconst 2, 1) := by decide +kernel
theorem dR_year_29 : decode cX9_year 29 = .ok (.istore_n 2, 1) := by decide +kernel
theorem dR_year_30 : decode cX9_year 30 = .ok (.iload_n 2, 1) := by decide +kernel
theorem dR_year_31 : decode cX9_year 31 = .ok (.iconst 5, 1) := by decide +kernel
theorem dR_year_32 : decode cX9_year 32 = .ok (.if_icmp .gt 31, 3) := by decide +kernel
theorem dR_year_35 : decode cX9_year 35 = .ok (.aload_n 0, 1) := by decide +kernel
theorem dR_year_36 : decode cX9_year 36 = .ok (.iload_n 1, 1) := by decide +kernel
theorem dR_year_37 : decode cX9_year 37 = .ok (.iload_n 2, 1) := by decide +kernel
theorem dR_year_38 : decode cX9_year 38 = .ok (.aload_n 0, 1) := by decide +kernel
theorem dR_year_39 : decode cX9_year 39 = .ok (.iload_n 1, 1) := by decide +kernel
theorem dR_year_40 : decode cX9_year 40 = .ok (.iload_n 2, 1) := by decide +kernel
theorem dR_year_41 : decode cX9_year 41 = .ok (.invokevirtual 73, 3) := by decide +kernel
theorem dR_year_44 : decode cX9_year 44 = .ok (.aload_n 0, 1) := by decide +kernel
theorem dR_year_45 : decode cX9_year 45 = .ok (.iload_n 1, 1) := by decide +kernel
theorem dR_year_46 : decode cX9_year 46 = .ok (.iload_n 2, 1) := by decide +kernel
theorem dR_year_47 : decode cX9_year 47 = .ok (.invokevirtual 73, 3) := by decide +kernel
theorem dR_year_50 : decode cX9_year 50 = .ok (.bipush 100, 2) := by decide +kernel
theorem dR_year_52 : decode cX9_year 52 = .ok (.idiv, 1) := by decide +kernel
theorem dR_year_53 : decode cX9_year 53 = .ok (.isub, 1) := by decide +kernel
theorem dR_year_54 : decode cX9_year 54 = .ok (.invokevirtual 57, 3) := by decide +kernel
theorem dR_year_57 : decode cX9_year 57 = .ok (.iinc 2 1, 3) := by decide +kernel
theorem dR_year_60 : decode cX9_year 60 = .ok (.goto (-30), 3) := by decide +kernel
theorem dR_year_63 : decode cX9_year 63 = .ok (.iinc 1 1, 3) := by decide +kernel
theorem dR_year_66 : decode cX9_year 66 = .ok (.goto (-64), 3) := by decide +kernel
theorem dR_year_69 : decode cX9_year 69 = .ok (.aload_n 0, 1) := by decide +kernel
theorem dR_year_70 : decode cX9_year 70 = .ok (.getfield 7, 3) := by decide +kernel
theorem dR_year_73 : decode cX9_year 73 = .ok (.iconst 5, 1) := by decide +kernel
theorem dR_year_74 : decode cX9_year 74 = .ok (.dup2, 1) := by decide +kernel
theorem dR_year_75 : decode cX9_year 75 = .ok (.iaload, 1) := by decide +kernel
theorem dR_year_76 : decode cX9_year 76 = .ok (.iconst 1, 1) := by decide +kernel
theorem dR_year_77 : decode cX9_year 77 = .ok (.iadd, 1) := by decide +kernel
theorem dR_year_78 : decode cX9_year 78 = .ok (.iastore, 1) := by decide +kernel
theorem dR_year_79 : decode cX9_year 79 = .ok (.return_, 1) := by decide +kernel
theorem dR_go_0 : decode cX9_go 0 = .ok (.iconst 0, 1) := by decide +kernel
theorem dR_go_1 : decode cX9_go 1 = .ok (.istore_n 2, 1) := by decide +kernel
theorem dR_go_2 : decode cX9_go 2 = .ok (.iload_n 2, 1) := by decide +kernel
theorem dR_go_3 : decode cX9_go 3 = .ok (.iload_n 1, 1) := by decide +kernel
theorem dR_go_4 : decode cX9_go 4 = .ok (.if_icmp .ge 13, 3) := by decide +kernel
theorem dR_go_7 : decode cX9_go 7 = .ok (.aload_n 0, 1) := by decide +kernel
theorem dR_go_8 : decode cX9_go 8 = .ok (.invokevirtual 107, 3) := by decide +kernel
theorem dR_go_11 : decode cX9_go 11 = .ok (.iinc 2 1, 3) := by decide +kernel
theorem dR_go_14 : decode cX9_go 14 = .ok (.goto (-12), 3) := by decide +kernel
theorem dR_go_17 : decode cX9_go 17 = .ok (.return_, 1) := by decide +kernel
theorem dR_allGrams_0 : decode cX9_allGrams 0 = .ok (.iconst 0, 1) := by decide +kernel
theorem dR_allGrams_1 : decode cX9_allGrams 1 = .ok (.istore_n 1, 1) := by decide +kernel
theorem dR_allGrams_2 : decode cX9_allGrams 2 = .ok (.iconst 0, 1) := by decide +kernel
theorem dR_allGrams_3 : decode cX9_allGrams 3 = .ok (.istore_n 2, 1) := by decide +kernel
theorem dR_allGrams_4 : decode cX9_allGrams 4 = .ok (.iload_n 2, 1) := by decide +kernel
theorem dR_allGrams_5 : decode cX9_allGrams 5 = .ok (.aload_n 0, 1) := by decide +kernel
theorem dR_allGrams_6 : decode cX9_allGrams 6 = .ok (.getfield 7, 3) := by decide +kernel
theorem dR_allGrams_9 : decode cX9_allGrams 9 = .ok (.iconst 0, 1) := by decide +kernel
theorem dR_allGrams_10 : decode cX9_allGrams 10 = .ok (.iaload, 1) := by decide +kernel
theorem dR_allGrams_11 : decode cX9_allGrams 11 = .ok (.if_icmp .ge 18, 3) := by decide +kernel
theorem dR_allGrams_14 : decode cX9_allGrams 14 = .ok (.iload_n 1, 1) := by decide +kernel
theorem dR_allGrams_15 : decode cX9_allGrams 15 = .ok (.aload_n 0, 1) := by decide +kernel
theorem dR_allGrams_16 : decode cX9_allGrams 16 = .ok (.iload_n 2, 1) := by decide +kernel
theorem dR_allGrams_17 : decode cX9_allGrams 17 = .ok (.iconst 2, 1) := by decide +kernel
theorem dR_allGrams_18 : decode cX9_allGrams 18 = .ok (.invokevirtual 73, 3) := by decide +kernel
theorem dR_allGrams_21 : decode cX9_allGrams 21 = .ok (.iadd, 1) := by decide +kernel
theorem dR_allGrams_22 : decode cX9_allGrams 22 = .ok (.istore_n 1, 1) := by decide +kernel
theorem dR_allGrams_23 : decode cX9_allGrams 23 = .ok (.iinc 2 1, 3) := by decide +kernel
theorem dR_allGrams_26 : decode cX9_allGrams 26 = .ok (.goto (-22), 3) := by decide +kernel
theorem dR_allGrams_29 : decode cX9_allGrams 29 = .ok (.iload_n 1, 1) := by decide +kernel
theorem dR_allGrams_30 : decode cX9_allGrams 30 = .ok (.ireturn, 1) := by decide +kernel
theorem dR_years_0 : decode cX9_years 0 = .ok (.iload_n 1, 1) := by decide +kernel
theorem dR_years_1 : decode cX9_years 1 = .ok (.iconst 1, 1) := by decide +kernel
theorem dR_years_2 : decode cX9_years 2 = .ok (.bipush 60, 2) := by decide +kernel
theorem dR_years_4 : decode cX9_years 4 = .ok (.invokestatic 53, 3) := by decide +kernel
theorem dR_years_7 : decode cX9_years 7 = .ok (.ifCond .ne 9, 3) := by decide +kernel
theorem dR_years_10 : decode cX9_years 10 = .ok (.aload_n 0, 1) := by decide +kernel
theorem dR_years_11 : decode cX9_years 11 = .ok (.iconst 1, 1) := by decide +kernel
theorem dR_years_12 : decode cX9_years 12 = .ok (.invokevirtual 62, 3) := by decide +kernel
theorem dR_years_15 : decode cX9_years 15 = .ok (.ireturn, 1) := by decide +kernel
theorem dR_years_16 : decode cX9_years 16 = .ok (.aload_n 0, 1) := by decide +kernel
theorem dR_years_17 : decode cX9_years 17 = .ok (.getfield 7, 3) := by decide +kernel
theorem dR_years_20 : decode cX9_years 20 = .ok (.iconst 5, 1) := by decide +kernel
theorem dR_years_21 : decode cX9_years 21 = .ok (.iaload, 1) := by decide +kernel
theorem dR_years_22 : decode cX9_years 22 = .ok (.iload_n 1, 1) := by decide +kernel
theorem dR_years_23 : decode cX9_years 23 = .ok (.iadd, 1) := by decide +kernel
theorem dR_years_24 : decode cX9_years 24 = .ok (.sipush 9999, 3) := by decide +kernel
theorem dR_years_27 : decode cX9_years 27 = .ok (.if_icmp .le 9, 3) := by decide +kernel
theorem dR_years_30 : decode cX9_years 30 = .ok (.aload_n 0, 1) := by decide +kernel
theorem dR_years_31 : decode cX9_years 31 = .ok (.iconst 3, 1) := by decide +kernel
theorem dR_years_32 : decode cX9_years 32 = .ok (.invokevirtual 62, 3) := by decide +kernel
theorem dR_years_35 : decode cX9_years 35 = .ok (.ireturn, 1) := by decide +kernel
theorem dR_years_36 : decode cX9_years 36 = .ok (.aload_n 0, 1) := by decide +kernel
theorem dR_years_37 : decode cX9_years 37 = .ok (.iload_n 1, 1) := by decide +kernel
theorem dR_years_38 : decode cX9_years 38 = .ok (.invokevirtual 110, 3) := by decide +kernel
theorem dR_years_41 : decode cX9_years 41 = .ok (.aload_n 0, 1) := by decide +kernel
theorem dR_years_42 : decode cX9_years 42 = .ok (.invokevirtual 114, 3) := by decide +kernel
theorem dR_years_45 : decode cX9_years 45 = .ok (.ireturn, 1) := by decide +kernel
theorem dR_then_0 : decode cX9_then 0 = .ok (.iload_n 1, 1) := by decide +kernel
theorem dR_then_1 : decode cX9_then 1 = .ok (.iconst 0, 1) := by decide +kernel
theorem dR_then_2 : decode cX9_then 2 = .ok (.bipush 60, 2) := by decide +kernel
theorem dR_then_4 : decode cX9_then 4 = .ok (.invokestatic 53, 3) := by decide +kernel
theorem dR_then_7 : decode cX9_then 7 = .ok (.ifCond .eq 21, 3) := by decide +kernel
theorem dR_then_10 : decode cX9_then 10 = .ok (.aload_n 0, 1) := by decide +kernel
theorem dR_then_11 : decode cX9_then 11 = .ok (.iload_n 2, 1) := by decide +kernel
theorem dR_then_12 : decode cX9_then 12 = .ok (.invokevirtual 77, 3) := by decide +kernel
theorem dR_then_15 : decode cX9_then 15 = .ok (.ifCond .eq 13, 3) := by decide +kernel
theorem dR_then_18 : decode cX9_then 18 = .ok (.iload_n 3, 1) := by decide +kernel
theorem dR_then_19 : decode cX9_then 19 = .ok (.iconst 0, 1) := by decide +kernel
theorem dR_then_20 : decode cX9_then 20 = .ok (.bipush 10, 2) := by decide +kernel
theorem dR_then_22 : decode cX9_then 22 = .ok (.invokestatic 53, 3) := by decide +kernel
theorem dR_then_25 : decode cX9_then 25 = .ok (.ifCond .ne 9, 3) := by decide +kernel
theorem dR_then_28 : decode cX9_then 28 = .ok (.aload_n 0, 1) := by decide +kernel
theorem dR_then_29 : decode cX9_then 29 = .ok (.iconst 1, 1) := by decide +kernel
theorem dR_then_30 : decode cX9_then 30 = .ok (.invokevirtual 62, 3) := by decide +kernel
theorem dR_then_33 : decode cX9_then 33 = .ok (.ireturn, 1) := by decide +kernel
theorem dR_then_34 : decode cX9_then 34 = .ok (.aload_n 0, 1) := by decide +kernel
theorem dR_then_35 : decode cX9_then 35 = .ok (.getfield 7, 3) := by decide +kernel
theorem dR_then_38 : decode cX9_then 38 = .ok (.aload_n 0, 1) := by decide +kernel
theorem dR_then_39 : decode cX9_then 39 = .ok (.getfield 16, 3) := by decide +kernel
theorem dR_then_42 : decode cX9_then 42 = .ok (.invokestatic 117, 3) := by decide +kernel
theorem dR_then_45 : decode cX9_then 45 = .ok (.aload_n 0, 1) := by decide +kernel
theorem dR_then_46 : decode cX9_then 46 = .ok (.iload_n 1, 1) := by decide +kernel
theorem dR_then_47 : decode cX9_then 47 = .ok (.invokevirtual 110, 3) := by decide +kernel
theorem dR_then_50 : decode cX9_then 50 = .ok (.aload_n 0, 1) := by decide +kernel
theorem dR_then_51 : decode cX9_then 51 = .ok (.iload_n 2, 1) := by decide +kernel
theorem dR_then_52 : decode cX9_then 52 = .ok (.iload_n 3, 1) := by decide +kernel
theorem dR_then_53 : decode cX9_then 53 = .ok (.invokevirtual 81, 3) := by decide +kernel
theorem dR_then_56 : decode cX9_then 56 = .ok (.istore 4, 2) := by decide +kernel
theorem dR_then_58 : decode cX9_then 58 = .ok (.aload_n 0, 1) := by decide +kernel
theorem dR_then_59 : decode cX9_then 59 = .ok (.getfield 16, 3) := by decide +kernel
theorem dR_then_62 : decode cX9_then 62 = .ok (.aload_n 0, 1) := by decide +kernel
theorem dR_then_63 : decode cX9_then 63 = .ok (.getfield 7, 3) := by decide +kernel
theorem dR_then_66 : decode cX9_then 66 = .ok (.invokestatic 117, 3) := by decide +kernel
theorem dR_then_69 : decode cX9_then 69 = .ok (.iload 4, 2) := by decide +kernel
theorem dR_then_71 : decode cX9_then 71 = .ok (.ireturn, 1) := by decide +kernel
theorem dR_seed_0 : decode cX9_seed 0 = .ok (.aload_n 0, 1) := by decide +kernel
theorem dR_seed_1 : decode cX9_seed 1 = .ok (.getfield 7, 3) := by decide +kernel
theorem dR_seed_4 : decode cX9_seed 4 = .ok (.bipush 8, 2) := by decide +kernel
theorem dR_seed_6 : decode cX9_seed 6 = .ok (.iaload, 1) := by decide +kernel
theorem dR_seed_7 : decode cX9_seed 7 = .ok (.istore_n 2, 1) := by decide +kernel
theorem dR_seed_8 : decode cX9_seed 8 = .ok (.aload_n 0, 1) := by decide +kernel
theorem dR_seed_9 : decode cX9_seed 9 = .ok (.getfield 7, 3) := by decide +kernel
theorem dR_seed_12 : decode cX9_seed 12 = .ok (.bipush 8, 2) := by decide +kernel
theorem dR_seed_14 : decode cX9_seed 14 = .ok (.iload_n 1, 1) := by decide +kernel
theorem dR_seed_15 : decode cX9_seed 15 = .ok (.iastore, 1) := by decide +kernel
theorem dR_seed_16 : decode cX9_seed 16 = .ok (.iload_n 2, 1) := by decide +kernel
theorem dR_seed_17 : decode cX9_seed 17 = .ok (.ireturn, 1) := by decide +kernel
theorem dR_feed_0 : decode cX9_feed 0 = .ok (.iload_n 3, 1) := by decide +kernel
theorem dR_feed_1 : decode cX9_feed 1 = .ok (.iconst 1, 1) := by decide +kernel
theorem dR_feed_2 : decode cX9_feed 2 = .ok (.bipush 8, 2) := by decide +kernel
theorem dR_feed_4 : decode cX9_feed 4 = .ok (.invokestatic 53, 3) := by decide +kernel
theorem dR_feed_7 : decode cX9_feed 7 = .ok (.ifCond .ne 9, 3) := by decide +kernel
theorem dR_feed_10 : decode cX9_feed 10 = .ok (.aload_n 0, 1) := by decide +kernel
theorem dR_feed_11 : decode cX9_feed 11 = .ok (.iconst 1, 1) := by decide +kernel
theorem dR_feed_12 : decode cX9_feed 12 = .ok (.invokevirtual 62, 3) := by decide +kernel
theorem dR_feed_15 : decode cX9_feed 15 = .ok (.ireturn, 1) := by decide +kernel
theorem dR_feed_16 : decode cX9_feed 16 = .ok (.aload_n 0, 1) := by decide +kernel
theorem dR_feed_17 : decode cX9_feed 17 = .ok (.getfield 7, 3) := by decide +kernel
theorem dR_feed_20 : decode cX9_feed 20 = .ok (.bipush 6, 2) := by decide +kernel
theorem dR_feed_22 : decode cX9_feed 22 = .ok (.iaload, 1) := by decide +kernel
theorem dR_feed_23 : decode cX9_feed 23 = .ok (.iload_n 3, 1) := by decide +kernel
theorem dR_feed_24 : decode cX9_feed 24 = .ok (.iadd, 1) := by decide +kernel
theorem dR_feed_25 : decode cX9_feed 25 = .ok (.bipush 60, 2) := by decide +kernel
theorem dR_feed_27 : decode cX9_feed 27 = .ok (.if_icmp .le 9, 3) := by decide +kernel
theorem dR_feed_30 : decode cX9_feed 30 = .ok (.aload_n 0, 1) := by decide +kernel
theorem dR_feed_31 : decode cX9_feed 31 = .ok (.iconst 4, 1) := by decide +kernel
theorem dR_feed_32 : decode cX9_feed 32 = .ok (.invokevirtual 62, 3) := by decide +kernel
theorem dR_feed_35 : decode cX9_feed 35 = .ok (.ireturn, 1) := by decide +kernel
theorem dR_feed_36 : decode cX9_feed 36 = .ok (.iconst 0, 1) := by decide +kernel
theorem dR_feed_37 : decode cX9_feed 37 = .ok (.istore 4, 2) := by decide +kernel
theorem dR_feed_39 : decode cX9_feed 39 = .ok (.iload 4, 2) := by decide +kernel
theorem dR_feed_41 : decode cX9_feed 41 = .ok (.iload_n 3, 1) := by decide +kernel
theorem dR_feed_42 : decode cX9_feed 42 = .ok (.if_icmp .ge 48, 3) := by decide +kernel
theorem dR_feed_45 : decode cX9_feed 45 = .ok (.aload_n 0, 1) := by decide +kernel
theorem dR_feed_46 : decode cX9_feed 46 = .ok (.getfield 7, 3) := by decide +kernel
theorem dR_feed_49 : decode cX9_feed 49 = .ok (.sipush 452, 3) := by decide +kernel
theorem dR_feed_52 : decode cX9_feed 52 = .ok (.aload_n 0, 1) := by decide +kernel
theorem dR_feed_53 : decode cX9_feed 53 = .ok (.getfield 7, 3) := by decide +kernel
theorem dR_feed_56 : decode cX9_feed 56 = .ok (.bipush 6, 2) := by decide +kernel
theorem dR_feed_58 : decode cX9_feed 58 = .ok (.iaload, 1) := by decide +kernel
theorem dR_feed_59 : decode cX9_feed 59 = .ok (.iadd, 1) := by decide +kernel
theorem dR_feed_60 : decode cX9_feed 60 = .ok (.lload_n 1, 1) := by decide +kernel
theorem dR_feed_61 : decode cX9_feed 61 = .ok (.bipush 8, 2) := by decide +kernel
theorem dR_feed_63 : decode cX9_feed 63 = .ok (.iload 4, 2) := by decide +kernel
theorem dR_feed_65 : decode cX9_feed 65 = .ok (.imul, 1) := by decide +kernel
theorem dR_feed_66 : decode cX9_feed 66 = .ok (.lshr, 1) := by decide +kernel
theorem dR_feed_67 : decode cX9_feed 67 = .ok (.ldc2_w 121, 3) := by decide +kernel
theorem dR_feed_70 : decode cX9_feed 70 = .ok (.land, 1) := by decide +kernel
theorem dR_feed_71 : decode cX9_feed 71 = .ok (.l2i, 1) := by decide +kernel
theorem dR_feed_72 : decode cX9_feed 72 = .ok (.iastore, 1) := by decide +kernel
theorem dR_feed_73 : decode cX9_feed 73 = .ok (.aload_n 0, 1) := by decide +kernel
theorem dR_feed_74 : decode cX9_feed 74 = .ok (.getfield 7, 3) := by decide +kernel
theorem dR_feed_77 : decode cX9_feed 77 = .ok (.bipush 6, 2) := by decide +kernel
theorem dR_feed_79 : decode cX9_feed 79 = .ok (.dup2, 1) := by decide +kernel
theorem dR_feed_80 : decode cX9_feed 80 = .ok (.iaload, 1) := by decide +kernel
theorem dR_feed_81 : decode cX9_feed 81 = .ok (.iconst 1, 1) := by decide +kernel
theorem dR_feed_82 : decode cX9_feed 82 = .ok (.iadd, 1) := by decide +kernel
theorem dR_feed_83 : decode cX9_feed 83 = .ok (.iastore, 1) := by decide +kernel
theorem dR_feed_84 : decode cX9_feed 84 = .ok (.iinc 4 1, 3) := by decide +kernel
theorem dR_feed_87 : decode cX9_feed 87 = .ok (.goto (-48), 3) := by decide +kernel
theorem dR_feed_90 : decode cX9_feed 90 = .ok (.aload_n 0, 1) := by decide +kernel
theorem dR_feed_91 : decode cX9_feed 91 = .ok (.getfield 7, 3) := by decide +kernel
theorem dR_feed_94 : decode cX9_feed 94 = .ok (.bipush 6, 2) := by decide +kernel
theorem dR_feed_96 : decode cX9_feed 96 = .ok (.iaload, 1) := by decide +kernel
theorem dR_feed_97 : decode cX9_feed 97 = .ok (.ireturn, 1) := by decide +kernel
theorem dR_look_0 : decode cX9_look 0 = .ok (.aload_n 0, 1) := by decide +kernel
theorem dR_look_1 : decode cX9_look 1 = .ok (.getfield 123, 3) := by decide +kernel
theorem dR_look_4 : decode cX9_look 4 = .ok (.aload_n 0, 1) := by decide +kernel
theorem dR_look_5 : decode cX9_look 5 = .ok (.getfield 7, 3) := by decide +kernel
theorem dR_look_8 : decode cX9_look 8 = .ok (.bipush 6, 2) := by decide +kernel
theorem dR_look_10 : decode cX9_look 10 = .ok (.iaload, 1) := by decide +kernel
theorem dR_look_11 : decode cX9_look 11 = .ok (.if_icmp .ge 19, 3) := by decide +kernel
theorem dR_look_14 : decode cX9_look 14 = .ok (.aload_n 0, 1) := by decide +kernel
theorem dR_look_15 : decode cX9_look 15 = .ok (.getfield 7, 3) := by decide +kernel
theorem dR_look_18 : decode cX9_look 18 = .ok (.sipush 452, 3) := by decide +kernel
theorem dR_look_21 : decode cX9_look 21 = .ok (.aload_n 0, 1) := by decide +kernel
theorem dR_look_22 : decode cX9_look 22 = .ok (.getfield 123, 3) := by decide +kernel
theorem dR_look_25 : decode cX9_look 25 = .ok (.iadd, 1) := by decide +kernel
