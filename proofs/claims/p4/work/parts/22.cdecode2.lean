-- decode rows of the class
theorem dX1_shareOf_69 : decode cX1_shareOf 69 = .ok (.iload 6, 2) := by decide +kernel
theorem dX1_shareOf_71 : decode cX1_shareOf 71 = .ok (.iload 4, 2) := by decide +kernel
theorem dX1_shareOf_73 : decode cX1_shareOf 73 = .ok (.if_icmp .gt 8, 3) := by decide +kernel
theorem dX1_shareOf_76 : decode cX1_shareOf 76 = .ok (.iload 5, 2) := by decide +kernel
theorem dX1_shareOf_78 : decode cX1_shareOf 78 = .ok (.goto 16, 3) := by decide +kernel
theorem dX1_shareOf_81 : decode cX1_shareOf 81 = .ok (.iload 4, 2) := by decide +kernel
theorem dX1_shareOf_83 : decode cX1_shareOf 83 = .ok (.i2l, 1) := by decide +kernel
theorem dX1_shareOf_84 : decode cX1_shareOf 84 = .ok (.iload 5, 2) := by decide +kernel
theorem dX1_shareOf_86 : decode cX1_shareOf 86 = .ok (.i2l, 1) := by decide +kernel
theorem dX1_shareOf_87 : decode cX1_shareOf 87 = .ok (.lmul, 1) := by decide +kernel
theorem dX1_shareOf_88 : decode cX1_shareOf 88 = .ok (.iload 6, 2) := by decide +kernel
theorem dX1_shareOf_90 : decode cX1_shareOf 90 = .ok (.i2l, 1) := by decide +kernel
theorem dX1_shareOf_91 : decode cX1_shareOf 91 = .ok (.invokestatic 69, 3) := by decide +kernel
theorem dX1_shareOf_94 : decode cX1_shareOf 94 = .ok (.ireturn, 1) := by decide +kernel
theorem dX1_shareOf_95 : decode cX1_shareOf 95 = .ok (.iload 4, 2) := by decide +kernel
theorem dX1_shareOf_97 : decode cX1_shareOf 97 = .ok (.aload_n 0, 1) := by decide +kernel
theorem dX1_shareOf_98 : decode cX1_shareOf 98 = .ok (.iload_n 3, 1) := by decide +kernel
theorem dX1_shareOf_99 : decode cX1_shareOf 99 = .ok (.iload_n 1, 1) := by decide +kernel
theorem dX1_shareOf_100 : decode cX1_shareOf 100 = .ok (.invokevirtual 106, 3) := by decide +kernel
theorem dX1_shareOf_103 : decode cX1_shareOf 103 = .ok (.isub, 1) := by decide +kernel
theorem dX1_shareOf_104 : decode cX1_shareOf 104 = .ok (.iload 5, 2) := by decide +kernel
theorem dX1_shareOf_106 : decode cX1_shareOf 106 = .ok (.invokestatic 85, 3) := by decide +kernel
theorem dX1_shareOf_109 : decode cX1_shareOf 109 = .ok (.ireturn, 1) := by decide +kernel
theorem dX1_leftOf_0 : decode cX1_leftOf 0 = .ok (.aload_n 0, 1) := by decide +kernel
theorem dX1_leftOf_1 : decode cX1_leftOf 1 = .ok (.getfield 12, 3) := by decide +kernel
theorem dX1_leftOf_4 : decode cX1_leftOf 4 = .ok (.iload_n 1, 1) := by decide +kernel
theorem dX1_leftOf_5 : decode cX1_leftOf 5 = .ok (.iconst 2, 1) := by decide +kernel
theorem dX1_leftOf_6 : decode cX1_leftOf 6 = .ok (.invokevirtual 63, 3) := by decide +kernel
theorem dX1_leftOf_9 : decode cX1_leftOf 9 = .ok (.istore_n 3, 1) := by decide +kernel
theorem dX1_leftOf_10 : decode cX1_leftOf 10 = .ok (.iconst 0, 1) := by decide +kernel
theorem dX1_leftOf_11 : decode cX1_leftOf 11 = .ok (.istore 4, 2) := by decide +kernel
theorem dX1_leftOf_13 : decode cX1_leftOf 13 = .ok (.iload 4, 2) := by decide +kernel
theorem dX1_leftOf_15 : decode cX1_leftOf 15 = .ok (.aload_n 0, 1) := by decide +kernel
theorem dX1_leftOf_16 : decode cX1_leftOf 16 = .ok (.getfield 27, 3) := by decide +kernel
theorem dX1_leftOf_19 : decode cX1_leftOf 19 = .ok (.invokevirtual 77, 3) := by decide +kernel
theorem dX1_leftOf_22 : decode cX1_leftOf 22 = .ok (.if_icmp .ge 33, 3) := by decide +kernel
theorem dX1_leftOf_25 : decode cX1_leftOf 25 = .ok (.aload_n 0, 1) := by decide +kernel
theorem dX1_leftOf_26 : decode cX1_leftOf 26 = .ok (.getfield 27, 3) := by decide +kernel
theorem dX1_leftOf_29 : decode cX1_leftOf 29 = .ok (.iload 4, 2) := by decide +kernel
theorem dX1_leftOf_31 : decode cX1_leftOf 31 = .ok (.iconst 0, 1) := by decide +kernel
theorem dX1_leftOf_32 : decode cX1_leftOf 32 = .ok (.invokevirtual 96, 3) := by decide +kernel
theorem dX1_leftOf_35 : decode cX1_leftOf 35 = .ok (.iload_n 1, 1) := by decide +kernel
theorem dX1_leftOf_36 : decode cX1_leftOf 36 = .ok (.if_icmp .ne 13, 3) := by decide +kernel
theorem dX1_leftOf_39 : decode cX1_leftOf 39 = .ok (.iload_n 3, 1) := by decide +kernel
theorem dX1_leftOf_40 : decode cX1_leftOf 40 = .ok (.aload_n 0, 1) := by decide +kernel
theorem dX1_leftOf_41 : decode cX1_leftOf 41 = .ok (.iload 4, 2) := by decide +kernel
theorem dX1_leftOf_43 : decode cX1_leftOf 43 = .ok (.iload_n 2, 1) := by decide +kernel
theorem dX1_leftOf_44 : decode cX1_leftOf 44 = .ok (.invokevirtual 109, 3) := by decide +kernel
theorem dX1_leftOf_47 : decode cX1_leftOf 47 = .ok (.isub, 1) := by decide +kernel
theorem dX1_leftOf_48 : decode cX1_leftOf 48 = .ok (.istore_n 3, 1) := by decide +kernel
theorem dX1_leftOf_49 : decode cX1_leftOf 49 = .ok (.iinc 4 1, 3) := by decide +kernel
theorem dX1_leftOf_52 : decode cX1_leftOf 52 = .ok (.goto (-39), 3) := by decide +kernel
theorem dX1_leftOf_55 : decode cX1_leftOf 55 = .ok (.iload_n 3, 1) := by decide +kernel
theorem dX1_leftOf_56 : decode cX1_leftOf 56 = .ok (.ireturn, 1) := by decide +kernel
theorem dX2_init_0 : decode cX2_init 0 = .ok (.aload_n 0, 1) := by decide +kernel
theorem dX2_init_1 : decode cX2_init 1 = .ok (.invokespecial 3, 3) := by decide +kernel
theorem dX2_init_4 : decode cX2_init 4 = .ok (.aload_n 0, 1) := by decide +kernel
theorem dX2_init_5 : decode cX2_init 5 = .ok (.new 9, 3) := by decide +kernel
theorem dX2_init_8 : decode cX2_init 8 = .ok (.dup, 1) := by decide +kernel
theorem dX2_init_9 : decode cX2_init 9 = .ok (.invokespecial 11, 3) := by decide +kernel
theorem dX2_init_12 : decode cX2_init 12 = .ok (.putfield 12, 3) := by decide +kernel
theorem dX2_init_15 : decode cX2_init 15 = .ok (.aload_n 0, 1) := by decide +kernel
theorem dX2_init_16 : decode cX2_init 16 = .ok (.new 18, 3) := by decide +kernel
theorem dX2_init_19 : decode cX2_init 19 = .ok (.dup, 1) := by decide +kernel
theorem dX2_init_20 : decode cX2_init 20 = .ok (.bipush 64, 2) := by decide +kernel
theorem dX2_init_22 : decode cX2_init 22 = .ok (.iconst 1, 1) := by decide +kernel
theorem dX2_init_23 : decode cX2_init 23 = .ok (.invokespecial 20, 3) := by decide +kernel
theorem dX2_init_26 : decode cX2_init 26 = .ok (.putfield 23, 3) := by decide +kernel
theorem dX2_init_29 : decode cX2_init 29 = .ok (.aload_n 0, 1) := by decide +kernel
theorem dX2_init_30 : decode cX2_init 30 = .ok (.sipush 768, 3) := by decide +kernel
theorem dX2_init_33 : decode cX2_init 33 = .ok (.newarray .int, 2) := by decide +kernel
theorem dX2_init_35 : decode cX2_init 35 = .ok (.putfield 27, 3) := by decide +kernel
theorem dX2_init_38 : decode cX2_init 38 = .ok (.return_, 1) := by decide +kernel
theorem dX2_follow_0 : decode cX2_follow 0 = .ok (.aload_n 0, 1) := by decide +kernel
theorem dX2_follow_1 : decode cX2_follow 1 = .ok (.getfield 12, 3) := by decide +kernel
theorem dX2_follow_4 : decode cX2_follow 4 = .ok (.aload_n 1, 1) := by decide +kernel
theorem dX2_follow_5 : decode cX2_follow 5 = .ok (.getfield 31, 3) := by decide +kernel
theorem dX2_follow_8 : decode cX2_follow 8 = .ok (.invokevirtual 36, 3) := by decide +kernel
theorem dX2_follow_11 : decode cX2_follow 11 = .ok (.aload_n 1, 1) := by decide +kernel
theorem dX2_follow_12 : decode cX2_follow 12 = .ok (.getfield 40, 3) := by decide +kernel
theorem dX2_follow_15 : decode cX2_follow 15 = .ok (.astore_n 3, 1) := by decide +kernel
theorem dX2_follow_16 : decode cX2_follow 16 = .ok (.iconst 0, 1) := by decide +kernel
theorem dX2_follow_17 : decode cX2_follow 17 = .ok (.istore 4, 2) := by decide +kernel
theorem dX2_follow_19 : decode cX2_follow 19 = .ok (.iload 4, 2) := by decide +kernel
theorem dX2_follow_21 : decode cX2_follow 21 = .ok (.aload_n 3, 1) := by decide +kernel
theorem dX2_follow_22 : decode cX2_follow 22 = .ok (.invokevirtual 43, 3) := by decide +kernel
theorem dX2_follow_25 : decode cX2_follow 25 = .ok (.if_icmp .ge 47, 3) := by decide +kernel
theorem dX2_follow_28 : decode cX2_follow 28 = .ok (.iload_n 2, 1) := by decide +kernel
theorem dX2_follow_29 : decode cX2_follow 29 = .ok (.iload 4, 2) := by decide +kernel
theorem dX2_follow_31 : decode cX2_follow 31 = .ok (.ishr, 1) := by decide +kernel
theorem dX2_follow_32 : decode cX2_follow 32 = .ok (.iconst 1, 1) := by decide +kernel
theorem dX2_follow_33 : decode cX2_follow 33 = .ok (.iand, 1) := by decide +kernel
theorem dX2_follow_34 : decode cX2_follow 34 = .ok (.iconst 1, 1) := by decide +kernel
theorem dX2_follow_35 : decode cX2_follow 35 = .ok (.if_icmp .ne 31, 3) := by decide +kernel
theorem dX2_follow_38 : decode cX2_follow 38 = .ok (.aload_n 0, 1) := by decide +kernel
theorem dX2_follow_39 : decode cX2_follow 39 = .ok (.getfield 12, 3) := by decide +kernel
theorem dX2_follow_42 : decode cX2_follow 42 = .ok (.aload_n 3, 1) := by decide +kernel
theorem dX2_follow_43 : decode cX2_follow 43 = .ok (.iload 4, 2) := by decide +kernel
theorem dX2_follow_45 : decode cX2_follow 45 = .ok (.iconst 0, 1) := by decide +kernel
theorem dX2_follow_46 : decode cX2_follow 46 = .ok (.invokevirtual 47, 3) := by decide +kernel
theorem dX2_follow_49 : decode cX2_follow 49 = .ok (.aload_n 3, 1) := by decide +kernel
theorem dX2_follow_50 : decode cX2_follow 50 = .ok (.iload 4, 2) := by decide +kernel
theorem dX2_follow_52 : decode cX2_follow 52 = .ok (.iconst 1, 1) := by decide +kernel
theorem dX2_follow_53 : decode cX2_follow 53 = .ok (.invokevirtual 47, 3) := by decide +kernel
theorem dX2_follow_56 : decode cX2_follow 56 = .ok (.aload_n 3, 1) := by decide +kernel
theorem dX2_follow_57 : decode cX2_follow 57 = .ok (.iload 4, 2) := by decide +kernel
theorem dX2_follow_59 : decode cX2_follow 59 = .ok (.iconst 2, 1) := by decide +kernel
theorem dX2_follow_60 : decode cX2_follow 60 = .ok (.invokevirtual 47, 3) := by decide +kernel
theorem dX2_follow_63 : decode cX2_follow 63 = .ok (.invokevirtual 51, 3) := by decide +kernel
theorem dX2_follow_66 : decode cX2_follow 66 = .ok (.iinc 4 1, 3) := by decide +kernel
theorem dX2_follow_69 : decode cX2_follow 69 = .ok (.goto (-50), 3) := by decide +kernel
theorem dX2_follow_72 : decode cX2_follow 72 = .ok (.return_, 1) := by decide +kernel
theorem dX2_numberBehind_0 : decode cX2_numberBehind 0 = .ok (.aload_n 0, 1) := by decide +kernel
theorem dX2_numberBehind_1 : decode cX2_numberBehind 1 = .ok (.getfield 12, 3) := by decide +kernel
theorem dX2_numberBehind_4 : decode cX2_numberBehind 4 = .ok (.iload_n 1, 1) := by decide +kernel
theorem dX2_numberBehind_5 : decode cX2_numberBehind 5 = .ok (.iload_n 2, 1) := by decide +kernel
theorem dX2_numberBehind_6 : decode cX2_numberBehind 6 = .ok (.invokevirtual 55, 3) := by decide +kernel
theorem dX2_numberBehind_9 : decode cX2_numberBehind 9 = .ok (.ireturn, 1) := by decide +kernel
theorem dX2_find_0 : decode cX2_find 0 = .ok (.aload_n 0, 1) := by decide +kernel
theorem dX2_find_1 : decode cX2_find 1 = .ok (.getfield 23, 3) := by decide +kernel
theorem dX2_find_4 : decode cX2_find 4 = .ok (.invokevirtual 58, 3) := by decide +kernel
theorem dX2_find_7 : decode cX2_find 7 = .ok (.iconst 0, 1) := by decide +kernel
theorem dX2_find_8 : decode cX2_find 8 = .ok (.istore_n 2, 1) := by decide +kernel
theorem dX2_find_9 : decode cX2_find 9 = .ok (.iload_n 2, 1) := by decide +kernel
theorem dX2_find_10 : decode cX2_find 10 = .ok (.iconst 1, 1) := by decide +kernel
theorem dX2_find_11 : decode cX2_find 11 = .ok (.aload_n 1, 1) := by decide +kernel
theorem dX2_find_12 : decode cX2_find 12 = .ok (.getfield 40, 3) := by decide +kernel
theorem dX2_find_15 : decode cX2_find 15 = .ok (.invokevirtual 43, 3) := by decide +kernel
theorem dX2_find_18 : decode cX2_find 18 = .ok (.ishl, 1) := by decide +kernel
theorem dX2_find_19 : decode cX2_find 19 = .ok (.if_icmp .ge 40, 3) := by decide +kernel
theorem dX2_find_22 : decode cX2_find 22 = .ok (.aload_n 0, 1) := by decide +kernel
theorem dX2_find_23 : decode cX2_find 23 = .ok (.aload_n 1, 1) := by decide +kernel
theorem dX2_find_24 : decode cX2_find 24 = .ok (.iload_n 2, 1) := by decide +kernel
theorem dX2_find_25 : decode cX2_find 25 = .ok (.invokevirtual 61, 3) := by decide +kernel
theorem dX2_find_28 : decode cX2_find 28 = .ok (.aload_n 0, 1) := by decide +kernel
theorem dX2_find_29 : decode cX2_find 29 = .ok (.aload_n 1, 1) := by decide +kernel
theorem dX2_find_30 : decode cX2_find 30 = .ok (.getfield 65, 3) := by decide +kernel
theorem dX2_find_33 : decode cX2_find 33 = .ok (.invokevirtual 68, 3) := by decide +kernel
theorem dX2_find_36 : decode cX2_find 36 = .ok (.ifCond .eq 17, 3) := by decide +kernel
theorem dX2_find_39 : decode cX2_find 39 = .ok (.aload_n 0, 1) := by decide +kernel
theorem dX2_find_40 : decode cX2_find 40 = .ok (.aload_n 0, 1) := by decide +kernel
theorem dX2_find_41 : decode cX2_find 41 = .ok (.getfield 23, 3) := by decide +kernel
theorem dX2_find_44 : decode cX2_find 44 = .ok (.iload_n 2, 1) := by decide +kernel
theorem dX2_find_45 : decode cX2_find 45 = .ok (.iconst 0, 1) := by decide +kernel
theorem dX2_find_46 : decode cX2_find 46 = .ok (.iconst 0, 1) := by decide +kernel
theorem dX2_find_47 : decode cX2_find 47 = .ok (.invokevirtual 72, 3) := by decide +kernel
theorem dX2_find_50 : decode cX2_find 50 = .ok (.invokevirtual 76, 3) := by decide +kernel
theorem dX2_find_53 : decode cX2_find 53 = .ok (.iinc 2 1, 3) := by decide +kernel
theorem dX2_find_56 : decode cX2_find 56 = .ok (.goto (-47), 3) := by decide +kernel
theorem dX2_find_59 : decode cX2_find 59 = .ok (.return_, 1) := by decide +kernel
theorem dX2_isSo_0 : decode cX2_isSo 0 = .ok (.iconst 0, 1) := by decide +kernel
theorem dX2_isSo_1 : decode cX2_isSo 1 = .ok (.istore_n 2, 1) := by decide +kernel
theorem dX2_isSo_2 : decode cX2_isSo 2 = .ok (.iload_n 2, 1) := by decide +kernel
theorem dX2_isSo_3 : decode cX2_isSo 3 = .ok (.aload_n 1, 1) := by decide +kernel
theorem dX2_isSo_4 : decode cX2_isSo 4 = .ok (.invokevirtual 43, 3) := by decide +kernel
theorem dX2_isSo_7 : decode cX2_isSo 7 = .ok (.if_icmp .ge 46, 3) := by decide +kernel
theorem dX2_isSo_10 : decode cX2_isSo 10 = .ok (.aload_n 0, 1) := by decide +kernel
theorem dX2_isSo_11 : decode cX2_isSo 11 = .ok (.getfield 12, 3) := by decide +kernel
theorem dX2_isSo_14 : decode cX2_isSo 14 = .ok (.aload_n 1, 1) := by decide +kernel
theorem dX2_isSo_15 : decode cX2_isSo 15 = .ok (.iload_n 2, 1) := by decide +kernel
theorem dX2_isSo_16 : decode cX2_isSo 16 = .ok (.iconst 0, 1) := by decide +kernel
theorem dX2_isSo_17 : decode cX2_isSo 17 = .ok (.invokevirtual 47, 3) := by decide +kernel
theorem dX2_isSo_20 : decode cX2_isSo 20 = .ok (.iconst 2, 1) := by decide +kernel
theorem dX2_isSo_21 : decode cX2_isSo 21 = .ok (.invokevirtual 55, 3) := by decide +kernel
theorem dX2_isSo_24 : decode cX2_isSo 24 = .ok (.aload_n 1, 1) := by decide +kernel
theorem dX2_isSo_25 : decode cX2_isSo 25 = .ok (.iload_n 2, 1) := by decide +kernel
theorem dX2_isSo_26 : decode cX2_isSo 26 = .ok (.iconst 1, 1) := by decide +kernel
theorem dX2_isSo_27 : decode cX2_isSo 27 = .ok (.invokevirtual 47, 3) := by decide +kernel
theorem dX2_isSo_30 : decode cX2_isSo 30 = .ok (.isub, 1) := by decide +kernel
theorem dX2_isSo_31 : decode cX2_isSo 31 = .ok (.istore_n 3, 1) := by decide +kernel
theorem dX2_isSo_32 : decode cX2_isSo 32 = .ok (.iload_n 3, 1) := by decide +kernel
theorem dX2_isSo_33 : decode cX2_isSo 33 = .ok (.invokestatic 80, 3) := by decide +kernel
theorem dX2_isSo_36 : decode cX2_isSo 36 = .ok (.aload_n 1, 1) := by decide +kernel
theorem dX2_isSo_37 : decode cX2_isSo 37 = .ok (.iload_n 2, 1) := by decide +kernel
theorem dX2_isSo_38 : decode cX2_isSo 38 = .ok (.iconst 2, 1) := by decide +kernel
theorem dX2_isSo_39 : decode cX2_isSo 39 = .ok (.invokevirtual 47, 3) := by decide +kernel
theorem dX2_isSo_42 : decode cX2_isSo 42 = .ok (.if_icmp .le 5, 3) := by decide +kernel
theorem dX2_isSo_45 : decode cX2_isSo 45 = .ok (.iconst 0, 1) := by decide +kernel
theorem dX2_isSo_46 : decode cX2_isSo 46 = .ok (.ireturn, 1) := by decide +kernel
theorem dX2_isSo_47 : decode cX2_isSo 47 = .ok (.iinc 2 1, 3) := by decide +kernel
theorem dX2_isSo_50 : decode cX2_isSo 50 = .ok (.goto (-48), 3) := by decide +kernel
theorem dX2_isSo_53 : decode cX2_isSo 53 = .ok (.iconst 1, 1) := by decide +kernel
theorem dX2_isSo_54 : decode cX2_isSo 54 = .ok (.ireturn, 1) := by decide +kernel
theorem dX2_noteGrams_0 : decode cX2_noteGrams 0 = .ok (.iconst 0, 1) := by decide +kernel
theorem dX2_noteGrams_1 : decode cX2_noteGrams 1 = .ok (.istore_n 2, 1) := by decide +kernel
theorem dX2_noteGrams_2 : decode cX2_noteGrams 2 = .ok (.iload_n 2, 1) := by decide +kernel
theorem dX2_noteGrams_3 : decode cX2_noteGrams 3 = .ok (.bipush 12, 2) := by decide +kernel
theorem dX2_noteGrams_5 : decode cX2_noteGrams 5 = .ok (.if_icmp .ge 44, 3) := by decide +kernel
theorem dX2_noteGrams_8 : decode cX2_noteGrams 8 = .ok (.iload_n 1, 1) := by decide +kernel
theorem dX2_noteGrams_9 : decode cX2_noteGrams 9 = .ok (.bipush 12, 2) := by decide +kernel
theorem dX2_noteGrams_11 : decode cX2_noteGrams 11 = .ok (.imul, 1) := by decide +kernel
theorem dX2_noteGrams_12 : decode cX2_noteGrams 12 = .ok (.iload_n 2, 1) := by decide +kernel
theorem dX2_noteGrams_13 : decode cX2_noteGrams 13 = .ok (.iadd, 1) := by decide +kernel
theorem dX2_noteGrams_14 : decode cX2_noteGrams 14 = .ok (.istore_n 3, 1) := by decide +kernel
theorem dX2_noteGrams_15 : decode cX2_noteGrams 15 = .ok (.iload_n 3, 1) := by decide +kernel
theorem dX2_noteGrams_16 : decode cX2_noteGrams 16 = .ok (.ifCond .lt 27, 3) := by decide +kernel
theorem dX2_noteGrams_19 : decode cX2_noteGrams 19 = .ok (.iload_n 3, 1) := by decide +kernel
theorem dX2_noteGrams_20 : decode cX2_noteGrams 20 = .ok (.aload_n 0, 1) := by decide +kernel
theorem dX2_noteGrams_21 : decode cX2_noteGrams 21 = .ok (.getfield 27, 3) := by decide +kernel
theorem dX2_noteGrams_24 : decode cX2_noteGrams 24 = .ok (.arraylength, 1) := by decide +kernel
theorem dX2_noteGrams_25 : decode cX2_noteGrams 25 = .ok (.if_icmp .ge 18, 3) := by decide +kernel
theorem dX2_noteGrams_28 : decode cX2_noteGrams 28 = .ok (.aload_n 0, 1) := by decide +kernel
theorem dX2_noteGrams_29 : decode cX2_noteGrams 29 = .ok (.getfield 27, 3) := by decide +kernel
theorem dX2_noteGrams_32 : decode cX2_noteGrams 32 = .ok (.iload_n 3, 1) := by decide +kernel
theorem dX2_noteGrams_33 : decode cX2_noteGrams 33 = .ok (.aload_n 0, 1) := by decide +kernel
theorem dX2_noteGrams_34 : decode cX2_noteGrams 34 = .ok (.getfield 12, 3) := by decide +kernel
theorem dX2_noteGrams_37 : decode cX2_noteGrams 37 = .ok (.iload_n 2, 1) := by decide +kernel
theorem dX2_noteGrams_38 : decode cX2_noteGrams 38 = .ok (.iconst 2, 1) := by decide +kernel
theorem dX2_noteGrams_39 : decode cX2_noteGrams 39 = .ok (.invokevirtual 55, 3) := by decide +kernel
theorem dX2_noteGrams_42 : decode cX2_noteGrams 42 = .ok (.iastore, 1) := by decide +kernel
theorem dX2_noteGrams_43 : decode cX2_noteGrams 43 = .ok (.iinc 2 1, 3) := by decide +kernel
theorem dX2_noteGrams_46 : decode cX2_noteGrams 46 = .ok (.goto (-44), 3) := by decide +kernel
theorem dX2_noteGrams_49 : decode cX2_noteGrams 49 = .ok (.return_, 1) := by decide +kernel
theorem dX2_notedGrams_0 : decode cX2_notedGrams 0 = .ok (.iload_n 1, 1) := by decide +kernel
theorem dX2_notedGrams_1 : decode cX2_notedGrams 1 = .ok (.bipush 12, 2) := by decide +kernel
theorem dX2_notedGrams_3 : decode cX2_notedGrams 3 = .ok (.imul, 1) := by decide +kernel
theorem dX2_notedGrams_4 : decode cX2_notedGrams 4 = .ok (.iload_n 2, 1) := by decide +kernel
theorem dX2_notedGrams_5 : decode cX2_notedGrams 5 = .ok (.iadd, 1) := by decide +kernel
theorem dX2_notedGrams_6 : decode cX2_notedGrams 6 = .ok (.istore_n 3, 1) := by decide +kernel
theorem dX2_notedGrams_7 : decode cX2_notedGrams 7 = .ok (.iload_n 3, 1) := by decide +kernel
theorem dX2_notedGrams_8 : decode cX2_notedGrams 8 = .ok (.ifCond .lt 21, 3) := by decide +kernel
theorem dX2_notedGrams_11 : decode cX2_notedGrams 11 = .ok (.iload_n 3, 1) := by decide +kernel
theorem dX2_notedGrams_12 : decode cX2_notedGrams 12 = .ok (.aload_n 0, 1) := by decide +kernel
theorem dX2_notedGrams_13 : decode cX2_notedGrams 13 = .ok (.getfield 27, 3) := by decide +kernel
theorem dX2_notedGrams_16 : decode cX2_notedGrams 16 = .ok (.arraylength, 1) := by decide +kernel
theorem dX2_notedGrams_17 : decode cX2_notedGrams 17 = .ok (.if_icmp .ge 12, 3) := by decide +kernel
theorem dX2_notedGrams_20 : decode cX2_notedGrams 20 = .ok (.aload_n 0, 1) := by decide +kernel
theorem dX2_notedGrams_21 : decode cX2_notedGrams 21 = .ok (.getfield 27, 3) := by decide +kernel
theorem dX2_notedGrams_24 : decode cX2_notedGrams 24 = .ok (.iload_n 3, 1) := by decide +kernel
theorem dX2_notedGrams_25 : decode cX2_notedGrams 25 = .ok (.iaload, 1) := by decide +kernel
theorem dX2_notedGrams_26 : decode cX2_notedGrams 26 = .ok (.goto 4, 3) := by decide +kernel
theorem dX2_notedGrams_29 : decode cX2_notedGrams 29 = .ok (.iconst 0, 1) := by decide +kernel
theorem dX2_notedGrams_30 : decode cX2_notedGrams 30 = .ok (.ireturn, 1) := by decide +kernel
theorem dX2_size_0 : decode cX2_size 0 = .ok (.aload_n 0, 1) := by decide +kernel
theorem dX2_size_1 : decode cX2_size 1 = .ok (.getfield 23, 3) := by decide +kernel
theorem dX2_size_4 : decode cX2_size 4 = .ok (.invokevirtual 43, 3) := by decide +kernel
theorem dX2_size_7 : decode cX2_size 7 = .ok (.ireturn, 1) := by decide +kernel
theorem dX2_fitting_0 : decode cX2_fitting 0 = .ok (.aload_n 0, 1) := by decide +kernel
theorem dX2_fitting_1 : decode cX2_fitting 1 = .ok (.getfield 23, 3) := by decide +kernel
theorem dX2_fitting_4 : decode cX2_fitting 4 = .ok (.iload_n 1, 1) := by decide +kernel
theorem dX2_fitting_5 : decode cX2_fitting 5 = .ok (.iconst 0, 1) := by decide +kernel
theorem dX2_fitting_6 : decode cX2_fitting 6 = .ok (.invokevirtual 47, 3) := by decide +kernel
theorem dX2_fitting_9 : decode cX2_fitting 9 = .ok (.ireturn, 1) := by decide +kernel
theorem dX2_inAll_0 : decode cX2_inAll 0 = .ok (.iload_n 1, 1) := by decide +kernel
theorem dX2_inAll_1 : decode cX2_inAll 1 = .ok (.istore_n 2, 1) := by decide +kernel
theorem dX2_inAll_2 : decode cX2_inAll 2 = .ok (.iconst 0, 1) := by decide +kernel
theorem dX2_inAll_3 : decode cX2_inAll 3 = .ok (.istore_n 3, 1) := by decide +kernel
theorem dX2_inAll_4 : decode cX2_inAll 4 = .ok (.iload_n 3, 1) := by decide +kernel
theorem dX2_inAll_5 : decode cX2_inAll 5 = .ok (.aload_n 0, 1) := by decide +kernel
theorem dX2_inAll_6 : decode cX2_inAll 6 = .ok (.getfield 23, 3) := by decide +kernel
theorem dX2_inAll_9 : decode cX2_inAll 9 = .ok (.invokevirtual 43, 3) := by decide +kernel
theorem dX2_inAll_12 : decode cX2_inAll 12 = .ok (.if_icmp .ge 17, 3) := by decide +kernel
theorem dX2_inAll_15 : decode cX2_inAll 15 = .ok (.iload_n 2, 1) := by decide +kernel
theorem dX2_inAll_16 : decode cX2_inAll 16 = .ok (.aload_n 0, 1) := by decide +kernel
theorem dX2_inAll_17 : decode cX2_inAll 17 = .ok (.iload_n 3, 1) := by decide +kernel
theorem dX2_inAll_18 : decode cX2_inAll 18 = .ok (.invokevirtual 86, 3) := by decide +kernel
theorem dX2_inAll_21 : decode cX2_inAll 21 = .ok (.iand, 1) := by decide +kernel
theorem dX2_inAll_22 : decode cX2_inAll 22 = .ok (.istore_n 2, 1) := by decide +kernel
theorem dX2_inAll_23 : decode cX2_inAll 23 = .ok (.iinc 3 1, 3) := by decide +kernel
theorem dX2_inAll_26 : decode cX2_inAll 26 = .ok (.goto (-22), 3) := by decide +kernel
theorem dX2_inAll_29 : decode cX2_inAll 29 = .ok (.iload_n 2, 1) := by decide +kernel
theorem dX2_inAll_30 : decode cX2_inAll 30 = .ok (.ireturn, 1) := by decide +kernel
theorem dX2_inAny_0 : decode cX2_inAny 0 = .ok (.iconst 0, 1) := by decide +kernel
theorem dX2_inAny_1 : decode cX2_inAny 1 = .ok (.istore_n 1, 1) := by decide +kernel
theorem dX2_inAny_2 : decode cX2_inAny 2 = .ok (.iconst 0, 1) := by decide +kernel
theorem dX2_inAny_3 : decode cX2_inAny 3 = .ok (.istore_n 2, 1) := by decide +kernel
theorem dX2_inAny_4 : decode cX2_inAny 4 = .ok (.iload_n 2, 1) := by decide +kernel
theorem dX2_inAny_5 : decode cX2_inAny 5 = .ok (.aload_n 0, 1) := by decide +kernel
theorem dX2_inAny_6 : decode cX2_inAny 6 = .ok (.getfield 23, 3) := by decide +kernel
theorem dX2_inAny_9 : decode cX2_inAny 9 = .ok (.invokevirtual 43, 3) := by decide +kernel
theorem dX2_inAny_12 : decode cX2_inAny 12 = .ok (.if_icmp .ge 17, 3) := by decide +kernel
theorem dX2_inAny_15 : decode cX2_inAny 15 = .ok (.iload_n 1, 1) := by decide +kernel
theorem dX2_inAny_16 : decode cX2_inAny 16 = .ok (.aload_n 0, 1) := by decide +kernel
theorem dX2_inAny_17 : decode cX2_inAny 17 = .ok (.iload_n 2, 1) := by decide +kernel
theorem dX2_inAny_18 : decode cX2_inAny 18 = .ok (.invokevirtual 86, 3) := by decide +kernel
theorem dX2_inAny_21 : decode cX2_inAny 21 = .ok (.ior, 1) := by decide +kernel
theorem dX2_inAny_22 : decode cX2_inAny 22 = .ok (.istore_n 1, 1) := by decide +kernel
theorem dX2_inAny_23 : decode cX2_inAny 23 = .ok (.iinc 2 1, 3) := by decide +kernel
theorem dX2_inAny_26 : decode cX2_inAny 26 = .ok (.goto (-22), 3) := by decide +kernel
theorem dX2_inAny_29 : decode cX2_inAny 29 = .ok (.iload_n 1, 1) := by decide +kernel
theorem dX2_inAny_30 : decode cX2_inAny 30 = .ok (.ireturn, 1) := by decide +kernel
theorem dX2_mostPapers_0 : decode cX2_mostPapers 0 = .ok (.iconst 0, 1) := by decide +kernel
theorem dX2_mostPapers_1 : decode cX2_mostPapers 1 = .ok (.istore_n 1, 1) := by decide +kernel
theorem dX2_mostPapers_2 : decode cX2_mostPapers 2 = .ok (.iconst 0, 1) := by decide +kernel
theorem dX2_mostPapers_3 : decode cX2_mostPapers 3 = .ok (.istore_n 2, 1) := by decide +kernel
theorem dX2_mostPapers_4 : decode cX2_mostPapers 4 = .ok (.iload_n 2, 1) := by decide +kernel
theorem dX2_mostPapers_5 : decode cX2_mostPapers 5 = .ok (.aload_n 0, 1) := by decide +kernel
theorem dX2_mostPapers_6 : decode cX2_mostPapers 6 = .ok (.getfield 23, 3) := by decide +kernel
theorem dX2_mostPapers_9 : decode cX2_mostPapers 9 = .ok (.invokevirtual 43, 3) := by decide +kernel
theorem dX2_mostPapers_12 : decode cX2_mostPapers 12 = .ok (.if_icmp .ge 22, 3) := by decide +kernel
theorem dX2_mostPapers_15 : decode cX2_mostPapers 15 = .ok (.iload_n 1, 1) := by decide +kernel
theorem dX2_mostPapers_16 : decode cX2_mostPapers 16 = .ok (.aload_n 0, 1) := by decide +kernel
theorem dX2_mostPapers_17 : decode cX2_mostPapers 17 = .ok (.iload_n 2, 1) := by decide +kernel
theorem dX2_mostPapers_18 : decode cX2_mostPapers 18 = .ok (.invokevirtual 86, 3) := by decide +kernel
theorem dX2_mostPapers_21 : decode cX2_mostPapers 21 = .ok (.invokestatic 89, 3) := by decide +kernel
theorem dX2_mostPapers_24 : decode cX2_mostPapers 24 = .ok (.invokestatic 94, 3) := by decide +kernel
theorem dX2_mostPapers_27 : decode cX2_mostPapers 27 = .ok (.istore_n 1, 1) := by decide +kernel
theorem dX2_mostPapers_28 : decode cX2_mostPapers 28 = .ok (.iinc 2 1, 3) := by decide +kernel
theorem dX2_mostPapers_31 : decode cX2_mostPapers 31 = .ok (.goto (-27), 3) := by decide +kernel
theorem dX2_mostPapers_34 : decode cX2_mostPapers 34 = .ok (.iload_n 1, 1) := by decide +kernel
theorem dX2_mostPapers_35 : decode cX2_mostPapers 35 = .ok (.ireturn, 1) := by decide +kernel
theorem dX2_outermost_0 : decode cX2_outermost 0 = .ok (.iconst 0, 1) := by decide +kernel
theorem dX2_outermost_1 : decode cX2_outermost 1 = .ok (.istore 5, 2) := by decide +kernel
theorem dX2_outermost_3 : decode cX2_outermost 3 = .ok (.iconst 0, 1) := by decide +kernel
theorem dX2_outermost_4 : decode cX2_outermost 4 = .ok (.istore 6, 2) := by decide +kernel
theorem dX2_outermost_6 : decode cX2_outermost 6 = .ok (.iload 6, 2) := by decide +kernel
theorem dX2_outermost_8 : decode cX2_outermost 8 = .ok (.aload_n 0, 1) := by decide +kernel
theorem dX2_outermost_9 : decode cX2_outermost 9 = .ok (.getfield 23, 3) := by decide +kernel
theorem dX2_outermost_12 : decode cX2_outermost 12 = .ok (.invokevirtual 43, 3) := by decide +kernel
theorem dX2_outermost_15 : decode cX2_outermost 15 = .ok (.if_icmp .ge 62, 3) := by decide +kernel
theorem dX2_outermost_18 : decode cX2_outermost 18 = .ok (.aload_n 0, 1) := by decide +kernel
theorem dX2_outermost_19 : decode cX2_outermost 19 = .ok (.aload_n 1, 1) := by decide +kernel
theorem dX2_outermost_20 : decode cX2_outermost 20 = .ok (.aload_n 0, 1) := by decide +kernel
theorem dX2_outermost_21 : decode cX2_outermost 21 = .ok (.iload 6, 2) := by decide +kernel
theorem dX2_outermost_23 : decode cX2_outermost 23 = .ok (.invokevirtual 86, 3) := by decide +kernel
theorem dX2_outermost_26 : decode cX2_outermost 26 = .ok (.invokevirtual 61, 3) := by decide +kernel
theorem dX2_outermost_29 : decode cX2_outermost 29 = .ok (.aload_n 0, 1) := by decide +kernel
theorem dX2_outermost_30 : decode cX2_outermost 30 = .ok (.getfield 12, 3) := by decide +kernel
theorem dX2_outermost_33 : decode cX2_outermost 33 = .ok (.iload_n 2, 1) := by decide +kernel
theorem dX2_outermost_34 : decode cX2_outermost 34 = .ok (.iload_n 3, 1) := by decide +kernel
theorem dX2_outermost_35 : decode cX2_outermost 35 = .ok (.invokevirtual 55, 3) := by decide +kernel
theorem dX2_outermost_38 : decode cX2_outermost 38 = .ok (.istore 7, 2) := by decide +kernel
theorem dX2_outermost_40 : decode cX2_outermost 40 = .ok (.iload 6, 2) := by decide +kernel
theorem dX2_outermost_42 : decode cX2_outermost 42 = .ok (.ifCond .eq 25, 3) := by decide +kernel
theorem dX2_outermost_45 : decode cX2_outermost 45 = .ok (.iload 4, 2) := by decide +kernel
theorem dX2_outermost_47 : decode cX2_outermost 47 = .ok (.ifCond .eq 13, 3) := by decide +kernel
theorem dX2_outermost_50 : decode cX2_outermost 50 = .ok (.iload 7, 2) := by decide +kernel
theorem dX2_outermost_52 : decode cX2_outermost 52 = .ok (.iload 5, 2) := by decide +kernel
theorem dX2_outermost_54 : decode cX2_outermost 54 = .ok (.if_icmp .le 17, 3) := by decide +kernel
theorem dX2_outermost_57 : decode cX2_outermost 57 = .ok (.goto 10, 3) := by decide +kernel
theorem dX2_outermost_60 : decode cX2_outermost 60 = .ok (.iload 7, 2) := by decide +kernel
theorem dX2_outermost_62 : decode cX2_outermost 62 = .ok (.iload 5, 2) := by decide +kernel
theorem dX2_outermost_64 : decode cX2_outermost 64 = .ok (.if_icmp .ge 7, 3) := by decide +kernel
theorem dX2_outermost_67 : decode cX2_outermost 67 = .ok (.iload 7, 2) := by decide +kernel
theorem dX2_outermost_69 : decode cX2_outermost 69 = .ok (.istore 5, 2) := by decide +kernel
theorem dX2_outermost_71 : decode cX2_outermost 71 = .ok (.iinc 6 1, 3) := by decide +kernel
theorem dX2_outermost_74 : decode cX2_outermost 74 = .ok (.goto (-68), 3) := by decide +kernel
theorem dX2_outermost_77 : decode cX2_outermost 77 = .ok (.iload 5, 2) := by decide +kernel
theorem dX2_outermost_79 : decode cX2_outermost 79 = .ok (.ireturn, 1) := by decide +kernel
theorem dX2_bestParted_0 : decode cX2_bestParted 0 = .ok (.iconst 0, 1) := by decide +kernel
theorem dX2_bestParted_1 : decode cX2_bestParted 1 = .ok (.istore_n 2, 1) := by decide +kernel
theorem dX2_bestParted_2 : decode cX2_bestParted 2 = .ok (.bipush 65, 2) := by decide +kernel
theorem dX2_bestParted_4 : decode cX2_bestParted 4 = .ok (.istore_n 3, 1) := by decide +kernel
theorem dX2_bestParted_5 : decode cX2_bestParted 5 = .ok (.iconst 0, 1) := by decide +kernel
theorem dX2_bestParted_6 : decode cX2_bestParted 6 = .ok (.istore 4, 2) := by decide +kernel
theorem dX2_bestParted_8 : decode cX2_bestParted 8 = .ok (.iload 4, 2) := by decide +kernel
theorem dX2_bestParted_10 : decode cX2_bestParted 10 = .ok (.iload_n 1, 1) := by decide +kernel
theorem dX2_bestParted_11 : decode cX2_bestParted 11 = .ok (.if_icmp .ge 29, 3) := by decide +kernel
theorem dX2_bestParted_14 : decode cX2_bestParted 14 = .ok (.aload_n 0, 1) := by decide +kernel
theorem dX2_bestParted_15 : decode cX2_bestParted 15 = .ok (.iload 4, 2) := by decide +kernel
theorem dX2_bestParted_17 : decode cX2_bestParted 17 = .ok (.invokevirtual 97, 3) := by decide +kernel
theorem dX2_bestParted_20 : decode cX2_bestParted 20 = .ok (.istore 5, 2) := by decide +kernel
theorem dX2_bestParted_22 : decode cX2_bestParted 22 = .ok (.iload 5, 2) := by decide +kernel
theorem dX2_bestParted_24 : decode cX2_bestParted 24 = .ok (.iload_n 3, 1) := by decide +kernel
theorem dX2_bestParted_25 : decode cX2_bestParted 25 = .ok (.if_icmp .ge 9, 3) := by decide +kernel
theorem dX2_bestParted_28 : decode cX2_bestParted 28 = .ok (.iload 4, 2) := by decide +kernel
theorem dX2_bestParted_30 : decode cX2_bestParted 30 = .ok (.istore_n 2, 1) := by decide +kernel
theorem dX2_bestParted_31 : decode cX2_bestParted 31 = .ok (.iload 5, 2) := by decide +kernel
theorem dX2_bestParted_33 : decode cX2_bestParted 33 = .ok (.istore_n 3, 1) := by decide +kernel
theorem dX2_bestParted_34 : decode cX2_bestParted 34 = .ok (.iinc 4 1, 3) := by decide +kernel
theorem dX2_bestParted_37 : decode cX2_bestParted 37 = .ok (.goto (-29), 3) := by decide +kernel
theorem dX2_bestParted_40 : decode cX2_bestParted 40 = .ok (.iload_n 2, 1) := by decide +kernel
theorem dX2_bestParted_41 : decode cX2_bestParted 41 = .ok (.ireturn, 1) := by decide +kernel
theorem dX2_greatestHeap_0 : decode cX2_greatestHeap 0 = .ok (.iconst 0, 1) := by decide +kernel
theorem dX2_greatestHeap_1 : decode cX2_greatestHeap 1 = .ok (.istore_n 2, 1) := by decide +kernel
theorem dX2_greatestHeap_2 : decode cX2_greatestHeap 2 = .ok (.iconst 0, 1) := by decide +kernel
theorem dX2_greatestHeap_3 : decode cX2_greatestHeap 3 = .ok (.istore_n 3, 1) := by decide +kernel
theorem dX2_greatestHeap_4 : decode cX2_greatestHeap 4 = .ok (.iload_n 3, 1) := by decide +kernel
theorem dX2_greatestHeap_5 : decode cX2_greatestHeap 5 = .ok (.aload_n 0, 1) := by decide +kernel
theorem dX2_greatestHeap_6 : decode cX2_greatestHeap 6 = .ok (.getfield 23, 3) := by decide +kernel
theorem dX2_greatestHeap_9 : decode cX2_greatestHeap 9 = .ok (.invokevirtual 43, 3) := by decide +kernel
theorem dX2_greatestHeap_12 : decode cX2_greatestHeap 12 = .ok (.if_icmp .ge 59, 3) := by decide +kernel
theorem dX2_greatestHeap_15 : decode cX2_greatestHeap 15 = .ok (.iconst 0, 1) := by decide +kernel
theorem dX2_greatestHeap_16 : decode cX2_greatestHeap 16 = .ok (.istore 4, 2) := by decide +kernel
theorem dX2_greatestHeap_18 : decode cX2_greatestHeap 18 = .ok (.iload_n 3, 1) := by decide +kernel
theorem dX2_greatestHeap_19 : decode cX2_greatestHeap 19 = .ok (.istore 5, 2) := by decide +kernel
theorem dX2_greatestHeap_21 : decode cX2_greatestHeap 21 = .ok (.iload 5, 2) := by decide +kernel
theorem dX2_greatestHeap_23 : decode cX2_greatestHeap 23 = .ok (.aload_n 0, 1) := by decide +kernel
theorem dX2_greatestHeap_24 : decode cX2_greatestHeap 24 = .ok (.getfield 23, 3) := by decide +kernel
theorem dX2_greatestHeap_27 : decode cX2_greatestHeap 27 = .ok (.invokevirtual 43, 3) := by decide +kernel
theorem dX2_greatestHeap_30 : decode cX2_greatestHeap 30 = .ok (.if_icmp .ge 28, 3) := by decide +kernel
theorem dX2_greatestHeap_33 : decode cX2_greatestHeap 33 = .ok (.aload_n 0, 1) := by decide +kernel
theorem dX2_greatestHeap_34 : decode cX2_greatestHeap 34 = .ok (.iload 5, 2) := by decide +kernel
theorem dX2_greatestHeap_36 : decode cX2_greatestHeap 36 = .ok (.iload_n 1, 1) := by decide +kernel
theorem dX2_greatestHeap_37 : decode cX2_greatestHeap 37 = .ok (.invokevirtual 100, 3) := by decide +kernel
theorem dX2_greatestHeap_40 : decode cX2_greatestHeap 40 = .ok (.aload_n 0, 1) := by decide +kernel
theorem dX2_greatestHeap_41 : decode cX2_greatestHeap 41 = .ok (.iload_n 3, 1) := by decide +kernel
theorem dX2_greatestHeap_42 : decode cX2_greatestHeap 42 = .ok (.iload_n 1, 1) := by decide +kernel
theorem dX2_greatestHeap_43 : decode cX2_greatestHeap 43 = .ok (.invokevirtual 100, 3) := by decide +kernel
theorem dX2_greatestHeap_46 : decode cX2_greatestHeap 46 = .ok (.if_icmp .ne 6, 3) := by decide +kernel
theorem dX2_greatestHeap_49 : decode cX2_greatestHeap 49 = .ok (.iinc 4 1, 3) := by decide +kernel
theorem dX2_greatestHeap_52 : decode cX2_greatestHeap 52 = .ok (.iinc 5 1, 3) := by decide +kernel
theorem dX2_greatestHeap_55 : decode cX2_greatestHeap 55 = .ok (.goto (-34), 3) := by decide +kernel
theorem dX2_greatestHeap_58 : decode cX2_greatestHeap 58 = .ok (.iload_n 2, 1) := by decide +kernel
theorem dX2_greatestHeap_59 : decode cX2_greatestHeap 59 = .ok (.iload 4, 2) := by decide +kernel
theorem dX2_greatestHeap_61 : decode cX2_greatestHeap 61 = .ok (.invokestatic 94, 3) := by decide +kernel
theorem dX2_greatestHeap_64 : decode cX2_greatestHeap 64 = .ok (.istore_n 2, 1) := by decide +kernel
theorem dX2_greatestHeap_65 : decode cX2_greatestHeap 65 = .ok (.iinc 3 1, 3) := by decide +kernel
theorem dX2_greatestHeap_68 : decode cX2_greatestHeap 68 = .ok (.goto (-64), 3) := by decide +kernel
theorem dX2_greatestHeap_71 : decode cX2_greatestHeap 71 = .ok (.iload_n 2, 1) := by decide +kernel
theorem dX2_greatestHeap_72 : decode cX2_greatestHeap 72 = .ok (.ireturn, 1) := by decide +kernel
theorem dX2_firstUnlike_0 : decode cX2_firstUnlike 0 = .ok (.aload_n 1, 1) := by decide +kernel
theorem dX2_firstUnlike_1 : decode cX2_firstUnlike 1 = .ok (.invokevirtual 43, 3) := by decide +kernel
theorem dX2_firstUnlike_4 : decode cX2_firstUnlike 4 = .ok (.aload_n 0, 1) := by decide +kernel
theorem dX2_firstUnlike_5 : decode cX2_firstUnlike 5 = .ok (.getfield 23, 3) := by decide +kernel
theorem dX2_firstUnlike_8 : decode cX2_firstUnlike 8 = .ok (.invokevirtual 43, 3) := by decide +kernel
theorem dX2_firstUnlike_11 : decode cX2_firstUnlike 11 = .ok (.invokestatic 94, 3) := by decide +kernel
theorem dX2_firstUnlike_14 : decode cX2_firstUnlike 14 = .ok (.istore_n 2, 1) := by decide +kernel
theorem dX2_firstUnlike_15 : decode cX2_firstUnlike 15 = .ok (.iconst 0, 1) := by decide +kernel
theorem dX2_firstUnlike_16 : decode cX2_firstUnlike 16 = .ok (.istore_n 3, 1) := by decide +kernel
theorem dX2_firstUnlike_17 : decode cX2_firstUnlike 17 = .ok (.iload_n 3, 1) := by decide +kernel
theorem dX2_firstUnlike_18 : decode cX2_firstUnlike 18 = .ok (.iload_n 2, 1) := by decide +kernel
theorem dX2_firstUnlike_19 : decode cX2_firstUnlike 19 = .ok (.if_icmp .ge 44, 3) := by decide +kernel
theorem dX2_firstUnlike_22 : decode cX2_firstUnlike 22 = .ok (.aload_n 1, 1) := by decide +kernel
theorem dX2_firstUnlike_23 : decode cX2_firstUnlike 23 = .ok (.iload_n 3, 1) := by decide +kernel
theorem dX2_firstUnlike_24 : decode cX2_firstUnlike 24 = .ok (.invokevirtual 103, 3) := by decide +kernel
theorem dX2_firstUnlike_27 : decode cX2_firstUnlike 27 = .ok (.ifCond .eq 28, 3) := by decide +kernel
theorem dX2_firstUnlike_30 : decode cX2_firstUnlike 30 = .ok (.aload_n 0, 1) := by decide +kernel
theorem dX2_firstUnlike_31 : decode cX2_firstUnlike 31 = .ok (.getfield 23, 3) := by decide +kernel
theorem dX2_firstUnlike_34 : decode cX2_firstUnlike 34 = .ok (.iload_n 3, 1) := by decide +kernel
theorem dX2_firstUnlike_35 : decode cX2_firstUnlike 35 = .ok (.invokevirtual 103, 3) := by decide +kernel
theorem dX2_firstUnlike_38 : decode cX2_firstUnlike 38 = .ok (.ifCond .eq 17, 3) := by decide +kernel
theorem dX2_firstUnlike_41 : decode cX2_firstUnlike 41 = .ok (.aload_n 1, 1) := by decide +kernel
theorem dX2_firstUnlike_42 : decode cX2_firstUnlike 42 = .ok (.iload_n 3, 1) := by decide +kernel
theorem dX2_firstUnlike_43 : decode cX2_firstUnlike 43 = .ok (.iconst 0, 1) := by decide +kernel
theorem dX2_firstUnlike_44 : decode cX2_firstUnlike 44 = .ok (.invokevirtual 47, 3) := by decide +kernel
theorem dX2_firstUnlike_47 : decode cX2_firstUnlike 47 = .ok (.aload_n 0, 1) := by decide +kernel
theorem dX2_firstUnlike_48 : decode cX2_firstUnlike 48 = .ok (.iload_n 3, 1) := by decide +kernel
theorem dX2_firstUnlike_49 : decode cX2_firstUnlike 49 = .ok (.invokevirtual 86, 3) := by decide +kernel
theorem dX2_firstUnlike_52 : decode cX2_firstUnlike 52 = .ok (.if_icmp .eq 5, 3) := by decide +kernel
theorem dX2_firstUnlike_55 : decode cX2_firstUnlike 55 = .ok (.iload_n 3, 1) := by decide +kernel
theorem dX2_firstUnlike_56 : decode cX2_firstUnlike 56 = .ok (.ireturn, 1) := by decide +kernel
theorem dX2_firstUnlike_57 : decode cX2_firstUnlike 57 = .ok (.iinc 3 1, 3) := by decide +kernel
theorem dX2_firstUnlike_60 : decode cX2_firstUnlike 60 = .ok (.goto (-43), 3) := by decide +kernel
theorem dX2_firstUnlike_63 : decode cX2_firstUnlike 63 = .ok (.iconst (-1), 1) := by decide +kernel
theorem dX2_firstUnlike_64 : decode cX2_firstUnlike 64 = .ok (.ireturn, 1) := by decide +kernel
theorem dX3_init_0 : decode cX3_init 0 = .ok (.aload_n 0, 1) := by decide +kernel
theorem dX3_init_1 : decode cX3_init 1 = .ok (.invokespecial 3, 3) := by decide +kernel
theorem dX3_init_4 : decode cX3_init 4 = .ok (.aload_n 0, 1) := by decide +kernel
theorem dX3_init_5 : decode cX3_init 5 = .ok (.new 9, 3) := by decide +kernel
theorem dX3_init_8 : decode cX3_init 8 = .ok (.dup, 1) := by decide +kernel
theorem dX3_init_9 : decode cX3_init 9 = .ok (.bipush 60, 2) := by decide +kernel
theorem dX3_init_11 : decode cX3_init 11 = .ok (.iconst 1, 1) := by decide +kernel
theorem dX3_init_12 : decode cX3_init 12 = .ok (.invokespecial 11, 3) := by decide +kernel
theorem dX3_init_15 : decode cX3_init 15 = .ok (.putfield 14, 3) := by decide +kernel
theorem dX3_init_18 : decode cX3_init 18 = .ok (.aload_n 0, 1) := by decide +kernel
theorem dX3_init_19 : decode cX3_init 19 = .ok (.new 9, 3) := by decide +kernel
theorem dX3_init_22 : decode cX3_init 22 = .ok (.dup, 1) := by decide +kernel
theorem dX3_init_23 : decode cX3_init 23 = .ok (.bipush 60, 2) := by decide +kernel
theorem dX3_init_25 : decode cX3_init 25 = .ok (.iconst 1, 1) := by decide +kernel
theorem dX3_init_26 : decode cX3_init 26 = .ok (.invokespecial 11, 3) := by decide +kernel
theorem dX3_init_29 : decode cX3_init 29 = .ok (.putfield 20, 3) := by decide +kernel
theorem dX3_init_32 : decode cX3_init 32 = .ok (.return_, 1) := by decide +kernel
theorem dX3_read_0 : decode cX3_read 0 = .ok (.aload_n 0, 1) := by decide +kernel
theorem dX3_read_1 : decode cX3_read 1 = .ok (.getfield 14, 3) := by decide +kernel
theorem dX3_read_4 : decode cX3_read 4 = .ok (.aload_n 1, 1) := by decide +kernel
theorem dX3_read_5 : decode cX3_read 5 = .ok (.invokevirtual 23, 3) := by decide +kernel
theorem dX3_read_8 : decode cX3_read 8 = .ok (.aload_n 0, 1) := by decide +kernel
theorem dX3_read_9 : decode cX3_read 9 = .ok (.getfield 20, 3) := by decide +kernel
theorem dX3_read_12 : decode cX3_read 12 = .ok (.invokevirtual 27, 3) := by decide +kernel
theorem dX3_read_15 : decode cX3_read 15 = .ok (.aload_n 0, 1) := by decide +kernel
theorem dX3_read_16 : decode cX3_read 16 = .ok (.iload_n 2, 1) := by decide +kernel
theorem dX3_read_17 : decode cX3_read 17 = .ok (.putfield 30, 3) := by decide +kernel
theorem dX3_read_20 : decode cX3_read 20 = .ok (.aload_n 0, 1) := by decide +kernel
theorem dX3_read_21 : decode cX3_read 21 = .ok (.iconst 0, 1) := by decide +kernel
theorem dX3_read_22 : decode cX3_read 22 = .ok (.putfield 34, 3) := by decide +kernel
theorem dX3_read_25 : decode cX3_read 25 = .ok (.aload_n 0, 1) := by decide +kernel
theorem dX3_read_26 : decode cX3_read 26 = .ok (.iconst 0, 1) := by decide +kernel
theorem dX3_read_27 : decode cX3_read 27 = .ok (.iconst 0, 1) := by decide +kernel
theorem dX3_read_28 : decode cX3_read 28 = .ok (.invokevirtual 37, 3) := by decide +kernel
theorem dX3_read_31 : decode cX3_read 31 = .ok (.ifCond .eq 21, 3) := by decide +kernel
theorem dX3_read_34 : decode cX3_read 34 = .ok (.aload_n 0, 1) := by decide +kernel
theorem dX3_read_35 : decode cX3_read 35 = .ok (.getfield 34, 3) := by decide +kernel
theorem dX3_read_38 : decode cX3_read 38 = .ok (.aload_n 0, 1) := by decide +kernel
theorem dX3_read_39 : decode cX3_read 39 = .ok (.getfield 14, 3) := by decide +kernel
theorem dX3_read_42 : decode cX3_read 42 = .ok (.invokevirtual 41, 3) := by decide +kernel
theorem dX3_read_45 : decode cX3_read 45 = .ok (.if_icmp .ne 7, 3) := by decide +kernel
theorem dX3_read_48 : decode cX3_read 48 = .ok (.iconst 1, 1) := by decide +kernel
theorem dX3_read_49 : decode cX3_read 49 = .ok (.goto 4, 3) := by decide +kernel
theorem dX3_read_52 : decode cX3_read 52 = .ok (.iconst 0, 1) := by decide +kernel
theorem dX3_read_53 : decode cX3_read 53 = .ok (.istore_n 3, 1) := by decide +kernel
theorem dX3_read_54 : decode cX3_read 54 = .ok (.iload_n 3, 1) := by decide +kernel
theorem dX3_read_55 : decode cX3_read 55 = .ok (.ifCond .eq 7, 3) := by decide +kernel
theorem dX3_read_58 : decode cX3_read 58 = .ok (.iconst (-1), 1) := by decide +kernel
theorem dX3_read_59 : decode cX3_read 59 = .ok (.goto 7, 3) := by decide +kernel
theorem dX3_read_62 : decode cX3_read 62 = .ok (.aload_n 0, 1) := by decide +kernel
theorem dX3_read_63 : decode cX3_read 63 = .ok (.getfield 34, 3) := by decide +kernel
theorem dX3_read_66 : decode cX3_read 66 = .ok (.ireturn, 1) := by decide +kernel
theorem dX3_writeTo_0 : decode cX3_writeTo 0 = .ok (.aload_n 1, 1) := by decide +kernel
theorem dX3_writeTo_1 : decode cX3_writeTo 1 = .ok (.aload_n 0, 1) := by decide +kernel
theorem dX3_writeTo_2 : decode cX3_writeTo 2 = .ok (.getfield 20, 3) := by decide +kernel
theorem dX3_writeTo_5 : decode cX3_writeTo 5 = .ok (.invokevirtual 23, 3) := by decide +kernel
theorem dX3_writeTo_8 : decode cX3_writeTo 8 = .ok (.return_, 1) := by decide +kernel
theorem dX3_peek_0 : decode cX3_peek 0 = .ok (.aload_n 0, 1) := by decide +kernel
theorem dX3_peek_1 : decode cX3_peek 1 = .ok (.getfield 14, 3) := by decide +kernel
theorem dX3_peek_4 : decode cX3_peek 4 = .ok (.aload_n 0, 1) := by decide +kernel
theorem dX3_peek_5 : decode cX3_peek 5 = .ok (.getfield 34, 3) := by decide +kernel
theorem dX3_peek_8 : decode cX3_peek 8 = .ok (.invokevirtual 45, 3) := by decide +kernel
theorem dX3_peek_11 : decode cX3_peek 11 = .ok (.ifCond .eq 18, 3) := by decide +kernel
theorem dX3_peek_14 : decode cX3_peek 14 = .ok (.aload_n 0, 1) := by decide +kernel
theorem dX3_peek_15 : decode cX3_peek 15 = .ok (.getfield 14, 3) := by decide +kernel
theorem dX3_peek_18 : decode cX3_peek 18 = .ok (.aload_n 0, 1) := by decide +kernel
theorem dX3_peek_19 : decode cX3_peek 19 = .ok (.getfield 34, 3) := by decide +kernel
theorem dX3_peek_22 : decode cX3_peek 22 = .ok (.iconst 0, 1) := by decide +kernel
theorem dX3_peek_23 : decode cX3_peek 23 = .ok (.invokevirtual 49, 3) := by decide +kernel
theorem dX3_peek_26 : decode cX3_peek 26 = .ok (.goto 4, 3) := by decide +kernel
theorem dX3_peek_29 : decode cX3_peek 29 = .ok (.iconst (-1), 1) := by decide +kernel
theorem dX3_peek_30 : decode cX3_peek 30 = .ok (.ireturn, 1) := by decide +kernel
theorem dX3_readLevel_0 : decode cX3_readLevel 0 = .ok (.iload_n 1, 1) := by decide +kernel
theorem dX3_readLevel_1 : decode cX3_readLevel 1 = .ok (.iconst 4, 1) := by decide +kernel
theorem dX3_readLevel_2 : decode cX3_readLevel 2 = .ok (.if_icmp .le 9, 3) := by decide +kernel
theorem dX3_readLevel_5 : decode cX3_readLevel 5 = .ok (.aload_n 0, 1) := by decide +kernel
theorem dX3_readLevel_6 : decode cX3_readLevel 6 = .ok (.iload_n 2, 1) := by decide +kernel
theorem dX3_readLevel_7 : decode cX3_readLevel 7 = .ok (.invokevirtual 53, 3) := by decide +kernel
theorem dX3_readLevel_10 : decode cX3_readLevel 10 = .ok (.ireturn, 1) := by decide +kernel
theorem dX3_readLevel_11 : decode cX3_readLevel 11 = .ok (.aload_n 0, 1) := by decide +kernel
theorem dX3_readLevel_12 : decode cX3_readLevel 12 = .ok (.iload_n 1, 1) := by decide +kernel
theorem dX3_readLevel_13 : decode cX3_readLevel 13 = .ok (.iconst 1, 1) := by decide +kernel
theorem dX3_readLevel_14 : decode cX3_readLevel 14 = .ok (.iadd, 1) := by decide +kernel
theorem dX3_readLevel_15 : decode cX3_readLevel 15 = .ok (.iload_n 2, 1) := by decide +kernel
theorem dX3_readLevel_16 : decode cX3_readLevel 16 = .ok (.invokevirtual 37, 3) := by decide +kernel
theorem dX3_readLevel_19 : decode cX3_readLevel 19 = .ok (.ifCond .ne 5, 3) := by decide +kernel
theorem dX3_readLevel_22 : decode cX3_readLevel 22 = .ok (.iconst 0, 1) := by decide +kernel
theorem dX3_readLevel_23 : decode cX3_readLevel 23 = .ok (.ireturn, 1) := by decide +kernel
theorem dX3_readLevel_24 : decode cX3_readLevel 24 = .ok (.iload_n 1, 1) := by decide +kernel
theorem dX3_readLevel_25 : decode cX3_readLevel 25 = .ok (.iconst 2, 1) := by decide +kernel
theorem dX3_readLevel_26 : decode cX3_readLevel 26 = .ok (.if_icmp .ne 7, 3) := by decide +kernel
theorem dX3_readLevel_29 : decode cX3_readLevel 29 = .ok (.iconst 1, 1) := by decide +kernel
theorem dX3_readLevel_30 : decode cX3_readLevel 30 = .ok (.goto 5, 3) := by decide +kernel
theorem dX3_readLevel_33 : decode cX3_readLevel 33 = .ok (.bipush 60, 2) := by decide +kernel
theorem dX3_readLevel_35 : decode cX3_readLevel 35 = .ok (.istore_n 3, 1) := by decide +kernel
theorem dX3_readLevel_36 : decode cX3_readLevel 36 = .ok (.iconst 0, 1) := by decide +kernel
theorem dX3_readLevel_37 : decode cX3_readLevel 37 = .ok (.istore 4, 2) := by decide +kernel
theorem dX3_readLevel_39 : decode cX3_readLevel 39 = .ok (.iload 4, 2) := by decide +kernel
theorem dX3_readLevel_41 : decode cX3_readLevel 41 = .ok (.iload_n 3, 1) := by decide +kernel
theorem dX3_readLevel_42 : decode cX3_readLevel 42 = .ok (.if_icmp .ge 62, 3) := by decide +kernel
theorem dX3_readLevel_45 : decode cX3_readLevel 45 = .ok (.aload_n 0, 1) := by decide +kernel
theorem dX3_readLevel_46 : decode cX3_readLevel 46 = .ok (.invokevirtual 56, 3) := by decide +kernel
theorem dX3_readLevel_49 : decode cX3_readLevel 49 = .ok (.invokestatic 59, 3) := by decide +kernel
theorem dX3_readLevel_52 : decode cX3_readLevel 52 = .ok (.iload_n 1, 1) := by decide +kernel
theorem dX3_readLevel_53 : decode cX3_readLevel 53 = .ok (.if_icmp .ne 51, 3) := by decide +kernel
theorem dX3_readLevel_56 : decode cX3_readLevel 56 = .ok (.aload_n 0, 1) := by decide +kernel
theorem dX3_readLevel_57 : decode cX3_readLevel 57 = .ok (.invokevirtual 56, 3) := by decide +kernel
theorem dX3_readLevel_60 : decode cX3_readLevel 60 = .ok (.istore 5, 2) := by decide +kernel
theorem dX3_readLevel_62 : decode cX3_readLevel 62 = .ok (.aload_n 0, 1) := by decide +kernel
theorem dX3_readLevel_63 : decode cX3_readLevel 63 = .ok (.dup, 1) := by decide +kernel
theorem dX3_readLevel_64 : decode cX3_readLevel 64 = .ok (.getfield 34, 3) := by decide +kernel
theorem dX3_readLevel_67 : decode cX3_readLevel 67 = .ok (.iconst 1, 1) := by decide +kernel
theorem dX3_readLevel_68 : decode cX3_readLevel 68 = .ok (.iadd, 1) := by decide +kernel
theorem dX3_readLevel_69 : decode cX3_readLevel 69 = .ok (.putfield 34, 3) := by decide +kernel
theorem dX3_readLevel_72 : decode cX3_readLevel 72 = .ok (.aload_n 0, 1) := by decide +kernel
theorem dX3_readLevel_73 : decode cX3_readLevel 73 = .ok (.iload_n 1, 1) := by decide +kernel
theorem dX3_readLevel_74 : decode cX3_readLevel 74 = .ok (.iconst 1, 1) := by decide +kernel
theorem dX3_readLevel_75 : decode cX3_readLevel 75 = .ok (.iadd, 1) := by decide +kernel
theorem dX3_readLevel_76 : decode cX3_readLevel 76 = .ok (.iload_n 2, 1) := by decide +kernel
theorem dX3_readLevel_77 : decode cX3_readLevel 77 = .ok (.invokevirtual 37, 3) := by decide +kernel
theorem dX3_readLevel_80 : decode cX3_readLevel 80 = .ok (.ifCond .ne 5, 3) := by decide +kernel
theorem dX3_readLevel_83 : decode cX3_readLevel 83 = .ok (.iconst 0, 1) := by decide +kernel
theorem dX3_readLevel_84 : decode cX3_readLevel 84 = .ok (.ireturn, 1) := by decide +kernel
theorem dX3_readLevel_85 : decode cX3_readLevel 85 = .ok (.aload_n 0, 1) := by decide +kernel
theorem dX3_readLevel_86 : decode cX3_readLevel 86 = .ok (.getfield 20, 3) := by decide +kernel
theorem dX3_readLevel_89 : decode cX3_readLevel 89 = .ok (.iload 5, 2) := by decide +kernel
theorem dX3_readLevel_91 : decode cX3_readLevel 91 = .ok (.ineg, 1) := by decide +kernel
theorem dX3_readLevel_92 : decode cX3_readLevel 92 = .ok (.iconst 0, 1) := by decide +kernel
theorem dX3_readLevel_93 : decode cX3_readLevel 93 = .ok (.iconst 0, 1) := by decide +kernel
theorem dX3_readLevel_94 : decode cX3_readLevel 94 = .ok (.invokevirtual 63, 3) := by decide +kernel
theorem dX3_readLevel_97 : decode cX3_readLevel 97 = .ok (.pop, 1) := by decide +kernel
theorem dX3_readLevel_98 : decode cX3_readLevel 98 = .ok (.iinc 4 1, 3) := by decide +kernel
theorem dX3_readLevel_101 : decode cX3_readLevel 101 = .ok (.goto (-62), 3) := by decide +kernel
theorem dX3_readLevel_104 : decode cX3_readLevel 104 = .ok (.iconst 1, 1) := by decide +kernel
theorem dX3_readLevel_105 : decode cX3_readLevel 105 = .ok (.ireturn, 1) := by decide +kernel
theorem dX3_levelOf_0 : decode cX3_levelOf 0 = .ok (.iload_n 0, 1) := by decide +kernel
theorem dX3_levelOf_1 : decode cX3_levelOf 1 = .ok (.lookupswitch 101 #[(37, 99), (38, 93), (42, 99), (43, 97), (45, 97), (47, 99), (60, 95), (61, 95), (62, 95), (124, 91)], 91) := by decide +kernel
theorem dX3_levelOf_92 : decode cX3_levelOf 92 = .ok (.iconst 0, 1) := by decide +kernel
theorem dX3_levelOf_93 : decode cX3_levelOf 93 = .ok (.ireturn, 1) := by decide +kernel
theorem dX3_levelOf_94 : decode cX3_levelOf 94 = .ok (.iconst 1, 1) := by decide +kernel
theorem dX3_levelOf_95 : decode cX3_levelOf 95 = .ok (.ireturn, 1) := by decide +kernel
theorem dX3_levelOf_96 : decode cX3_levelOf 96 = .ok (.iconst 2, 1) := by decide +kernel
theorem dX3_levelOf_97 : decode cX3_levelOf 97 = .ok (.ireturn, 1) := by decide +kernel
theorem dX3_levelOf_98 : decode cX3_levelOf 98 = .ok (.iconst 3, 1) := by decide +kernel
theorem dX3_levelOf_99 : decode cX3_levelOf 99 = .ok (.ireturn, 1) := by decide +kernel
theorem dX3_levelOf_100 : decode cX3_levelOf 100 = .ok (.iconst 4, 1) := by decide +kernel
theorem dX3_levelOf_101 : decode cX3_levelOf 101 = .ok (.ireturn, 1) := by decide +kernel
theorem dX3_levelOf_102 : decode cX3_levelOf 102 = .ok (.iconst (-1), 1) := by decide +kernel
theorem dX3_levelOf_103 : decode cX3_levelOf 103 = .ok (.ireturn, 1) := by decide +kernel
theorem dX3_readValue_0 : decode cX3_readValue 0 = .ok (.aload_n 0, 1) := by decide +kernel
theorem dX3_readValue_1 : decode cX3_readValue 1 = .ok (.invokevirtual 56, 3) := by decide +kernel
theorem dX3_readValue_4 : decode cX3_readValue 4 = .ok (.istore_n 2, 1) := by decide +kernel
theorem dX3_readValue_5 : decode cX3_readValue 5 = .ok (.iload_n 2, 1) := by decide +kernel
theorem dX3_readValue_6 : decode cX3_readValue 6 = .ok (.invokestatic 67, 3) := by decide +kernel
theorem dX3_readValue_9 : decode cX3_readValue 9 = .ok (.ifCond .eq 9, 3) := by decide +kernel
theorem dX3_readValue_12 : decode cX3_readValue 12 = .ok (.aload_n 0, 1) := by decide +kernel
theorem dX3_readValue_13 : decode cX3_readValue 13 = .ok (.invokevirtual 70, 3) := by decide +kernel
theorem dX3_readValue_16 : decode cX3_readValue 16 = .ok (.iconst 1, 1) := by decide +kernel
theorem dX3_readValue_17 : decode cX3_readValue 17 = .ok (.ireturn, 1) := by decide +kernel
theorem dX3_readValue_18 : decode cX3_readValue 18 = .ok (.iload_n 2, 1) := by decide +kernel
theorem dX3_readValue_19 : decode cX3_readValue 19 = .ok (.bipush 33, 2) := by decide +kernel
theorem dX3_readValue_21 : decode cX3_readValue 21 = .ok (.if_icmp .eq 9, 3) := by decide +kernel
theorem dX3_readValue_24 : decode cX3_readValue 24 = .ok (.iload_n 2, 1) := by decide +kernel
theorem dX3_readValue_25 : decode cX3_readValue 25 = .ok (.bipush 40, 2) := by decide +kernel
theorem dX3_readValue_27 : decode cX3_readValue 27 = .ok (.if_icmp .ne 25, 3) := by decide +kernel
theorem dX3_readValue_30 : decode cX3_readValue 30 = .ok (.iload_n 1, 1) := by decide +kernel
theorem dX3_readValue_31 : decode cX3_readValue 31 = .ok (.iconst 5, 1) := by decide +kernel
theorem dX3_readValue_32 : decode cX3_readValue 32 = .ok (.if_icmp .ge 18, 3) := by decide +kernel
theorem dX3_readValue_35 : decode cX3_readValue 35 = .ok (.aload_n 0, 1) := by decide +kernel
theorem dX3_readValue_36 : decode cX3_readValue 36 = .ok (.iload_n 2, 1) := by decide +kernel
theorem dX3_readValue_37 : decode cX3_readValue 37 = .ok (.iload_n 1, 1) := by decide +kernel
theorem dX3_readValue_38 : decode cX3_readValue 38 = .ok (.iconst 1, 1) := by decide +kernel
theorem dX3_readValue_39 : decode cX3_readValue 39 = .ok (.iadd, 1) := by decide +kernel
theorem dX3_readValue_40 : decode cX3_readValue 40 = .ok (.invokevirtual 73, 3) := by decide +kernel
theorem dX3_readValue_43 : decode cX3_readValue 43 = .ok (.ifCond .eq 7, 3) := by decide +kernel
theorem dX3_readValue_46 : decode cX3_readValue 46 = .ok (.iconst 1, 1) := by decide +kernel
theorem dX3_readValue_47 : decode cX3_readValue 47 = .ok (.goto 4, 3) := by decide +kernel
theorem dX3_readValue_50 : decode cX3_readValue 50 = .ok (.iconst 0, 1) := by decide +kernel
theorem dX3_readValue_51 : decode cX3_readValue 51 = .ok (.ireturn, 1) := by decide +kernel
theorem dX3_readValue_52 : decode cX3_readValue 52 = .ok (.aload_n 0, 1) := by decide +kernel
theorem dX3_readValue_53 : decode cX3_readValue 53 = .ok (.iload_n 2, 1) := by decide +kernel
theorem dX3_readValue_54 : decode cX3_readValue 54 = .ok (.invokevirtual 76, 3) := by decide +kernel
theorem dX3_readValue_57 : decode cX3_readValue 57 = .ok (.istore_n 3, 1) := by decide +kernel
theorem dX3_readValue_58 : decode cX3_readValue 58 = .ok (.iload_n 3, 1) := by decide +kernel
theorem dX3_readValue_59 : decode cX3_readValue 59 = .ok (.ifCond .ge 5, 3) := by decide +kernel
theorem dX3_readValue_62 : decode cX3_readValue 62 = .ok (.iconst 0, 1) := by decide +kernel
theorem dX3_readValue_63 : decode cX3_readValue 63 = .ok (.ireturn, 1) := by decide +kernel
theorem dX3_readValue_64 : decode cX3_readValue 64 = .ok (.aload_n 0, 1) := by decide +kernel
theorem dX3_readValue_65 : decode cX3_readValue 65 = .ok (.dup, 1) := by decide +kernel
theorem dX3_readValue_66 : decode cX3_readValue 66 = .ok (.getfield 34, 3) := by decide +kernel
theorem dX3_readValue_69 : decode cX3_readValue 69 = .ok (.iconst 1, 1) := by decide +kernel
theorem dX3_readValue_70 : decode cX3_readValue 70 = .ok (.iadd, 1) := by decide +kernel
theorem dX3_readValue_71 : decode cX3_readValue 71 = .ok (.putfield 34, 3) := by decide +kernel
theorem dX3_readValue_74 : decode cX3_readValue 74 = .ok (.aload_n 0, 1) := by decide +kernel
theorem dX3_readValue_75 : decode cX3_readValue 75 = .ok (.getfield 20, 3) := by decide +kernel
theorem dX3_readValue_78 : decode cX3_readValue 78 = .ok (.iconst (-1), 1) := by decide +kernel
theorem dX3_readValue_79 : decode cX3_readValue 79 = .ok (.iload_n 3, 1) := by decide +kernel
theorem dX3_readValue_80 : decode cX3_readValue 80 = .ok (.isub, 1) := by decide +kernel
theorem dX3_readValue_81 : decode cX3_readValue 81 = .ok (.iconst 0, 1) := by decide +kernel
theorem dX3_readValue_82 : decode cX3_readValue 82 = .ok (.iconst 0, 1) := by decide +kernel
theorem dX3_readValue_83 : decode cX3_readValue 83 = .ok (.invokevirtual 63, 3) := by decide +kernel
theorem dX3_readValue_86 : decode cX3_readValue 86 = .ok (.pop, 1) := by decide +kernel
theorem dX3_readValue_87 : decode cX3_readValue 87 = .ok (.iconst 1, 1) := by decide +kernel
theorem dX3_readValue_88 : decode cX3_readValue 88 = .ok (.ireturn, 1) := by decide +kernel
theorem dX3_readOpened_0 : decode cX3_readOpened 0 = .ok (.aload_n 0, 1) := by decide +kernel
theorem dX3_readOpened_1 : decode cX3_readOpened 1 = .ok (.dup, 1) := by decide +kernel
theorem dX3_readOpened_2 : decode cX3_readOpened 2 = .ok (.getfield 34, 3) := by decide +kernel
theorem dX3_readOpened_5 : decode cX3_readOpened 5 = .ok (.iconst 1, 1) := by decide +kernel
theorem dX3_readOpened_6 : decode cX3_readOpened 6 = .ok (.iadd, 1) := by decide +kernel
theorem dX3_readOpened_7 : decode cX3_readOpened 7 = .ok (.putfield 34, 3) := by decide +kernel
theorem dX3_readOpened_10 : decode cX3_readOpened 10 = .ok (.iload_n 1, 1) := by decide +kernel
theorem dX3_readOpened_11 : decode cX3_readOpened 11 = .ok (.bipush 33, 2) := by decide +kernel
theorem dX3_readOpened_13 : decode cX3_readOpened 13 = .ok (.if_icmp .ne 27, 3) := by decide +kernel
theorem dX3_readOpened_16 : decode cX3_readOpened 16 = .ok (.aload_n 0, 1) := by decide +kernel
theorem dX3_readOpened_17 : decode cX3_readOpened 17 = .ok (.iload_n 2, 1) := by decide +kernel
theorem dX3_readOpened_18 : decode cX3_readOpened 18 = .ok (.invokevirtual 53, 3) := by decide +kernel
theorem dX3_readOpened_21 : decode cX3_readOpened 21 = .ok (.ifCond .ne 5, 3) := by decide +kernel
theorem dX3_readOpened_24 : decode cX3_readOpened 24 = .ok (.iconst 0, 1) := by decide +kernel
theorem dX3_readOpened_25 : decode cX3_readOpened 25 = .ok (.ireturn, 1) := by decide +kernel
theorem dX3_readOpened_26 : decode cX3_readOpened 26 = .ok (.aload_n 0, 1) := by decide +kernel
theorem dX3_readOpened_27 : decode cX3_readOpened 27 = .ok (.getfield 20, 3) := by decide +kernel
theorem dX3_readOpened_30 : decode cX3_readOpened 30 = .ok (.iload_n 1, 1) := by decide +kernel
theorem dX3_readOpened_31 : decode cX3_readOpened 31 = .ok (.ineg, 1) := by decide +kernel
theorem dX3_readOpened_32 : decode cX3_readOpened 32 = .ok (.iconst 0, 1) := by decide +kernel
theorem dX3_readOpened_33 : decode cX3_readOpened 33 = .ok (.iconst 0, 1) := by decide +kernel
theorem dX3_readOpened_34 : decode cX3_readOpened 34 = .ok (.invokevirtual 63, 3) := by decide +kernel
theorem dX3_readOpened_37 : decode cX3_readOpened 37 = .ok (.pop, 1) := by decide +kernel
theorem dX3_readOpened_38 : decode cX3_readOpened 38 = .ok (.iconst 1, 1) := by decide +kernel
theorem dX3_readOpened_39 : decode cX3_readOpened 39 = .ok (.ireturn, 1) := by decide +kernel
theorem dX3_readOpened_40 : decode cX3_readOpened 40 = .ok (.aload_n 0, 1) := by decide +kernel
theorem dX3_readOpened_41 : decode cX3_readOpened 41 = .ok (.iconst 0, 1) := by decide +kernel
theorem dX3_readOpened_42 : decode cX3_readOpened 42 = .ok (.iload_n 2, 1) := by decide +kernel
theorem dX3_readOpened_43 : decode cX3_readOpened 43 = .ok (.invokevirtual 37, 3) := by decide +kernel
theorem dX3_readOpened_46 : decode cX3_readOpened 46 = .ok (.ifCond .eq 12, 3) := by decide +kernel
theorem dX3_readOpened_49 : decode cX3_readOpened 49 = .ok (.aload_n 0, 1) := by decide +kernel
theorem dX3_readOpened_50 : decode cX3_readOpened 50 = .ok (.invokevirtual 56, 3) := by decide +kernel
theorem dX3_readOpened_53 : decode cX3_readOpened 53 = .ok (.bipush 41, 2) := by decide +kernel
theorem dX3_readOpened_55 : decode cX3_readOpened 55 = .ok (.if_icmp .eq 5, 3) := by decide +kernel
theorem dX3_readOpened_58 : decode cX3_readOpened 58 = .ok (.iconst 0, 1) := by decide +kernel
theorem dX3_readOpened_59 : decode cX3_readOpened 59 = .ok (.ireturn, 1) := by decide +kernel
theorem dX3_readOpened_60 : decode cX3_readOpened 60 = .ok (.aload_n 0, 1) := by decide +kernel
theorem dX3_readOpened_61 : decode cX3_readOpened 61 = .ok (.dup, 1) := by decide +kernel
theorem dX3_readOpened_62 : decode cX3_readOpened 62 = .ok (.getfield 34, 3) := by decide +kernel
theorem dX3_readOpened_65 : decode cX3_readOpened 65 = .ok (.iconst 1, 1) := by decide +kernel
theorem dX3_readOpened_66 : decode cX3_readOpened 66 = .ok (.iadd, 1) := by decide +kernel
theorem dX3_readOpened_67 : decode cX3_readOpened 67 = .ok (.putfield 34, 3) := by decide +kernel
theorem dX3_readOpened_70 : decode cX3_readOpened 70 = .ok (.iconst 1, 1) := by decide +kernel
theorem dX3_readOpened_71 : decode cX3_readOpened 71 = .ok (.ireturn, 1) := by decide +kernel
theorem dX3_readNumber_0 : decode cX3_readNumber 0 = .ok (.iconst 0, 1) := by decide +kernel
theorem dX3_readNumber_1 : decode cX3_readNumber 1 = .ok (.istore_n 1, 1) := by decide +kernel
theorem dX3_readNumber_2 : decode cX3_readNumber 2 = .ok (.iconst 0, 1) := by decide +kernel
theorem dX3_readNumber_3 : decode cX3_readNumber 3 = .ok (.istore_n 2, 1) := by decide +kernel
theorem dX3_readNumber_4 : decode cX3_readNumber 4 = .ok (.iload_n 2, 1) := by decide +kernel
theorem dX3_readNumber_5 : decode cX3_readNumber 5 = .ok (.iconst 4, 1) := by decide +kernel
theorem dX3_readNumber_6 : decode cX3_readNumber 6 = .ok (.if_icmp .ge 42, 3) := by decide +kernel
theorem dX3_readNumber_9 : decode cX3_readNumber 9 = .ok (.aload_n 0, 1) := by decide +kernel
theorem dX3_readNumber_10 : decode cX3_readNumber 10 = .ok (.invokevirtual 56, 3) := by decide +kernel
theorem dX3_readNumber_13 : decode cX3_readNumber 13 = .ok (.invokestatic 67, 3) := by decide +kernel
theorem dX3_readNumber_16 : decode cX3_readNumber 16 = .ok (.ifCond .eq 32, 3) := by decide +kernel
theorem dX3_readNumber_19 : decode cX3_readNumber 19 = .ok (.iload_n 1, 1) := by decide +kernel
theorem dX3_readNumber_20 : decode cX3_readNumber 20 = .ok (.bipush 10, 2) := by decide +kernel
theorem dX3_readNumber_22 : decode cX3_readNumber 22 = .ok (.imul, 1) := by decide +kernel
theorem dX3_readNumber_23 : decode cX3_readNumber 23 = .ok (.aload_n 0, 1) := by decide +kernel
theorem dX3_readNumber_24 : decode cX3_readNumber 24 = .ok (.invokevirtual 56, 3) := by decide +kernel
theorem dX3_readNumber_27 : decode cX3_readNumber 27 = .ok (.iadd, 1) := by decide +kernel
theorem dX3_readNumber_28 : decode cX3_readNumber 28 = .ok (.bipush 48, 2) := by decide +kernel
theorem dX3_readNumber_30 : decode cX3_readNumber 30 = .ok (.isub, 1) := by decide +kernel
theorem dX3_readNumber_31 : decode cX3_readNumber 31 = .ok (.istore_n 1, 1) := by decide +kernel
theorem dX3_readNumber_32 : decode cX3_readNumber 32 = .ok (.aload_n 0, 1) := by decide +kernel
theorem dX3_readNumber_33 : decode cX3_readNumber 33 = .ok (.dup, 1) := by decide +kernel
theorem dX3_readNumber_34 : decode cX3_readNumber 34 = .ok (.getfield 34, 3) := by decide +kernel
theorem dX3_readNumber_37 : decode cX3_readNumber 37 = .ok (.iconst 1, 1) := by decide +kernel
theorem dX3_readNumber_38 : decode cX3_readNumber 38 = .ok (.iadd, 1) := by decide +kernel
theorem dX3_readNumber_39 : decode cX3_readNumber 39 = .ok (.putfield 34, 3) := by decide +kernel
theorem dX3_readNumber_42 : decode cX3_readNumber 42 = .ok (.iinc 2 1, 3) := by decide +kernel
theorem dX3_readNumber_45 : decode cX3_readNumber 45 = .ok (.goto (-41), 3) := by decide +kernel
theorem dX3_readNumber_48 : decode cX3_readNumber 48 = .ok (.aload_n 0, 1) := by decide +kernel
theorem dX3_readNumber_49 : decode cX3_readNumber 49 = .ok (.getfield 20, 3) := by decide +kernel
theorem dX3_readNumber_52 : decode cX3_readNumber 52 = .ok (.iload_n 1, 1) := by decide +kernel
theorem dX3_readNumber_53 : decode cX3_readNumber 53 = .ok (.iconst 0, 1) := by decide +kernel
theorem dX3_readNumber_54 : decode cX3_readNumber 54 = .ok (.iconst 0, 1) := by decide +kernel
theorem dX3_readNumber_55 : decode cX3_readNumber 55 = .ok (.invokevirtual 63, 3) := by decide +kernel
theorem dX3_readNumber_58 : decode cX3_readNumber 58 = .ok (.pop, 1) := by decide +kernel
theorem dX3_readNumber_59 : decode cX3_readNumber 59 = .ok (.return_, 1) := by decide +kernel
theorem dX3_isDigit_0 : decode cX3_isDigit 0 = .ok (.iload_n 0, 1) := by decide +kernel
theorem dX3_isDigit_1 : decode cX3_isDigit 1 = .ok (.bipush 48, 2) := by decide +kernel
theorem dX3_isDigit_3 : decode cX3_isDigit 3 = .ok (.if_icmp .lt 13, 3) := by decide +kernel
theorem dX3_isDigit_6 : decode cX3_isDigit 6 = .ok (.iload_n 0, 1) := by decide +kernel
theorem dX3_isDigit_7 : decode cX3_isDigit 7 = .ok (.bipush 57, 2) := by decide +kernel
theorem dX3_isDigit_9 : decode cX3_isDigit 9 = .ok (.if_icmp .gt 7, 3) := by decide +kernel
theorem dX3_isDigit_12 : decode cX3_isDigit 12 = .ok (.iconst 1, 1) := by decide +kernel
theorem dX3_isDigit_13 : decode cX3_isDigit 13 = .ok (.goto 4, 3) := by decide +kernel
theorem dX3_isDigit_16 : decode cX3_isDigit 16 = .ok (.iconst 0, 1) := by decide +kernel
theorem dX3_isDigit_17 : decode cX3_isDigit 17 = .ok (.ireturn, 1) := by decide +kernel
theorem dX3_nameOf_0 : decode cX3_nameOf 0 = .ok (.iconst 0, 1) := by decide +kernel
theorem dX3_nameOf_1 : decode cX3_nameOf 1 = .ok (.istore_n 2, 1) := by decide +kernel
theorem dX3_nameOf_2 : decode cX3_nameOf 2 = .ok (.iload_n 2, 1) := by decide +kernel
theorem dX3_nameOf_3 : decode cX3_nameOf 3 = .ok (.iconst 3, 1) := by decide +kernel
theorem dX3_nameOf_4 : decode cX3_nameOf 4 = .ok (.if_icmp .ge 41, 3) := by decide +kernel
theorem dX3_nameOf_7 : decode cX3_nameOf 7 = .ok (.aload_n 0, 1) := by decide +kernel
theorem dX3_nameOf_8 : decode cX3_nameOf 8 = .ok (.getfield 30, 3) := by decide +kernel
theorem dX3_nameOf_11 : decode cX3_nameOf 11 = .ok (.iconst 3, 1) := by decide +kernel
theorem dX3_nameOf_12 : decode cX3_nameOf 12 = .ok (.imul, 1) := by decide +kernel
theorem dX3_nameOf_13 : decode cX3_nameOf 13 = .ok (.iload_n 2, 1) := by decide +kernel
theorem dX3_nameOf_14 : decode cX3_nameOf 14 = .ok (.iadd, 1) := by decide +kernel
theorem dX3_nameOf_15 : decode cX3_nameOf 15 = .ok (.istore_n 3, 1) := by decide +kernel
theorem dX3_nameOf_16 : decode cX3_nameOf 16 = .ok (.iload_n 3, 1) := by decide +kernel
theorem dX3_nameOf_17 : decode cX3_nameOf 17 = .ok (.ifCond .lt 22, 3) := by decide +kernel
theorem dX3_nameOf_20 : decode cX3_nameOf 20 = .ok (.iload_n 3, 1) := by decide +kernel
theorem dX3_nameOf_21 : decode cX3_nameOf 21 = .ok (.getstatic 79, 3) := by decide +kernel
theorem dX3_nameOf_24 : decode cX3_nameOf 24 = .ok (.arraylength, 1) := by decide +kernel
theorem dX3_nameOf_25 : decode cX3_nameOf 25 = .ok (.if_icmp .ge 14, 3) := by decide +kernel
theorem dX3_nameOf_28 : decode cX3_nameOf 28 = .ok (.getstatic 79, 3) := by decide +kernel
theorem dX3_nameOf_31 : decode cX3_nameOf 31 = .ok (.iload_n 3, 1) := by decide +kernel
theorem dX3_nameOf_32 : decode cX3_nameOf 32 = .ok (.iaload, 1) := by decide +kernel
theorem dX3_nameOf_33 : decode cX3_nameOf 33 = .ok (.iload_n 1, 1) := by decide +kernel
theorem dX3_nameOf_34 : decode cX3_nameOf 34 = .ok (.if_icmp .ne 5, 3) := by decide +kernel
theorem dX3_nameOf_37 : decode cX3_nameOf 37 = .ok (.iload_n 2, 1) := by decide +kernel
theorem dX3_nameOf_38 : decode cX3_nameOf 38 = .ok (.ireturn, 1) := by decide +kernel
theorem dX3_nameOf_39 : decode cX3_nameOf 39 = .ok (.iinc 2 1, 3) := by decide +kernel
theorem dX3_nameOf_42 : decode cX3_nameOf 42 = .ok (.goto (-40), 3) := by decide +kernel
theorem dX3_nameOf_45 : decode cX3_nameOf 45 = .ok (.iconst (-1), 1) := by decide +kernel
theorem dX3_nameOf_46 : decode cX3_nameOf 46 = .ok (.ireturn, 1) := by decide +kernel
theorem dX4_init_0 : decode cX4_init 0 = .ok (.aload_n 0, 1) := by decide +kernel
theorem dX4_init_1 : decode cX4_init 1 = .ok (.invokespecial 1, 3) := by decide +kernel
theorem dX4_init_4 : decode cX4_init 4 = .ok (.aload_n 0, 1) := by decide +kernel
theorem dX4_init_5 : decode cX4_init 5 = .ok (.iconst 0, 1) := by decide +kernel
theorem dX4_init_6 : decode cX4_init 6 = .ok (.iload_n 1, 1) := by decide +kernel
theorem dX4_init_7 : decode cX4_init 7 = .ok (.invokestatic 7, 3) := by decide +kernel
theorem dX4_init_10 : decode cX4_init 10 = .ok (.putfield 13, 3) := by decide +kernel
theorem dX4_init_13 : decode cX4_init 13 = .ok (.aload_n 0, 1) := by decide +kernel
theorem dX4_init_14 : decode cX4_init 14 = .ok (.iconst 1, 1) := by decide +kernel
theorem dX4_init_15 : decode cX4_init 15 = .ok (.iload_n 2, 1) := by decide +kernel
theorem dX4_init_16 : decode cX4_init 16 = .ok (.invokestatic 7, 3) := by decide +kernel
theorem dX4_init_19 : decode cX4_init 19 = .ok (.putfield 19, 3) := by decide +kernel
theorem dX4_init_22 : decode cX4_init 22 = .ok (.aload_n 0, 1) := by decide +kernel
theorem dX4_init_23 : decode cX4_init 23 = .ok (.iconst 0, 1) := by decide +kernel
theorem dX4_init_24 : decode cX4_init 24 = .ok (.aload_n 0, 1) := by decide +kernel
theorem dX4_init_25 : decode cX4_init 25 = .ok (.getfield 13, 3) := by decide +kernel
theorem dX4_init_28 : decode cX4_init 28 = .ok (.aload_n 0, 1) := by decide +kernel
theorem dX4_init_29 : decode cX4_init 29 = .ok (.getfield 19, 3) := by decide +kernel
theorem dX4_init_32 : decode cX4_init 32 = .ok (.imul, 1) := by decide +kernel
theorem dX4_init_33 : decode cX4_init 33 = .ok (.invokestatic 7, 3) := by decide +kernel
theorem dX4_init_36 : decode cX4_init 36 = .ok (.newarray .int, 2) := by decide +kernel
theorem dX4_init_38 : decode cX4_init 38 = .ok (.putfield 22, 3) := by decide +kernel
theorem dX4_init_41 : decode cX4_init 41 = .ok (.return_, 1) := by decide +kernel
theorem dX4_size_0 : decode cX4_size 0 = .ok (.aload_n 0, 1) := by decide +kernel
theorem dX4_size_1 : decode cX4_size 1 = .ok (.getfield 26, 3) := by decide +kernel
theorem dX4_size_4 : decode cX4_size 4 = .ok (.ireturn, 1) := by decide +kernel
theorem dX4_room_0 : decode cX4_room 0 = .ok (.aload_n 0, 1) := by decide +kernel
theorem dX4_room_1 : decode cX4_room 1 = .ok (.getfield 13, 3) := by decide +kernel
theorem dX4_room_4 : decode cX4_room 4 = .ok (.aload_n 0, 1) := by decide +kernel
theorem dX4_room_5 : decode cX4_room 5 = .ok (.getfield 26, 3) := by decide +kernel
theorem dX4_room_8 : decode cX4_room 8 = .ok (.isub, 1) := by decide +kernel
theorem dX4_room_9 : decode cX4_room 9 = .ok (.ireturn, 1) := by decide +kernel
theorem dX4_has_0 : decode cX4_has 0 = .ok (.iload_n 1, 1) := by decide +kernel
theorem dX4_has_1 : decode cX4_has 1 = .ok (.ifCond .lt 15, 3) := by decide +kernel
theorem dX4_has_4 : decode cX4_has 4 = .ok (.iload_n 1, 1) := by decide +kernel
theorem dX4_has_5 : decode cX4_has 5 = .ok (.aload_n 0, 1) := by decide +kernel
theorem dX4_has_6 : decode cX4_has 6 = .ok (.getfield 26, 3) := by decide +kernel
theorem dX4_has_9 : decode cX4_has 9 = .ok (.if_icmp .ge 7, 3) := by decide +kernel
theorem dX4_has_12 : decode cX4_has 12 = .ok (.iconst 1, 1) := by decide +kernel
theorem dX4_has_13 : decode cX4_has 13 = .ok (.goto 4, 3) := by decide +kernel
theorem dX4_has_16 : decode cX4_has 16 = .ok (.iconst 0, 1) := by decide +kernel
theorem dX4_has_17 : decode cX4_has 17 = .ok (.ireturn, 1) := by decide +kernel
theorem dX4_at_0 : decode cX4_at 0 = .ok (.iload_n 1, 1) := by decide +kernel
theorem dX4_at_1 : decode cX4_at 1 = .ok (.ifCond .lt 27, 3) := by decide +kernel
theorem dX4_at_4 : decode cX4_at 4 = .ok (.iload_n 1, 1) := by decide +kernel
theorem dX4_at_5 : decode cX4_at 5 = .ok (.aload_n 0, 1) := by decide +kernel
theorem dX4_at_6 : decode cX4_at 6 = .ok (.getfield 26, 3) := by decide +kernel
theorem dX4_at_9 : decode cX4_at 9 = .ok (.if_icmp .ge 19, 3) := by decide +kernel
theorem dX4_at_12 : decode cX4_at 12 = .ok (.iload_n 2, 1) := by decide +kernel
theorem dX4_at_13 : decode cX4_at 13 = .ok (.ifCond .lt 15, 3) := by decide +kernel
theorem dX4_at_16 : decode cX4_at 16 = .ok (.iload_n 2, 1) := by decide +kernel
theorem dX4_at_17 : decode cX4_at 17 = .ok (.aload_n 0, 1) := by decide +kernel
theorem dX4_at_18 : decode cX4_at 18 = .ok (.getfield 19, 3) := by decide +kernel
theorem dX4_at_21 : decode cX4_at 21 = .ok (.if_icmp .ge 7, 3) := by decide +kernel
theorem dX4_at_24 : decode cX4_at 24 = .ok (.iconst 1, 1) := by decide +kernel
theorem dX4_at_25 : decode cX4_at 25 = .ok (.goto 4, 3) := by decide +kernel
theorem dX4_at_28 : decode cX4_at 28 = .ok (.iconst 0, 1) := by decide +kernel
theorem dX4_at_29 : decode cX4_at 29 = .ok (.istore_n 3, 1) := by decide +kernel
theorem dX4_at_30 : decode cX4_at 30 = .ok (.iload_n 3, 1) := by decide +kernel
theorem dX4_at_31 : decode cX4_at 31 = .ok (.ifCond .eq 14, 3) := by decide +kernel
theorem dX4_at_34 : decode cX4_at 34 = .ok (.iload_n 1, 1) := by decide +kernel
theorem dX4_at_35 : decode cX4_at 35 = .ok (.aload_n 0, 1) := by decide +kernel
theorem dX4_at_36 : decode cX4_at 36 = .ok (.getfield 19, 3) := by decide +kernel
theorem dX4_at_39 : decode cX4_at 39 = .ok (.imul, 1) := by decide +kernel
theorem dX4_at_40 : decode cX4_at 40 = .ok (.iload_n 2, 1) := by decide +kernel
theorem dX4_at_41 : decode cX4_at 41 = .ok (.iadd, 1) := by decide +kernel
theorem dX4_at_42 : decode cX4_at 42 = .ok (.goto 4, 3) := by decide +kernel
theorem dX4_at_45 : decode cX4_at 45 = .ok (.iconst (-1), 1) := by decide +kernel
theorem dX4_at_46 : decode cX4_at 46 = .ok (.istore 4, 2) := by decide +kernel
theorem dX4_at_48 : decode cX4_at 48 = .ok (.iload 4, 2) := by decide +kernel
theorem dX4_at_50 : decode cX4_at 50 = .ok (.ifCond .lt 23, 3) := by decide +kernel
theorem dX4_at_53 : decode cX4_at 53 = .ok (.iload 4, 2) := by decide +kernel
theorem dX4_at_55 : decode cX4_at 55 = .ok (.aload_n 0, 1) := by decide +kernel
theorem dX4_at_56 : decode cX4_at 56 = .ok (.getfield 22, 3) := by decide +kernel
theorem dX4_at_59 : decode cX4_at 59 = .ok (.arraylength, 1) := by decide +kernel
theorem dX4_at_60 : decode cX4_at 60 = .ok (.if_icmp .ge 13, 3) := by decide +kernel
theorem dX4_at_63 : decode cX4_at 63 = .ok (.aload_n 0, 1) := by decide +kernel
theorem dX4_at_64 : decode cX4_at 64 = .ok (.getfield 22, 3) := by decide +kernel
theorem dX4_at_67 : decode cX4_at 67 = .ok (.iload 4, 2) := by decide +kernel
theorem dX4_at_69 : decode cX4_at 69 = .ok (.iaload, 1) := by decide +kernel
theorem dX4_at_70 : decode cX4_at 70 = .ok (.goto 4, 3) := by decide +kernel
theorem dX4_at_73 : decode cX4_at 73 = .ok (.iconst 0, 1) := by decide +kernel
theorem dX4_at_74 : decode cX4_at 74 = .ok (.ireturn, 1) := by decide +kernel
theorem dX4_append_0 : decode cX4_append 0 = .ok (.aload_n 0, 1) := by decide +kernel
theorem dX4_append_1 : decode cX4_append 1 = .ok (.invokevirtual 29, 3) := by decide +kernel
theorem dX4_append_4 : decode cX4_append 4 = .ok (.iconst 1, 1) := by decide +kernel
theorem dX4_append_5 : decode cX4_append 5 = .ok (.if_icmp .ge 5, 3) := by decide +kernel
theorem dX4_append_8 : decode cX4_append 8 = .ok (.iconst (-1), 1) := by decide +kernel
theorem dX4_append_9 : decode cX4_append 9 = .ok (.ireturn, 1) := by decide +kernel
theorem dX4_append_10 : decode cX4_append 10 = .ok (.aload_n 0, 1) := by decide +kernel
theorem dX4_append_11 : decode cX4_append 11 = .ok (.iconst 0, 1) := by decide +kernel
theorem dX4_append_12 : decode cX4_append 12 = .ok (.iload_n 1, 1) := by decide +kernel
theorem dX4_append_13 : decode cX4_append 13 = .ok (.invokevirtual 33, 3) := by decide +kernel
theorem dX4_append_16 : decode cX4_append 16 = .ok (.aload_n 0, 1) := by decide +kernel
theorem dX4_append_17 : decode cX4_append 17 = .ok (.iconst 1, 1) := by decide +kernel
theorem dX4_append_18 : decode cX4_append 18 = .ok (.iload_n 2, 1) := by decide +kernel
theorem dX4_append_19 : decode cX4_append 19 = .ok (.invokevirtual 33, 3) := by decide +kernel
theorem dX4_append_22 : decode cX4_append 22 = .ok (.aload_n 0, 1) := by decide +kernel
theorem dX4_append_23 : decode cX4_append 23 = .ok (.iconst 2, 1) := by decide +kernel
theorem dX4_append_24 : decode cX4_append 24 = .ok (.iload_n 3, 1) := by decide +kernel
theorem dX4_append_25 : decode cX4_append 25 = .ok (.invokevirtual 33, 3) := by decide +kernel
theorem dX4_append_28 : decode cX4_append 28 = .ok (.aload_n 0, 1) := by decide +kernel
theorem dX4_append_29 : decode cX4_append 29 = .ok (.dup, 1) := by decide +kernel
theorem dX4_append_30 : decode cX4_append 30 = .ok (.getfield 26, 3) := by decide +kernel
theorem dX4_append_33 : decode cX4_append 33 = .ok (.iconst 1, 1) := by decide +kernel
theorem dX4_append_34 : decode cX4_append 34 = .ok (.iadd, 1) := by decide +kernel
theorem dX4_append_35 : decode cX4_append 35 = .ok (.putfield 26, 3) := by decide +kernel
theorem dX4_append_38 : decode cX4_append 38 = .ok (.aload_n 0, 1) := by decide +kernel
theorem dX4_append_39 : decode cX4_append 39 = .ok (.getfield 26, 3) := by decide +kernel
theorem dX4_append_42 : decode cX4_append 42 = .ok (.iconst 1, 1) := by decide +kernel
theorem dX4_append_43 : decode cX4_append 43 = .ok (.isub, 1) := by decide +kernel
theorem dX4_append_44 : decode cX4_append 44 = .ok (.ireturn, 1) := by decide +kernel
theorem dX4_write_0 : decode cX4_write 0 = .ok (.aload_n 0, 1) := by decide +kernel
theorem dX4_write_1 : decode cX4_write 1 = .ok (.getfield 26, 3) := by decide +kernel
theorem dX4_write_4 : decode cX4_write 4 = .ok (.aload_n 0, 1) := by decide +kernel
theorem dX4_write_5 : decode cX4_write 5 = .ok (.getfield 19, 3) := by decide +kernel
theorem dX4_write_8 : decode cX4_write 8 = .ok (.imul, 1) := by decide +kernel
theorem dX4_write_9 : decode cX4_write 9 = .ok (.iload_n 1, 1) := by decide +kernel
theorem dX4_write_10 : decode cX4_write 10 = .ok (.iadd, 1) := by decide +kernel
theorem dX4_write_11 : decode cX4_write 11 = .ok (.istore_n 3, 1) := by decide +kernel
theorem dX4_write_12 : decode cX4_write 12 = .ok (.iload_n 1, 1) := by decide +kernel
theorem dX4_write_13 : decode cX4_write 13 = .ok (.aload_n 0, 1) := by decide +kernel
theorem dX4_write_14 : decode cX4_write 14 = .ok (.getfield 19, 3) := by decide +kernel
theorem dX4_write_17 : decode cX4_write 17 = .ok (.if_icmp .ge 23, 3) := by decide +kernel
theorem dX4_write_20 : decode cX4_write 20 = .ok (.iload_n 3, 1) := by decide +kernel
theorem dX4_write_21 : decode cX4_write 21 = .ok (.ifCond .lt 19, 3) := by decide +kernel
theorem dX4_write_24 : decode cX4_write 24 = .ok (.iload_n 3, 1) := by decide +kernel
theorem dX4_write_25 : decode cX4_write 25 = .ok (.aload_n 0, 1) := by decide +kernel
theorem dX4_write_26 : decode cX4_write 26 = .ok (.getfield 22, 3) := by decide +kernel
theorem dX4_write_29 : decode cX4_write 29 = .ok (.arraylength, 1) := by decide +kernel
theorem dX4_write_30 : decode cX4_write 30 = .ok (.if_icmp .ge 10, 3) := by decide +kernel
theorem dX4_write_33 : decode cX4_write 33 = .ok (.aload_n 0, 1) := by decide +kernel
theorem dX4_write_34 : decode cX4_write 34 = .ok (.getfield 22, 3) := by decide +kernel
theorem dX4_write_37 : decode cX4_write 37 = .ok (.iload_n 3, 1) := by decide +kernel
theorem dX4_write_38 : decode cX4_write 38 = .ok (.iload_n 2, 1) := by decide +kernel
theorem dX4_write_39 : decode cX4_write 39 = .ok (.iastore, 1) := by decide +kernel
theorem dX4_write_40 : decode cX4_write 40 = .ok (.return_, 1) := by decide +kernel
theorem dX4_clear_0 : decode cX4_clear 0 = .ok (.aload_n 0, 1) := by decide +kernel
theorem dX4_clear_1 : decode cX4_clear 1 = .ok (.iconst 0, 1) := by decide +kernel
theorem dX4_clear_2 : decode cX4_clear 2 = .ok (.putfield 26, 3) := by decide +kernel
theorem dX4_clear_5 : decode cX4_clear 5 = .ok (.return_, 1) := by decide +kernel
theorem dX4_copyFrom_0 : decode cX4_copyFrom 0 = .ok (.aload_n 1, 1) := by decide +kernel
theorem dX4_copyFrom_1 : decode cX4_copyFrom 1 = .ok (.getfield 22, 3) := by decide +kernel
theorem dX4_copyFrom_4 : decode cX4_copyFrom 4 = .ok (.arraylength, 1) := by decide +kernel
theorem dX4_copyFrom_5 : decode cX4_copyFrom 5 = .ok (.aload_n 0, 1) := by decide +kernel
theorem dX4_copyFrom_6 : decode cX4_copyFrom 6 = .ok (.getfield 22, 3) := by decide +kernel
theorem dX4_copyFrom_9 : decode cX4_copyFrom 9 = .ok (.arraylength, 1) := by decide +kernel
theorem dX4_copyFrom_10 : decode cX4_copyFrom 10 = .ok (.if_icmp .eq 4, 3) := by decide +kernel
theorem dX4_copyFrom_13 : decode cX4_copyFrom 13 = .ok (.return_, 1) := by decide +kernel
theorem dX4_copyFrom_14 : decode cX4_copyFrom 14 = .ok (.aload_n 1, 1) := by decide +kernel
theorem dX4_copyFrom_15 : decode cX4_copyFrom 15 = .ok (.getfield 22, 3) := by decide +kernel
theorem dX4_copyFrom_18 : decode cX4_copyFrom 18 = .ok (.iconst 0, 1) := by decide +kernel
theorem dX4_copyFrom_19 : decode cX4_copyFrom 19 = .ok (.aload_n 0, 1) := by decide +kernel
theorem dX4_copyFrom_20 : decode cX4_copyFrom 20 = .ok (.getfield 22, 3) := by decide +kernel
theorem dX4_copyFrom_23 : decode cX4_copyFrom 23 = .ok (.iconst 0, 1) := by decide +kernel
theorem dX4_copyFrom_24 : decode cX4_copyFrom 24 = .ok (.aload_n 0, 1) := by decide +kernel
theorem dX4_copyFrom_25 : decode cX4_copyFrom 25 = .ok (.getfield 22, 3) := by decide +kernel
theorem dX4_copyFrom_28 : decode cX4_copyFrom 28 = .ok (.arraylength, 1) := by decide +kernel
theorem dX4_copyFrom_29 : decode cX4_copyFrom 29 = .ok (.invokestatic 37, 3) := by decide +kernel
theorem dX4_copyFrom_32 : decode cX4_copyFrom 32 = .ok (.aload_n 0, 1) := by decide +kernel
theorem dX4_copyFrom_33 : decode cX4_copyFrom 33 = .ok (.aload_n 1, 1) := by decide +kernel
theorem dX4_copyFrom_34 : decode cX4_copyFrom 34 = .ok (.getfield 26, 3) := by decide +kernel
theorem dX4_copyFrom_37 : decode cX4_copyFrom 37 = .ok (.putfield 26, 3) := by decide +kernel
theorem dX4_copyFrom_40 : decode cX4_copyFrom 40 = .ok (.return_, 1) := by decide +kernel
theorem dX5_init_0 : decode cX5_init 0 = .ok (.aload_n 0, 1) := by decide +kernel
theorem dX5_init_1 : decode cX5_init 1 = .ok (.invokespecial 3, 3) := by decide +kernel
theorem dX5_init_4 : decode cX5_init 4 = .ok (.aload_n 0, 1) := by decide +kernel
theorem dX5_init_5 : decode cX5_init 5 = .ok (.bipush 24, 2) := by decide +kernel
theorem dX5_init_7 : decode cX5_init 7 = .ok (.newarray .int, 2) := by decide +kernel
theorem dX5_init_9 : decode cX5_init 9 = .ok (.putfield 9, 3) := by decide +kernel
theorem dX5_init_12 : decode cX5_init 12 = .ok (.return_, 1) := by decide +kernel
theorem dX5_begin_0 : decode cX5_begin 0 = .ok (.aload_n 0, 1) := by decide +kernel
theorem dX5_begin_1 : decode cX5_begin 1 = .ok (.iload_n 1, 1) := by decide +kernel
theorem dX5_begin_2 : decode cX5_begin 2 = .ok (.putfield 15, 3) := by decide +kernel
theorem dX5_begin_5 : decode cX5_begin 5 = .ok (.aload_n 0, 1) := by decide +kernel
theorem dX5_begin_6 : decode cX5_begin 6 = .ok (.iconst 0, 1) := by decide +kernel
theorem dX5_begin_7 : decode cX5_begin 7 = .ok (.bipush 24, 2) := by decide +kernel
theorem dX5_begin_9 : decode cX5_begin 9 = .ok (.iload_n 2, 1) := by decide +kernel
theorem dX5_begin_10 : decode cX5_begin 10 = .ok (.invokestatic 19, 3) := by decide +kernel
theorem dX5_begin_13 : decode cX5_begin 13 = .ok (.invokestatic 25, 3) := by decide +kernel
theorem dX5_begin_16 : decode cX5_begin 16 = .ok (.putfield 28, 3) := by decide +kernel
theorem dX5_begin_19 : decode cX5_begin 19 = .ok (.aload_n 0, 1) := by decide +kernel
theorem dX5_begin_20 : decode cX5_begin 20 = .ok (.getfield 9, 3) := by decide +kernel
theorem dX5_begin_23 : decode cX5_begin 23 = .ok (.iconst 0, 1) := by decide +kernel
theorem dX5_begin_24 : decode cX5_begin 24 = .ok (.invokestatic 31, 3) := by decide +kernel
theorem dX5_begin_27 : decode cX5_begin 27 = .ok (.return_, 1) := by decide +kernel
theorem dX5_isMissing_0 : decode cX5_isMissing 0 = .ok (.aload_n 0, 1) := by decide +kernel
theorem dX5_isMissing_1 : decode cX5_isMissing 1 = .ok (.getfield 15, 3) := by decide +kernel
theorem dX5_isMissing_4 : decode cX5_isMissing 4 = .ok (.ifCond .ne 7, 3) := by decide +kernel
theorem dX5_isMissing_7 : decode cX5_isMissing 7 = .ok (.iconst 1, 1) := by decide +kernel
theorem dX5_isMissing_8 : decode cX5_isMissing 8 = .ok (.goto 4, 3) := by decide +kernel
theorem dX5_isMissing_11 : decode cX5_isMissing 11 = .ok (.iconst 0, 1) := by decide +kernel
theorem dX5_isMissing_12 : decode cX5_isMissing 12 = .ok (.ireturn, 1) := by decide +kernel
theorem dX5_isLike_0 : decode cX5_isLike 0 = .ok (.aload_n 0, 1) := by decide +kernel
theorem dX5_isLike_1 : decode cX5_isLike 1 = .ok (.getfield 15, 3) := by decide +kernel
theorem dX5_isLike_4 : decode cX5_isLike 4 = .ok (.aload_n 1, 1) := by decide +kernel
theorem dX5_isLike_5 : decode cX5_isLike 5 = .ok (.getfield 15, 3) := by decide +kernel
theorem dX5_isLike_8 : decode cX5_isLike 8 = .ok (.if_icmp .ne 7, 3) := by decide +kernel
theorem dX5_isLike_11 : decode cX5_isLike 11 = .ok (.iconst 1, 1) := by decide +kernel
theorem dX5_isLike_12 : decode cX5_isLike 12 = .ok (.goto 4, 3) := by decide +kernel
theorem dX5_isLike_15 : decode cX5_isLike 15 = .ok (.iconst 0, 1) := by decide +kernel
theorem dX5_isLike_16 : decode cX5_isLike 16 = .ok (.ireturn, 1) := by decide +kernel
theorem dX5_size_0 : decode cX5_size 0 = .ok (.aload_n 0, 1) := by decide +kernel
theorem dX5_size_1 : decode cX5_size 1 = .ok (.getfield 28, 3) := by decide +kernel
theorem dX5_size_4 : decode cX5_size 4 = .ok (.ireturn, 1) := by decide +kernel
theorem dX5_has_0 : decode cX5_has 0 = .ok (.iload_n 1, 1) := by decide +kernel
theorem dX5_has_1 : decode cX5_has 1 = .ok (.ifCond .lt 15, 3) := by decide +kernel
theorem dX5_has_4 : decode cX5_has 4 = .ok (.iload_n 1, 1) := by decide +kernel
theorem dX5_has_5 : decode cX5_has 5 = .ok (.aload_n 0, 1) := by decide +kernel
theorem dX5_has_6 : decode cX5_has 6 = .ok (.getfield 28, 3) := by decide +kernel
theorem dX5_has_9 : decode cX5_has 9 = .ok (.if_icmp .ge 7, 3) := by decide +kernel
theorem dX5_has_12 : decode cX5_has 12 = .ok (.iconst 1, 1) := by decide +kernel
theorem dX5_has_13 : decode cX5_has 13 = .ok (.goto 4, 3) := by decide +kernel
theorem dX5_has_16 : decode cX5_has 16 = .ok (.iconst 0, 1) := by decide +kernel
theorem dX5_has_17 : decode cX5_has 17 = .ok (.ireturn, 1) := by decide +kernel
theorem dX5_hasRange_0 : decode cX5_hasRange 0 = .ok (.aload_n 0, 1) := by decide +kernel
theorem dX5_hasRange_1 : decode cX5_hasRange 1 = .ok (.getfield 28, 3) := by decide +kernel
theorem dX5_hasRange_4 : decode cX5_hasRange 4 = .ok (.aload_n 0, 1) := by decide +kernel
theorem dX5_hasRange_5 : decode cX5_hasRange 5 = .ok (.getfield 9, 3) := by decide +kernel
theorem dX5_hasRange_8 : decode cX5_hasRange 8 = .ok (.arraylength, 1) := by decide +kernel
theorem dX5_hasRange_9 : decode cX5_hasRange 9 = .ok (.invokestatic 19, 3) := by decide +kernel
theorem dX5_hasRange_12 : decode cX5_hasRange 12 = .ok (.istore_n 3, 1) := by decide +kernel
theorem dX5_hasRange_13 : decode cX5_hasRange 13 = .ok (.iload_n 1, 1) := by decide +kernel
theorem dX5_hasRange_14 : decode cX5_hasRange 14 = .ok (.ifCond .lt 23, 3) := by decide +kernel
theorem dX5_hasRange_17 : decode cX5_hasRange 17 = .ok (.iload_n 2, 1) := by decide +kernel
theorem dX5_hasRange_18 : decode cX5_hasRange 18 = .ok (.ifCond .lt 19, 3) := by decide +kernel
theorem dX5_hasRange_21 : decode cX5_hasRange 21 = .ok (.iload_n 2, 1) := by decide +kernel
theorem dX5_hasRange_22 : decode cX5_hasRange 22 = .ok (.iload_n 3, 1) := by decide +kernel
theorem dX5_hasRange_23 : decode cX5_hasRange 23 = .ok (.if_icmp .gt 14, 3) := by decide +kernel
theorem dX5_hasRange_26 : decode cX5_hasRange 26 = .ok (.iload_n 1, 1) := by decide +kernel
theorem dX5_hasRange_27 : decode cX5_hasRange 27 = .ok (.iload_n 3, 1) := by decide +kernel
theorem dX5_hasRange_28 : decode cX5_hasRange 28 = .ok (.iload_n 2, 1) := by decide +kernel
theorem dX5_hasRange_29 : decode cX5_hasRange 29 = .ok (.isub, 1) := by decide +kernel
theorem dX5_hasRange_30 : decode cX5_hasRange 30 = .ok (.if_icmp .gt 7, 3) := by decide +kernel
theorem dX5_hasRange_33 : decode cX5_hasRange 33 = .ok (.iconst 1, 1) := by decide +kernel
theorem dX5_hasRange_34 : decode cX5_hasRange 34 = .ok (.goto 4, 3) := by decide +kernel
theorem dX5_hasRange_37 : decode cX5_hasRange 37 = .ok (.iconst 0, 1) := by decide +kernel
theorem dX5_hasRange_38 : decode cX5_hasRange 38 = .ok (.ireturn, 1) := by decide +kernel
theorem dX5_at_0 : decode cX5_at 0 = .ok (.aload_n 0, 1) := by decide +kernel
theorem dX5_at_1 : decode cX5_at 1 = .ok (.iload_n 1, 1) := by decide +kernel
theorem dX5_at_2 : decode cX5_at 2 = .ok (.invokevirtual 37, 3) := by decide +kernel
