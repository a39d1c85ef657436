-- decode rows of the reference
theorem dR_look_26 : decode cX9_look 26 = .ok (.iaload, 1) := by decide +kernel
theorem dR_look_27 : decode cX9_look 27 = .ok (.goto 4, 3) := by decide +kernel
theorem dR_look_30 : decode cX9_look 30 = .ok (.iconst (-1), 1) := by decide +kernel
theorem dR_look_31 : decode cX9_look 31 = .ok (.ireturn, 1) := by decide +kernel
theorem dR_isName_0 : decode cX9_isName 0 = .ok (.iload_n 1, 1) := by decide +kernel
theorem dR_isName_1 : decode cX9_isName 1 = .ok (.bipush 103, 2) := by decide +kernel
theorem dR_isName_3 : decode cX9_isName 3 = .ok (.if_icmp .ne 5, 3) := by decide +kernel
theorem dR_isName_6 : decode cX9_isName 6 = .ok (.iconst 1, 1) := by decide +kernel
theorem dR_isName_7 : decode cX9_isName 7 = .ok (.ireturn, 1) := by decide +kernel
theorem dR_isName_8 : decode cX9_isName 8 = .ok (.aload_n 0, 1) := by decide +kernel
theorem dR_isName_9 : decode cX9_isName 9 = .ok (.getfield 127, 3) := by decide +kernel
theorem dR_isName_12 : decode cX9_isName 12 = .ok (.ifCond .ne 23, 3) := by decide +kernel
theorem dR_isName_15 : decode cX9_isName 15 = .ok (.iload_n 1, 1) := by decide +kernel
theorem dR_isName_16 : decode cX9_isName 16 = .ok (.bipush 115, 2) := by decide +kernel
theorem dR_isName_18 : decode cX9_isName 18 = .ok (.if_icmp .eq 9, 3) := by decide +kernel
theorem dR_isName_21 : decode cX9_isName 21 = .ok (.iload_n 1, 1) := by decide +kernel
theorem dR_isName_22 : decode cX9_isName 22 = .ok (.bipush 109, 2) := by decide +kernel
theorem dR_isName_24 : decode cX9_isName 24 = .ok (.if_icmp .ne 7, 3) := by decide +kernel
theorem dR_isName_27 : decode cX9_isName 27 = .ok (.iconst 1, 1) := by decide +kernel
theorem dR_isName_28 : decode cX9_isName 28 = .ok (.goto 24, 3) := by decide +kernel
theorem dR_isName_31 : decode cX9_isName 31 = .ok (.iconst 0, 1) := by decide +kernel
theorem dR_isName_32 : decode cX9_isName 32 = .ok (.goto 20, 3) := by decide +kernel
theorem dR_isName_35 : decode cX9_isName 35 = .ok (.iload_n 1, 1) := by decide +kernel
theorem dR_isName_36 : decode cX9_isName 36 = .ok (.bipush 99, 2) := by decide +kernel
theorem dR_isName_38 : decode cX9_isName 38 = .ok (.if_icmp .eq 9, 3) := by decide +kernel
theorem dR_isName_41 : decode cX9_isName 41 = .ok (.iload_n 1, 1) := by decide +kernel
theorem dR_isName_42 : decode cX9_isName 42 = .ok (.bipush 110, 2) := by decide +kernel
theorem dR_isName_44 : decode cX9_isName 44 = .ok (.if_icmp .ne 7, 3) := by decide +kernel
theorem dR_isName_47 : decode cX9_isName 47 = .ok (.iconst 1, 1) := by decide +kernel
theorem dR_isName_48 : decode cX9_isName 48 = .ok (.goto 4, 3) := by decide +kernel
theorem dR_isName_51 : decode cX9_isName 51 = .ok (.iconst 0, 1) := by decide +kernel
theorem dR_isName_52 : decode cX9_isName 52 = .ok (.ireturn, 1) := by decide +kernel
theorem dR_lays_0 : decode cX9_lays 0 = .ok (.aload_n 0, 1) := by decide +kernel
theorem dR_lays_1 : decode cX9_lays 1 = .ok (.getfield 22, 3) := by decide +kernel
theorem dR_lays_4 : decode cX9_lays 4 = .ok (.iconst 2, 1) := by decide +kernel
theorem dR_lays_5 : decode cX9_lays 5 = .ok (.aload_n 0, 1) := by decide +kernel
theorem dR_lays_6 : decode cX9_lays 6 = .ok (.getfield 130, 3) := by decide +kernel
theorem dR_lays_9 : decode cX9_lays 9 = .ok (.imul, 1) := by decide +kernel
theorem dR_lays_10 : decode cX9_lays 10 = .ok (.iload_n 1, 1) := by decide +kernel
theorem dR_lays_11 : decode cX9_lays 11 = .ok (.iastore, 1) := by decide +kernel
theorem dR_lays_12 : decode cX9_lays 12 = .ok (.aload_n 0, 1) := by decide +kernel
theorem dR_lays_13 : decode cX9_lays 13 = .ok (.getfield 22, 3) := by decide +kernel
theorem dR_lays_16 : decode cX9_lays 16 = .ok (.iconst 2, 1) := by decide +kernel
theorem dR_lays_17 : decode cX9_lays 17 = .ok (.aload_n 0, 1) := by decide +kernel
theorem dR_lays_18 : decode cX9_lays 18 = .ok (.getfield 130, 3) := by decide +kernel
theorem dR_lays_21 : decode cX9_lays 21 = .ok (.imul, 1) := by decide +kernel
theorem dR_lays_22 : decode cX9_lays 22 = .ok (.iconst 1, 1) := by decide +kernel
theorem dR_lays_23 : decode cX9_lays 23 = .ok (.iadd, 1) := by decide +kernel
theorem dR_lays_24 : decode cX9_lays 24 = .ok (.iload_n 2, 1) := by decide +kernel
theorem dR_lays_25 : decode cX9_lays 25 = .ok (.iastore, 1) := by decide +kernel
theorem dR_lays_26 : decode cX9_lays 26 = .ok (.aload_n 0, 1) := by decide +kernel
theorem dR_lays_27 : decode cX9_lays 27 = .ok (.dup, 1) := by decide +kernel
theorem dR_lays_28 : decode cX9_lays 28 = .ok (.getfield 130, 3) := by decide +kernel
theorem dR_lays_31 : decode cX9_lays 31 = .ok (.iconst 1, 1) := by decide +kernel
theorem dR_lays_32 : decode cX9_lays 32 = .ok (.iadd, 1) := by decide +kernel
theorem dR_lays_33 : decode cX9_lays 33 = .ok (.putfield 130, 3) := by decide +kernel
theorem dR_lays_36 : decode cX9_lays 36 = .ok (.return_, 1) := by decide +kernel
theorem dR_whole_0 : decode cX9_whole 0 = .ok (.aload_n 0, 1) := by decide +kernel
theorem dR_whole_1 : decode cX9_whole 1 = .ok (.invokevirtual 133, 3) := by decide +kernel
theorem dR_whole_4 : decode cX9_whole 4 = .ok (.ifCond .ne 5, 3) := by decide +kernel
theorem dR_whole_7 : decode cX9_whole 7 = .ok (.iconst 0, 1) := by decide +kernel
theorem dR_whole_8 : decode cX9_whole 8 = .ok (.ireturn, 1) := by decide +kernel
theorem dR_whole_9 : decode cX9_whole 9 = .ok (.aload_n 0, 1) := by decide +kernel
theorem dR_whole_10 : decode cX9_whole 10 = .ok (.invokevirtual 137, 3) := by decide +kernel
theorem dR_whole_13 : decode cX9_whole 13 = .ok (.bipush 124, 2) := by decide +kernel
theorem dR_whole_15 : decode cX9_whole 15 = .ok (.if_icmp .ne 32, 3) := by decide +kernel
theorem dR_whole_18 : decode cX9_whole 18 = .ok (.aload_n 0, 1) := by decide +kernel
theorem dR_whole_19 : decode cX9_whole 19 = .ok (.dup, 1) := by decide +kernel
theorem dR_whole_20 : decode cX9_whole 20 = .ok (.getfield 123, 3) := by decide +kernel
theorem dR_whole_23 : decode cX9_whole 23 = .ok (.iconst 1, 1) := by decide +kernel
theorem dR_whole_24 : decode cX9_whole 24 = .ok (.iadd, 1) := by decide +kernel
theorem dR_whole_25 : decode cX9_whole 25 = .ok (.putfield 123, 3) := by decide +kernel
theorem dR_whole_28 : decode cX9_whole 28 = .ok (.aload_n 0, 1) := by decide +kernel
theorem dR_whole_29 : decode cX9_whole 29 = .ok (.invokevirtual 133, 3) := by decide +kernel
theorem dR_whole_32 : decode cX9_whole 32 = .ok (.ifCond .ne 5, 3) := by decide +kernel
theorem dR_whole_35 : decode cX9_whole 35 = .ok (.iconst 0, 1) := by decide +kernel
theorem dR_whole_36 : decode cX9_whole 36 = .ok (.ireturn, 1) := by decide +kernel
theorem dR_whole_37 : decode cX9_whole 37 = .ok (.aload_n 0, 1) := by decide +kernel
theorem dR_whole_38 : decode cX9_whole 38 = .ok (.iconst 3, 1) := by decide +kernel
theorem dR_whole_39 : decode cX9_whole 39 = .ok (.bipush 124, 2) := by decide +kernel
theorem dR_whole_41 : decode cX9_whole 41 = .ok (.invokevirtual 140, 3) := by decide +kernel
theorem dR_whole_44 : decode cX9_whole 44 = .ok (.goto (-35), 3) := by decide +kernel
theorem dR_whole_47 : decode cX9_whole 47 = .ok (.iconst 1, 1) := by decide +kernel
theorem dR_whole_48 : decode cX9_whole 48 = .ok (.ireturn, 1) := by decide +kernel
theorem dR_both_0 : decode cX9_both 0 = .ok (.aload_n 0, 1) := by decide +kernel
theorem dR_both_1 : decode cX9_both 1 = .ok (.invokevirtual 144, 3) := by decide +kernel
theorem dR_both_4 : decode cX9_both 4 = .ok (.ifCond .ne 5, 3) := by decide +kernel
theorem dR_both_7 : decode cX9_both 7 = .ok (.iconst 0, 1) := by decide +kernel
theorem dR_both_8 : decode cX9_both 8 = .ok (.ireturn, 1) := by decide +kernel
theorem dR_both_9 : decode cX9_both 9 = .ok (.aload_n 0, 1) := by decide +kernel
theorem dR_both_10 : decode cX9_both 10 = .ok (.invokevirtual 137, 3) := by decide +kernel
theorem dR_both_13 : decode cX9_both 13 = .ok (.bipush 38, 2) := by decide +kernel
theorem dR_both_15 : decode cX9_both 15 = .ok (.if_icmp .ne 32, 3) := by decide +kernel
theorem dR_both_18 : decode cX9_both 18 = .ok (.aload_n 0, 1) := by decide +kernel
theorem dR_both_19 : decode cX9_both 19 = .ok (.dup, 1) := by decide +kernel
theorem dR_both_20 : decode cX9_both 20 = .ok (.getfield 123, 3) := by decide +kernel
theorem dR_both_23 : decode cX9_both 23 = .ok (.iconst 1, 1) := by decide +kernel
theorem dR_both_24 : decode cX9_both 24 = .ok (.iadd, 1) := by decide +kernel
theorem dR_both_25 : decode cX9_both 25 = .ok (.putfield 123, 3) := by decide +kernel
theorem dR_both_28 : decode cX9_both 28 = .ok (.aload_n 0, 1) := by decide +kernel
theorem dR_both_29 : decode cX9_both 29 = .ok (.invokevirtual 144, 3) := by decide +kernel
theorem dR_both_32 : decode cX9_both 32 = .ok (.ifCond .ne 5, 3) := by decide +kernel
theorem dR_both_35 : decode cX9_both 35 = .ok (.iconst 0, 1) := by decide +kernel
theorem dR_both_36 : decode cX9_both 36 = .ok (.ireturn, 1) := by decide +kernel
theorem dR_both_37 : decode cX9_both 37 = .ok (.aload_n 0, 1) := by decide +kernel
theorem dR_both_38 : decode cX9_both 38 = .ok (.iconst 3, 1) := by decide +kernel
theorem dR_both_39 : decode cX9_both 39 = .ok (.bipush 38, 2) := by decide +kernel
theorem dR_both_41 : decode cX9_both 41 = .ok (.invokevirtual 140, 3) := by decide +kernel
theorem dR_both_44 : decode cX9_both 44 = .ok (.goto (-35), 3) := by decide +kernel
theorem dR_both_47 : decode cX9_both 47 = .ok (.iconst 1, 1) := by decide +kernel
theorem dR_both_48 : decode cX9_both 48 = .ok (.ireturn, 1) := by decide +kernel
theorem dR_compared_0 : decode cX9_compared 0 = .ok (.aload_n 0, 1) := by decide +kernel
theorem dR_compared_1 : decode cX9_compared 1 = .ok (.invokevirtual 147, 3) := by decide +kernel
theorem dR_compared_4 : decode cX9_compared 4 = .ok (.ifCond .ne 5, 3) := by decide +kernel
theorem dR_compared_7 : decode cX9_compared 7 = .ok (.iconst 0, 1) := by decide +kernel
theorem dR_compared_8 : decode cX9_compared 8 = .ok (.ireturn, 1) := by decide +kernel
theorem dR_compared_9 : decode cX9_compared 9 = .ok (.aload_n 0, 1) := by decide +kernel
theorem dR_compared_10 : decode cX9_compared 10 = .ok (.invokevirtual 137, 3) := by decide +kernel
theorem dR_compared_13 : decode cX9_compared 13 = .ok (.istore_n 1, 1) := by decide +kernel
theorem dR_compared_14 : decode cX9_compared 14 = .ok (.iload_n 1, 1) := by decide +kernel
theorem dR_compared_15 : decode cX9_compared 15 = .ok (.bipush 60, 2) := by decide +kernel
theorem dR_compared_17 : decode cX9_compared 17 = .ok (.if_icmp .eq 17, 3) := by decide +kernel
theorem dR_compared_20 : decode cX9_compared 20 = .ok (.iload_n 1, 1) := by decide +kernel
theorem dR_compared_21 : decode cX9_compared 21 = .ok (.bipush 61, 2) := by decide +kernel
theorem dR_compared_23 : decode cX9_compared 23 = .ok (.if_icmp .eq 11, 3) := by decide +kernel
theorem dR_compared_26 : decode cX9_compared 26 = .ok (.iload_n 1, 1) := by decide +kernel
theorem dR_compared_27 : decode cX9_compared 27 = .ok (.bipush 62, 2) := by decide +kernel
theorem dR_compared_29 : decode cX9_compared 29 = .ok (.if_icmp .eq 5, 3) := by decide +kernel
theorem dR_compared_32 : decode cX9_compared 32 = .ok (.iconst 1, 1) := by decide +kernel
theorem dR_compared_33 : decode cX9_compared 33 = .ok (.ireturn, 1) := by decide +kernel
theorem dR_compared_34 : decode cX9_compared 34 = .ok (.aload_n 0, 1) := by decide +kernel
theorem dR_compared_35 : decode cX9_compared 35 = .ok (.dup, 1) := by decide +kernel
theorem dR_compared_36 : decode cX9_compared 36 = .ok (.getfield 123, 3) := by decide +kernel
theorem dR_compared_39 : decode cX9_compared 39 = .ok (.iconst 1, 1) := by decide +kernel
theorem dR_compared_40 : decode cX9_compared 40 = .ok (.iadd, 1) := by decide +kernel
theorem dR_compared_41 : decode cX9_compared 41 = .ok (.putfield 123, 3) := by decide +kernel
theorem dR_compared_44 : decode cX9_compared 44 = .ok (.aload_n 0, 1) := by decide +kernel
theorem dR_compared_45 : decode cX9_compared 45 = .ok (.invokevirtual 147, 3) := by decide +kernel
theorem dR_compared_48 : decode cX9_compared 48 = .ok (.ifCond .ne 5, 3) := by decide +kernel
theorem dR_compared_51 : decode cX9_compared 51 = .ok (.iconst 0, 1) := by decide +kernel
theorem dR_compared_52 : decode cX9_compared 52 = .ok (.ireturn, 1) := by decide +kernel
theorem dR_compared_53 : decode cX9_compared 53 = .ok (.aload_n 0, 1) := by decide +kernel
theorem dR_compared_54 : decode cX9_compared 54 = .ok (.iconst 3, 1) := by decide +kernel
theorem dR_compared_55 : decode cX9_compared 55 = .ok (.iload_n 1, 1) := by decide +kernel
theorem dR_compared_56 : decode cX9_compared 56 = .ok (.invokevirtual 140, 3) := by decide +kernel
theorem dR_compared_59 : decode cX9_compared 59 = .ok (.iconst 1, 1) := by decide +kernel
theorem dR_compared_60 : decode cX9_compared 60 = .ok (.ireturn, 1) := by decide +kernel
theorem dR_sum_0 : decode cX9_sum 0 = .ok (.aload_n 0, 1) := by decide +kernel
theorem dR_sum_1 : decode cX9_sum 1 = .ok (.invokevirtual 150, 3) := by decide +kernel
theorem dR_sum_4 : decode cX9_sum 4 = .ok (.ifCond .ne 5, 3) := by decide +kernel
theorem dR_sum_7 : decode cX9_sum 7 = .ok (.iconst 0, 1) := by decide +kernel
theorem dR_sum_8 : decode cX9_sum 8 = .ok (.ireturn, 1) := by decide +kernel
theorem dR_sum_9 : decode cX9_sum 9 = .ok (.aload_n 0, 1) := by decide +kernel
theorem dR_sum_10 : decode cX9_sum 10 = .ok (.invokevirtual 137, 3) := by decide +kernel
theorem dR_sum_13 : decode cX9_sum 13 = .ok (.bipush 43, 2) := by decide +kernel
theorem dR_sum_15 : decode cX9_sum 15 = .ok (.if_icmp .eq 12, 3) := by decide +kernel
theorem dR_sum_18 : decode cX9_sum 18 = .ok (.aload_n 0, 1) := by decide +kernel
theorem dR_sum_19 : decode cX9_sum 19 = .ok (.invokevirtual 137, 3) := by decide +kernel
theorem dR_sum_22 : decode cX9_sum 22 = .ok (.bipush 45, 2) := by decide +kernel
theorem dR_sum_24 : decode cX9_sum 24 = .ok (.if_icmp .ne 36, 3) := by decide +kernel
theorem dR_sum_27 : decode cX9_sum 27 = .ok (.aload_n 0, 1) := by decide +kernel
theorem dR_sum_28 : decode cX9_sum 28 = .ok (.invokevirtual 137, 3) := by decide +kernel
theorem dR_sum_31 : decode cX9_sum 31 = .ok (.istore_n 1, 1) := by decide +kernel
theorem dR_sum_32 : decode cX9_sum 32 = .ok (.aload_n 0, 1) := by decide +kernel
theorem dR_sum_33 : decode cX9_sum 33 = .ok (.dup, 1) := by decide +kernel
theorem dR_sum_34 : decode cX9_sum 34 = .ok (.getfield 123, 3) := by decide +kernel
theorem dR_sum_37 : decode cX9_sum 37 = .ok (.iconst 1, 1) := by decide +kernel
theorem dR_sum_38 : decode cX9_sum 38 = .ok (.iadd, 1) := by decide +kernel
theorem dR_sum_39 : decode cX9_sum 39 = .ok (.putfield 123, 3) := by decide +kernel
theorem dR_sum_42 : decode cX9_sum 42 = .ok (.aload_n 0, 1) := by decide +kernel
theorem dR_sum_43 : decode cX9_sum 43 = .ok (.invokevirtual 150, 3) := by decide +kernel
theorem dR_sum_46 : decode cX9_sum 46 = .ok (.ifCond .ne 5, 3) := by decide +kernel
theorem dR_sum_49 : decode cX9_sum 49 = .ok (.iconst 0, 1) := by decide +kernel
theorem dR_sum_50 : decode cX9_sum 50 = .ok (.ireturn, 1) := by decide +kernel
theorem dR_sum_51 : decode cX9_sum 51 = .ok (.aload_n 0, 1) := by decide +kernel
theorem dR_sum_52 : decode cX9_sum 52 = .ok (.iconst 3, 1) := by decide +kernel
theorem dR_sum_53 : decode cX9_sum 53 = .ok (.iload_n 1, 1) := by decide +kernel
theorem dR_sum_54 : decode cX9_sum 54 = .ok (.invokevirtual 140, 3) := by decide +kernel
theorem dR_sum_57 : decode cX9_sum 57 = .ok (.goto (-48), 3) := by decide +kernel
theorem dR_sum_60 : decode cX9_sum 60 = .ok (.iconst 1, 1) := by decide +kernel
theorem dR_sum_61 : decode cX9_sum 61 = .ok (.ireturn, 1) := by decide +kernel
theorem dR_product_0 : decode cX9_product 0 = .ok (.aload_n 0, 1) := by decide +kernel
theorem dR_product_1 : decode cX9_product 1 = .ok (.invokevirtual 153, 3) := by decide +kernel
theorem dR_product_4 : decode cX9_product 4 = .ok (.ifCond .ne 5, 3) := by decide +kernel
theorem dR_product_7 : decode cX9_product 7 = .ok (.iconst 0, 1) := by decide +kernel
theorem dR_product_8 : decode cX9_product 8 = .ok (.ireturn, 1) := by decide +kernel
theorem dR_product_9 : decode cX9_product 9 = .ok (.aload_n 0, 1) := by decide +kernel
theorem dR_product_10 : decode cX9_product 10 = .ok (.invokevirtual 137, 3) := by decide +kernel
theorem dR_product_13 : decode cX9_product 13 = .ok (.bipush 42, 2) := by decide +kernel
theorem dR_product_15 : decode cX9_product 15 = .ok (.if_icmp .eq 21, 3) := by decide +kernel
theorem dR_product_18 : decode cX9_product 18 = .ok (.aload_n 0, 1) := by decide +kernel
theorem dR_product_19 : decode cX9_product 19 = .ok (.invokevirtual 137, 3) := by decide +kernel
theorem dR_product_22 : decode cX9_product 22 = .ok (.bipush 47, 2) := by decide +kernel
theorem dR_product_24 : decode cX9_product 24 = .ok (.if_icmp .eq 12, 3) := by decide +kernel
theorem dR_product_27 : decode cX9_product 27 = .ok (.aload_n 0, 1) := by decide +kernel
theorem dR_product_28 : decode cX9_product 28 = .ok (.invokevirtual 137, 3) := by decide +kernel
theorem dR_product_31 : decode cX9_product 31 = .ok (.bipush 37, 2) := by decide +kernel
theorem dR_product_33 : decode cX9_product 33 = .ok (.if_icmp .ne 36, 3) := by decide +kernel
theorem dR_product_36 : decode cX9_product 36 = .ok (.aload_n 0, 1) := by decide +kernel
theorem dR_product_37 : decode cX9_product 37 = .ok (.invokevirtual 137, 3) := by decide +kernel
theorem dR_product_40 : decode cX9_product 40 = .ok (.istore_n 1, 1) := by decide +kernel
theorem dR_product_41 : decode cX9_product 41 = .ok (.aload_n 0, 1) := by decide +kernel
theorem dR_product_42 : decode cX9_product 42 = .ok (.dup, 1) := by decide +kernel
theorem dR_product_43 : decode cX9_product 43 = .ok (.getfield 123, 3) := by decide +kernel
theorem dR_product_46 : decode cX9_product 46 = .ok (.iconst 1, 1) := by decide +kernel
theorem dR_product_47 : decode cX9_product 47 = .ok (.iadd, 1) := by decide +kernel
theorem dR_product_48 : decode cX9_product 48 = .ok (.putfield 123, 3) := by decide +kernel
theorem dR_product_51 : decode cX9_product 51 = .ok (.aload_n 0, 1) := by decide +kernel
theorem dR_product_52 : decode cX9_product 52 = .ok (.invokevirtual 153, 3) := by decide +kernel
theorem dR_product_55 : decode cX9_product 55 = .ok (.ifCond .ne 5, 3) := by decide +kernel
theorem dR_product_58 : decode cX9_product 58 = .ok (.iconst 0, 1) := by decide +kernel
theorem dR_product_59 : decode cX9_product 59 = .ok (.ireturn, 1) := by decide +kernel
theorem dR_product_60 : decode cX9_product 60 = .ok (.aload_n 0, 1) := by decide +kernel
theorem dR_product_61 : decode cX9_product 61 = .ok (.iconst 3, 1) := by decide +kernel
theorem dR_product_62 : decode cX9_product 62 = .ok (.iload_n 1, 1) := by decide +kernel
theorem dR_product_63 : decode cX9_product 63 = .ok (.invokevirtual 140, 3) := by decide +kernel
theorem dR_product_66 : decode cX9_product 66 = .ok (.goto (-57), 3) := by decide +kernel
theorem dR_product_69 : decode cX9_product 69 = .ok (.iconst 1, 1) := by decide +kernel
theorem dR_product_70 : decode cX9_product 70 = .ok (.ireturn, 1) := by decide +kernel
theorem dR_opens_0 : decode cX9_opens 0 = .ok (.aload_n 0, 1) := by decide +kernel
theorem dR_opens_1 : decode cX9_opens 1 = .ok (.getfield 156, 3) := by decide +kernel
theorem dR_opens_4 : decode cX9_opens 4 = .ok (.iconst 5, 1) := by decide +kernel
theorem dR_opens_5 : decode cX9_opens 5 = .ok (.if_icmp .ne 5, 3) := by decide +kernel
theorem dR_opens_8 : decode cX9_opens 8 = .ok (.iconst 0, 1) := by decide +kernel
theorem dR_opens_9 : decode cX9_opens 9 = .ok (.ireturn, 1) := by decide +kernel
theorem dR_opens_10 : decode cX9_opens 10 = .ok (.aload_n 0, 1) := by decide +kernel
theorem dR_opens_11 : decode cX9_opens 11 = .ok (.dup, 1) := by decide +kernel
theorem dR_opens_12 : decode cX9_opens 12 = .ok (.getfield 156, 3) := by decide +kernel
theorem dR_opens_15 : decode cX9_opens 15 = .ok (.iconst 1, 1) := by decide +kernel
theorem dR_opens_16 : decode cX9_opens 16 = .ok (.iadd, 1) := by decide +kernel
theorem dR_opens_17 : decode cX9_opens 17 = .ok (.putfield 156, 3) := by decide +kernel
theorem dR_opens_20 : decode cX9_opens 20 = .ok (.aload_n 0, 1) := by decide +kernel
theorem dR_opens_21 : decode cX9_opens 21 = .ok (.dup, 1) := by decide +kernel
theorem dR_opens_22 : decode cX9_opens 22 = .ok (.getfield 123, 3) := by decide +kernel
theorem dR_opens_25 : decode cX9_opens 25 = .ok (.iconst 1, 1) := by decide +kernel
theorem dR_opens_26 : decode cX9_opens 26 = .ok (.iadd, 1) := by decide +kernel
theorem dR_opens_27 : decode cX9_opens 27 = .ok (.putfield 123, 3) := by decide +kernel
theorem dR_opens_30 : decode cX9_opens 30 = .ok (.iconst 1, 1) := by decide +kernel
theorem dR_opens_31 : decode cX9_opens 31 = .ok (.ireturn, 1) := by decide +kernel
theorem dR_one_0 : decode cX9_one 0 = .ok (.aload_n 0, 1) := by decide +kernel
theorem dR_one_1 : decode cX9_one 1 = .ok (.invokevirtual 137, 3) := by decide +kernel
theorem dR_one_4 : decode cX9_one 4 = .ok (.istore_n 1, 1) := by decide +kernel
theorem dR_one_5 : decode cX9_one 5 = .ok (.aload_n 0, 1) := by decide +kernel
theorem dR_one_6 : decode cX9_one 6 = .ok (.iload_n 1, 1) := by decide +kernel
theorem dR_one_7 : decode cX9_one 7 = .ok (.invokevirtual 159, 3) := by decide +kernel
theorem dR_one_10 : decode cX9_one 10 = .ok (.ifCond .eq 21, 3) := by decide +kernel
theorem dR_one_13 : decode cX9_one 13 = .ok (.aload_n 0, 1) := by decide +kernel
theorem dR_one_14 : decode cX9_one 14 = .ok (.dup, 1) := by decide +kernel
theorem dR_one_15 : decode cX9_one 15 = .ok (.getfield 123, 3) := by decide +kernel
theorem dR_one_18 : decode cX9_one 18 = .ok (.iconst 1, 1) := by decide +kernel
theorem dR_one_19 : decode cX9_one 19 = .ok (.iadd, 1) := by decide +kernel
theorem dR_one_20 : decode cX9_one 20 = .ok (.putfield 123, 3) := by decide +kernel
theorem dR_one_23 : decode cX9_one 23 = .ok (.aload_n 0, 1) := by decide +kernel
theorem dR_one_24 : decode cX9_one 24 = .ok (.iconst 1, 1) := by decide +kernel
theorem dR_one_25 : decode cX9_one 25 = .ok (.iload_n 1, 1) := by decide +kernel
theorem dR_one_26 : decode cX9_one 26 = .ok (.invokevirtual 140, 3) := by decide +kernel
theorem dR_one_29 : decode cX9_one 29 = .ok (.iconst 1, 1) := by decide +kernel
theorem dR_one_30 : decode cX9_one 30 = .ok (.ireturn, 1) := by decide +kernel
theorem dR_one_31 : decode cX9_one 31 = .ok (.iload_n 1, 1) := by decide +kernel
theorem dR_one_32 : decode cX9_one 32 = .ok (.bipush 48, 2) := by decide +kernel
theorem dR_one_34 : decode cX9_one 34 = .ok (.bipush 57, 2) := by decide +kernel
theorem dR_one_36 : decode cX9_one 36 = .ok (.invokestatic 53, 3) := by decide +kernel
theorem dR_one_39 : decode cX9_one 39 = .ok (.ifCond .eq 63, 3) := by decide +kernel
theorem dR_one_42 : decode cX9_one 42 = .ok (.iconst 0, 1) := by decide +kernel
theorem dR_one_43 : decode cX9_one 43 = .ok (.istore_n 2, 1) := by decide +kernel
theorem dR_one_44 : decode cX9_one 44 = .ok (.iconst 0, 1) := by decide +kernel
theorem dR_one_45 : decode cX9_one 45 = .ok (.istore_n 3, 1) := by decide +kernel
theorem dR_one_46 : decode cX9_one 46 = .ok (.iload_n 3, 1) := by decide +kernel
theorem dR_one_47 : decode cX9_one 47 = .ok (.iconst 4, 1) := by decide +kernel
theorem dR_one_48 : decode cX9_one 48 = .ok (.if_icmp .ge 46, 3) := by decide +kernel
theorem dR_one_51 : decode cX9_one 51 = .ok (.aload_n 0, 1) := by decide +kernel
theorem dR_one_52 : decode cX9_one 52 = .ok (.invokevirtual 137, 3) := by decide +kernel
theorem dR_one_55 : decode cX9_one 55 = .ok (.bipush 48, 2) := by decide +kernel
theorem dR_one_57 : decode cX9_one 57 = .ok (.bipush 57, 2) := by decide +kernel
theorem dR_one_59 : decode cX9_one 59 = .ok (.invokestatic 53, 3) := by decide +kernel
theorem dR_one_62 : decode cX9_one 62 = .ok (.ifCond .eq 32, 3) := by decide +kernel
theorem dR_one_65 : decode cX9_one 65 = .ok (.bipush 10, 2) := by decide +kernel
theorem dR_one_67 : decode cX9_one 67 = .ok (.iload_n 2, 1) := by decide +kernel
theorem dR_one_68 : decode cX9_one 68 = .ok (.imul, 1) := by decide +kernel
theorem dR_one_69 : decode cX9_one 69 = .ok (.aload_n 0, 1) := by decide +kernel
theorem dR_one_70 : decode cX9_one 70 = .ok (.invokevirtual 137, 3) := by decide +kernel
theorem dR_one_73 : decode cX9_one 73 = .ok (.iadd, 1) := by decide +kernel
theorem dR_one_74 : decode cX9_one 74 = .ok (.bipush 48, 2) := by decide +kernel
theorem dR_one_76 : decode cX9_one 76 = .ok (.isub, 1) := by decide +kernel
theorem dR_one_77 : decode cX9_one 77 = .ok (.istore_n 2, 1) := by decide +kernel
theorem dR_one_78 : decode cX9_one 78 = .ok (.aload_n 0, 1) := by decide +kernel
theorem dR_one_79 : decode cX9_one 79 = .ok (.dup, 1) := by decide +kernel
theorem dR_one_80 : decode cX9_one 80 = .ok (.getfield 123, 3) := by decide +kernel
theorem dR_one_83 : decode cX9_one 83 = .ok (.iconst 1, 1) := by decide +kernel
theorem dR_one_84 : decode cX9_one 84 = .ok (.iadd, 1) := by decide +kernel
theorem dR_one_85 : decode cX9_one 85 = .ok (.putfield 123, 3) := by decide +kernel
theorem dR_one_88 : decode cX9_one 88 = .ok (.iinc 3 1, 3) := by decide +kernel
theorem dR_one_91 : decode cX9_one 91 = .ok (.goto (-45), 3) := by decide +kernel
theorem dR_one_94 : decode cX9_one 94 = .ok (.aload_n 0, 1) := by decide +kernel
theorem dR_one_95 : decode cX9_one 95 = .ok (.iconst 0, 1) := by decide +kernel
theorem dR_one_96 : decode cX9_one 96 = .ok (.iload_n 2, 1) := by decide +kernel
theorem dR_one_97 : decode cX9_one 97 = .ok (.invokevirtual 140, 3) := by decide +kernel
theorem dR_one_100 : decode cX9_one 100 = .ok (.iconst 1, 1) := by decide +kernel
theorem dR_one_101 : decode cX9_one 101 = .ok (.ireturn, 1) := by decide +kernel
theorem dR_one_102 : decode cX9_one 102 = .ok (.iload_n 1, 1) := by decide +kernel
theorem dR_one_103 : decode cX9_one 103 = .ok (.bipush 33, 2) := by decide +kernel
theorem dR_one_105 : decode cX9_one 105 = .ok (.if_icmp .ne 37, 3) := by decide +kernel
theorem dR_one_108 : decode cX9_one 108 = .ok (.aload_n 0, 1) := by decide +kernel
theorem dR_one_109 : decode cX9_one 109 = .ok (.invokevirtual 162, 3) := by decide +kernel
theorem dR_one_112 : decode cX9_one 112 = .ok (.ifCond .eq 10, 3) := by decide +kernel
theorem dR_one_115 : decode cX9_one 115 = .ok (.aload_n 0, 1) := by decide +kernel
theorem dR_one_116 : decode cX9_one 116 = .ok (.invokevirtual 153, 3) := by decide +kernel
theorem dR_one_119 : decode cX9_one 119 = .ok (.ifCond .ne 5, 3) := by decide +kernel
theorem dR_one_122 : decode cX9_one 122 = .ok (.iconst 0, 1) := by decide +kernel
theorem dR_one_123 : decode cX9_one 123 = .ok (.ireturn, 1) := by decide +kernel
theorem dR_one_124 : decode cX9_one 124 = .ok (.aload_n 0, 1) := by decide +kernel
theorem dR_one_125 : decode cX9_one 125 = .ok (.dup, 1) := by decide +kernel
theorem dR_one_126 : decode cX9_one 126 = .ok (.getfield 156, 3) := by decide +kernel
theorem dR_one_129 : decode cX9_one 129 = .ok (.iconst 1, 1) := by decide +kernel
theorem dR_one_130 : decode cX9_one 130 = .ok (.isub, 1) := by decide +kernel
theorem dR_one_131 : decode cX9_one 131 = .ok (.putfield 156, 3) := by decide +kernel
theorem dR_one_134 : decode cX9_one 134 = .ok (.aload_n 0, 1) := by decide +kernel
theorem dR_one_135 : decode cX9_one 135 = .ok (.iconst 2, 1) := by decide +kernel
theorem dR_one_136 : decode cX9_one 136 = .ok (.iconst 0, 1) := by decide +kernel
theorem dR_one_137 : decode cX9_one 137 = .ok (.invokevirtual 140, 3) := by decide +kernel
theorem dR_one_140 : decode cX9_one 140 = .ok (.iconst 1, 1) := by decide +kernel
theorem dR_one_141 : decode cX9_one 141 = .ok (.ireturn, 1) := by decide +kernel
theorem dR_one_142 : decode cX9_one 142 = .ok (.iload_n 1, 1) := by decide +kernel
theorem dR_one_143 : decode cX9_one 143 = .ok (.bipush 40, 2) := by decide +kernel
theorem dR_one_145 : decode cX9_one 145 = .ok (.if_icmp .ne 26, 3) := by decide +kernel
theorem dR_one_148 : decode cX9_one 148 = .ok (.aload_n 0, 1) := by decide +kernel
theorem dR_one_149 : decode cX9_one 149 = .ok (.invokevirtual 162, 3) := by decide +kernel
theorem dR_one_152 : decode cX9_one 152 = .ok (.ifCond .eq 19, 3) := by decide +kernel
theorem dR_one_155 : decode cX9_one 155 = .ok (.aload_n 0, 1) := by decide +kernel
theorem dR_one_156 : decode cX9_one 156 = .ok (.invokevirtual 165, 3) := by decide +kernel
theorem dR_one_159 : decode cX9_one 159 = .ok (.ifCond .eq 12, 3) := by decide +kernel
theorem dR_one_162 : decode cX9_one 162 = .ok (.aload_n 0, 1) := by decide +kernel
theorem dR_one_163 : decode cX9_one 163 = .ok (.invokevirtual 137, 3) := by decide +kernel
theorem dR_one_166 : decode cX9_one 166 = .ok (.bipush 41, 2) := by decide +kernel
theorem dR_one_168 : decode cX9_one 168 = .ok (.if_icmp .eq 5, 3) := by decide +kernel
theorem dR_one_171 : decode cX9_one 171 = .ok (.iconst 0, 1) := by decide +kernel
theorem dR_one_172 : decode cX9_one 172 = .ok (.ireturn, 1) := by decide +kernel
theorem dR_one_173 : decode cX9_one 173 = .ok (.aload_n 0, 1) := by decide +kernel
theorem dR_one_174 : decode cX9_one 174 = .ok (.dup, 1) := by decide +kernel
theorem dR_one_175 : decode cX9_one 175 = .ok (.getfield 123, 3) := by decide +kernel
theorem dR_one_178 : decode cX9_one 178 = .ok (.iconst 1, 1) := by decide +kernel
theorem dR_one_179 : decode cX9_one 179 = .ok (.iadd, 1) := by decide +kernel
theorem dR_one_180 : decode cX9_one 180 = .ok (.putfield 123, 3) := by decide +kernel
theorem dR_one_183 : decode cX9_one 183 = .ok (.aload_n 0, 1) := by decide +kernel
theorem dR_one_184 : decode cX9_one 184 = .ok (.dup, 1) := by decide +kernel
theorem dR_one_185 : decode cX9_one 185 = .ok (.getfield 156, 3) := by decide +kernel
theorem dR_one_188 : decode cX9_one 188 = .ok (.iconst 1, 1) := by decide +kernel
theorem dR_one_189 : decode cX9_one 189 = .ok (.isub, 1) := by decide +kernel
theorem dR_one_190 : decode cX9_one 190 = .ok (.putfield 156, 3) := by decide +kernel
theorem dR_one_193 : decode cX9_one 193 = .ok (.iconst 1, 1) := by decide +kernel
theorem dR_one_194 : decode cX9_one 194 = .ok (.ireturn, 1) := by decide +kernel
theorem dR_hasText_0 : decode cX9_hasText 0 = .ok (.aload_n 0, 1) := by decide +kernel
theorem dR_hasText_1 : decode cX9_hasText 1 = .ok (.getfield 7, 3) := by decide +kernel
theorem dR_hasText_4 : decode cX9_hasText 4 = .ok (.sipush 202, 3) := by decide +kernel
theorem dR_hasText_7 : decode cX9_hasText 7 = .ok (.bipush 125, 2) := by decide +kernel
theorem dR_hasText_9 : decode cX9_hasText 9 = .ok (.iload_n 1, 1) := by decide +kernel
theorem dR_hasText_10 : decode cX9_hasText 10 = .ok (.imul, 1) := by decide +kernel
theorem dR_hasText_11 : decode cX9_hasText 11 = .ok (.iadd, 1) := by decide +kernel
theorem dR_hasText_12 : decode cX9_hasText 12 = .ok (.iaload, 1) := by decide +kernel
theorem dR_hasText_13 : decode cX9_hasText 13 = .ok (.ifCond .le 7, 3) := by decide +kernel
theorem dR_hasText_16 : decode cX9_hasText 16 = .ok (.iconst 1, 1) := by decide +kernel
theorem dR_hasText_17 : decode cX9_hasText 17 = .ok (.goto 4, 3) := by decide +kernel
theorem dR_hasText_20 : decode cX9_hasText 20 = .ok (.iconst 0, 1) := by decide +kernel
theorem dR_hasText_21 : decode cX9_hasText 21 = .ok (.ireturn, 1) := by decide +kernel
theorem dR_text_0 : decode cX9_text 0 = .ok (.iload_n 1, 1) := by decide +kernel
theorem dR_text_1 : decode cX9_text 1 = .ok (.iconst 0, 1) := by decide +kernel
theorem dR_text_2 : decode cX9_text 2 = .ok (.iconst 1, 1) := by decide +kernel
theorem dR_text_3 : decode cX9_text 3 = .ok (.invokestatic 53, 3) := by decide +kernel
theorem dR_text_6 : decode cX9_text 6 = .ok (.ifCond .ne 9, 3) := by decide +kernel
theorem dR_text_9 : decode cX9_text 9 = .ok (.aload_n 0, 1) := by decide +kernel
theorem dR_text_10 : decode cX9_text 10 = .ok (.iconst 1, 1) := by decide +kernel
theorem dR_text_11 : decode cX9_text 11 = .ok (.invokevirtual 62, 3) := by decide +kernel
theorem dR_text_14 : decode cX9_text 14 = .ok (.ireturn, 1) := by decide +kernel
theorem dR_text_15 : decode cX9_text 15 = .ok (.aload_n 0, 1) := by decide +kernel
theorem dR_text_16 : decode cX9_text 16 = .ok (.iload_n 1, 1) := by decide +kernel
theorem dR_text_17 : decode cX9_text 17 = .ok (.putfield 127, 3) := by decide +kernel
theorem dR_text_20 : decode cX9_text 20 = .ok (.aload_n 0, 1) := by decide +kernel
theorem dR_text_21 : decode cX9_text 21 = .ok (.iconst 0, 1) := by decide +kernel
theorem dR_text_22 : decode cX9_text 22 = .ok (.putfield 123, 3) := by decide +kernel
theorem dR_text_25 : decode cX9_text 25 = .ok (.aload_n 0, 1) := by decide +kernel
theorem dR_text_26 : decode cX9_text 26 = .ok (.iconst 0, 1) := by decide +kernel
theorem dR_text_27 : decode cX9_text 27 = .ok (.putfield 156, 3) := by decide +kernel
theorem dR_text_30 : decode cX9_text 30 = .ok (.aload_n 0, 1) := by decide +kernel
theorem dR_text_31 : decode cX9_text 31 = .ok (.iconst 0, 1) := by decide +kernel
theorem dR_text_32 : decode cX9_text 32 = .ok (.putfield 130, 3) := by decide +kernel
theorem dR_text_35 : decode cX9_text 35 = .ok (.aload_n 0, 1) := by decide +kernel
theorem dR_text_36 : decode cX9_text 36 = .ok (.invokevirtual 165, 3) := by decide +kernel
theorem dR_text_39 : decode cX9_text 39 = .ok (.ifCond .eq 21, 3) := by decide +kernel
theorem dR_text_42 : decode cX9_text 42 = .ok (.aload_n 0, 1) := by decide +kernel
theorem dR_text_43 : decode cX9_text 43 = .ok (.getfield 123, 3) := by decide +kernel
theorem dR_text_46 : decode cX9_text 46 = .ok (.aload_n 0, 1) := by decide +kernel
theorem dR_text_47 : decode cX9_text 47 = .ok (.getfield 7, 3) := by decide +kernel
theorem dR_text_50 : decode cX9_text 50 = .ok (.bipush 6, 2) := by decide +kernel
theorem dR_text_52 : decode cX9_text 52 = .ok (.iaload, 1) := by decide +kernel
theorem dR_text_53 : decode cX9_text 53 = .ok (.if_icmp .ne 7, 3) := by decide +kernel
theorem dR_text_56 : decode cX9_text 56 = .ok (.iconst 1, 1) := by decide +kernel
theorem dR_text_57 : decode cX9_text 57 = .ok (.goto 4, 3) := by decide +kernel
theorem dR_text_60 : decode cX9_text 60 = .ok (.iconst 0, 1) := by decide +kernel
theorem dR_text_61 : decode cX9_text 61 = .ok (.istore_n 2, 1) := by decide +kernel
theorem dR_text_62 : decode cX9_text 62 = .ok (.aload_n 0, 1) := by decide +kernel
theorem dR_text_63 : decode cX9_text 63 = .ok (.getfield 7, 3) := by decide +kernel
theorem dR_text_66 : decode cX9_text 66 = .ok (.bipush 6, 2) := by decide +kernel
theorem dR_text_68 : decode cX9_text 68 = .ok (.iconst 0, 1) := by decide +kernel
theorem dR_text_69 : decode cX9_text 69 = .ok (.iastore, 1) := by decide +kernel
theorem dR_text_70 : decode cX9_text 70 = .ok (.iload_n 2, 1) := by decide +kernel
theorem dR_text_71 : decode cX9_text 71 = .ok (.ifCond .ne 11, 3) := by decide +kernel
theorem dR_text_74 : decode cX9_text 74 = .ok (.bipush (-10), 2) := by decide +kernel
theorem dR_text_76 : decode cX9_text 76 = .ok (.aload_n 0, 1) := by decide +kernel
theorem dR_text_77 : decode cX9_text 77 = .ok (.getfield 123, 3) := by decide +kernel
theorem dR_text_80 : decode cX9_text 80 = .ok (.isub, 1) := by decide +kernel
theorem dR_text_81 : decode cX9_text 81 = .ok (.ireturn, 1) := by decide +kernel
theorem dR_text_82 : decode cX9_text 82 = .ok (.sipush 202, 3) := by decide +kernel
theorem dR_text_85 : decode cX9_text 85 = .ok (.bipush 125, 2) := by decide +kernel
theorem dR_text_87 : decode cX9_text 87 = .ok (.iload_n 1, 1) := by decide +kernel
theorem dR_text_88 : decode cX9_text 88 = .ok (.imul, 1) := by decide +kernel
theorem dR_text_89 : decode cX9_text 89 = .ok (.iadd, 1) := by decide +kernel
theorem dR_text_90 : decode cX9_text 90 = .ok (.istore_n 3, 1) := by decide +kernel
theorem dR_text_91 : decode cX9_text 91 = .ok (.aload_n 0, 1) := by decide +kernel
theorem dR_text_92 : decode cX9_text 92 = .ok (.getfield 7, 3) := by decide +kernel
theorem dR_text_95 : decode cX9_text 95 = .ok (.iload_n 3, 1) := by decide +kernel
theorem dR_text_96 : decode cX9_text 96 = .ok (.aload_n 0, 1) := by decide +kernel
theorem dR_text_97 : decode cX9_text 97 = .ok (.getfield 130, 3) := by decide +kernel
theorem dR_text_100 : decode cX9_text 100 = .ok (.iastore, 1) := by decide +kernel
theorem dR_text_101 : decode cX9_text 101 = .ok (.iconst 0, 1) := by decide +kernel
theorem dR_text_102 : decode cX9_text 102 = .ok (.istore 4, 2) := by decide +kernel
theorem dR_text_104 : decode cX9_text 104 = .ok (.iload 4, 2) := by decide +kernel
theorem dR_text_106 : decode cX9_text 106 = .ok (.iconst 2, 1) := by decide +kernel
theorem dR_text_107 : decode cX9_text 107 = .ok (.aload_n 0, 1) := by decide +kernel
theorem dR_text_108 : decode cX9_text 108 = .ok (.getfield 130, 3) := by decide +kernel
theorem dR_text_111 : decode cX9_text 111 = .ok (.imul, 1) := by decide +kernel
theorem dR_text_112 : decode cX9_text 112 = .ok (.if_icmp .ge 27, 3) := by decide +kernel
theorem dR_text_115 : decode cX9_text 115 = .ok (.aload_n 0, 1) := by decide +kernel
theorem dR_text_116 : decode cX9_text 116 = .ok (.getfield 7, 3) := by decide +kernel
theorem dR_text_119 : decode cX9_text 119 = .ok (.iload_n 3, 1) := by decide +kernel
theorem dR_text_120 : decode cX9_text 120 = .ok (.iconst 1, 1) := by decide +kernel
theorem dR_text_121 : decode cX9_text 121 = .ok (.iadd, 1) := by decide +kernel
theorem dR_text_122 : decode cX9_text 122 = .ok (.iload 4, 2) := by decide +kernel
theorem dR_text_124 : decode cX9_text 124 = .ok (.iadd, 1) := by decide +kernel
theorem dR_text_125 : decode cX9_text 125 = .ok (.aload_n 0, 1) := by decide +kernel
theorem dR_text_126 : decode cX9_text 126 = .ok (.getfield 22, 3) := by decide +kernel
theorem dR_text_129 : decode cX9_text 129 = .ok (.iload 4, 2) := by decide +kernel
theorem dR_text_131 : decode cX9_text 131 = .ok (.iaload, 1) := by decide +kernel
theorem dR_text_132 : decode cX9_text 132 = .ok (.iastore, 1) := by decide +kernel
theorem dR_text_133 : decode cX9_text 133 = .ok (.iinc 4 1, 3) := by decide +kernel
theorem dR_text_136 : decode cX9_text 136 = .ok (.goto (-32), 3) := by decide +kernel
theorem dR_text_139 : decode cX9_text 139 = .ok (.iconst 1, 1) := by decide +kernel
theorem dR_text_140 : decode cX9_text 140 = .ok (.ireturn, 1) := by decide +kernel
theorem dR_untell_0 : decode cX9_untell 0 = .ok (.iload_n 1, 1) := by decide +kernel
theorem dR_untell_1 : decode cX9_untell 1 = .ok (.iconst 0, 1) := by decide +kernel
theorem dR_untell_2 : decode cX9_untell 2 = .ok (.iconst 1, 1) := by decide +kernel
theorem dR_untell_3 : decode cX9_untell 3 = .ok (.invokestatic 53, 3) := by decide +kernel
theorem dR_untell_6 : decode cX9_untell 6 = .ok (.ifCond .ne 9, 3) := by decide +kernel
theorem dR_untell_9 : decode cX9_untell 9 = .ok (.aload_n 0, 1) := by decide +kernel
theorem dR_untell_10 : decode cX9_untell 10 = .ok (.iconst 1, 1) := by decide +kernel
theorem dR_untell_11 : decode cX9_untell 11 = .ok (.invokevirtual 62, 3) := by decide +kernel
theorem dR_untell_14 : decode cX9_untell 14 = .ok (.ireturn, 1) := by decide +kernel
theorem dR_untell_15 : decode cX9_untell 15 = .ok (.aload_n 0, 1) := by decide +kernel
theorem dR_untell_16 : decode cX9_untell 16 = .ok (.iload_n 1, 1) := by decide +kernel
theorem dR_untell_17 : decode cX9_untell 17 = .ok (.invokevirtual 168, 3) := by decide +kernel
theorem dR_untell_20 : decode cX9_untell 20 = .ok (.ifCond .eq 7, 3) := by decide +kernel
theorem dR_untell_23 : decode cX9_untell 23 = .ok (.iconst 1, 1) := by decide +kernel
theorem dR_untell_24 : decode cX9_untell 24 = .ok (.goto 4, 3) := by decide +kernel
theorem dR_untell_27 : decode cX9_untell 27 = .ok (.iconst 0, 1) := by decide +kernel
theorem dR_untell_28 : decode cX9_untell 28 = .ok (.istore_n 2, 1) := by decide +kernel
theorem dR_untell_29 : decode cX9_untell 29 = .ok (.aload_n 0, 1) := by decide +kernel
theorem dR_untell_30 : decode cX9_untell 30 = .ok (.getfield 7, 3) := by decide +kernel
theorem dR_untell_33 : decode cX9_untell 33 = .ok (.sipush 202, 3) := by decide +kernel
theorem dR_untell_36 : decode cX9_untell 36 = .ok (.bipush 125, 2) := by decide +kernel
theorem dR_untell_38 : decode cX9_untell 38 = .ok (.iload_n 1, 1) := by decide +kernel
theorem dR_untell_39 : decode cX9_untell 39 = .ok (.imul, 1) := by decide +kernel
theorem dR_untell_40 : decode cX9_untell 40 = .ok (.iadd, 1) := by decide +kernel
theorem dR_untell_41 : decode cX9_untell 41 = .ok (.iconst 0, 1) := by decide +kernel
theorem dR_untell_42 : decode cX9_untell 42 = .ok (.iastore, 1) := by decide +kernel
theorem dR_untell_43 : decode cX9_untell 43 = .ok (.iload_n 2, 1) := by decide +kernel
theorem dR_untell_44 : decode cX9_untell 44 = .ok (.ireturn, 1) := by decide +kernel
theorem dR_joined_0 : decode cX9_joined 0 = .ok (.iload_n 0, 1) := by decide +kernel
theorem dR_joined_1 : decode cX9_joined 1 = .ok (.tableswitch 217 37 62 #[153, 203, 217, 217, 217, 127, 119, 217, 123, 217, 131, 217, 217, 217, 217, 217, 217, 217, 217, 217, 217, 217, 217, 170, 192, 181], 119) := by decide +kernel
theorem dR_joined_120 : decode cX9_joined 120 = .ok (.iload_n 1, 1) := by decide +kernel
theorem dR_joined_121 : decode cX9_joined 121 = .ok (.iload_n 2, 1) := by decide +kernel
theorem dR_joined_122 : decode cX9_joined 122 = .ok (.iadd, 1) := by decide +kernel
theorem dR_joined_123 : decode cX9_joined 123 = .ok (.ireturn, 1) := by decide +kernel
theorem dR_joined_124 : decode cX9_joined 124 = .ok (.iload_n 1, 1) := by decide +kernel
theorem dR_joined_125 : decode cX9_joined 125 = .ok (.iload_n 2, 1) := by decide +kernel
theorem dR_joined_126 : decode cX9_joined 126 = .ok (.isub, 1) := by decide +kernel
theorem dR_joined_127 : decode cX9_joined 127 = .ok (.ireturn, 1) := by decide +kernel
theorem dR_joined_128 : decode cX9_joined 128 = .ok (.iload_n 1, 1) := by decide +kernel
theorem dR_joined_129 : decode cX9_joined 129 = .ok (.iload_n 2, 1) := by decide +kernel
theorem dR_joined_130 : decode cX9_joined 130 = .ok (.imul, 1) := by decide +kernel
theorem dR_joined_131 : decode cX9_joined 131 = .ok (.ireturn, 1) := by decide +kernel
theorem dR_joined_132 : decode cX9_joined 132 = .ok (.iload_n 2, 1) := by decide +kernel
theorem dR_joined_133 : decode cX9_joined 133 = .ok (.ifCond .ne 7, 3) := by decide +kernel
theorem dR_joined_136 : decode cX9_joined 136 = .ok (.iconst 0, 1) := by decide +kernel
theorem dR_joined_137 : decode cX9_joined 137 = .ok (.goto 16, 3) := by decide +kernel
theorem dR_joined_140 : decode cX9_joined 140 = .ok (.iload_n 2, 1) := by decide +kernel
theorem dR_joined_141 : decode cX9_joined 141 = .ok (.iconst (-1), 1) := by decide +kernel
theorem dR_joined_142 : decode cX9_joined 142 = .ok (.if_icmp .ne 8, 3) := by decide +kernel
theorem dR_joined_145 : decode cX9_joined 145 = .ok (.iload_n 1, 1) := by decide +kernel
theorem dR_joined_146 : decode cX9_joined 146 = .ok (.ineg, 1) := by decide +kernel
theorem dR_joined_147 : decode cX9_joined 147 = .ok (.goto 6, 3) := by decide +kernel
theorem dR_joined_150 : decode cX9_joined 150 = .ok (.iload_n 1, 1) := by decide +kernel
theorem dR_joined_151 : decode cX9_joined 151 = .ok (.iload_n 2, 1) := by decide +kernel
theorem dR_joined_152 : decode cX9_joined 152 = .ok (.idiv, 1) := by decide +kernel
theorem dR_joined_153 : decode cX9_joined 153 = .ok (.ireturn, 1) := by decide +kernel
theorem dR_joined_154 : decode cX9_joined 154 = .ok (.iload_n 2, 1) := by decide +kernel
theorem dR_joined_155 : decode cX9_joined 155 = .ok (.ifCond .eq 8, 3) := by decide +kernel
theorem dR_joined_158 : decode cX9_joined 158 = .ok (.iload_n 2, 1) := by decide +kernel
theorem dR_joined_159 : decode cX9_joined 159 = .ok (.iconst (-1), 1) := by decide +kernel
theorem dR_joined_160 : decode cX9_joined 160 = .ok (.if_icmp .ne 7, 3) := by decide +kernel
theorem dR_joined_163 : decode cX9_joined 163 = .ok (.iconst 0, 1) := by decide +kernel
theorem dR_joined_164 : decode cX9_joined 164 = .ok (.goto 6, 3) := by decide +kernel
theorem dR_joined_167 : decode cX9_joined 167 = .ok (.iload_n 1, 1) := by decide +kernel
theorem dR_joined_168 : decode cX9_joined 168 = .ok (.iload_n 2, 1) := by decide +kernel
theorem dR_joined_169 : decode cX9_joined 169 = .ok (.irem, 1) := by decide +kernel
theorem dR_joined_170 : decode cX9_joined 170 = .ok (.ireturn, 1) := by decide +kernel
theorem dR_joined_171 : decode cX9_joined 171 = .ok (.iload_n 1, 1) := by decide +kernel
theorem dR_joined_172 : decode cX9_joined 172 = .ok (.iload_n 2, 1) := by decide +kernel
theorem dR_joined_173 : decode cX9_joined 173 = .ok (.if_icmp .ge 7, 3) := by decide +kernel
theorem dR_joined_176 : decode cX9_joined 176 = .ok (.iconst 1, 1) := by decide +kernel
theorem dR_joined_177 : decode cX9_joined 177 = .ok (.goto 4, 3) := by decide +kernel
theorem dR_joined_180 : decode cX9_joined 180 = .ok (.iconst 0, 1) := by decide +kernel
theorem dR_joined_181 : decode cX9_joined 181 = .ok (.ireturn, 1) := by decide +kernel
theorem dR_joined_182 : decode cX9_joined 182 = .ok (.iload_n 1, 1) := by decide +kernel
theorem dR_joined_183 : decode cX9_joined 183 = .ok (.iload_n 2, 1) := by decide +kernel
theorem dR_joined_184 : decode cX9_joined 184 = .ok (.if_icmp .le 7, 3) := by decide +kernel
theorem dR_joined_187 : decode cX9_joined 187 = .ok (.iconst 1, 1) := by decide +kernel
theorem dR_joined_188 : decode cX9_joined 188 = .ok (.goto 4, 3) := by decide +kernel
theorem dR_joined_191 : decode cX9_joined 191 = .ok (.iconst 0, 1) := by decide +kernel
theorem dR_joined_192 : decode cX9_joined 192 = .ok (.ireturn, 1) := by decide +kernel
theorem dR_joined_193 : decode cX9_joined 193 = .ok (.iload_n 1, 1) := by decide +kernel
theorem dR_joined_194 : decode cX9_joined 194 = .ok (.iload_n 2, 1) := by decide +kernel
theorem dR_joined_195 : decode cX9_joined 195 = .ok (.if_icmp .ne 7, 3) := by decide +kernel
theorem dR_joined_198 : decode cX9_joined 198 = .ok (.iconst 1, 1) := by decide +kernel
theorem dR_joined_199 : decode cX9_joined 199 = .ok (.goto 4, 3) := by decide +kernel
theorem dR_joined_202 : decode cX9_joined 202 = .ok (.iconst 0, 1) := by decide +kernel
theorem dR_joined_203 : decode cX9_joined 203 = .ok (.ireturn, 1) := by decide +kernel
theorem dR_joined_204 : decode cX9_joined 204 = .ok (.iload_n 1, 1) := by decide +kernel
theorem dR_joined_205 : decode cX9_joined 205 = .ok (.ifCond .eq 11, 3) := by decide +kernel
theorem dR_joined_208 : decode cX9_joined 208 = .ok (.iload_n 2, 1) := by decide +kernel
theorem dR_joined_209 : decode cX9_joined 209 = .ok (.ifCond .eq 7, 3) := by decide +kernel
theorem dR_joined_212 : decode cX9_joined 212 = .ok (.iconst 1, 1) := by decide +kernel
theorem dR_joined_213 : decode cX9_joined 213 = .ok (.goto 4, 3) := by decide +kernel
theorem dR_joined_216 : decode cX9_joined 216 = .ok (.iconst 0, 1) := by decide +kernel
theorem dR_joined_217 : decode cX9_joined 217 = .ok (.ireturn, 1) := by decide +kernel
theorem dR_joined_218 : decode cX9_joined 218 = .ok (.iload_n 1, 1) := by decide +kernel
theorem dR_joined_219 : decode cX9_joined 219 = .ok (.ifCond .ne 7, 3) := by decide +kernel
theorem dR_joined_222 : decode cX9_joined 222 = .ok (.iload_n 2, 1) := by decide +kernel
theorem dR_joined_223 : decode cX9_joined 223 = .ok (.ifCond .eq 7, 3) := by decide +kernel
theorem dR_joined_226 : decode cX9_joined 226 = .ok (.iconst 1, 1) := by decide +kernel
theorem dR_joined_227 : decode cX9_joined 227 = .ok (.goto 4, 3) := by decide +kernel
theorem dR_joined_230 : decode cX9_joined 230 = .ok (.iconst 0, 1) := by decide +kernel
theorem dR_joined_231 : decode cX9_joined 231 = .ok (.ireturn, 1) := by decide +kernel
theorem dR_worked_0 : decode cX9_worked 0 = .ok (.sipush 202, 3) := by decide +kernel
theorem dR_worked_3 : decode cX9_worked 3 = .ok (.bipush 125, 2) := by decide +kernel
theorem dR_worked_5 : decode cX9_worked 5 = .ok (.iload_n 1, 1) := by decide +kernel
theorem dR_worked_6 : decode cX9_worked 6 = .ok (.imul, 1) := by decide +kernel
theorem dR_worked_7 : decode cX9_worked 7 = .ok (.iadd, 1) := by decide +kernel
theorem dR_worked_8 : decode cX9_worked 8 = .ok (.istore_n 2, 1) := by decide +kernel
theorem dR_worked_9 : decode cX9_worked 9 = .ok (.iconst 0, 1) := by decide +kernel
theorem dR_worked_10 : decode cX9_worked 10 = .ok (.istore_n 3, 1) := by decide +kernel
theorem dR_worked_11 : decode cX9_worked 11 = .ok (.iconst 0, 1) := by decide +kernel
theorem dR_worked_12 : decode cX9_worked 12 = .ok (.istore 4, 2) := by decide +kernel
theorem dR_worked_14 : decode cX9_worked 14 = .ok (.iload 4, 2) := by decide +kernel
theorem dR_worked_16 : decode cX9_worked 16 = .ok (.aload_n 0, 1) := by decide +kernel
theorem dR_worked_17 : decode cX9_worked 17 = .ok (.getfield 7, 3) := by decide +kernel
theorem dR_worked_20 : decode cX9_worked 20 = .ok (.iload_n 2, 1) := by decide +kernel
theorem dR_worked_21 : decode cX9_worked 21 = .ok (.iaload, 1) := by decide +kernel
theorem dR_worked_22 : decode cX9_worked 22 = .ok (.if_icmp .ge 142, 3) := by decide +kernel
theorem dR_worked_25 : decode cX9_worked 25 = .ok (.aload_n 0, 1) := by decide +kernel
theorem dR_worked_26 : decode cX9_worked 26 = .ok (.getfield 7, 3) := by decide +kernel
theorem dR_worked_29 : decode cX9_worked 29 = .ok (.iload_n 2, 1) := by decide +kernel
theorem dR_worked_30 : decode cX9_worked 30 = .ok (.iconst 1, 1) := by decide +kernel
theorem dR_worked_31 : decode cX9_worked 31 = .ok (.iadd, 1) := by decide +kernel
theorem dR_worked_32 : decode cX9_worked 32 = .ok (.iconst 2, 1) := by decide +kernel
theorem dR_worked_33 : decode cX9_worked 33 = .ok (.iload 4, 2) := by decide +kernel
theorem dR_worked_35 : decode cX9_worked 35 = .ok (.imul, 1) := by decide +kernel
theorem dR_worked_36 : decode cX9_worked 36 = .ok (.iadd, 1) := by decide +kernel
theorem dR_worked_37 : decode cX9_worked 37 = .ok (.iaload, 1) := by decide +kernel
theorem dR_worked_38 : decode cX9_worked 38 = .ok (.istore 5, 2) := by decide +kernel
theorem dR_worked_40 : decode cX9_worked 40 = .ok (.aload_n 0, 1) := by decide +kernel
theorem dR_worked_41 : decode cX9_worked 41 = .ok (.getfield 7, 3) := by decide +kernel
theorem dR_worked_44 : decode cX9_worked 44 = .ok (.iload_n 2, 1) := by decide +kernel
theorem dR_worked_45 : decode cX9_worked 45 = .ok (.iconst 2, 1) := by decide +kernel
theorem dR_worked_46 : decode cX9_worked 46 = .ok (.iadd, 1) := by decide +kernel
theorem dR_worked_47 : decode cX9_worked 47 = .ok (.iconst 2, 1) := by decide +kernel
theorem dR_worked_48 : decode cX9_worked 48 = .ok (.iload 4, 2) := by decide +kernel
theorem dR_worked_50 : decode cX9_worked 50 = .ok (.imul, 1) := by decide +kernel
theorem dR_worked_51 : decode cX9_worked 51 = .ok (.iadd, 1) := by decide +kernel
theorem dR_worked_52 : decode cX9_worked 52 = .ok (.iaload, 1) := by decide +kernel
theorem dR_worked_53 : decode cX9_worked 53 = .ok (.istore 6, 2) := by decide +kernel
theorem dR_worked_55 : decode cX9_worked 55 = .ok (.iload 5, 2) := by decide +kernel
theorem dR_worked_57 : decode cX9_worked 57 = .ok (.ifCond .eq 9, 3) := by decide +kernel
theorem dR_worked_60 : decode cX9_worked 60 = .ok (.iload 5, 2) := by decide +kernel
theorem dR_worked_62 : decode cX9_worked 62 = .ok (.iconst 1, 1) := by decide +kernel
theorem dR_worked_63 : decode cX9_worked 63 = .ok (.if_icmp .ne 32, 3) := by decide +kernel
theorem dR_worked_66 : decode cX9_worked 66 = .ok (.aload_n 0, 1) := by decide +kernel
theorem dR_worked_67 : decode cX9_worked 67 = .ok (.getfield 28, 3) := by decide +kernel
theorem dR_worked_70 : decode cX9_worked 70 = .ok (.iload_n 3, 1) := by decide +kernel
theorem dR_worked_71 : decode cX9_worked 71 = .ok (.iload 5, 2) := by decide +kernel
theorem dR_worked_73 : decode cX9_worked 73 = .ok (.ifCond .ne 8, 3) := by decide +kernel
theorem dR_worked_76 : decode cX9_worked 76 = .ok (.iload 6, 2) := by decide +kernel
theorem dR_worked_78 : decode cX9_worked 78 = .ok (.goto 10, 3) := by decide +kernel
theorem dR_worked_81 : decode cX9_worked 81 = .ok (.aload_n 0, 1) := by decide +kernel
theorem dR_worked_82 : decode cX9_worked 82 = .ok (.getfield 25, 3) := by decide +kernel
theorem dR_worked_85 : decode cX9_worked 85 = .ok (.iload 6, 2) := by decide +kernel
theorem dR_worked_87 : decode cX9_worked 87 = .ok (.iaload, 1) := by decide +kernel
theorem dR_worked_88 : decode cX9_worked 88 = .ok (.iastore, 1) := by decide +kernel
theorem dR_worked_89 : decode cX9_worked 89 = .ok (.iinc 3 1, 3) := by decide +kernel
theorem dR_worked_92 : decode cX9_worked 92 = .ok (.goto 66, 3) := by decide +kernel
theorem dR_worked_95 : decode cX9_worked 95 = .ok (.iload 5, 2) := by decide +kernel
theorem dR_worked_97 : decode cX9_worked 97 = .ok (.iconst 2, 1) := by decide +kernel
theorem dR_worked_98 : decode cX9_worked 98 = .ok (.if_icmp .ne 30, 3) := by decide +kernel
theorem dR_worked_101 : decode cX9_worked 101 = .ok (.aload_n 0, 1) := by decide +kernel
theorem dR_worked_102 : decode cX9_worked 102 = .ok (.getfield 28, 3) := by decide +kernel
theorem dR_worked_105 : decode cX9_worked 105 = .ok (.iload_n 3, 1) := by decide +kernel
theorem dR_worked_106 : decode cX9_worked 106 = .ok (.iconst 1, 1) := by decide +kernel
theorem dR_worked_107 : decode cX9_worked 107 = .ok (.isub, 1) := by decide +kernel
theorem dR_worked_108 : decode cX9_worked 108 = .ok (.aload_n 0, 1) := by decide +kernel
theorem dR_worked_109 : decode cX9_worked 109 = .ok (.getfield 28, 3) := by decide +kernel
theorem dR_worked_112 : decode cX9_worked 112 = .ok (.iload_n 3, 1) := by decide +kernel
theorem dR_worked_113 : decode cX9_worked 113 = .ok (.iconst 1, 1) := by decide +kernel
theorem dR_worked_114 : decode cX9_worked 114 = .ok (.isub, 1) := by decide +kernel
theorem dR_worked_115 : decode cX9_worked 115 = .ok (.iaload, 1) := by decide +kernel
theorem dR_worked_116 : decode cX9_worked 116 = .ok (.ifCond .ne 7, 3) := by decide +kernel
theorem dR_worked_119 : decode cX9_worked 119 = .ok (.iconst 1, 1) := by decide +kernel
theorem dR_worked_120 : decode cX9_worked 120 = .ok (.goto 4, 3) := by decide +kernel
theorem dR_worked_123 : decode cX9_worked 123 = .ok (.iconst 0, 1) := by decide +kernel
theorem dR_worked_124 : decode cX9_worked 124 = .ok (.iastore, 1) := by decide +kernel
theorem dR_worked_125 : decode cX9_worked 125 = .ok (.goto 33, 3) := by decide +kernel
theorem dR_worked_128 : decode cX9_worked 128 = .ok (.iinc 3 (-1), 3) := by decide +kernel
theorem dR_worked_131 : decode cX9_worked 131 = .ok (.aload_n 0, 1) := by decide +kernel
theorem dR_worked_132 : decode cX9_worked 132 = .ok (.getfield 28, 3) := by decide +kernel
theorem dR_worked_135 : decode cX9_worked 135 = .ok (.iload_n 3, 1) := by decide +kernel
theorem dR_worked_136 : decode cX9_worked 136 = .ok (.iconst 1, 1) := by decide +kernel
theorem dR_worked_137 : decode cX9_worked 137 = .ok (.isub, 1) := by decide +kernel
theorem dR_worked_138 : decode cX9_worked 138 = .ok (.iload 6, 2) := by decide +kernel
theorem dR_worked_140 : decode cX9_worked 140 = .ok (.aload_n 0, 1) := by decide +kernel
theorem dR_worked_141 : decode cX9_worked 141 = .ok (.getfield 28, 3) := by decide +kernel
theorem dR_worked_144 : decode cX9_worked 144 = .ok (.iload_n 3, 1) := by decide +kernel
theorem dR_worked_145 : decode cX9_worked 145 = .ok (.iconst 1, 1) := by decide +kernel
theorem dR_worked_146 : decode cX9_worked 146 = .ok (.isub, 1) := by decide +kernel
theorem dR_worked_147 : decode cX9_worked 147 = .ok (.iaload, 1) := by decide +kernel
theorem dR_worked_148 : decode cX9_worked 148 = .ok (.aload_n 0, 1) := by decide +kernel
theorem dR_worked_149 : decode cX9_worked 149 = .ok (.getfield 28, 3) := by decide +kernel
theorem dR_worked_152 : decode cX9_worked 152 = .ok (.iload_n 3, 1) := by decide +kernel
theorem dR_worked_153 : decode cX9_worked 153 = .ok (.iaload, 1) := by decide +kernel
theorem dR_worked_154 : decode cX9_worked 154 = .ok (.invokestatic 171, 3) := by decide +kernel
theorem dR_worked_157 : decode cX9_worked 157 = .ok (.iastore, 1) := by decide +kernel
theorem dR_worked_158 : decode cX9_worked 158 = .ok (.iinc 4 1, 3) := by decide +kernel
theorem dR_worked_161 : decode cX9_worked 161 = .ok (.goto (-147), 3) := by decide +kernel
theorem dR_worked_164 : decode cX9_worked 164 = .ok (.aload_n 0, 1) := by decide +kernel
theorem dR_worked_165 : decode cX9_worked 165 = .ok (.getfield 28, 3) := by decide +kernel
theorem dR_worked_168 : decode cX9_worked 168 = .ok (.iconst 0, 1) := by decide +kernel
theorem dR_worked_169 : decode cX9_worked 169 = .ok (.iaload, 1) := by decide +kernel
theorem dR_worked_170 : decode cX9_worked 170 = .ok (.ireturn, 1) := by decide +kernel
theorem dR_thousandths_0 : decode cX9_thousandths 0 = .ok (.aload_n 0, 1) := by decide +kernel
theorem dR_thousandths_1 : decode cX9_thousandths 1 = .ok (.iload_n 1, 1) := by decide +kernel
theorem dR_thousandths_2 : decode cX9_thousandths 2 = .ok (.iconst 2, 1) := by decide +kernel
theorem dR_thousandths_3 : decode cX9_thousandths 3 = .ok (.invokevirtual 73, 3) := by decide +kernel
theorem dR_thousandths_6 : decode cX9_thousandths 6 = .ok (.ifCond .ne 7, 3) := by decide +kernel
theorem dR_thousandths_9 : decode cX9_thousandths 9 = .ok (.iconst 0, 1) := by decide +kernel
theorem dR_thousandths_10 : decode cX9_thousandths 10 = .ok (.goto 21, 3) := by decide +kernel
theorem dR_thousandths_13 : decode cX9_thousandths 13 = .ok (.aload_n 0, 1) := by decide +kernel
theorem dR_thousandths_14 : decode cX9_thousandths 14 = .ok (.iload_n 1, 1) := by decide +kernel
theorem dR_thousandths_15 : decode cX9_thousandths 15 = .ok (.iconst 3, 1) := by decide +kernel
theorem dR_thousandths_16 : decode cX9_thousandths 16 = .ok (.invokevirtual 73, 3) := by decide +kernel
theorem dR_thousandths_19 : decode cX9_thousandths 19 = .ok (.sipush 1000, 3) := by decide +kernel
theorem dR_thousandths_22 : decode cX9_thousandths 22 = .ok (.aload_n 0, 1) := by decide +kernel
theorem dR_thousandths_23 : decode cX9_thousandths 23 = .ok (.iload_n 1, 1) := by decide +kernel
theorem dR_thousandths_24 : decode cX9_thousandths 24 = .ok (.iconst 2, 1) := by decide +kernel
theorem dR_thousandths_25 : decode cX9_thousandths 25 = .ok (.invokevirtual 73, 3) := by decide +kernel
theorem dR_thousandths_28 : decode cX9_thousandths 28 = .ok (.invokestatic 99, 3) := by decide +kernel
theorem dR_thousandths_31 : decode cX9_thousandths 31 = .ok (.ireturn, 1) := by decide +kernel
theorem dR_rings_0 : decode cX9_rings 0 = .ok (.aload_n 0, 1) := by decide +kernel
theorem dR_rings_1 : decode cX9_rings 1 = .ok (.iload_n 1, 1) := by decide +kernel
theorem dR_rings_2 : decode cX9_rings 2 = .ok (.invokevirtual 174, 3) := by decide +kernel
theorem dR_rings_5 : decode cX9_rings 5 = .ok (.istore_n 2, 1) := by decide +kernel
theorem dR_rings_6 : decode cX9_rings 6 = .ok (.aload_n 0, 1) := by decide +kernel
theorem dR_rings_7 : decode cX9_rings 7 = .ok (.iconst 0, 1) := by decide +kernel
theorem dR_rings_8 : decode cX9_rings 8 = .ok (.invokevirtual 168, 3) := by decide +kernel
theorem dR_rings_11 : decode cX9_rings 11 = .ok (.ifCond .ne 23, 3) := by decide +kernel
theorem dR_rings_14 : decode cX9_rings 14 = .ok (.sipush 1000, 3) := by decide +kernel
theorem dR_rings_17 : decode cX9_rings 17 = .ok (.iload_n 2, 1) := by decide +kernel
theorem dR_rings_18 : decode cX9_rings 18 = .ok (.isub, 1) := by decide +kernel
theorem dR_rings_19 : decode cX9_rings 19 = .ok (.aload_n 0, 1) := by decide +kernel
theorem dR_rings_20 : decode cX9_rings 20 = .ok (.iload_n 1, 1) := by decide +kernel
theorem dR_rings_21 : decode cX9_rings 21 = .ok (.iconst 1, 1) := by decide +kernel
theorem dR_rings_22 : decode cX9_rings 22 = .ok (.invokevirtual 73, 3) := by decide +kernel
theorem dR_rings_25 : decode cX9_rings 25 = .ok (.iadd, 1) := by decide +kernel
theorem dR_rings_26 : decode cX9_rings 26 = .ok (.iconst 0, 1) := by decide +kernel
theorem dR_rings_27 : decode cX9_rings 27 = .ok (.sipush 9999, 3) := by decide +kernel
theorem dR_rings_30 : decode cX9_rings 30 = .ok (.invokestatic 92, 3) := by decide +kernel
theorem dR_rings_33 : decode cX9_rings 33 = .ok (.ireturn, 1) := by decide +kernel
theorem dR_rings_34 : decode cX9_rings 34 = .ok (.aload_n 0, 1) := by decide +kernel
theorem dR_rings_35 : decode cX9_rings 35 = .ok (.getfield 25, 3) := by decide +kernel
theorem dR_rings_38 : decode cX9_rings 38 = .ok (.bipush 103, 2) := by decide +kernel
theorem dR_rings_40 : decode cX9_rings 40 = .ok (.aload_n 0, 1) := by decide +kernel
theorem dR_rings_41 : decode cX9_rings 41 = .ok (.iload_n 1, 1) := by decide +kernel
theorem dR_rings_42 : decode cX9_rings 42 = .ok (.iconst 2, 1) := by decide +kernel
theorem dR_rings_43 : decode cX9_rings 43 = .ok (.invokevirtual 73, 3) := by decide +kernel
theorem dR_rings_46 : decode cX9_rings 46 = .ok (.iastore, 1) := by decide +kernel
theorem dR_rings_47 : decode cX9_rings 47 = .ok (.aload_n 0, 1) := by decide +kernel
theorem dR_rings_48 : decode cX9_rings 48 = .ok (.getfield 25, 3) := by decide +kernel
theorem dR_rings_51 : decode cX9_rings 51 = .ok (.bipush 115, 2) := by decide +kernel
theorem dR_rings_53 : decode cX9_rings 53 = .ok (.iload_n 2, 1) := by decide +kernel
theorem dR_rings_54 : decode cX9_rings 54 = .ok (.iastore, 1) := by decide +kernel
theorem dR_rings_55 : decode cX9_rings 55 = .ok (.aload_n 0, 1) := by decide +kernel
theorem dR_rings_56 : decode cX9_rings 56 = .ok (.getfield 25, 3) := by decide +kernel
theorem dR_rings_59 : decode cX9_rings 59 = .ok (.bipush 109, 2) := by decide +kernel
theorem dR_rings_61 : decode cX9_rings 61 = .ok (.aload_n 0, 1) := by decide +kernel
theorem dR_rings_62 : decode cX9_rings 62 = .ok (.iload_n 1, 1) := by decide +kernel
theorem dR_rings_63 : decode cX9_rings 63 = .ok (.iconst 1, 1) := by decide +kernel
theorem dR_rings_64 : decode cX9_rings 64 = .ok (.invokevirtual 73, 3) := by decide +kernel
theorem dR_rings_67 : decode cX9_rings 67 = .ok (.iastore, 1) := by decide +kernel
theorem dR_rings_68 : decode cX9_rings 68 = .ok (.aload_n 0, 1) := by decide +kernel
theorem dR_rings_69 : decode cX9_rings 69 = .ok (.iconst 0, 1) := by decide +kernel
theorem dR_rings_70 : decode cX9_rings 70 = .ok (.invokevirtual 177, 3) := by decide +kernel
theorem dR_rings_73 : decode cX9_rings 73 = .ok (.iconst 0, 1) := by decide +kernel
theorem dR_rings_74 : decode cX9_rings 74 = .ok (.sipush 9999, 3) := by decide +kernel
theorem dR_rings_77 : decode cX9_rings 77 = .ok (.invokestatic 92, 3) := by decide +kernel
theorem dR_rings_80 : decode cX9_rings 80 = .ok (.ireturn, 1) := by decide +kernel
theorem dR_tone_0 : decode cX9_tone 0 = .ok (.sipush 1000, 3) := by decide +kernel
theorem dR_tone_3 : decode cX9_tone 3 = .ok (.aload_n 0, 1) := by decide +kernel
theorem dR_tone_4 : decode cX9_tone 4 = .ok (.iload_n 1, 1) := by decide +kernel
theorem dR_tone_5 : decode cX9_tone 5 = .ok (.invokevirtual 174, 3) := by decide +kernel
theorem dR_tone_8 : decode cX9_tone 8 = .ok (.isub, 1) := by decide +kernel
theorem dR_tone_9 : decode cX9_tone 9 = .ok (.istore_n 2, 1) := by decide +kernel
theorem dR_tone_10 : decode cX9_tone 10 = .ok (.aload_n 0, 1) := by decide +kernel
theorem dR_tone_11 : decode cX9_tone 11 = .ok (.iload_n 1, 1) := by decide +kernel
theorem dR_tone_12 : decode cX9_tone 12 = .ok (.iconst 1, 1) := by decide +kernel
theorem dR_tone_13 : decode cX9_tone 13 = .ok (.invokevirtual 73, 3) := by decide +kernel
theorem dR_tone_16 : decode cX9_tone 16 = .ok (.istore_n 3, 1) := by decide +kernel
theorem dR_tone_17 : decode cX9_tone 17 = .ok (.aload_n 0, 1) := by decide +kernel
theorem dR_tone_18 : decode cX9_tone 18 = .ok (.iload_n 1, 1) := by decide +kernel
theorem dR_tone_19 : decode cX9_tone 19 = .ok (.iconst 0, 1) := by decide +kernel
theorem dR_tone_20 : decode cX9_tone 20 = .ok (.invokevirtual 73, 3) := by decide +kernel
theorem dR_tone_23 : decode cX9_tone 23 = .ok (.tableswitch 90 1 6 #[37, 43, 49, 55, 65, 82], 37) := by decide +kernel
theorem dR_tone_60 : decode cX9_tone 60 = .ok (.aload_n 0, 1) := by decide +kernel
theorem dR_tone_61 : decode cX9_tone 61 = .ok (.iload_n 1, 1) := by decide +kernel
theorem dR_tone_62 : decode cX9_tone 62 = .ok (.invokevirtual 180, 3) := by decide +kernel
theorem dR_tone_65 : decode cX9_tone 65 = .ok (.ireturn, 1) := by decide +kernel
theorem dR_tone_66 : decode cX9_tone 66 = .ok (.iload_n 2, 1) := by decide +kernel
theorem dR_tone_67 : decode cX9_tone 67 = .ok (.iconst 2, 1) := by decide +kernel
theorem dR_tone_68 : decode cX9_tone 68 = .ok (.idiv, 1) := by decide +kernel
theorem dR_tone_69 : decode cX9_tone 69 = .ok (.iload_n 3, 1) := by decide +kernel
theorem dR_tone_70 : decode cX9_tone 70 = .ok (.iadd, 1) := by decide +kernel
theorem dR_tone_71 : decode cX9_tone 71 = .ok (.ireturn, 1) := by decide +kernel
theorem dR_tone_72 : decode cX9_tone 72 = .ok (.iload_n 2, 1) := by decide +kernel
theorem dR_tone_73 : decode cX9_tone 73 = .ok (.iconst 2, 1) := by decide +kernel
theorem dR_tone_74 : decode cX9_tone 74 = .ok (.iload_n 3, 1) := by decide +kernel
theorem dR_tone_75 : decode cX9_tone 75 = .ok (.imul, 1) := by decide +kernel
theorem dR_tone_76 : decode cX9_tone 76 = .ok (.isub, 1) := by decide +kernel
theorem dR_tone_77 : decode cX9_tone 77 = .ok (.ireturn, 1) := by decide +kernel
theorem dR_tone_78 : decode cX9_tone 78 = .ok (.aload_n 0, 1) := by decide +kernel
theorem dR_tone_79 : decode cX9_tone 79 = .ok (.iload_n 1, 1) := by decide +kernel
theorem dR_tone_80 : decode cX9_tone 80 = .ok (.invokevirtual 180, 3) := by decide +kernel
theorem dR_tone_83 : decode cX9_tone 83 = .ok (.iconst 2, 1) := by decide +kernel
theorem dR_tone_84 : decode cX9_tone 84 = .ok (.iload_n 3, 1) := by decide +kernel
theorem dR_tone_85 : decode cX9_tone 85 = .ok (.imul, 1) := by decide +kernel
theorem dR_tone_86 : decode cX9_tone 86 = .ok (.iadd, 1) := by decide +kernel
theorem dR_tone_87 : decode cX9_tone 87 = .ok (.ireturn, 1) := by decide +kernel
theorem dR_tone_88 : decode cX9_tone 88 = .ok (.iload_n 2, 1) := by decide +kernel
theorem dR_tone_89 : decode cX9_tone 89 = .ok (.iconst 2, 1) := by decide +kernel
theorem dR_tone_90 : decode cX9_tone 90 = .ok (.idiv, 1) := by decide +kernel
theorem dR_tone_91 : decode cX9_tone 91 = .ok (.iload_n 3, 1) := by decide +kernel
theorem dR_tone_92 : decode cX9_tone 92 = .ok (.iadd, 1) := by decide +kernel
theorem dR_tone_93 : decode cX9_tone 93 = .ok (.aload_n 0, 1) := by decide +kernel
theorem dR_tone_94 : decode cX9_tone 94 = .ok (.iload_n 1, 1) := by decide +kernel
theorem dR_tone_95 : decode cX9_tone 95 = .ok (.iconst 2, 1) := by decide +kernel
theorem dR_tone_96 : decode cX9_tone 96 = .ok (.invokevirtual 73, 3) := by decide +kernel
theorem dR_tone_99 : decode cX9_tone 99 = .ok (.sipush 1000, 3) := by decide +kernel
theorem dR_tone_102 : decode cX9_tone 102 = .ok (.idiv, 1) := by decide +kernel
theorem dR_tone_103 : decode cX9_tone 103 = .ok (.iadd, 1) := by decide +kernel
theorem dR_tone_104 : decode cX9_tone 104 = .ok (.ireturn, 1) := by decide +kernel
theorem dR_tone_105 : decode cX9_tone 105 = .ok (.iconst 0, 1) := by decide +kernel
theorem dR_tone_106 : decode cX9_tone 106 = .ok (.iload_n 2, 1) := by decide +kernel
theorem dR_tone_107 : decode cX9_tone 107 = .ok (.iconst 2, 1) := by decide +kernel
theorem dR_tone_108 : decode cX9_tone 108 = .ok (.iload_n 3, 1) := by decide +kernel
theorem dR_tone_109 : decode cX9_tone 109 = .ok (.imul, 1) := by decide +kernel
theorem dR_tone_110 : decode cX9_tone 110 = .ok (.isub, 1) := by decide +kernel
theorem dR_tone_111 : decode cX9_tone 111 = .ok (.isub, 1) := by decide +kernel
theorem dR_tone_112 : decode cX9_tone 112 = .ok (.ireturn, 1) := by decide +kernel
theorem dR_tone_113 : decode cX9_tone 113 = .ok (.iload_n 2, 1) := by decide +kernel
theorem dR_tone_114 : decode cX9_tone 114 = .ok (.ireturn, 1) := by decide +kernel
theorem dR_isClaim_0 : decode cX9_isClaim 0 = .ok (.iload_n 1, 1) := by decide +kernel
theorem dR_isClaim_1 : decode cX9_isClaim 1 = .ok (.iconst 0, 1) := by decide +kernel
theorem dR_isClaim_2 : decode cX9_isClaim 2 = .ok (.aload_n 0, 1) := by decide +kernel
theorem dR_isClaim_3 : decode cX9_isClaim 3 = .ok (.getfield 7, 3) := by decide +kernel
theorem dR_isClaim_6 : decode cX9_isClaim 6 = .ok (.iconst 2, 1) := by decide +kernel
theorem dR_isClaim_7 : decode cX9_isClaim 7 = .ok (.iaload, 1) := by decide +kernel
theorem dR_isClaim_8 : decode cX9_isClaim 8 = .ok (.iconst 1, 1) := by decide +kernel
theorem dR_isClaim_9 : decode cX9_isClaim 9 = .ok (.isub, 1) := by decide +kernel
theorem dR_isClaim_10 : decode cX9_isClaim 10 = .ok (.invokestatic 53, 3) := by decide +kernel
theorem dR_isClaim_13 : decode cX9_isClaim 13 = .ok (.ireturn, 1) := by decide +kernel
theorem dR_of_0 : decode cX9_of 0 = .ok (.aload_n 0, 1) := by decide +kernel
theorem dR_of_1 : decode cX9_of 1 = .ok (.getfield 7, 3) := by decide +kernel
theorem dR_of_4 : decode cX9_of 4 = .ok (.sipush 140, 3) := by decide +kernel
theorem dR_of_7 : decode cX9_of 7 = .ok (.iconst 2, 1) := by decide +kernel
theorem dR_of_8 : decode cX9_of 8 = .ok (.iload_n 1, 1) := by decide +kernel
theorem dR_of_9 : decode cX9_of 9 = .ok (.imul, 1) := by decide +kernel
theorem dR_of_10 : decode cX9_of 10 = .ok (.iadd, 1) := by decide +kernel
theorem dR_of_11 : decode cX9_of 11 = .ok (.iload_n 2, 1) := by decide +kernel
theorem dR_of_12 : decode cX9_of 12 = .ok (.iadd, 1) := by decide +kernel
theorem dR_of_13 : decode cX9_of 13 = .ok (.iaload, 1) := by decide +kernel
theorem dR_of_14 : decode cX9_of 14 = .ok (.ireturn, 1) := by decide +kernel
theorem dR_manyOn_0 : decode cX9_manyOn 0 = .ok (.iconst 0, 1) := by decide +kernel
theorem dR_manyOn_1 : decode cX9_manyOn 1 = .ok (.istore_n 2, 1) := by decide +kernel
theorem dR_manyOn_2 : decode cX9_manyOn 2 = .ok (.iconst 0, 1) := by decide +kernel
theorem dR_manyOn_3 : decode cX9_manyOn 3 = .ok (.istore_n 3, 1) := by decide +kernel
theorem dR_manyOn_4 : decode cX9_manyOn 4 = .ok (.iload_n 3, 1) := by decide +kernel
theorem dR_manyOn_5 : decode cX9_manyOn 5 = .ok (.aload_n 0, 1) := by decide +kernel
theorem dR_manyOn_6 : decode cX9_manyOn 6 = .ok (.getfield 7, 3) := by decide +kernel
theorem dR_manyOn_9 : decode cX9_manyOn 9 = .ok (.iconst 2, 1) := by decide +kernel
theorem dR_manyOn_10 : decode cX9_manyOn 10 = .ok (.iaload, 1) := by decide +kernel
theorem dR_manyOn_11 : decode cX9_manyOn 11 = .ok (.if_icmp .ge 27, 3) := by decide +kernel
theorem dR_manyOn_14 : decode cX9_manyOn 14 = .ok (.iload_n 2, 1) := by decide +kernel
theorem dR_manyOn_15 : decode cX9_manyOn 15 = .ok (.aload_n 0, 1) := by decide +kernel
theorem dR_manyOn_16 : decode cX9_manyOn 16 = .ok (.iload_n 3, 1) := by decide +kernel
theorem dR_manyOn_17 : decode cX9_manyOn 17 = .ok (.iconst 0, 1) := by decide +kernel
theorem dR_manyOn_18 : decode cX9_manyOn 18 = .ok (.invokevirtual 183, 3) := by decide +kernel
theorem dR_manyOn_21 : decode cX9_manyOn 21 = .ok (.iload_n 1, 1) := by decide +kernel
theorem dR_manyOn_22 : decode cX9_manyOn 22 = .ok (.if_icmp .ne 7, 3) := by decide +kernel
theorem dR_manyOn_25 : decode cX9_manyOn 25 = .ok (.iconst 1, 1) := by decide +kernel
theorem dR_manyOn_26 : decode cX9_manyOn 26 = .ok (.goto 4, 3) := by decide +kernel
theorem dR_manyOn_29 : decode cX9_manyOn 29 = .ok (.iconst 0, 1) := by decide +kernel
theorem dR_manyOn_30 : decode cX9_manyOn 30 = .ok (.iadd, 1) := by decide +kernel
theorem dR_manyOn_31 : decode cX9_manyOn 31 = .ok (.istore_n 2, 1) := by decide +kernel
theorem dR_manyOn_32 : decode cX9_manyOn 32 = .ok (.iinc 3 1, 3) := by decide +kernel
theorem dR_manyOn_35 : decode cX9_manyOn 35 = .ok (.goto (-31), 3) := by decide +kernel
theorem dR_manyOn_38 : decode cX9_manyOn 38 = .ok (.iload_n 2, 1) := by decide +kernel
theorem dR_manyOn_39 : decode cX9_manyOn 39 = .ok (.ireturn, 1) := by decide +kernel
theorem dR_counts_0 : decode cX9_counts 0 = .ok (.aload_n 0, 1) := by decide +kernel
theorem dR_counts_1 : decode cX9_counts 1 = .ok (.iload_n 1, 1) := by decide +kernel
theorem dR_counts_2 : decode cX9_counts 2 = .ok (.iconst 1, 1) := by decide +kernel
theorem dR_counts_3 : decode cX9_counts 3 = .ok (.invokevirtual 183, 3) := by decide +kernel
theorem dR_counts_6 : decode cX9_counts 6 = .ok (.istore_n 2, 1) := by decide +kernel
theorem dR_counts_7 : decode cX9_counts 7 = .ok (.aload_n 0, 1) := by decide +kernel
theorem dR_counts_8 : decode cX9_counts 8 = .ok (.iconst 1, 1) := by decide +kernel
theorem dR_counts_9 : decode cX9_counts 9 = .ok (.invokevirtual 168, 3) := by decide +kernel
theorem dR_counts_12 : decode cX9_counts 12 = .ok (.ifCond .ne 5, 3) := by decide +kernel
theorem dR_counts_15 : decode cX9_counts 15 = .ok (.iload_n 2, 1) := by decide +kernel
theorem dR_counts_16 : decode cX9_counts 16 = .ok (.ireturn, 1) := by decide +kernel
theorem dR_counts_17 : decode cX9_counts 17 = .ok (.aload_n 0, 1) := by decide +kernel
theorem dR_counts_18 : decode cX9_counts 18 = .ok (.getfield 25, 3) := by decide +kernel
theorem dR_counts_21 : decode cX9_counts 21 = .ok (.bipush 99, 2) := by decide +kernel
theorem dR_counts_23 : decode cX9_counts 23 = .ok (.iload_n 2, 1) := by decide +kernel
theorem dR_counts_24 : decode cX9_counts 24 = .ok (.iastore, 1) := by decide +kernel
theorem dR_counts_25 : decode cX9_counts 25 = .ok (.aload_n 0, 1) := by decide +kernel
theorem dR_counts_26 : decode cX9_counts 26 = .ok (.getfield 25, 3) := by decide +kernel
theorem dR_counts_29 : decode cX9_counts 29 = .ok (.bipush 103, 2) := by decide +kernel
theorem dR_counts_31 : decode cX9_counts 31 = .ok (.aload_n 0, 1) := by decide +kernel
theorem dR_counts_32 : decode cX9_counts 32 = .ok (.aload_n 0, 1) := by decide +kernel
theorem dR_counts_33 : decode cX9_counts 33 = .ok (.iload_n 1, 1) := by decide +kernel
theorem dR_counts_34 : decode cX9_counts 34 = .ok (.iconst 0, 1) := by decide +kernel
theorem dR_counts_35 : decode cX9_counts 35 = .ok (.invokevirtual 183, 3) := by decide +kernel
theorem dR_counts_38 : decode cX9_counts 38 = .ok (.iconst 2, 1) := by decide +kernel
theorem dR_counts_39 : decode cX9_counts 39 = .ok (.invokevirtual 73, 3) := by decide +kernel
theorem dR_counts_42 : decode cX9_counts 42 = .ok (.iastore, 1) := by decide +kernel
theorem dR_counts_43 : decode cX9_counts 43 = .ok (.aload_n 0, 1) := by decide +kernel
theorem dR_counts_44 : decode cX9_counts 44 = .ok (.getfield 25, 3) := by decide +kernel
theorem dR_counts_47 : decode cX9_counts 47 = .ok (.bipush 110, 2) := by decide +kernel
theorem dR_counts_49 : decode cX9_counts 49 = .ok (.aload_n 0, 1) := by decide +kernel
theorem dR_counts_50 : decode cX9_counts 50 = .ok (.aload_n 0, 1) := by decide +kernel
theorem dR_counts_51 : decode cX9_counts 51 = .ok (.iload_n 1, 1) := by decide +kernel
theorem dR_counts_52 : decode cX9_counts 52 = .ok (.iconst 0, 1) := by decide +kernel
theorem dR_counts_53 : decode cX9_counts 53 = .ok (.invokevirtual 183, 3) := by decide +kernel
theorem dR_counts_56 : decode cX9_counts 56 = .ok (.invokevirtual 186, 3) := by decide +kernel
theorem dR_counts_59 : decode cX9_counts 59 = .ok (.iastore, 1) := by decide +kernel
theorem dR_counts_60 : decode cX9_counts 60 = .ok (.aload_n 0, 1) := by decide +kernel
theorem dR_counts_61 : decode cX9_counts 61 = .ok (.iconst 1, 1) := by decide +kernel
theorem dR_counts_62 : decode cX9_counts 62 = .ok (.invokevirtual 177, 3) := by decide +kernel
theorem dR_counts_65 : decode cX9_counts 65 = .ok (.iconst 0, 1) := by decide +kernel
theorem dR_counts_66 : decode cX9_counts 66 = .ok (.iload_n 2, 1) := by decide +kernel
theorem dR_counts_67 : decode cX9_counts 67 = .ok (.invokestatic 92, 3) := by decide +kernel
theorem dR_counts_70 : decode cX9_counts 70 = .ok (.ireturn, 1) := by decide +kernel
theorem dR_claim_0 : decode cX9_claim 0 = .ok (.aload_n 0, 1) := by decide +kernel
theorem dR_claim_1 : decode cX9_claim 1 = .ok (.iload_n 1, 1) := by decide +kernel
theorem dR_claim_2 : decode cX9_claim 2 = .ok (.invokevirtual 77, 3) := by decide +kernel
theorem dR_claim_5 : decode cX9_claim 5 = .ok (.ifCond .eq 13, 3) := by decide +kernel
theorem dR_claim_8 : decode cX9_claim 8 = .ok (.iload_n 2, 1) := by decide +kernel
theorem dR_claim_9 : decode cX9_claim 9 = .ok (.iconst 1, 1) := by decide +kernel
theorem dR_claim_10 : decode cX9_claim 10 = .ok (.ldc 189, 2) := by decide +kernel
theorem dR_claim_12 : decode cX9_claim 12 = .ok (.invokestatic 53, 3) := by decide +kernel
theorem dR_claim_15 : decode cX9_claim 15 = .ok (.ifCond .ne 9, 3) := by decide +kernel
theorem dR_claim_18 : decode cX9_claim 18 = .ok (.aload_n 0, 1) := by decide +kernel
theorem dR_claim_19 : decode cX9_claim 19 = .ok (.iconst 1, 1) := by decide +kernel
theorem dR_claim_20 : decode cX9_claim 20 = .ok (.invokevirtual 62, 3) := by decide +kernel
theorem dR_claim_23 : decode cX9_claim 23 = .ok (.ireturn, 1) := by decide +kernel
theorem dR_claim_24 : decode cX9_claim 24 = .ok (.aload_n 0, 1) := by decide +kernel
theorem dR_claim_25 : decode cX9_claim 25 = .ok (.getfield 7, 3) := by decide +kernel
theorem dR_claim_28 : decode cX9_claim 28 = .ok (.iconst 2, 1) := by decide +kernel
theorem dR_claim_29 : decode cX9_claim 29 = .ok (.iaload, 1) := by decide +kernel
theorem dR_claim_30 : decode cX9_claim 30 = .ok (.bipush 10, 2) := by decide +kernel
theorem dR_claim_32 : decode cX9_claim 32 = .ok (.if_icmp .ne 9, 3) := by decide +kernel
theorem dR_claim_35 : decode cX9_claim 35 = .ok (.aload_n 0, 1) := by decide +kernel
theorem dR_claim_36 : decode cX9_claim 36 = .ok (.iconst 4, 1) := by decide +kernel
theorem dR_claim_37 : decode cX9_claim 37 = .ok (.invokevirtual 62, 3) := by decide +kernel
theorem dR_claim_40 : decode cX9_claim 40 = .ok (.ireturn, 1) := by decide +kernel
theorem dR_claim_41 : decode cX9_claim 41 = .ok (.aload_n 0, 1) := by decide +kernel
theorem dR_claim_42 : decode cX9_claim 42 = .ok (.getfield 7, 3) := by decide +kernel
theorem dR_claim_45 : decode cX9_claim 45 = .ok (.sipush 140, 3) := by decide +kernel
theorem dR_claim_48 : decode cX9_claim 48 = .ok (.iconst 2, 1) := by decide +kernel
theorem dR_claim_49 : decode cX9_claim 49 = .ok (.aload_n 0, 1) := by decide +kernel
theorem dR_claim_50 : decode cX9_claim 50 = .ok (.getfield 7, 3) := by decide +kernel
theorem dR_claim_53 : decode cX9_claim 53 = .ok (.iconst 2, 1) := by decide +kernel
theorem dR_claim_54 : decode cX9_claim 54 = .ok (.iaload, 1) := by decide +kernel
theorem dR_claim_55 : decode cX9_claim 55 = .ok (.imul, 1) := by decide +kernel
theorem dR_claim_56 : decode cX9_claim 56 = .ok (.iadd, 1) := by decide +kernel
theorem dR_claim_57 : decode cX9_claim 57 = .ok (.iload_n 1, 1) := by decide +kernel
theorem dR_claim_58 : decode cX9_claim 58 = .ok (.iastore, 1) := by decide +kernel
theorem dR_claim_59 : decode cX9_claim 59 = .ok (.aload_n 0, 1) := by decide +kernel
theorem dR_claim_60 : decode cX9_claim 60 = .ok (.getfield 7, 3) := by decide +kernel
theorem dR_claim_63 : decode cX9_claim 63 = .ok (.sipush 140, 3) := by decide +kernel
theorem dR_claim_66 : decode cX9_claim 66 = .ok (.iconst 2, 1) := by decide +kernel
theorem dR_claim_67 : decode cX9_claim 67 = .ok (.aload_n 0, 1) := by decide +kernel
theorem dR_claim_68 : decode cX9_claim 68 = .ok (.getfield 7, 3) := by decide +kernel
theorem dR_claim_71 : decode cX9_claim 71 = .ok (.iconst 2, 1) := by decide +kernel
theorem dR_claim_72 : decode cX9_claim 72 = .ok (.iaload, 1) := by decide +kernel
theorem dR_claim_73 : decode cX9_claim 73 = .ok (.imul, 1) := by decide +kernel
theorem dR_claim_74 : decode cX9_claim 74 = .ok (.iadd, 1) := by decide +kernel
theorem dR_claim_75 : decode cX9_claim 75 = .ok (.iconst 1, 1) := by decide +kernel
theorem dR_claim_76 : decode cX9_claim 76 = .ok (.iadd, 1) := by decide +kernel
theorem dR_claim_77 : decode cX9_claim 77 = .ok (.iload_n 2, 1) := by decide +kernel
theorem dR_claim_78 : decode cX9_claim 78 = .ok (.iastore, 1) := by decide +kernel
theorem dR_claim_79 : decode cX9_claim 79 = .ok (.aload_n 0, 1) := by decide +kernel
theorem dR_claim_80 : decode cX9_claim 80 = .ok (.getfield 7, 3) := by decide +kernel
theorem dR_claim_83 : decode cX9_claim 83 = .ok (.iconst 2, 1) := by decide +kernel
theorem dR_claim_84 : decode cX9_claim 84 = .ok (.dup2, 1) := by decide +kernel
theorem dR_claim_85 : decode cX9_claim 85 = .ok (.iaload, 1) := by decide +kernel
theorem dR_claim_86 : decode cX9_claim 86 = .ok (.iconst 1, 1) := by decide +kernel
theorem dR_claim_87 : decode cX9_claim 87 = .ok (.iadd, 1) := by decide +kernel
theorem dR_claim_88 : decode cX9_claim 88 = .ok (.iastore, 1) := by decide +kernel
theorem dR_claim_89 : decode cX9_claim 89 = .ok (.aload_n 0, 1) := by decide +kernel
theorem dR_claim_90 : decode cX9_claim 90 = .ok (.getfield 7, 3) := by decide +kernel
theorem dR_claim_93 : decode cX9_claim 93 = .ok (.iconst 2, 1) := by decide +kernel
theorem dR_claim_94 : decode cX9_claim 94 = .ok (.iaload, 1) := by decide +kernel
theorem dR_claim_95 : decode cX9_claim 95 = .ok (.iconst 1, 1) := by decide +kernel
theorem dR_claim_96 : decode cX9_claim 96 = .ok (.isub, 1) := by decide +kernel
theorem dR_claim_97 : decode cX9_claim 97 = .ok (.ireturn, 1) := by decide +kernel
theorem dR_claimIs_0 : decode cX9_claimIs 0 = .ok (.aload_n 0, 1) := by decide +kernel
theorem dR_claimIs_1 : decode cX9_claimIs 1 = .ok (.iload_n 1, 1) := by decide +kernel
theorem dR_claimIs_2 : decode cX9_claimIs 2 = .ok (.invokevirtual 190, 3) := by decide +kernel
theorem dR_claimIs_5 : decode cX9_claimIs 5 = .ok (.ifCond .eq 12, 3) := by decide +kernel
theorem dR_claimIs_8 : decode cX9_claimIs 8 = .ok (.iload_n 2, 1) := by decide +kernel
theorem dR_claimIs_9 : decode cX9_claimIs 9 = .ok (.iconst 0, 1) := by decide +kernel
theorem dR_claimIs_10 : decode cX9_claimIs 10 = .ok (.iconst 2, 1) := by decide +kernel
theorem dR_claimIs_11 : decode cX9_claimIs 11 = .ok (.invokestatic 53, 3) := by decide +kernel
theorem dR_claimIs_14 : decode cX9_claimIs 14 = .ok (.ifCond .ne 9, 3) := by decide +kernel
theorem dR_claimIs_17 : decode cX9_claimIs 17 = .ok (.aload_n 0, 1) := by decide +kernel
theorem dR_claimIs_18 : decode cX9_claimIs 18 = .ok (.iconst 1, 1) := by decide +kernel
theorem dR_claimIs_19 : decode cX9_claimIs 19 = .ok (.invokevirtual 62, 3) := by decide +kernel
theorem dR_claimIs_22 : decode cX9_claimIs 22 = .ok (.ireturn, 1) := by decide +kernel
theorem dR_claimIs_23 : decode cX9_claimIs 23 = .ok (.iload_n 2, 1) := by decide +kernel
theorem dR_claimIs_24 : decode cX9_claimIs 24 = .ok (.iconst 2, 1) := by decide +kernel
theorem dR_claimIs_25 : decode cX9_claimIs 25 = .ok (.if_icmp .ne 11, 3) := by decide +kernel
theorem dR_claimIs_28 : decode cX9_claimIs 28 = .ok (.aload_n 0, 1) := by decide +kernel
theorem dR_claimIs_29 : decode cX9_claimIs 29 = .ok (.iload_n 1, 1) := by decide +kernel
theorem dR_claimIs_30 : decode cX9_claimIs 30 = .ok (.invokevirtual 193, 3) := by decide +kernel
theorem dR_claimIs_33 : decode cX9_claimIs 33 = .ok (.goto 9, 3) := by decide +kernel
theorem dR_claimIs_36 : decode cX9_claimIs 36 = .ok (.aload_n 0, 1) := by decide +kernel
theorem dR_claimIs_37 : decode cX9_claimIs 37 = .ok (.iload_n 1, 1) := by decide +kernel
theorem dR_claimIs_38 : decode cX9_claimIs 38 = .ok (.iload_n 2, 1) := by decide +kernel
theorem dR_claimIs_39 : decode cX9_claimIs 39 = .ok (.invokevirtual 183, 3) := by decide +kernel
theorem dR_claimIs_42 : decode cX9_claimIs 42 = .ok (.ireturn, 1) := by decide +kernel
theorem dR_countsBelow_0 : decode cX9_countsBelow 0 = .ok (.iconst 0, 1) := by decide +kernel
theorem dR_countsBelow_1 : decode cX9_countsBelow 1 = .ok (.istore_n 3, 1) := by decide +kernel
theorem dR_countsBelow_2 : decode cX9_countsBelow 2 = .ok (.iconst 0, 1) := by decide +kernel
theorem dR_countsBelow_3 : decode cX9_countsBelow 3 = .ok (.istore 4, 2) := by decide +kernel
theorem dR_countsBelow_5 : decode cX9_countsBelow 5 = .ok (.iload 4, 2) := by decide +kernel
theorem dR_countsBelow_7 : decode cX9_countsBelow 7 = .ok (.iload_n 2, 1) := by decide +kernel
theorem dR_countsBelow_8 : decode cX9_countsBelow 8 = .ok (.if_icmp .ge 33, 3) := by decide +kernel
theorem dR_countsBelow_11 : decode cX9_countsBelow 11 = .ok (.iload_n 3, 1) := by decide +kernel
theorem dR_countsBelow_12 : decode cX9_countsBelow 12 = .ok (.aload_n 0, 1) := by decide +kernel
theorem dR_countsBelow_13 : decode cX9_countsBelow 13 = .ok (.iload 4, 2) := by decide +kernel
theorem dR_countsBelow_15 : decode cX9_countsBelow 15 = .ok (.iconst 0, 1) := by decide +kernel
theorem dR_countsBelow_16 : decode cX9_countsBelow 16 = .ok (.invokevirtual 183, 3) := by decide +kernel
theorem dR_countsBelow_19 : decode cX9_countsBelow 19 = .ok (.iload_n 1, 1) := by decide +kernel
theorem dR_countsBelow_20 : decode cX9_countsBelow 20 = .ok (.if_icmp .ne 12, 3) := by decide +kernel
theorem dR_countsBelow_23 : decode cX9_countsBelow 23 = .ok (.aload_n 0, 1) := by decide +kernel
theorem dR_countsBelow_24 : decode cX9_countsBelow 24 = .ok (.iload 4, 2) := by decide +kernel
theorem dR_countsBelow_26 : decode cX9_countsBelow 26 = .ok (.invokevirtual 193, 3) := by decide +kernel
theorem dR_countsBelow_29 : decode cX9_countsBelow 29 = .ok (.goto 4, 3) := by decide +kernel
theorem dR_countsBelow_32 : decode cX9_countsBelow 32 = .ok (.iconst 0, 1) := by decide +kernel
theorem dR_countsBelow_33 : decode cX9_countsBelow 33 = .ok (.iadd, 1) := by decide +kernel
theorem dR_countsBelow_34 : decode cX9_countsBelow 34 = .ok (.istore_n 3, 1) := by decide +kernel
theorem dR_countsBelow_35 : decode cX9_countsBelow 35 = .ok (.iinc 4 1, 3) := by decide +kernel
theorem dR_countsBelow_38 : decode cX9_countsBelow 38 = .ok (.goto (-33), 3) := by decide +kernel
theorem dR_countsBelow_41 : decode cX9_countsBelow 41 = .ok (.iload_n 3, 1) := by decide +kernel
theorem dR_countsBelow_42 : decode cX9_countsBelow 42 = .ok (.ireturn, 1) := by decide +kernel
theorem dR_shareOf_0 : decode cX9_shareOf 0 = .ok (.aload_n 0, 1) := by decide +kernel
theorem dR_shareOf_1 : decode cX9_shareOf 1 = .ok (.iload_n 1, 1) := by decide +kernel
theorem dR_shareOf_2 : decode cX9_shareOf 2 = .ok (.iconst 0, 1) := by decide +kernel
theorem dR_shareOf_3 : decode cX9_shareOf 3 = .ok (.invokevirtual 183, 3) := by decide +kernel
theorem dR_shareOf_6 : decode cX9_shareOf 6 = .ok (.istore_n 3, 1) := by decide +kernel
theorem dR_shareOf_7 : decode cX9_shareOf 7 = .ok (.aload_n 0, 1) := by decide +kernel
theorem dR_shareOf_8 : decode cX9_shareOf 8 = .ok (.iload_n 3, 1) := by decide +kernel
theorem dR_shareOf_9 : decode cX9_shareOf 9 = .ok (.iconst 2, 1) := by decide +kernel
theorem dR_shareOf_10 : decode cX9_shareOf 10 = .ok (.invokevirtual 73, 3) := by decide +kernel
theorem dR_shareOf_13 : decode cX9_shareOf 13 = .ok (.istore 4, 2) := by decide +kernel
theorem dR_shareOf_15 : decode cX9_shareOf 15 = .ok (.aload_n 0, 1) := by decide +kernel
theorem dR_shareOf_16 : decode cX9_shareOf 16 = .ok (.iload_n 1, 1) := by decide +kernel
