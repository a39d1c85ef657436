-- decode rows of the reference
theorem dR_shareOf_17 : decode cX9_shareOf 17 = .ok (.invokevirtual 193, 3) := by decide +kernel
theorem dR_shareOf_20 : decode cX9_shareOf 20 = .ok (.istore 5, 2) := by decide +kernel
theorem dR_shareOf_22 : decode cX9_shareOf 22 = .ok (.iload_n 2, 1) := by decide +kernel
theorem dR_shareOf_23 : decode cX9_shareOf 23 = .ok (.ifCond .ne 18, 3) := by decide +kernel
theorem dR_shareOf_26 : decode cX9_shareOf 26 = .ok (.iload 5, 2) := by decide +kernel
theorem dR_shareOf_28 : decode cX9_shareOf 28 = .ok (.iconst 0, 1) := by decide +kernel
theorem dR_shareOf_29 : decode cX9_shareOf 29 = .ok (.iload 4, 2) := by decide +kernel
theorem dR_shareOf_31 : decode cX9_shareOf 31 = .ok (.aload_n 0, 1) := by decide +kernel
theorem dR_shareOf_32 : decode cX9_shareOf 32 = .ok (.iload_n 3, 1) := by decide +kernel
theorem dR_shareOf_33 : decode cX9_shareOf 33 = .ok (.invokevirtual 186, 3) := by decide +kernel
theorem dR_shareOf_36 : decode cX9_shareOf 36 = .ok (.idiv, 1) := by decide +kernel
theorem dR_shareOf_37 : decode cX9_shareOf 37 = .ok (.invokestatic 92, 3) := by decide +kernel
theorem dR_shareOf_40 : decode cX9_shareOf 40 = .ok (.ireturn, 1) := by decide +kernel
theorem dR_shareOf_41 : decode cX9_shareOf 41 = .ok (.iload_n 2, 1) := by decide +kernel
theorem dR_shareOf_42 : decode cX9_shareOf 42 = .ok (.iconst 1, 1) := by decide +kernel
theorem dR_shareOf_43 : decode cX9_shareOf 43 = .ok (.if_icmp .ne 38, 3) := by decide +kernel
theorem dR_shareOf_46 : decode cX9_shareOf 46 = .ok (.aload_n 0, 1) := by decide +kernel
theorem dR_shareOf_47 : decode cX9_shareOf 47 = .ok (.iload_n 3, 1) := by decide +kernel
theorem dR_shareOf_48 : decode cX9_shareOf 48 = .ok (.aload_n 0, 1) := by decide +kernel
theorem dR_shareOf_49 : decode cX9_shareOf 49 = .ok (.getfield 7, 3) := by decide +kernel
theorem dR_shareOf_52 : decode cX9_shareOf 52 = .ok (.iconst 2, 1) := by decide +kernel
theorem dR_shareOf_53 : decode cX9_shareOf 53 = .ok (.iaload, 1) := by decide +kernel
theorem dR_shareOf_54 : decode cX9_shareOf 54 = .ok (.invokevirtual 196, 3) := by decide +kernel
theorem dR_shareOf_57 : decode cX9_shareOf 57 = .ok (.istore 6, 2) := by decide +kernel
theorem dR_shareOf_59 : decode cX9_shareOf 59 = .ok (.iload 6, 2) := by decide +kernel
theorem dR_shareOf_61 : decode cX9_shareOf 61 = .ok (.iload 4, 2) := by decide +kernel
theorem dR_shareOf_63 : decode cX9_shareOf 63 = .ok (.if_icmp .gt 8, 3) := by decide +kernel
theorem dR_shareOf_66 : decode cX9_shareOf 66 = .ok (.iload 5, 2) := by decide +kernel
theorem dR_shareOf_68 : decode cX9_shareOf 68 = .ok (.goto 12, 3) := by decide +kernel
theorem dR_shareOf_71 : decode cX9_shareOf 71 = .ok (.iload 5, 2) := by decide +kernel
theorem dR_shareOf_73 : decode cX9_shareOf 73 = .ok (.iload 4, 2) := by decide +kernel
theorem dR_shareOf_75 : decode cX9_shareOf 75 = .ok (.iload 6, 2) := by decide +kernel
theorem dR_shareOf_77 : decode cX9_shareOf 77 = .ok (.invokestatic 99, 3) := by decide +kernel
theorem dR_shareOf_80 : decode cX9_shareOf 80 = .ok (.ireturn, 1) := by decide +kernel
theorem dR_shareOf_81 : decode cX9_shareOf 81 = .ok (.iload 5, 2) := by decide +kernel
theorem dR_shareOf_83 : decode cX9_shareOf 83 = .ok (.iconst 0, 1) := by decide +kernel
theorem dR_shareOf_84 : decode cX9_shareOf 84 = .ok (.iload 4, 2) := by decide +kernel
theorem dR_shareOf_86 : decode cX9_shareOf 86 = .ok (.aload_n 0, 1) := by decide +kernel
theorem dR_shareOf_87 : decode cX9_shareOf 87 = .ok (.iload_n 3, 1) := by decide +kernel
theorem dR_shareOf_88 : decode cX9_shareOf 88 = .ok (.iload_n 1, 1) := by decide +kernel
theorem dR_shareOf_89 : decode cX9_shareOf 89 = .ok (.invokevirtual 196, 3) := by decide +kernel
theorem dR_shareOf_92 : decode cX9_shareOf 92 = .ok (.isub, 1) := by decide +kernel
theorem dR_shareOf_93 : decode cX9_shareOf 93 = .ok (.iconst 0, 1) := by decide +kernel
theorem dR_shareOf_94 : decode cX9_shareOf 94 = .ok (.ldc 61, 2) := by decide +kernel
theorem dR_shareOf_96 : decode cX9_shareOf 96 = .ok (.invokestatic 92, 3) := by decide +kernel
theorem dR_shareOf_99 : decode cX9_shareOf 99 = .ok (.invokestatic 92, 3) := by decide +kernel
theorem dR_shareOf_102 : decode cX9_shareOf 102 = .ok (.ireturn, 1) := by decide +kernel
theorem dR_isLaw_0 : decode cX9_isLaw 0 = .ok (.iload_n 0, 1) := by decide +kernel
theorem dR_isLaw_1 : decode cX9_isLaw 1 = .ok (.iconst 0, 1) := by decide +kernel
theorem dR_isLaw_2 : decode cX9_isLaw 2 = .ok (.iconst 2, 1) := by decide +kernel
theorem dR_isLaw_3 : decode cX9_isLaw 3 = .ok (.invokestatic 53, 3) := by decide +kernel
theorem dR_isLaw_6 : decode cX9_isLaw 6 = .ok (.ireturn, 1) := by decide +kernel
theorem dR_share_0 : decode cX9_share 0 = .ok (.aload_n 0, 1) := by decide +kernel
theorem dR_share_1 : decode cX9_share 1 = .ok (.iload_n 1, 1) := by decide +kernel
theorem dR_share_2 : decode cX9_share 2 = .ok (.invokevirtual 190, 3) := by decide +kernel
theorem dR_share_5 : decode cX9_share 5 = .ok (.ifCond .eq 19, 3) := by decide +kernel
theorem dR_share_8 : decode cX9_share 8 = .ok (.iload_n 2, 1) := by decide +kernel
theorem dR_share_9 : decode cX9_share 9 = .ok (.invokestatic 199, 3) := by decide +kernel
theorem dR_share_12 : decode cX9_share 12 = .ok (.ifCond .eq 12, 3) := by decide +kernel
theorem dR_share_15 : decode cX9_share 15 = .ok (.aload_n 0, 1) := by decide +kernel
theorem dR_share_16 : decode cX9_share 16 = .ok (.iload_n 1, 1) := by decide +kernel
theorem dR_share_17 : decode cX9_share 17 = .ok (.iload_n 2, 1) := by decide +kernel
theorem dR_share_18 : decode cX9_share 18 = .ok (.invokevirtual 202, 3) := by decide +kernel
theorem dR_share_21 : decode cX9_share 21 = .ok (.goto 8, 3) := by decide +kernel
theorem dR_share_24 : decode cX9_share 24 = .ok (.aload_n 0, 1) := by decide +kernel
theorem dR_share_25 : decode cX9_share 25 = .ok (.iconst 1, 1) := by decide +kernel
theorem dR_share_26 : decode cX9_share 26 = .ok (.invokevirtual 62, 3) := by decide +kernel
theorem dR_share_29 : decode cX9_share 29 = .ok (.ireturn, 1) := by decide +kernel
theorem dR_left_0 : decode cX9_left 0 = .ok (.aload_n 0, 1) := by decide +kernel
theorem dR_left_1 : decode cX9_left 1 = .ok (.iload_n 1, 1) := by decide +kernel
theorem dR_left_2 : decode cX9_left 2 = .ok (.invokevirtual 77, 3) := by decide +kernel
theorem dR_left_5 : decode cX9_left 5 = .ok (.ifCond .eq 10, 3) := by decide +kernel
theorem dR_left_8 : decode cX9_left 8 = .ok (.iload_n 2, 1) := by decide +kernel
theorem dR_left_9 : decode cX9_left 9 = .ok (.invokestatic 199, 3) := by decide +kernel
theorem dR_left_12 : decode cX9_left 12 = .ok (.ifCond .ne 9, 3) := by decide +kernel
theorem dR_left_15 : decode cX9_left 15 = .ok (.aload_n 0, 1) := by decide +kernel
theorem dR_left_16 : decode cX9_left 16 = .ok (.iconst 1, 1) := by decide +kernel
theorem dR_left_17 : decode cX9_left 17 = .ok (.invokevirtual 62, 3) := by decide +kernel
theorem dR_left_20 : decode cX9_left 20 = .ok (.ireturn, 1) := by decide +kernel
theorem dR_left_21 : decode cX9_left 21 = .ok (.aload_n 0, 1) := by decide +kernel
theorem dR_left_22 : decode cX9_left 22 = .ok (.iload_n 1, 1) := by decide +kernel
theorem dR_left_23 : decode cX9_left 23 = .ok (.iconst 2, 1) := by decide +kernel
theorem dR_left_24 : decode cX9_left 24 = .ok (.invokevirtual 73, 3) := by decide +kernel
theorem dR_left_27 : decode cX9_left 27 = .ok (.istore_n 3, 1) := by decide +kernel
theorem dR_left_28 : decode cX9_left 28 = .ok (.iconst 0, 1) := by decide +kernel
theorem dR_left_29 : decode cX9_left 29 = .ok (.istore 4, 2) := by decide +kernel
theorem dR_left_31 : decode cX9_left 31 = .ok (.iload 4, 2) := by decide +kernel
theorem dR_left_33 : decode cX9_left 33 = .ok (.aload_n 0, 1) := by decide +kernel
theorem dR_left_34 : decode cX9_left 34 = .ok (.getfield 7, 3) := by decide +kernel
theorem dR_left_37 : decode cX9_left 37 = .ok (.iconst 2, 1) := by decide +kernel
theorem dR_left_38 : decode cX9_left 38 = .ok (.iaload, 1) := by decide +kernel
theorem dR_left_39 : decode cX9_left 39 = .ok (.if_icmp .ge 34, 3) := by decide +kernel
theorem dR_left_42 : decode cX9_left 42 = .ok (.iload_n 3, 1) := by decide +kernel
theorem dR_left_43 : decode cX9_left 43 = .ok (.aload_n 0, 1) := by decide +kernel
theorem dR_left_44 : decode cX9_left 44 = .ok (.iload 4, 2) := by decide +kernel
theorem dR_left_46 : decode cX9_left 46 = .ok (.iconst 0, 1) := by decide +kernel
theorem dR_left_47 : decode cX9_left 47 = .ok (.invokevirtual 183, 3) := by decide +kernel
theorem dR_left_50 : decode cX9_left 50 = .ok (.iload_n 1, 1) := by decide +kernel
theorem dR_left_51 : decode cX9_left 51 = .ok (.if_icmp .ne 13, 3) := by decide +kernel
theorem dR_left_54 : decode cX9_left 54 = .ok (.aload_n 0, 1) := by decide +kernel
theorem dR_left_55 : decode cX9_left 55 = .ok (.iload 4, 2) := by decide +kernel
theorem dR_left_57 : decode cX9_left 57 = .ok (.iload_n 2, 1) := by decide +kernel
theorem dR_left_58 : decode cX9_left 58 = .ok (.invokevirtual 202, 3) := by decide +kernel
theorem dR_left_61 : decode cX9_left 61 = .ok (.goto 4, 3) := by decide +kernel
theorem dR_left_64 : decode cX9_left 64 = .ok (.iconst 0, 1) := by decide +kernel
theorem dR_left_65 : decode cX9_left 65 = .ok (.isub, 1) := by decide +kernel
theorem dR_left_66 : decode cX9_left 66 = .ok (.istore_n 3, 1) := by decide +kernel
theorem dR_left_67 : decode cX9_left 67 = .ok (.iinc 4 1, 3) := by decide +kernel
theorem dR_left_70 : decode cX9_left 70 = .ok (.goto (-39), 3) := by decide +kernel
theorem dR_left_73 : decode cX9_left 73 = .ok (.iload_n 3, 1) := by decide +kernel
theorem dR_left_74 : decode cX9_left 74 = .ok (.ireturn, 1) := by decide +kernel
theorem dR_isPaper_0 : decode cX9_isPaper 0 = .ok (.aload_n 0, 1) := by decide +kernel
theorem dR_isPaper_1 : decode cX9_isPaper 1 = .ok (.iload_n 1, 1) := by decide +kernel
theorem dR_isPaper_2 : decode cX9_isPaper 2 = .ok (.invokevirtual 77, 3) := by decide +kernel
theorem dR_isPaper_5 : decode cX9_isPaper 5 = .ok (.ifCond .eq 30, 3) := by decide +kernel
theorem dR_isPaper_8 : decode cX9_isPaper 8 = .ok (.aload_n 0, 1) := by decide +kernel
theorem dR_isPaper_9 : decode cX9_isPaper 9 = .ok (.iload_n 2, 1) := by decide +kernel
theorem dR_isPaper_10 : decode cX9_isPaper 10 = .ok (.invokevirtual 77, 3) := by decide +kernel
theorem dR_isPaper_13 : decode cX9_isPaper 13 = .ok (.ifCond .eq 22, 3) := by decide +kernel
theorem dR_isPaper_16 : decode cX9_isPaper 16 = .ok (.iload_n 1, 1) := by decide +kernel
theorem dR_isPaper_17 : decode cX9_isPaper 17 = .ok (.iload_n 2, 1) := by decide +kernel
theorem dR_isPaper_18 : decode cX9_isPaper 18 = .ok (.if_icmp .eq 17, 3) := by decide +kernel
theorem dR_isPaper_21 : decode cX9_isPaper 21 = .ok (.iload_n 3, 1) := by decide +kernel
theorem dR_isPaper_22 : decode cX9_isPaper 22 = .ok (.iconst 1, 1) := by decide +kernel
theorem dR_isPaper_23 : decode cX9_isPaper 23 = .ok (.bipush 8, 2) := by decide +kernel
theorem dR_isPaper_25 : decode cX9_isPaper 25 = .ok (.invokestatic 53, 3) := by decide +kernel
theorem dR_isPaper_28 : decode cX9_isPaper 28 = .ok (.ifCond .eq 7, 3) := by decide +kernel
theorem dR_isPaper_31 : decode cX9_isPaper 31 = .ok (.iconst 1, 1) := by decide +kernel
theorem dR_isPaper_32 : decode cX9_isPaper 32 = .ok (.goto 4, 3) := by decide +kernel
theorem dR_isPaper_35 : decode cX9_isPaper 35 = .ok (.iconst 0, 1) := by decide +kernel
theorem dR_isPaper_36 : decode cX9_isPaper 36 = .ok (.ireturn, 1) := by decide +kernel
theorem dR_addPaper_0 : decode cX9_addPaper 0 = .ok (.sipush 160, 3) := by decide +kernel
theorem dR_addPaper_3 : decode cX9_addPaper 3 = .ok (.iconst 3, 1) := by decide +kernel
theorem dR_addPaper_4 : decode cX9_addPaper 4 = .ok (.aload_n 0, 1) := by decide +kernel
theorem dR_addPaper_5 : decode cX9_addPaper 5 = .ok (.getfield 7, 3) := by decide +kernel
theorem dR_addPaper_8 : decode cX9_addPaper 8 = .ok (.iconst 3, 1) := by decide +kernel
theorem dR_addPaper_9 : decode cX9_addPaper 9 = .ok (.iaload, 1) := by decide +kernel
theorem dR_addPaper_10 : decode cX9_addPaper 10 = .ok (.imul, 1) := by decide +kernel
theorem dR_addPaper_11 : decode cX9_addPaper 11 = .ok (.iadd, 1) := by decide +kernel
theorem dR_addPaper_12 : decode cX9_addPaper 12 = .ok (.istore 4, 2) := by decide +kernel
theorem dR_addPaper_14 : decode cX9_addPaper 14 = .ok (.aload_n 0, 1) := by decide +kernel
theorem dR_addPaper_15 : decode cX9_addPaper 15 = .ok (.getfield 7, 3) := by decide +kernel
theorem dR_addPaper_18 : decode cX9_addPaper 18 = .ok (.iload 4, 2) := by decide +kernel
theorem dR_addPaper_20 : decode cX9_addPaper 20 = .ok (.iload_n 1, 1) := by decide +kernel
theorem dR_addPaper_21 : decode cX9_addPaper 21 = .ok (.iastore, 1) := by decide +kernel
theorem dR_addPaper_22 : decode cX9_addPaper 22 = .ok (.aload_n 0, 1) := by decide +kernel
theorem dR_addPaper_23 : decode cX9_addPaper 23 = .ok (.getfield 7, 3) := by decide +kernel
theorem dR_addPaper_26 : decode cX9_addPaper 26 = .ok (.iload 4, 2) := by decide +kernel
theorem dR_addPaper_28 : decode cX9_addPaper 28 = .ok (.iconst 1, 1) := by decide +kernel
theorem dR_addPaper_29 : decode cX9_addPaper 29 = .ok (.iadd, 1) := by decide +kernel
theorem dR_addPaper_30 : decode cX9_addPaper 30 = .ok (.iload_n 2, 1) := by decide +kernel
theorem dR_addPaper_31 : decode cX9_addPaper 31 = .ok (.iastore, 1) := by decide +kernel
theorem dR_addPaper_32 : decode cX9_addPaper 32 = .ok (.aload_n 0, 1) := by decide +kernel
theorem dR_addPaper_33 : decode cX9_addPaper 33 = .ok (.getfield 7, 3) := by decide +kernel
theorem dR_addPaper_36 : decode cX9_addPaper 36 = .ok (.iload 4, 2) := by decide +kernel
theorem dR_addPaper_38 : decode cX9_addPaper 38 = .ok (.iconst 2, 1) := by decide +kernel
theorem dR_addPaper_39 : decode cX9_addPaper 39 = .ok (.iadd, 1) := by decide +kernel
theorem dR_addPaper_40 : decode cX9_addPaper 40 = .ok (.iload_n 3, 1) := by decide +kernel
theorem dR_addPaper_41 : decode cX9_addPaper 41 = .ok (.iastore, 1) := by decide +kernel
theorem dR_addPaper_42 : decode cX9_addPaper 42 = .ok (.aload_n 0, 1) := by decide +kernel
theorem dR_addPaper_43 : decode cX9_addPaper 43 = .ok (.getfield 7, 3) := by decide +kernel
theorem dR_addPaper_46 : decode cX9_addPaper 46 = .ok (.iconst 3, 1) := by decide +kernel
theorem dR_addPaper_47 : decode cX9_addPaper 47 = .ok (.dup2, 1) := by decide +kernel
theorem dR_addPaper_48 : decode cX9_addPaper 48 = .ok (.iaload, 1) := by decide +kernel
theorem dR_addPaper_49 : decode cX9_addPaper 49 = .ok (.iconst 1, 1) := by decide +kernel
theorem dR_addPaper_50 : decode cX9_addPaper 50 = .ok (.iadd, 1) := by decide +kernel
theorem dR_addPaper_51 : decode cX9_addPaper 51 = .ok (.iastore, 1) := by decide +kernel
theorem dR_addPaper_52 : decode cX9_addPaper 52 = .ok (.return_, 1) := by decide +kernel
theorem dR_paper_0 : decode cX9_paper 0 = .ok (.aload_n 0, 1) := by decide +kernel
theorem dR_paper_1 : decode cX9_paper 1 = .ok (.iload_n 1, 1) := by decide +kernel
theorem dR_paper_2 : decode cX9_paper 2 = .ok (.iload_n 2, 1) := by decide +kernel
theorem dR_paper_3 : decode cX9_paper 3 = .ok (.iload_n 3, 1) := by decide +kernel
theorem dR_paper_4 : decode cX9_paper 4 = .ok (.invokevirtual 205, 3) := by decide +kernel
theorem dR_paper_7 : decode cX9_paper 7 = .ok (.ifCond .ne 9, 3) := by decide +kernel
theorem dR_paper_10 : decode cX9_paper 10 = .ok (.aload_n 0, 1) := by decide +kernel
theorem dR_paper_11 : decode cX9_paper 11 = .ok (.iconst 1, 1) := by decide +kernel
theorem dR_paper_12 : decode cX9_paper 12 = .ok (.invokevirtual 62, 3) := by decide +kernel
theorem dR_paper_15 : decode cX9_paper 15 = .ok (.ireturn, 1) := by decide +kernel
theorem dR_paper_16 : decode cX9_paper 16 = .ok (.aload_n 0, 1) := by decide +kernel
theorem dR_paper_17 : decode cX9_paper 17 = .ok (.getfield 7, 3) := by decide +kernel
theorem dR_paper_20 : decode cX9_paper 20 = .ok (.iconst 3, 1) := by decide +kernel
theorem dR_paper_21 : decode cX9_paper 21 = .ok (.iaload, 1) := by decide +kernel
theorem dR_paper_22 : decode cX9_paper 22 = .ok (.bipush 6, 2) := by decide +kernel
theorem dR_paper_24 : decode cX9_paper 24 = .ok (.if_icmp .ne 9, 3) := by decide +kernel
theorem dR_paper_27 : decode cX9_paper 27 = .ok (.aload_n 0, 1) := by decide +kernel
theorem dR_paper_28 : decode cX9_paper 28 = .ok (.iconst 4, 1) := by decide +kernel
theorem dR_paper_29 : decode cX9_paper 29 = .ok (.invokevirtual 62, 3) := by decide +kernel
theorem dR_paper_32 : decode cX9_paper 32 = .ok (.ireturn, 1) := by decide +kernel
theorem dR_paper_33 : decode cX9_paper 33 = .ok (.aload_n 0, 1) := by decide +kernel
theorem dR_paper_34 : decode cX9_paper 34 = .ok (.iload_n 1, 1) := by decide +kernel
theorem dR_paper_35 : decode cX9_paper 35 = .ok (.iload_n 2, 1) := by decide +kernel
theorem dR_paper_36 : decode cX9_paper 36 = .ok (.iload_n 3, 1) := by decide +kernel
theorem dR_paper_37 : decode cX9_paper 37 = .ok (.invokevirtual 208, 3) := by decide +kernel
theorem dR_paper_40 : decode cX9_paper 40 = .ok (.aload_n 0, 1) := by decide +kernel
theorem dR_paper_41 : decode cX9_paper 41 = .ok (.getfield 7, 3) := by decide +kernel
theorem dR_paper_44 : decode cX9_paper 44 = .ok (.iconst 3, 1) := by decide +kernel
theorem dR_paper_45 : decode cX9_paper 45 = .ok (.iaload, 1) := by decide +kernel
theorem dR_paper_46 : decode cX9_paper 46 = .ok (.iconst 1, 1) := by decide +kernel
theorem dR_paper_47 : decode cX9_paper 47 = .ok (.isub, 1) := by decide +kernel
theorem dR_paper_48 : decode cX9_paper 48 = .ok (.ireturn, 1) := by decide +kernel
theorem dR_weigh_0 : decode cX9_weigh 0 = .ok (.aload_n 0, 1) := by decide +kernel
theorem dR_weigh_1 : decode cX9_weigh 1 = .ok (.iload_n 1, 1) := by decide +kernel
theorem dR_weigh_2 : decode cX9_weigh 2 = .ok (.invokevirtual 77, 3) := by decide +kernel
theorem dR_weigh_5 : decode cX9_weigh 5 = .ok (.ifCond .eq 23, 3) := by decide +kernel
theorem dR_weigh_8 : decode cX9_weigh 8 = .ok (.iload_n 2, 1) := by decide +kernel
theorem dR_weigh_9 : decode cX9_weigh 9 = .ok (.iconst 0, 1) := by decide +kernel
theorem dR_weigh_10 : decode cX9_weigh 10 = .ok (.ldc 61, 2) := by decide +kernel
theorem dR_weigh_12 : decode cX9_weigh 12 = .ok (.invokestatic 53, 3) := by decide +kernel
theorem dR_weigh_15 : decode cX9_weigh 15 = .ok (.ifCond .eq 13, 3) := by decide +kernel
theorem dR_weigh_18 : decode cX9_weigh 18 = .ok (.iload_n 3, 1) := by decide +kernel
theorem dR_weigh_19 : decode cX9_weigh 19 = .ok (.iconst 0, 1) := by decide +kernel
theorem dR_weigh_20 : decode cX9_weigh 20 = .ok (.bipush 99, 2) := by decide +kernel
theorem dR_weigh_22 : decode cX9_weigh 22 = .ok (.invokestatic 53, 3) := by decide +kernel
theorem dR_weigh_25 : decode cX9_weigh 25 = .ok (.ifCond .ne 9, 3) := by decide +kernel
theorem dR_weigh_28 : decode cX9_weigh 28 = .ok (.aload_n 0, 1) := by decide +kernel
theorem dR_weigh_29 : decode cX9_weigh 29 = .ok (.iconst 1, 1) := by decide +kernel
theorem dR_weigh_30 : decode cX9_weigh 30 = .ok (.invokevirtual 62, 3) := by decide +kernel
theorem dR_weigh_33 : decode cX9_weigh 33 = .ok (.ireturn, 1) := by decide +kernel
theorem dR_weigh_34 : decode cX9_weigh 34 = .ok (.aload_n 0, 1) := by decide +kernel
theorem dR_weigh_35 : decode cX9_weigh 35 = .ok (.getfield 7, 3) := by decide +kernel
theorem dR_weigh_38 : decode cX9_weigh 38 = .ok (.iconst 4, 1) := by decide +kernel
theorem dR_weigh_39 : decode cX9_weigh 39 = .ok (.iaload, 1) := by decide +kernel
theorem dR_weigh_40 : decode cX9_weigh 40 = .ok (.bipush 8, 2) := by decide +kernel
theorem dR_weigh_42 : decode cX9_weigh 42 = .ok (.if_icmp .ne 9, 3) := by decide +kernel
theorem dR_weigh_45 : decode cX9_weigh 45 = .ok (.aload_n 0, 1) := by decide +kernel
theorem dR_weigh_46 : decode cX9_weigh 46 = .ok (.iconst 4, 1) := by decide +kernel
theorem dR_weigh_47 : decode cX9_weigh 47 = .ok (.invokevirtual 62, 3) := by decide +kernel
theorem dR_weigh_50 : decode cX9_weigh 50 = .ok (.ireturn, 1) := by decide +kernel
theorem dR_weigh_51 : decode cX9_weigh 51 = .ok (.sipush 178, 3) := by decide +kernel
theorem dR_weigh_54 : decode cX9_weigh 54 = .ok (.iconst 3, 1) := by decide +kernel
theorem dR_weigh_55 : decode cX9_weigh 55 = .ok (.aload_n 0, 1) := by decide +kernel
theorem dR_weigh_56 : decode cX9_weigh 56 = .ok (.getfield 7, 3) := by decide +kernel
theorem dR_weigh_59 : decode cX9_weigh 59 = .ok (.iconst 4, 1) := by decide +kernel
theorem dR_weigh_60 : decode cX9_weigh 60 = .ok (.iaload, 1) := by decide +kernel
theorem dR_weigh_61 : decode cX9_weigh 61 = .ok (.imul, 1) := by decide +kernel
theorem dR_weigh_62 : decode cX9_weigh 62 = .ok (.iadd, 1) := by decide +kernel
theorem dR_weigh_63 : decode cX9_weigh 63 = .ok (.istore 4, 2) := by decide +kernel
theorem dR_weigh_65 : decode cX9_weigh 65 = .ok (.aload_n 0, 1) := by decide +kernel
theorem dR_weigh_66 : decode cX9_weigh 66 = .ok (.getfield 7, 3) := by decide +kernel
theorem dR_weigh_69 : decode cX9_weigh 69 = .ok (.iload 4, 2) := by decide +kernel
theorem dR_weigh_71 : decode cX9_weigh 71 = .ok (.iload_n 1, 1) := by decide +kernel
theorem dR_weigh_72 : decode cX9_weigh 72 = .ok (.iastore, 1) := by decide +kernel
theorem dR_weigh_73 : decode cX9_weigh 73 = .ok (.aload_n 0, 1) := by decide +kernel
theorem dR_weigh_74 : decode cX9_weigh 74 = .ok (.getfield 7, 3) := by decide +kernel
theorem dR_weigh_77 : decode cX9_weigh 77 = .ok (.iload 4, 2) := by decide +kernel
theorem dR_weigh_79 : decode cX9_weigh 79 = .ok (.iconst 1, 1) := by decide +kernel
theorem dR_weigh_80 : decode cX9_weigh 80 = .ok (.iadd, 1) := by decide +kernel
theorem dR_weigh_81 : decode cX9_weigh 81 = .ok (.iload_n 2, 1) := by decide +kernel
theorem dR_weigh_82 : decode cX9_weigh 82 = .ok (.iastore, 1) := by decide +kernel
theorem dR_weigh_83 : decode cX9_weigh 83 = .ok (.aload_n 0, 1) := by decide +kernel
theorem dR_weigh_84 : decode cX9_weigh 84 = .ok (.getfield 7, 3) := by decide +kernel
theorem dR_weigh_87 : decode cX9_weigh 87 = .ok (.iload 4, 2) := by decide +kernel
theorem dR_weigh_89 : decode cX9_weigh 89 = .ok (.iconst 2, 1) := by decide +kernel
theorem dR_weigh_90 : decode cX9_weigh 90 = .ok (.iadd, 1) := by decide +kernel
theorem dR_weigh_91 : decode cX9_weigh 91 = .ok (.iload_n 3, 1) := by decide +kernel
theorem dR_weigh_92 : decode cX9_weigh 92 = .ok (.iastore, 1) := by decide +kernel
theorem dR_weigh_93 : decode cX9_weigh 93 = .ok (.aload_n 0, 1) := by decide +kernel
theorem dR_weigh_94 : decode cX9_weigh 94 = .ok (.getfield 7, 3) := by decide +kernel
theorem dR_weigh_97 : decode cX9_weigh 97 = .ok (.iconst 4, 1) := by decide +kernel
theorem dR_weigh_98 : decode cX9_weigh 98 = .ok (.dup2, 1) := by decide +kernel
theorem dR_weigh_99 : decode cX9_weigh 99 = .ok (.iaload, 1) := by decide +kernel
theorem dR_weigh_100 : decode cX9_weigh 100 = .ok (.iconst 1, 1) := by decide +kernel
theorem dR_weigh_101 : decode cX9_weigh 101 = .ok (.iadd, 1) := by decide +kernel
theorem dR_weigh_102 : decode cX9_weigh 102 = .ok (.iastore, 1) := by decide +kernel
theorem dR_weigh_103 : decode cX9_weigh 103 = .ok (.aload_n 0, 1) := by decide +kernel
theorem dR_weigh_104 : decode cX9_weigh 104 = .ok (.getfield 7, 3) := by decide +kernel
theorem dR_weigh_107 : decode cX9_weigh 107 = .ok (.iconst 4, 1) := by decide +kernel
theorem dR_weigh_108 : decode cX9_weigh 108 = .ok (.iaload, 1) := by decide +kernel
theorem dR_weigh_109 : decode cX9_weigh 109 = .ok (.iconst 1, 1) := by decide +kernel
theorem dR_weigh_110 : decode cX9_weigh 110 = .ok (.isub, 1) := by decide +kernel
theorem dR_weigh_111 : decode cX9_weigh 111 = .ok (.ireturn, 1) := by decide +kernel
theorem dR_forget_0 : decode cX9_forget 0 = .ok (.iload_n 1, 1) := by decide +kernel
theorem dR_forget_1 : decode cX9_forget 1 = .ok (.iconst 0, 1) := by decide +kernel
theorem dR_forget_2 : decode cX9_forget 2 = .ok (.iconst 1, 1) := by decide +kernel
theorem dR_forget_3 : decode cX9_forget 3 = .ok (.invokestatic 53, 3) := by decide +kernel
theorem dR_forget_6 : decode cX9_forget 6 = .ok (.ifCond .ne 9, 3) := by decide +kernel
theorem dR_forget_9 : decode cX9_forget 9 = .ok (.aload_n 0, 1) := by decide +kernel
theorem dR_forget_10 : decode cX9_forget 10 = .ok (.iconst 1, 1) := by decide +kernel
theorem dR_forget_11 : decode cX9_forget 11 = .ok (.invokevirtual 62, 3) := by decide +kernel
theorem dR_forget_14 : decode cX9_forget 14 = .ok (.ireturn, 1) := by decide +kernel
theorem dR_forget_15 : decode cX9_forget 15 = .ok (.aload_n 0, 1) := by decide +kernel
theorem dR_forget_16 : decode cX9_forget 16 = .ok (.getfield 7, 3) := by decide +kernel
theorem dR_forget_19 : decode cX9_forget 19 = .ok (.iconst 3, 1) := by decide +kernel
theorem dR_forget_20 : decode cX9_forget 20 = .ok (.iload_n 1, 1) := by decide +kernel
theorem dR_forget_21 : decode cX9_forget 21 = .ok (.iadd, 1) := by decide +kernel
theorem dR_forget_22 : decode cX9_forget 22 = .ok (.iaload, 1) := by decide +kernel
theorem dR_forget_23 : decode cX9_forget 23 = .ok (.istore_n 2, 1) := by decide +kernel
theorem dR_forget_24 : decode cX9_forget 24 = .ok (.aload_n 0, 1) := by decide +kernel
theorem dR_forget_25 : decode cX9_forget 25 = .ok (.getfield 7, 3) := by decide +kernel
theorem dR_forget_28 : decode cX9_forget 28 = .ok (.iconst 3, 1) := by decide +kernel
theorem dR_forget_29 : decode cX9_forget 29 = .ok (.iload_n 1, 1) := by decide +kernel
theorem dR_forget_30 : decode cX9_forget 30 = .ok (.iadd, 1) := by decide +kernel
theorem dR_forget_31 : decode cX9_forget 31 = .ok (.iconst 0, 1) := by decide +kernel
theorem dR_forget_32 : decode cX9_forget 32 = .ok (.iastore, 1) := by decide +kernel
theorem dR_forget_33 : decode cX9_forget 33 = .ok (.iload_n 2, 1) := by decide +kernel
theorem dR_forget_34 : decode cX9_forget 34 = .ok (.ireturn, 1) := by decide +kernel
theorem dR_allPapers_0 : decode cX9_allPapers 0 = .ok (.iconst 1, 1) := by decide +kernel
theorem dR_allPapers_1 : decode cX9_allPapers 1 = .ok (.aload_n 0, 1) := by decide +kernel
theorem dR_allPapers_2 : decode cX9_allPapers 2 = .ok (.getfield 7, 3) := by decide +kernel
theorem dR_allPapers_5 : decode cX9_allPapers 5 = .ok (.iconst 3, 1) := by decide +kernel
theorem dR_allPapers_6 : decode cX9_allPapers 6 = .ok (.iaload, 1) := by decide +kernel
theorem dR_allPapers_7 : decode cX9_allPapers 7 = .ok (.ishl, 1) := by decide +kernel
theorem dR_allPapers_8 : decode cX9_allPapers 8 = .ok (.iconst 1, 1) := by decide +kernel
theorem dR_allPapers_9 : decode cX9_allPapers 9 = .ok (.isub, 1) := by decide +kernel
theorem dR_allPapers_10 : decode cX9_allPapers 10 = .ok (.ireturn, 1) := by decide +kernel
theorem dR_isHistory_0 : decode cX9_isHistory 0 = .ok (.iload_n 1, 1) := by decide +kernel
theorem dR_isHistory_1 : decode cX9_isHistory 1 = .ok (.iconst 0, 1) := by decide +kernel
theorem dR_isHistory_2 : decode cX9_isHistory 2 = .ok (.aload_n 0, 1) := by decide +kernel
theorem dR_isHistory_3 : decode cX9_isHistory 3 = .ok (.invokevirtual 211, 3) := by decide +kernel
theorem dR_isHistory_6 : decode cX9_isHistory 6 = .ok (.invokestatic 53, 3) := by decide +kernel
theorem dR_isHistory_9 : decode cX9_isHistory 9 = .ok (.ireturn, 1) := by decide +kernel
theorem dR_goesBy_0 : decode cX9_goesBy 0 = .ok (.iconst 0, 1) := by decide +kernel
theorem dR_goesBy_1 : decode cX9_goesBy 1 = .ok (.istore_n 2, 1) := by decide +kernel
theorem dR_goesBy_2 : decode cX9_goesBy 2 = .ok (.iload_n 2, 1) := by decide +kernel
theorem dR_goesBy_3 : decode cX9_goesBy 3 = .ok (.aload_n 0, 1) := by decide +kernel
theorem dR_goesBy_4 : decode cX9_goesBy 4 = .ok (.getfield 7, 3) := by decide +kernel
theorem dR_goesBy_7 : decode cX9_goesBy 7 = .ok (.iconst 3, 1) := by decide +kernel
theorem dR_goesBy_8 : decode cX9_goesBy 8 = .ok (.iaload, 1) := by decide +kernel
theorem dR_goesBy_9 : decode cX9_goesBy 9 = .ok (.if_icmp .ge 62, 3) := by decide +kernel
theorem dR_goesBy_12 : decode cX9_goesBy 12 = .ok (.iload_n 1, 1) := by decide +kernel
theorem dR_goesBy_13 : decode cX9_goesBy 13 = .ok (.iload_n 2, 1) := by decide +kernel
theorem dR_goesBy_14 : decode cX9_goesBy 14 = .ok (.ishr, 1) := by decide +kernel
theorem dR_goesBy_15 : decode cX9_goesBy 15 = .ok (.iconst 1, 1) := by decide +kernel
theorem dR_goesBy_16 : decode cX9_goesBy 16 = .ok (.iand, 1) := by decide +kernel
theorem dR_goesBy_17 : decode cX9_goesBy 17 = .ok (.iconst 1, 1) := by decide +kernel
theorem dR_goesBy_18 : decode cX9_goesBy 18 = .ok (.if_icmp .ne 47, 3) := by decide +kernel
theorem dR_goesBy_21 : decode cX9_goesBy 21 = .ok (.aload_n 0, 1) := by decide +kernel
theorem dR_goesBy_22 : decode cX9_goesBy 22 = .ok (.aload_n 0, 1) := by decide +kernel
theorem dR_goesBy_23 : decode cX9_goesBy 23 = .ok (.getfield 7, 3) := by decide +kernel
theorem dR_goesBy_26 : decode cX9_goesBy 26 = .ok (.sipush 160, 3) := by decide +kernel
theorem dR_goesBy_29 : decode cX9_goesBy 29 = .ok (.iconst 3, 1) := by decide +kernel
theorem dR_goesBy_30 : decode cX9_goesBy 30 = .ok (.iload_n 2, 1) := by decide +kernel
theorem dR_goesBy_31 : decode cX9_goesBy 31 = .ok (.imul, 1) := by decide +kernel
theorem dR_goesBy_32 : decode cX9_goesBy 32 = .ok (.iadd, 1) := by decide +kernel
theorem dR_goesBy_33 : decode cX9_goesBy 33 = .ok (.iaload, 1) := by decide +kernel
theorem dR_goesBy_34 : decode cX9_goesBy 34 = .ok (.aload_n 0, 1) := by decide +kernel
theorem dR_goesBy_35 : decode cX9_goesBy 35 = .ok (.getfield 7, 3) := by decide +kernel
theorem dR_goesBy_38 : decode cX9_goesBy 38 = .ok (.sipush 160, 3) := by decide +kernel
theorem dR_goesBy_41 : decode cX9_goesBy 41 = .ok (.iconst 3, 1) := by decide +kernel
theorem dR_goesBy_42 : decode cX9_goesBy 42 = .ok (.iload_n 2, 1) := by decide +kernel
theorem dR_goesBy_43 : decode cX9_goesBy 43 = .ok (.imul, 1) := by decide +kernel
theorem dR_goesBy_44 : decode cX9_goesBy 44 = .ok (.iadd, 1) := by decide +kernel
theorem dR_goesBy_45 : decode cX9_goesBy 45 = .ok (.iconst 1, 1) := by decide +kernel
theorem dR_goesBy_46 : decode cX9_goesBy 46 = .ok (.iadd, 1) := by decide +kernel
theorem dR_goesBy_47 : decode cX9_goesBy 47 = .ok (.iaload, 1) := by decide +kernel
theorem dR_goesBy_48 : decode cX9_goesBy 48 = .ok (.aload_n 0, 1) := by decide +kernel
theorem dR_goesBy_49 : decode cX9_goesBy 49 = .ok (.getfield 7, 3) := by decide +kernel
theorem dR_goesBy_52 : decode cX9_goesBy 52 = .ok (.sipush 160, 3) := by decide +kernel
theorem dR_goesBy_55 : decode cX9_goesBy 55 = .ok (.iconst 3, 1) := by decide +kernel
theorem dR_goesBy_56 : decode cX9_goesBy 56 = .ok (.iload_n 2, 1) := by decide +kernel
theorem dR_goesBy_57 : decode cX9_goesBy 57 = .ok (.imul, 1) := by decide +kernel
theorem dR_goesBy_58 : decode cX9_goesBy 58 = .ok (.iadd, 1) := by decide +kernel
theorem dR_goesBy_59 : decode cX9_goesBy 59 = .ok (.iconst 2, 1) := by decide +kernel
theorem dR_goesBy_60 : decode cX9_goesBy 60 = .ok (.iadd, 1) := by decide +kernel
theorem dR_goesBy_61 : decode cX9_goesBy 61 = .ok (.iaload, 1) := by decide +kernel
theorem dR_goesBy_62 : decode cX9_goesBy 62 = .ok (.invokevirtual 96, 3) := by decide +kernel
theorem dR_goesBy_65 : decode cX9_goesBy 65 = .ok (.iinc 2 1, 3) := by decide +kernel
theorem dR_goesBy_68 : decode cX9_goesBy 68 = .ok (.goto (-66), 3) := by decide +kernel
theorem dR_goesBy_71 : decode cX9_goesBy 71 = .ok (.return_, 1) := by decide +kernel
theorem dR_after_0 : decode cX9_after 0 = .ok (.aload_n 0, 1) := by decide +kernel
theorem dR_after_1 : decode cX9_after 1 = .ok (.getfield 7, 3) := by decide +kernel
theorem dR_after_4 : decode cX9_after 4 = .ok (.aload_n 0, 1) := by decide +kernel
theorem dR_after_5 : decode cX9_after 5 = .ok (.getfield 16, 3) := by decide +kernel
theorem dR_after_8 : decode cX9_after 8 = .ok (.invokestatic 117, 3) := by decide +kernel
theorem dR_after_11 : decode cX9_after 11 = .ok (.aload_n 0, 1) := by decide +kernel
theorem dR_after_12 : decode cX9_after 12 = .ok (.iload_n 1, 1) := by decide +kernel
theorem dR_after_13 : decode cX9_after 13 = .ok (.invokevirtual 214, 3) := by decide +kernel
theorem dR_after_16 : decode cX9_after 16 = .ok (.aload_n 0, 1) := by decide +kernel
theorem dR_after_17 : decode cX9_after 17 = .ok (.iload_n 2, 1) := by decide +kernel
theorem dR_after_18 : decode cX9_after 18 = .ok (.iload_n 3, 1) := by decide +kernel
theorem dR_after_19 : decode cX9_after 19 = .ok (.invokevirtual 73, 3) := by decide +kernel
theorem dR_after_22 : decode cX9_after 22 = .ok (.istore 4, 2) := by decide +kernel
theorem dR_after_24 : decode cX9_after 24 = .ok (.aload_n 0, 1) := by decide +kernel
theorem dR_after_25 : decode cX9_after 25 = .ok (.getfield 16, 3) := by decide +kernel
theorem dR_after_28 : decode cX9_after 28 = .ok (.aload_n 0, 1) := by decide +kernel
theorem dR_after_29 : decode cX9_after 29 = .ok (.getfield 7, 3) := by decide +kernel
theorem dR_after_32 : decode cX9_after 32 = .ok (.invokestatic 117, 3) := by decide +kernel
theorem dR_after_35 : decode cX9_after 35 = .ok (.iload 4, 2) := by decide +kernel
theorem dR_after_37 : decode cX9_after 37 = .ok (.ireturn, 1) := by decide +kernel
theorem dR_by_0 : decode cX9_by 0 = .ok (.aload_n 0, 1) := by decide +kernel
theorem dR_by_1 : decode cX9_by 1 = .ok (.iload_n 1, 1) := by decide +kernel
theorem dR_by_2 : decode cX9_by 2 = .ok (.invokevirtual 217, 3) := by decide +kernel
theorem dR_by_5 : decode cX9_by 5 = .ok (.ifCond .eq 21, 3) := by decide +kernel
theorem dR_by_8 : decode cX9_by 8 = .ok (.aload_n 0, 1) := by decide +kernel
theorem dR_by_9 : decode cX9_by 9 = .ok (.iload_n 2, 1) := by decide +kernel
theorem dR_by_10 : decode cX9_by 10 = .ok (.invokevirtual 77, 3) := by decide +kernel
theorem dR_by_13 : decode cX9_by 13 = .ok (.ifCond .eq 13, 3) := by decide +kernel
theorem dR_by_16 : decode cX9_by 16 = .ok (.iload_n 3, 1) := by decide +kernel
theorem dR_by_17 : decode cX9_by 17 = .ok (.iconst 2, 1) := by decide +kernel
theorem dR_by_18 : decode cX9_by 18 = .ok (.bipush 9, 2) := by decide +kernel
theorem dR_by_20 : decode cX9_by 20 = .ok (.invokestatic 53, 3) := by decide +kernel
theorem dR_by_23 : decode cX9_by 23 = .ok (.ifCond .ne 9, 3) := by decide +kernel
theorem dR_by_26 : decode cX9_by 26 = .ok (.aload_n 0, 1) := by decide +kernel
theorem dR_by_27 : decode cX9_by 27 = .ok (.iconst 1, 1) := by decide +kernel
theorem dR_by_28 : decode cX9_by 28 = .ok (.invokevirtual 62, 3) := by decide +kernel
theorem dR_by_31 : decode cX9_by 31 = .ok (.ireturn, 1) := by decide +kernel
theorem dR_by_32 : decode cX9_by 32 = .ok (.aload_n 0, 1) := by decide +kernel
theorem dR_by_33 : decode cX9_by 33 = .ok (.iload_n 1, 1) := by decide +kernel
theorem dR_by_34 : decode cX9_by 34 = .ok (.iload_n 2, 1) := by decide +kernel
theorem dR_by_35 : decode cX9_by 35 = .ok (.iload_n 3, 1) := by decide +kernel
theorem dR_by_36 : decode cX9_by 36 = .ok (.invokevirtual 220, 3) := by decide +kernel
theorem dR_by_39 : decode cX9_by 39 = .ok (.ireturn, 1) := by decide +kernel
theorem dR_doesFit_0 : decode cX9_doesFit 0 = .ok (.aload_n 0, 1) := by decide +kernel
theorem dR_doesFit_1 : decode cX9_doesFit 1 = .ok (.getfield 7, 3) := by decide +kernel
theorem dR_doesFit_4 : decode cX9_doesFit 4 = .ok (.aload_n 0, 1) := by decide +kernel
theorem dR_doesFit_5 : decode cX9_doesFit 5 = .ok (.getfield 16, 3) := by decide +kernel
theorem dR_doesFit_8 : decode cX9_doesFit 8 = .ok (.invokestatic 117, 3) := by decide +kernel
theorem dR_doesFit_11 : decode cX9_doesFit 11 = .ok (.aload_n 0, 1) := by decide +kernel
theorem dR_doesFit_12 : decode cX9_doesFit 12 = .ok (.iload_n 1, 1) := by decide +kernel
theorem dR_doesFit_13 : decode cX9_doesFit 13 = .ok (.invokevirtual 214, 3) := by decide +kernel
theorem dR_doesFit_16 : decode cX9_doesFit 16 = .ok (.iconst 1, 1) := by decide +kernel
theorem dR_doesFit_17 : decode cX9_doesFit 17 = .ok (.istore_n 2, 1) := by decide +kernel
theorem dR_doesFit_18 : decode cX9_doesFit 18 = .ok (.iconst 0, 1) := by decide +kernel
theorem dR_doesFit_19 : decode cX9_doesFit 19 = .ok (.istore_n 3, 1) := by decide +kernel
theorem dR_doesFit_20 : decode cX9_doesFit 20 = .ok (.iload_n 3, 1) := by decide +kernel
theorem dR_doesFit_21 : decode cX9_doesFit 21 = .ok (.aload_n 0, 1) := by decide +kernel
theorem dR_doesFit_22 : decode cX9_doesFit 22 = .ok (.getfield 7, 3) := by decide +kernel
theorem dR_doesFit_25 : decode cX9_doesFit 25 = .ok (.iconst 4, 1) := by decide +kernel
theorem dR_doesFit_26 : decode cX9_doesFit 26 = .ok (.iaload, 1) := by decide +kernel
theorem dR_doesFit_27 : decode cX9_doesFit 27 = .ok (.if_icmp .ge 74, 3) := by decide +kernel
theorem dR_doesFit_30 : decode cX9_doesFit 30 = .ok (.iload_n 2, 1) := by decide +kernel
theorem dR_doesFit_31 : decode cX9_doesFit 31 = .ok (.ifCond .eq 70, 3) := by decide +kernel
theorem dR_doesFit_34 : decode cX9_doesFit 34 = .ok (.aload_n 0, 1) := by decide +kernel
theorem dR_doesFit_35 : decode cX9_doesFit 35 = .ok (.aload_n 0, 1) := by decide +kernel
theorem dR_doesFit_36 : decode cX9_doesFit 36 = .ok (.getfield 7, 3) := by decide +kernel
theorem dR_doesFit_39 : decode cX9_doesFit 39 = .ok (.sipush 178, 3) := by decide +kernel
theorem dR_doesFit_42 : decode cX9_doesFit 42 = .ok (.iconst 3, 1) := by decide +kernel
theorem dR_doesFit_43 : decode cX9_doesFit 43 = .ok (.iload_n 3, 1) := by decide +kernel
theorem dR_doesFit_44 : decode cX9_doesFit 44 = .ok (.imul, 1) := by decide +kernel
theorem dR_doesFit_45 : decode cX9_doesFit 45 = .ok (.iadd, 1) := by decide +kernel
theorem dR_doesFit_46 : decode cX9_doesFit 46 = .ok (.iaload, 1) := by decide +kernel
theorem dR_doesFit_47 : decode cX9_doesFit 47 = .ok (.iconst 2, 1) := by decide +kernel
theorem dR_doesFit_48 : decode cX9_doesFit 48 = .ok (.invokevirtual 73, 3) := by decide +kernel
theorem dR_doesFit_51 : decode cX9_doesFit 51 = .ok (.aload_n 0, 1) := by decide +kernel
theorem dR_doesFit_52 : decode cX9_doesFit 52 = .ok (.getfield 7, 3) := by decide +kernel
theorem dR_doesFit_55 : decode cX9_doesFit 55 = .ok (.sipush 178, 3) := by decide +kernel
theorem dR_doesFit_58 : decode cX9_doesFit 58 = .ok (.iconst 3, 1) := by decide +kernel
theorem dR_doesFit_59 : decode cX9_doesFit 59 = .ok (.iload_n 3, 1) := by decide +kernel
theorem dR_doesFit_60 : decode cX9_doesFit 60 = .ok (.imul, 1) := by decide +kernel
theorem dR_doesFit_61 : decode cX9_doesFit 61 = .ok (.iadd, 1) := by decide +kernel
theorem dR_doesFit_62 : decode cX9_doesFit 62 = .ok (.iconst 1, 1) := by decide +kernel
theorem dR_doesFit_63 : decode cX9_doesFit 63 = .ok (.iadd, 1) := by decide +kernel
theorem dR_doesFit_64 : decode cX9_doesFit 64 = .ok (.iaload, 1) := by decide +kernel
theorem dR_doesFit_65 : decode cX9_doesFit 65 = .ok (.isub, 1) := by decide +kernel
theorem dR_doesFit_66 : decode cX9_doesFit 66 = .ok (.istore 4, 2) := by decide +kernel
theorem dR_doesFit_68 : decode cX9_doesFit 68 = .ok (.aload_n 0, 1) := by decide +kernel
theorem dR_doesFit_69 : decode cX9_doesFit 69 = .ok (.getfield 7, 3) := by decide +kernel
theorem dR_doesFit_72 : decode cX9_doesFit 72 = .ok (.sipush 178, 3) := by decide +kernel
theorem dR_doesFit_75 : decode cX9_doesFit 75 = .ok (.iconst 3, 1) := by decide +kernel
theorem dR_doesFit_76 : decode cX9_doesFit 76 = .ok (.iload_n 3, 1) := by decide +kernel
theorem dR_doesFit_77 : decode cX9_doesFit 77 = .ok (.imul, 1) := by decide +kernel
theorem dR_doesFit_78 : decode cX9_doesFit 78 = .ok (.iadd, 1) := by decide +kernel
theorem dR_doesFit_79 : decode cX9_doesFit 79 = .ok (.iconst 2, 1) := by decide +kernel
theorem dR_doesFit_80 : decode cX9_doesFit 80 = .ok (.iadd, 1) := by decide +kernel
theorem dR_doesFit_81 : decode cX9_doesFit 81 = .ok (.iaload, 1) := by decide +kernel
theorem dR_doesFit_82 : decode cX9_doesFit 82 = .ok (.istore 5, 2) := by decide +kernel
theorem dR_doesFit_84 : decode cX9_doesFit 84 = .ok (.iload 4, 2) := by decide +kernel
theorem dR_doesFit_86 : decode cX9_doesFit 86 = .ok (.iload 5, 2) := by decide +kernel
theorem dR_doesFit_88 : decode cX9_doesFit 88 = .ok (.ineg, 1) := by decide +kernel
theorem dR_doesFit_89 : decode cX9_doesFit 89 = .ok (.iload 5, 2) := by decide +kernel
theorem dR_doesFit_91 : decode cX9_doesFit 91 = .ok (.invokestatic 53, 3) := by decide +kernel
theorem dR_doesFit_94 : decode cX9_doesFit 94 = .ok (.istore_n 2, 1) := by decide +kernel
theorem dR_doesFit_95 : decode cX9_doesFit 95 = .ok (.iinc 3 1, 3) := by decide +kernel
theorem dR_doesFit_98 : decode cX9_doesFit 98 = .ok (.goto (-78), 3) := by decide +kernel
theorem dR_doesFit_101 : decode cX9_doesFit 101 = .ok (.aload_n 0, 1) := by decide +kernel
theorem dR_doesFit_102 : decode cX9_doesFit 102 = .ok (.getfield 16, 3) := by decide +kernel
theorem dR_doesFit_105 : decode cX9_doesFit 105 = .ok (.aload_n 0, 1) := by decide +kernel
theorem dR_doesFit_106 : decode cX9_doesFit 106 = .ok (.getfield 7, 3) := by decide +kernel
theorem dR_doesFit_109 : decode cX9_doesFit 109 = .ok (.invokestatic 117, 3) := by decide +kernel
theorem dR_doesFit_112 : decode cX9_doesFit 112 = .ok (.iload_n 2, 1) := by decide +kernel
theorem dR_doesFit_113 : decode cX9_doesFit 113 = .ok (.ireturn, 1) := by decide +kernel
theorem dR_findFits_0 : decode cX9_findFits 0 = .ok (.aload_n 0, 1) := by decide +kernel
theorem dR_findFits_1 : decode cX9_findFits 1 = .ok (.iconst 0, 1) := by decide +kernel
theorem dR_findFits_2 : decode cX9_findFits 2 = .ok (.putfield 223, 3) := by decide +kernel
theorem dR_findFits_5 : decode cX9_findFits 5 = .ok (.iconst 0, 1) := by decide +kernel
theorem dR_findFits_6 : decode cX9_findFits 6 = .ok (.istore_n 1, 1) := by decide +kernel
theorem dR_findFits_7 : decode cX9_findFits 7 = .ok (.iload_n 1, 1) := by decide +kernel
theorem dR_findFits_8 : decode cX9_findFits 8 = .ok (.aload_n 0, 1) := by decide +kernel
theorem dR_findFits_9 : decode cX9_findFits 9 = .ok (.invokevirtual 211, 3) := by decide +kernel
theorem dR_findFits_12 : decode cX9_findFits 12 = .ok (.if_icmp .gt 37, 3) := by decide +kernel
theorem dR_findFits_15 : decode cX9_findFits 15 = .ok (.aload_n 0, 1) := by decide +kernel
theorem dR_findFits_16 : decode cX9_findFits 16 = .ok (.iload_n 1, 1) := by decide +kernel
theorem dR_findFits_17 : decode cX9_findFits 17 = .ok (.invokevirtual 226, 3) := by decide +kernel
theorem dR_findFits_20 : decode cX9_findFits 20 = .ok (.ifCond .eq 23, 3) := by decide +kernel
theorem dR_findFits_23 : decode cX9_findFits 23 = .ok (.aload_n 0, 1) := by decide +kernel
theorem dR_findFits_24 : decode cX9_findFits 24 = .ok (.getfield 31, 3) := by decide +kernel
theorem dR_findFits_27 : decode cX9_findFits 27 = .ok (.aload_n 0, 1) := by decide +kernel
theorem dR_findFits_28 : decode cX9_findFits 28 = .ok (.getfield 223, 3) := by decide +kernel
theorem dR_findFits_31 : decode cX9_findFits 31 = .ok (.iload_n 1, 1) := by decide +kernel
theorem dR_findFits_32 : decode cX9_findFits 32 = .ok (.iastore, 1) := by decide +kernel
theorem dR_findFits_33 : decode cX9_findFits 33 = .ok (.aload_n 0, 1) := by decide +kernel
theorem dR_findFits_34 : decode cX9_findFits 34 = .ok (.dup, 1) := by decide +kernel
theorem dR_findFits_35 : decode cX9_findFits 35 = .ok (.getfield 223, 3) := by decide +kernel
theorem dR_findFits_38 : decode cX9_findFits 38 = .ok (.iconst 1, 1) := by decide +kernel
theorem dR_findFits_39 : decode cX9_findFits 39 = .ok (.iadd, 1) := by decide +kernel
theorem dR_findFits_40 : decode cX9_findFits 40 = .ok (.putfield 223, 3) := by decide +kernel
theorem dR_findFits_43 : decode cX9_findFits 43 = .ok (.iinc 1 1, 3) := by decide +kernel
theorem dR_findFits_46 : decode cX9_findFits 46 = .ok (.goto (-39), 3) := by decide +kernel
theorem dR_findFits_49 : decode cX9_findFits 49 = .ok (.return_, 1) := by decide +kernel
theorem dR_bitsOf_0 : decode cX9_bitsOf 0 = .ok (.iconst 0, 1) := by decide +kernel
theorem dR_bitsOf_1 : decode cX9_bitsOf 1 = .ok (.istore_n 1, 1) := by decide +kernel
theorem dR_bitsOf_2 : decode cX9_bitsOf 2 = .ok (.iload_n 0, 1) := by decide +kernel
theorem dR_bitsOf_3 : decode cX9_bitsOf 3 = .ok (.istore_n 2, 1) := by decide +kernel
theorem dR_bitsOf_4 : decode cX9_bitsOf 4 = .ok (.iload_n 2, 1) := by decide +kernel
theorem dR_bitsOf_5 : decode cX9_bitsOf 5 = .ok (.ifCond .eq 15, 3) := by decide +kernel
theorem dR_bitsOf_8 : decode cX9_bitsOf 8 = .ok (.iinc 1 1, 3) := by decide +kernel
theorem dR_bitsOf_11 : decode cX9_bitsOf 11 = .ok (.iload_n 2, 1) := by decide +kernel
theorem dR_bitsOf_12 : decode cX9_bitsOf 12 = .ok (.iload_n 2, 1) := by decide +kernel
theorem dR_bitsOf_13 : decode cX9_bitsOf 13 = .ok (.iconst 1, 1) := by decide +kernel
theorem dR_bitsOf_14 : decode cX9_bitsOf 14 = .ok (.isub, 1) := by decide +kernel
theorem dR_bitsOf_15 : decode cX9_bitsOf 15 = .ok (.iand, 1) := by decide +kernel
theorem dR_bitsOf_16 : decode cX9_bitsOf 16 = .ok (.istore_n 2, 1) := by decide +kernel
theorem dR_bitsOf_17 : decode cX9_bitsOf 17 = .ok (.goto (-13), 3) := by decide +kernel
theorem dR_bitsOf_20 : decode cX9_bitsOf 20 = .ok (.iload_n 1, 1) := by decide +kernel
theorem dR_bitsOf_21 : decode cX9_bitsOf 21 = .ok (.ireturn, 1) := by decide +kernel
theorem dR_fits_0 : decode cX9_fits 0 = .ok (.iload_n 1, 1) := by decide +kernel
theorem dR_fits_1 : decode cX9_fits 1 = .ok (.iconst 0, 1) := by decide +kernel
theorem dR_fits_2 : decode cX9_fits 2 = .ok (.iconst 4, 1) := by decide +kernel
theorem dR_fits_3 : decode cX9_fits 3 = .ok (.invokestatic 53, 3) := by decide +kernel
theorem dR_fits_6 : decode cX9_fits 6 = .ok (.ifCond .ne 9, 3) := by decide +kernel
theorem dR_fits_9 : decode cX9_fits 9 = .ok (.aload_n 0, 1) := by decide +kernel
theorem dR_fits_10 : decode cX9_fits 10 = .ok (.iconst 1, 1) := by decide +kernel
theorem dR_fits_11 : decode cX9_fits 11 = .ok (.invokevirtual 62, 3) := by decide +kernel
theorem dR_fits_14 : decode cX9_fits 14 = .ok (.ireturn, 1) := by decide +kernel
theorem dR_fits_15 : decode cX9_fits 15 = .ok (.aload_n 0, 1) := by decide +kernel
theorem dR_fits_16 : decode cX9_fits 16 = .ok (.invokevirtual 229, 3) := by decide +kernel
theorem dR_fits_19 : decode cX9_fits 19 = .ok (.aload_n 0, 1) := by decide +kernel
theorem dR_fits_20 : decode cX9_fits 20 = .ok (.invokevirtual 211, 3) := by decide +kernel
theorem dR_fits_23 : decode cX9_fits 23 = .ok (.istore_n 2, 1) := by decide +kernel
theorem dR_fits_24 : decode cX9_fits 24 = .ok (.iconst 0, 1) := by decide +kernel
theorem dR_fits_25 : decode cX9_fits 25 = .ok (.istore_n 3, 1) := by decide +kernel
theorem dR_fits_26 : decode cX9_fits 26 = .ok (.iconst 0, 1) := by decide +kernel
theorem dR_fits_27 : decode cX9_fits 27 = .ok (.istore 4, 2) := by decide +kernel
theorem dR_fits_29 : decode cX9_fits 29 = .ok (.iconst 0, 1) := by decide +kernel
theorem dR_fits_30 : decode cX9_fits 30 = .ok (.istore 5, 2) := by decide +kernel
theorem dR_fits_32 : decode cX9_fits 32 = .ok (.iload 5, 2) := by decide +kernel
theorem dR_fits_34 : decode cX9_fits 34 = .ok (.aload_n 0, 1) := by decide +kernel
theorem dR_fits_35 : decode cX9_fits 35 = .ok (.getfield 223, 3) := by decide +kernel
theorem dR_fits_38 : decode cX9_fits 38 = .ok (.if_icmp .ge 61, 3) := by decide +kernel
theorem dR_fits_41 : decode cX9_fits 41 = .ok (.iload_n 2, 1) := by decide +kernel
theorem dR_fits_42 : decode cX9_fits 42 = .ok (.aload_n 0, 1) := by decide +kernel
theorem dR_fits_43 : decode cX9_fits 43 = .ok (.getfield 31, 3) := by decide +kernel
theorem dR_fits_46 : decode cX9_fits 46 = .ok (.iload 5, 2) := by decide +kernel
theorem dR_fits_48 : decode cX9_fits 48 = .ok (.iaload, 1) := by decide +kernel
theorem dR_fits_49 : decode cX9_fits 49 = .ok (.iand, 1) := by decide +kernel
theorem dR_fits_50 : decode cX9_fits 50 = .ok (.istore_n 2, 1) := by decide +kernel
theorem dR_fits_51 : decode cX9_fits 51 = .ok (.iload_n 3, 1) := by decide +kernel
theorem dR_fits_52 : decode cX9_fits 52 = .ok (.aload_n 0, 1) := by decide +kernel
theorem dR_fits_53 : decode cX9_fits 53 = .ok (.getfield 31, 3) := by decide +kernel
theorem dR_fits_56 : decode cX9_fits 56 = .ok (.iload 5, 2) := by decide +kernel
theorem dR_fits_58 : decode cX9_fits 58 = .ok (.iaload, 1) := by decide +kernel
theorem dR_fits_59 : decode cX9_fits 59 = .ok (.ior, 1) := by decide +kernel
theorem dR_fits_60 : decode cX9_fits 60 = .ok (.istore_n 3, 1) := by decide +kernel
theorem dR_fits_61 : decode cX9_fits 61 = .ok (.aload_n 0, 1) := by decide +kernel
theorem dR_fits_62 : decode cX9_fits 62 = .ok (.getfield 31, 3) := by decide +kernel
theorem dR_fits_65 : decode cX9_fits 65 = .ok (.iload 5, 2) := by decide +kernel
theorem dR_fits_67 : decode cX9_fits 67 = .ok (.iaload, 1) := by decide +kernel
theorem dR_fits_68 : decode cX9_fits 68 = .ok (.invokestatic 232, 3) := by decide +kernel
theorem dR_fits_71 : decode cX9_fits 71 = .ok (.iload 4, 2) := by decide +kernel
theorem dR_fits_73 : decode cX9_fits 73 = .ok (.if_icmp .le 16, 3) := by decide +kernel
theorem dR_fits_76 : decode cX9_fits 76 = .ok (.aload_n 0, 1) := by decide +kernel
theorem dR_fits_77 : decode cX9_fits 77 = .ok (.getfield 31, 3) := by decide +kernel
theorem dR_fits_80 : decode cX9_fits 80 = .ok (.iload 5, 2) := by decide +kernel
theorem dR_fits_82 : decode cX9_fits 82 = .ok (.iaload, 1) := by decide +kernel
theorem dR_fits_83 : decode cX9_fits 83 = .ok (.invokestatic 232, 3) := by decide +kernel
theorem dR_fits_86 : decode cX9_fits 86 = .ok (.goto 5, 3) := by decide +kernel
theorem dR_fits_89 : decode cX9_fits 89 = .ok (.iload 4, 2) := by decide +kernel
theorem dR_fits_91 : decode cX9_fits 91 = .ok (.istore 4, 2) := by decide +kernel
theorem dR_fits_93 : decode cX9_fits 93 = .ok (.iinc 5 1, 3) := by decide +kernel
theorem dR_fits_96 : decode cX9_fits 96 = .ok (.goto (-64), 3) := by decide +kernel
theorem dR_fits_99 : decode cX9_fits 99 = .ok (.iload_n 1, 1) := by decide +kernel
theorem dR_fits_100 : decode cX9_fits 100 = .ok (.iconst 1, 1) := by decide +kernel
theorem dR_fits_101 : decode cX9_fits 101 = .ok (.if_icmp .eq 8, 3) := by decide +kernel
theorem dR_fits_104 : decode cX9_fits 104 = .ok (.iload_n 1, 1) := by decide +kernel
theorem dR_fits_105 : decode cX9_fits 105 = .ok (.iconst 4, 1) := by decide +kernel
theorem dR_fits_106 : decode cX9_fits 106 = .ok (.if_icmp .ne 16, 3) := by decide +kernel
theorem dR_fits_109 : decode cX9_fits 109 = .ok (.aload_n 0, 1) := by decide +kernel
theorem dR_fits_110 : decode cX9_fits 110 = .ok (.getfield 223, 3) := by decide +kernel
theorem dR_fits_113 : decode cX9_fits 113 = .ok (.ifCond .ne 9, 3) := by decide +kernel
theorem dR_fits_116 : decode cX9_fits 116 = .ok (.aload_n 0, 1) := by decide +kernel
theorem dR_fits_117 : decode cX9_fits 117 = .ok (.iconst 2, 1) := by decide +kernel
theorem dR_fits_118 : decode cX9_fits 118 = .ok (.invokevirtual 62, 3) := by decide +kernel
theorem dR_fits_121 : decode cX9_fits 121 = .ok (.ireturn, 1) := by decide +kernel
theorem dR_fits_122 : decode cX9_fits 122 = .ok (.iload_n 1, 1) := by decide +kernel
theorem dR_fits_123 : decode cX9_fits 123 = .ok (.ifCond .ne 10, 3) := by decide +kernel
theorem dR_fits_126 : decode cX9_fits 126 = .ok (.aload_n 0, 1) := by decide +kernel
theorem dR_fits_127 : decode cX9_fits 127 = .ok (.getfield 223, 3) := by decide +kernel
theorem dR_fits_130 : decode cX9_fits 130 = .ok (.goto 44, 3) := by decide +kernel
theorem dR_fits_133 : decode cX9_fits 133 = .ok (.iload_n 1, 1) := by decide +kernel
theorem dR_fits_134 : decode cX9_fits 134 = .ok (.iconst 1, 1) := by decide +kernel
theorem dR_fits_135 : decode cX9_fits 135 = .ok (.if_icmp .ne 12, 3) := by decide +kernel
theorem dR_fits_138 : decode cX9_fits 138 = .ok (.aload_n 0, 1) := by decide +kernel
theorem dR_fits_139 : decode cX9_fits 139 = .ok (.getfield 31, 3) := by decide +kernel
theorem dR_fits_142 : decode cX9_fits 142 = .ok (.iconst 0, 1) := by decide +kernel
theorem dR_fits_143 : decode cX9_fits 143 = .ok (.iaload, 1) := by decide +kernel
theorem dR_fits_144 : decode cX9_fits 144 = .ok (.goto 30, 3) := by decide +kernel
theorem dR_fits_147 : decode cX9_fits 147 = .ok (.iload_n 1, 1) := by decide +kernel
theorem dR_fits_148 : decode cX9_fits 148 = .ok (.iconst 2, 1) := by decide +kernel
theorem dR_fits_149 : decode cX9_fits 149 = .ok (.if_icmp .ne 7, 3) := by decide +kernel
theorem dR_fits_152 : decode cX9_fits 152 = .ok (.iload_n 2, 1) := by decide +kernel
theorem dR_fits_153 : decode cX9_fits 153 = .ok (.goto 21, 3) := by decide +kernel
theorem dR_fits_156 : decode cX9_fits 156 = .ok (.iload_n 1, 1) := by decide +kernel
theorem dR_fits_157 : decode cX9_fits 157 = .ok (.iconst 3, 1) := by decide +kernel
theorem dR_fits_158 : decode cX9_fits 158 = .ok (.if_icmp .ne 7, 3) := by decide +kernel
theorem dR_fits_161 : decode cX9_fits 161 = .ok (.iload_n 3, 1) := by decide +kernel
theorem dR_fits_162 : decode cX9_fits 162 = .ok (.goto 12, 3) := by decide +kernel
theorem dR_fits_165 : decode cX9_fits 165 = .ok (.aload_n 0, 1) := by decide +kernel
theorem dR_fits_166 : decode cX9_fits 166 = .ok (.getfield 7, 3) := by decide +kernel
theorem dR_fits_169 : decode cX9_fits 169 = .ok (.iconst 3, 1) := by decide +kernel
theorem dR_fits_170 : decode cX9_fits 170 = .ok (.iaload, 1) := by decide +kernel
theorem dR_fits_171 : decode cX9_fits 171 = .ok (.iload 4, 2) := by decide +kernel
theorem dR_fits_173 : decode cX9_fits 173 = .ok (.isub, 1) := by decide +kernel
theorem dR_fits_174 : decode cX9_fits 174 = .ok (.ireturn, 1) := by decide +kernel
theorem dR_span_0 : decode cX9_span 0 = .ok (.aload_n 0, 1) := by decide +kernel
theorem dR_span_1 : decode cX9_span 1 = .ok (.iload_n 1, 1) := by decide +kernel
theorem dR_span_2 : decode cX9_span 2 = .ok (.invokevirtual 77, 3) := by decide +kernel
theorem dR_span_5 : decode cX9_span 5 = .ok (.ifCond .eq 21, 3) := by decide +kernel
theorem dR_span_8 : decode cX9_span 8 = .ok (.iload_n 2, 1) := by decide +kernel
theorem dR_span_9 : decode cX9_span 9 = .ok (.iconst 0, 1) := by decide +kernel
theorem dR_span_10 : decode cX9_span 10 = .ok (.iconst 3, 1) := by decide +kernel
theorem dR_span_11 : decode cX9_span 11 = .ok (.invokestatic 53, 3) := by decide +kernel
theorem dR_span_14 : decode cX9_span 14 = .ok (.ifCond .eq 12, 3) := by decide +kernel
theorem dR_span_17 : decode cX9_span 17 = .ok (.iload_n 3, 1) := by decide +kernel
theorem dR_span_18 : decode cX9_span 18 = .ok (.iconst 0, 1) := by decide +kernel
theorem dR_span_19 : decode cX9_span 19 = .ok (.iconst 1, 1) := by decide +kernel
theorem dR_span_20 : decode cX9_span 20 = .ok (.invokestatic 53, 3) := by decide +kernel
theorem dR_span_23 : decode cX9_span 23 = .ok (.ifCond .ne 9, 3) := by decide +kernel
theorem dR_span_26 : decode cX9_span 26 = .ok (.aload_n 0, 1) := by decide +kernel
theorem dR_span_27 : decode cX9_span 27 = .ok (.iconst 1, 1) := by decide +kernel
theorem dR_span_28 : decode cX9_span 28 = .ok (.invokevirtual 62, 3) := by decide +kernel
theorem dR_span_31 : decode cX9_span 31 = .ok (.ireturn, 1) := by decide +kernel
theorem dR_span_32 : decode cX9_span 32 = .ok (.aload_n 0, 1) := by decide +kernel
theorem dR_span_33 : decode cX9_span 33 = .ok (.invokevirtual 229, 3) := by decide +kernel
theorem dR_span_36 : decode cX9_span 36 = .ok (.aload_n 0, 1) := by decide +kernel
theorem dR_span_37 : decode cX9_span 37 = .ok (.getfield 223, 3) := by decide +kernel
theorem dR_span_40 : decode cX9_span 40 = .ok (.ifCond .ne 9, 3) := by decide +kernel
theorem dR_span_43 : decode cX9_span 43 = .ok (.aload_n 0, 1) := by decide +kernel
theorem dR_span_44 : decode cX9_span 44 = .ok (.iconst 2, 1) := by decide +kernel
theorem dR_span_45 : decode cX9_span 45 = .ok (.invokevirtual 62, 3) := by decide +kernel
theorem dR_span_48 : decode cX9_span 48 = .ok (.ireturn, 1) := by decide +kernel
theorem dR_span_49 : decode cX9_span 49 = .ok (.aload_n 0, 1) := by decide +kernel
theorem dR_span_50 : decode cX9_span 50 = .ok (.aload_n 0, 1) := by decide +kernel
theorem dR_span_51 : decode cX9_span 51 = .ok (.getfield 31, 3) := by decide +kernel
theorem dR_span_54 : decode cX9_span 54 = .ok (.iconst 0, 1) := by decide +kernel
theorem dR_span_55 : decode cX9_span 55 = .ok (.iaload, 1) := by decide +kernel
theorem dR_span_56 : decode cX9_span 56 = .ok (.iload_n 1, 1) := by decide +kernel
theorem dR_span_57 : decode cX9_span 57 = .ok (.bipush 6, 2) := by decide +kernel
theorem dR_span_59 : decode cX9_span 59 = .ok (.iload_n 2, 1) := by decide +kernel
theorem dR_span_60 : decode cX9_span 60 = .ok (.iadd, 1) := by decide +kernel
theorem dR_span_61 : decode cX9_span 61 = .ok (.invokevirtual 220, 3) := by decide +kernel
theorem dR_span_64 : decode cX9_span 64 = .ok (.istore 4, 2) := by decide +kernel
theorem dR_span_66 : decode cX9_span 66 = .ok (.iconst 1, 1) := by decide +kernel
theorem dR_span_67 : decode cX9_span 67 = .ok (.istore 5, 2) := by decide +kernel
theorem dR_span_69 : decode cX9_span 69 = .ok (.iload 5, 2) := by decide +kernel
theorem dR_span_71 : decode cX9_span 71 = .ok (.aload_n 0, 1) := by decide +kernel
theorem dR_span_72 : decode cX9_span 72 = .ok (.getfield 223, 3) := by decide +kernel
theorem dR_span_75 : decode cX9_span 75 = .ok (.if_icmp .ge 65, 3) := by decide +kernel
theorem dR_span_78 : decode cX9_span 78 = .ok (.aload_n 0, 1) := by decide +kernel
theorem dR_span_79 : decode cX9_span 79 = .ok (.aload_n 0, 1) := by decide +kernel
theorem dR_span_80 : decode cX9_span 80 = .ok (.getfield 31, 3) := by decide +kernel
theorem dR_span_83 : decode cX9_span 83 = .ok (.iload 5, 2) := by decide +kernel
theorem dR_span_85 : decode cX9_span 85 = .ok (.iaload, 1) := by decide +kernel
theorem dR_span_86 : decode cX9_span 86 = .ok (.iload_n 1, 1) := by decide +kernel
theorem dR_span_87 : decode cX9_span 87 = .ok (.bipush 6, 2) := by decide +kernel
theorem dR_span_89 : decode cX9_span 89 = .ok (.iload_n 2, 1) := by decide +kernel
theorem dR_span_90 : decode cX9_span 90 = .ok (.iadd, 1) := by decide +kernel
theorem dR_span_91 : decode cX9_span 91 = .ok (.invokevirtual 220, 3) := by decide +kernel
theorem dR_span_94 : decode cX9_span 94 = .ok (.istore 6, 2) := by decide +kernel
theorem dR_span_96 : decode cX9_span 96 = .ok (.iload_n 3, 1) := by decide +kernel
theorem dR_span_97 : decode cX9_span 97 = .ok (.iconst 1, 1) := by decide +kernel
theorem dR_span_98 : decode cX9_span 98 = .ok (.if_icmp .ne 20, 3) := by decide +kernel
theorem dR_span_101 : decode cX9_span 101 = .ok (.iload 6, 2) := by decide +kernel
theorem dR_span_103 : decode cX9_span 103 = .ok (.iload 4, 2) := by decide +kernel
theorem dR_span_105 : decode cX9_span 105 = .ok (.if_icmp .le 8, 3) := by decide +kernel
theorem dR_span_108 : decode cX9_span 108 = .ok (.iload 6, 2) := by decide +kernel
theorem dR_span_110 : decode cX9_span 110 = .ok (.goto 22, 3) := by decide +kernel
theorem dR_span_113 : decode cX9_span 113 = .ok (.iload 4, 2) := by decide +kernel
theorem dR_span_115 : decode cX9_span 115 = .ok (.goto 17, 3) := by decide +kernel
theorem dR_span_118 : decode cX9_span 118 = .ok (.iload 6, 2) := by decide +kernel
theorem dR_span_120 : decode cX9_span 120 = .ok (.iload 4, 2) := by decide +kernel
theorem dR_span_122 : decode cX9_span 122 = .ok (.if_icmp .ge 8, 3) := by decide +kernel
theorem dR_span_125 : decode cX9_span 125 = .ok (.iload 6, 2) := by decide +kernel
theorem dR_span_127 : decode cX9_span 127 = .ok (.goto 5, 3) := by decide +kernel
theorem dR_span_130 : decode cX9_span 130 = .ok (.iload 4, 2) := by decide +kernel
theorem dR_span_132 : decode cX9_span 132 = .ok (.istore 4, 2) := by decide +kernel
theorem dR_span_134 : decode cX9_span 134 = .ok (.iinc 5 1, 3) := by decide +kernel
theorem dR_span_137 : decode cX9_span 137 = .ok (.goto (-68), 3) := by decide +kernel
theorem dR_span_140 : decode cX9_span 140 = .ok (.iload 4, 2) := by decide +kernel
theorem dR_span_142 : decode cX9_span 142 = .ok (.ireturn, 1) := by decide +kernel
theorem dR_heap_0 : decode cX9_heap 0 = .ok (.iconst 0, 1) := by decide +kernel
theorem dR_heap_1 : decode cX9_heap 1 = .ok (.istore_n 2, 1) := by decide +kernel
theorem dR_heap_2 : decode cX9_heap 2 = .ok (.iload_n 2, 1) := by decide +kernel
theorem dR_heap_3 : decode cX9_heap 3 = .ok (.aload_n 0, 1) := by decide +kernel
theorem dR_heap_4 : decode cX9_heap 4 = .ok (.getfield 223, 3) := by decide +kernel
theorem dR_heap_7 : decode cX9_heap 7 = .ok (.if_icmp .ge 27, 3) := by decide +kernel
theorem dR_heap_10 : decode cX9_heap 10 = .ok (.aload_n 0, 1) := by decide +kernel
theorem dR_heap_11 : decode cX9_heap 11 = .ok (.getfield 34, 3) := by decide +kernel
theorem dR_heap_14 : decode cX9_heap 14 = .ok (.iload_n 2, 1) := by decide +kernel
theorem dR_heap_15 : decode cX9_heap 15 = .ok (.aload_n 0, 1) := by decide +kernel
theorem dR_heap_16 : decode cX9_heap 16 = .ok (.aload_n 0, 1) := by decide +kernel
theorem dR_heap_17 : decode cX9_heap 17 = .ok (.getfield 31, 3) := by decide +kernel
theorem dR_heap_20 : decode cX9_heap 20 = .ok (.iload_n 2, 1) := by decide +kernel
theorem dR_heap_21 : decode cX9_heap 21 = .ok (.iaload, 1) := by decide +kernel
theorem dR_heap_22 : decode cX9_heap 22 = .ok (.iload_n 1, 1) := by decide +kernel
theorem dR_heap_23 : decode cX9_heap 23 = .ok (.iconst 2, 1) := by decide +kernel
theorem dR_heap_24 : decode cX9_heap 24 = .ok (.invokevirtual 220, 3) := by decide +kernel
theorem dR_heap_27 : decode cX9_heap 27 = .ok (.iastore, 1) := by decide +kernel
theorem dR_heap_28 : decode cX9_heap 28 = .ok (.iinc 2 1, 3) := by decide +kernel
theorem dR_heap_31 : decode cX9_heap 31 = .ok (.goto (-29), 3) := by decide +kernel
theorem dR_heap_34 : decode cX9_heap 34 = .ok (.iconst 0, 1) := by decide +kernel
theorem dR_heap_35 : decode cX9_heap 35 = .ok (.istore_n 2, 1) := by decide +kernel
theorem dR_heap_36 : decode cX9_heap 36 = .ok (.iconst 0, 1) := by decide +kernel
theorem dR_heap_37 : decode cX9_heap 37 = .ok (.istore_n 3, 1) := by decide +kernel
theorem dR_heap_38 : decode cX9_heap 38 = .ok (.iload_n 3, 1) := by decide +kernel
theorem dR_heap_39 : decode cX9_heap 39 = .ok (.aload_n 0, 1) := by decide +kernel
theorem dR_heap_40 : decode cX9_heap 40 = .ok (.getfield 223, 3) := by decide +kernel
theorem dR_heap_43 : decode cX9_heap 43 = .ok (.if_icmp .ge 69, 3) := by decide +kernel
theorem dR_heap_46 : decode cX9_heap 46 = .ok (.iconst 0, 1) := by decide +kernel
theorem dR_heap_47 : decode cX9_heap 47 = .ok (.istore 4, 2) := by decide +kernel
theorem dR_heap_49 : decode cX9_heap 49 = .ok (.iconst 0, 1) := by decide +kernel
theorem dR_heap_50 : decode cX9_heap 50 = .ok (.istore 5, 2) := by decide +kernel
theorem dR_heap_52 : decode cX9_heap 52 = .ok (.iload 5, 2) := by decide +kernel
theorem dR_heap_54 : decode cX9_heap 54 = .ok (.aload_n 0, 1) := by decide +kernel
theorem dR_heap_55 : decode cX9_heap 55 = .ok (.getfield 223, 3) := by decide +kernel
theorem dR_heap_58 : decode cX9_heap 58 = .ok (.if_icmp .ge 35, 3) := by decide +kernel
theorem dR_heap_61 : decode cX9_heap 61 = .ok (.iload 4, 2) := by decide +kernel
theorem dR_heap_63 : decode cX9_heap 63 = .ok (.aload_n 0, 1) := by decide +kernel
theorem dR_heap_64 : decode cX9_heap 64 = .ok (.getfield 34, 3) := by decide +kernel
theorem dR_heap_67 : decode cX9_heap 67 = .ok (.iload 5, 2) := by decide +kernel
theorem dR_heap_69 : decode cX9_heap 69 = .ok (.iaload, 1) := by decide +kernel
theorem dR_heap_70 : decode cX9_heap 70 = .ok (.aload_n 0, 1) := by decide +kernel
theorem dR_heap_71 : decode cX9_heap 71 = .ok (.getfield 34, 3) := by decide +kernel
theorem dR_heap_74 : decode cX9_heap 74 = .ok (.iload_n 3, 1) := by decide +kernel
theorem dR_heap_75 : decode cX9_heap 75 = .ok (.iaload, 1) := by decide +kernel
theorem dR_heap_76 : decode cX9_heap 76 = .ok (.if_icmp .ne 7, 3) := by decide +kernel
theorem dR_heap_79 : decode cX9_heap 79 = .ok (.iconst 1, 1) := by decide +kernel
theorem dR_heap_80 : decode cX9_heap 80 = .ok (.goto 4, 3) := by decide +kernel
theorem dR_heap_83 : decode cX9_heap 83 = .ok (.iconst 0, 1) := by decide +kernel
theorem dR_heap_84 : decode cX9_heap 84 = .ok (.iadd, 1) := by decide +kernel
theorem dR_heap_85 : decode cX9_heap 85 = .ok (.istore 4, 2) := by decide +kernel
theorem dR_heap_87 : decode cX9_heap 87 = .ok (.iinc 5 1, 3) := by decide +kernel
theorem dR_heap_90 : decode cX9_heap 90 = .ok (.goto (-38), 3) := by decide +kernel
theorem dR_heap_93 : decode cX9_heap 93 = .ok (.iload 4, 2) := by decide +kernel
theorem dR_heap_95 : decode cX9_heap 95 = .ok (.iload_n 2, 1) := by decide +kernel
theorem dR_heap_96 : decode cX9_heap 96 = .ok (.if_icmp .le 8, 3) := by decide +kernel
theorem dR_heap_99 : decode cX9_heap 99 = .ok (.iload 4, 2) := by decide +kernel
theorem dR_heap_101 : decode cX9_heap 101 = .ok (.goto 4, 3) := by decide +kernel
theorem dR_heap_104 : decode cX9_heap 104 = .ok (.iload_n 2, 1) := by decide +kernel
theorem dR_heap_105 : decode cX9_heap 105 = .ok (.istore_n 2, 1) := by decide +kernel
theorem dR_heap_106 : decode cX9_heap 106 = .ok (.iinc 3 1, 3) := by decide +kernel
theorem dR_heap_109 : decode cX9_heap 109 = .ok (.goto (-71), 3) := by decide +kernel
theorem dR_heap_112 : decode cX9_heap 112 = .ok (.iload_n 2, 1) := by decide +kernel
theorem dR_heap_113 : decode cX9_heap 113 = .ok (.ireturn, 1) := by decide +kernel
theorem dR_next_0 : decode cX9_next 0 = .ok (.aload_n 0, 1) := by decide +kernel
theorem dR_next_1 : decode cX9_next 1 = .ok (.invokevirtual 229, 3) := by decide +kernel
theorem dR_next_4 : decode cX9_next 4 = .ok (.aload_n 0, 1) := by decide +kernel
theorem dR_next_5 : decode cX9_next 5 = .ok (.getfield 223, 3) := by decide +kernel
theorem dR_next_8 : decode cX9_next 8 = .ok (.ifCond .eq 12, 3) := by decide +kernel
theorem dR_next_11 : decode cX9_next 11 = .ok (.aload_n 0, 1) := by decide +kernel
theorem dR_next_12 : decode cX9_next 12 = .ok (.getfield 7, 3) := by decide +kernel
theorem dR_next_15 : decode cX9_next 15 = .ok (.iconst 0, 1) := by decide +kernel
theorem dR_next_16 : decode cX9_next 16 = .ok (.iaload, 1) := by decide +kernel
theorem dR_next_17 : decode cX9_next 17 = .ok (.ifCond .ne 9, 3) := by decide +kernel
theorem dR_next_20 : decode cX9_next 20 = .ok (.aload_n 0, 1) := by decide +kernel
theorem dR_next_21 : decode cX9_next 21 = .ok (.iconst 2, 1) := by decide +kernel
theorem dR_next_22 : decode cX9_next 22 = .ok (.invokevirtual 62, 3) := by decide +kernel
theorem dR_next_25 : decode cX9_next 25 = .ok (.ireturn, 1) := by decide +kernel
theorem dR_next_26 : decode cX9_next 26 = .ok (.iconst 0, 1) := by decide +kernel
theorem dR_next_27 : decode cX9_next 27 = .ok (.istore_n 1, 1) := by decide +kernel
theorem dR_next_28 : decode cX9_next 28 = .ok (.iconst 1, 1) := by decide +kernel
theorem dR_next_29 : decode cX9_next 29 = .ok (.istore_n 2, 1) := by decide +kernel
theorem dR_next_30 : decode cX9_next 30 = .ok (.iload_n 2, 1) := by decide +kernel
theorem dR_next_31 : decode cX9_next 31 = .ok (.aload_n 0, 1) := by decide +kernel
theorem dR_next_32 : decode cX9_next 32 = .ok (.getfield 7, 3) := by decide +kernel
theorem dR_next_35 : decode cX9_next 35 = .ok (.iconst 0, 1) := by decide +kernel
theorem dR_next_36 : decode cX9_next 36 = .ok (.iaload, 1) := by decide +kernel
theorem dR_next_37 : decode cX9_next 37 = .ok (.if_icmp .ge 28, 3) := by decide +kernel
theorem dR_next_40 : decode cX9_next 40 = .ok (.aload_n 0, 1) := by decide +kernel
theorem dR_next_41 : decode cX9_next 41 = .ok (.iload_n 2, 1) := by decide +kernel
theorem dR_next_42 : decode cX9_next 42 = .ok (.invokevirtual 235, 3) := by decide +kernel
theorem dR_next_45 : decode cX9_next 45 = .ok (.aload_n 0, 1) := by decide +kernel
theorem dR_next_46 : decode cX9_next 46 = .ok (.iload_n 1, 1) := by decide +kernel
theorem dR_next_47 : decode cX9_next 47 = .ok (.invokevirtual 235, 3) := by decide +kernel
theorem dR_next_50 : decode cX9_next 50 = .ok (.if_icmp .ge 7, 3) := by decide +kernel
theorem dR_next_53 : decode cX9_next 53 = .ok (.iload_n 2, 1) := by decide +kernel
theorem dR_next_54 : decode cX9_next 54 = .ok (.goto 4, 3) := by decide +kernel
theorem dR_next_57 : decode cX9_next 57 = .ok (.iload_n 1, 1) := by decide +kernel
theorem dR_next_58 : decode cX9_next 58 = .ok (.istore_n 1, 1) := by decide +kernel
theorem dR_next_59 : decode cX9_next 59 = .ok (.iinc 2 1, 3) := by decide +kernel
theorem dR_next_62 : decode cX9_next 62 = .ok (.goto (-32), 3) := by decide +kernel
theorem dR_next_65 : decode cX9_next 65 = .ok (.iload_n 1, 1) := by decide +kernel
theorem dR_next_66 : decode cX9_next 66 = .ok (.ireturn, 1) := by decide +kernel
theorem dR_together_0 : decode cX9_together 0 = .ok (.lconst 0, 1) := by decide +kernel
theorem dR_together_1 : decode cX9_together 1 = .ok (.lstore_n 3, 1) := by decide +kernel
theorem dR_together_2 : decode cX9_together 2 = .ok (.lconst 0, 1) := by decide +kernel
theorem dR_together_3 : decode cX9_together 3 = .ok (.lstore 5, 2) := by decide +kernel
theorem dR_together_5 : decode cX9_together 5 = .ok (.iconst 0, 1) := by decide +kernel
theorem dR_together_6 : decode cX9_together 6 = .ok (.istore 7, 2) := by decide +kernel
theorem dR_together_8 : decode cX9_together 8 = .ok (.iload 7, 2) := by decide +kernel
theorem dR_together_10 : decode cX9_together 10 = .ok (.aload_n 0, 1) := by decide +kernel
theorem dR_together_11 : decode cX9_together 11 = .ok (.getfield 7, 3) := by decide +kernel
theorem dR_together_14 : decode cX9_together 14 = .ok (.iconst 0, 1) := by decide +kernel
theorem dR_together_15 : decode cX9_together 15 = .ok (.iaload, 1) := by decide +kernel
theorem dR_together_16 : decode cX9_together 16 = .ok (.if_icmp .ge 55, 3) := by decide +kernel
theorem dR_together_19 : decode cX9_together 19 = .ok (.iload_n 2, 1) := by decide +kernel
theorem dR_together_20 : decode cX9_together 20 = .ok (.iload 7, 2) := by decide +kernel
theorem dR_together_22 : decode cX9_together 22 = .ok (.ishr, 1) := by decide +kernel
theorem dR_together_23 : decode cX9_together 23 = .ok (.iconst 1, 1) := by decide +kernel
theorem dR_together_24 : decode cX9_together 24 = .ok (.iand, 1) := by decide +kernel
theorem dR_together_25 : decode cX9_together 25 = .ok (.iconst 1, 1) := by decide +kernel
theorem dR_together_26 : decode cX9_together 26 = .ok (.if_icmp .ne 39, 3) := by decide +kernel
theorem dR_together_29 : decode cX9_together 29 = .ok (.lload_n 3, 1) := by decide +kernel
theorem dR_together_30 : decode cX9_together 30 = .ok (.aload_n 0, 1) := by decide +kernel
theorem dR_together_31 : decode cX9_together 31 = .ok (.iload 7, 2) := by decide +kernel
theorem dR_together_33 : decode cX9_together 33 = .ok (.iconst 2, 1) := by decide +kernel
theorem dR_together_34 : decode cX9_together 34 = .ok (.invokevirtual 73, 3) := by decide +kernel
theorem dR_together_37 : decode cX9_together 37 = .ok (.i2l, 1) := by decide +kernel
theorem dR_together_38 : decode cX9_together 38 = .ok (.ladd, 1) := by decide +kernel
theorem dR_together_39 : decode cX9_together 39 = .ok (.lstore_n 3, 1) := by decide +kernel
theorem dR_together_40 : decode cX9_together 40 = .ok (.lload 5, 2) := by decide +kernel
theorem dR_together_42 : decode cX9_together 42 = .ok (.aload_n 0, 1) := by decide +kernel
theorem dR_together_43 : decode cX9_together 43 = .ok (.iload 7, 2) := by decide +kernel
theorem dR_together_45 : decode cX9_together 45 = .ok (.iconst 2, 1) := by decide +kernel
theorem dR_together_46 : decode cX9_together 46 = .ok (.invokevirtual 73, 3) := by decide +kernel
theorem dR_together_49 : decode cX9_together 49 = .ok (.i2l, 1) := by decide +kernel
theorem dR_together_50 : decode cX9_together 50 = .ok (.aload_n 0, 1) := by decide +kernel
theorem dR_together_51 : decode cX9_together 51 = .ok (.iload 7, 2) := by decide +kernel
theorem dR_together_53 : decode cX9_together 53 = .ok (.bipush 6, 2) := by decide +kernel
theorem dR_together_55 : decode cX9_together 55 = .ok (.iload_n 1, 1) := by decide +kernel
theorem dR_together_56 : decode cX9_together 56 = .ok (.iadd, 1) := by decide +kernel
theorem dR_together_57 : decode cX9_together 57 = .ok (.invokevirtual 73, 3) := by decide +kernel
theorem dR_together_60 : decode cX9_together 60 = .ok (.i2l, 1) := by decide +kernel
theorem dR_together_61 : decode cX9_together 61 = .ok (.lmul, 1) := by decide +kernel
theorem dR_together_62 : decode cX9_together 62 = .ok (.ladd, 1) := by decide +kernel
theorem dR_together_63 : decode cX9_together 63 = .ok (.lstore 5, 2) := by decide +kernel
theorem dR_together_65 : decode cX9_together 65 = .ok (.iinc 7 1, 3) := by decide +kernel
theorem dR_together_68 : decode cX9_together 68 = .ok (.goto (-60), 3) := by decide +kernel
theorem dR_together_71 : decode cX9_together 71 = .ok (.lload_n 3, 1) := by decide +kernel
theorem dR_together_72 : decode cX9_together 72 = .ok (.lconst 0, 1) := by decide +kernel
theorem dR_together_73 : decode cX9_together 73 = .ok (.lcmp, 1) := by decide +kernel
theorem dR_together_74 : decode cX9_together 74 = .ok (.ifCond .ne 7, 3) := by decide +kernel
theorem dR_together_77 : decode cX9_together 77 = .ok (.iconst 0, 1) := by decide +kernel
theorem dR_together_78 : decode cX9_together 78 = .ok (.goto 8, 3) := by decide +kernel
theorem dR_together_81 : decode cX9_together 81 = .ok (.lload 5, 2) := by decide +kernel
theorem dR_together_83 : decode cX9_together 83 = .ok (.lload_n 3, 1) := by decide +kernel
theorem dR_together_84 : decode cX9_together 84 = .ok (.ldiv, 1) := by decide +kernel
theorem dR_together_85 : decode cX9_together 85 = .ok (.l2i, 1) := by decide +kernel
theorem dR_together_86 : decode cX9_together 86 = .ok (.ireturn, 1) := by decide +kernel
theorem dR_haveGrams_0 : decode cX9_haveGrams 0 = .ok (.iconst 1, 1) := by decide +kernel
theorem dR_haveGrams_1 : decode cX9_haveGrams 1 = .ok (.istore_n 2, 1) := by decide +kernel
theorem dR_haveGrams_2 : decode cX9_haveGrams 2 = .ok (.iconst 0, 1) := by decide +kernel
theorem dR_haveGrams_3 : decode cX9_haveGrams 3 = .ok (.istore_n 3, 1) := by decide +kernel
theorem dR_haveGrams_4 : decode cX9_haveGrams 4 = .ok (.iload_n 3, 1) := by decide +kernel
theorem dR_haveGrams_5 : decode cX9_haveGrams 5 = .ok (.aload_n 0, 1) := by decide +kernel
theorem dR_haveGrams_6 : decode cX9_haveGrams 6 = .ok (.getfield 7, 3) := by decide +kernel
theorem dR_haveGrams_9 : decode cX9_haveGrams 9 = .ok (.iconst 0, 1) := by decide +kernel
theorem dR_haveGrams_10 : decode cX9_haveGrams 10 = .ok (.iaload, 1) := by decide +kernel
theorem dR_haveGrams_11 : decode cX9_haveGrams 11 = .ok (.if_icmp .ge 36, 3) := by decide +kernel
theorem dR_haveGrams_14 : decode cX9_haveGrams 14 = .ok (.iload_n 2, 1) := by decide +kernel
theorem dR_haveGrams_15 : decode cX9_haveGrams 15 = .ok (.ifCond .eq 24, 3) := by decide +kernel
theorem dR_haveGrams_18 : decode cX9_haveGrams 18 = .ok (.iload_n 1, 1) := by decide +kernel
theorem dR_haveGrams_19 : decode cX9_haveGrams 19 = .ok (.iload_n 3, 1) := by decide +kernel
theorem dR_haveGrams_20 : decode cX9_haveGrams 20 = .ok (.ishr, 1) := by decide +kernel
theorem dR_haveGrams_21 : decode cX9_haveGrams 21 = .ok (.iconst 1, 1) := by decide +kernel
theorem dR_haveGrams_22 : decode cX9_haveGrams 22 = .ok (.iand, 1) := by decide +kernel
theorem dR_haveGrams_23 : decode cX9_haveGrams 23 = .ok (.ifCond .eq 12, 3) := by decide +kernel
theorem dR_haveGrams_26 : decode cX9_haveGrams 26 = .ok (.aload_n 0, 1) := by decide +kernel
theorem dR_haveGrams_27 : decode cX9_haveGrams 27 = .ok (.iload_n 3, 1) := by decide +kernel
theorem dR_haveGrams_28 : decode cX9_haveGrams 28 = .ok (.iconst 2, 1) := by decide +kernel
theorem dR_haveGrams_29 : decode cX9_haveGrams 29 = .ok (.invokevirtual 73, 3) := by decide +kernel
theorem dR_haveGrams_32 : decode cX9_haveGrams 32 = .ok (.ifCond .le 7, 3) := by decide +kernel
theorem dR_haveGrams_35 : decode cX9_haveGrams 35 = .ok (.iconst 1, 1) := by decide +kernel
theorem dR_haveGrams_36 : decode cX9_haveGrams 36 = .ok (.goto 4, 3) := by decide +kernel
theorem dR_haveGrams_39 : decode cX9_haveGrams 39 = .ok (.iconst 0, 1) := by decide +kernel
theorem dR_haveGrams_40 : decode cX9_haveGrams 40 = .ok (.istore_n 2, 1) := by decide +kernel
theorem dR_haveGrams_41 : decode cX9_haveGrams 41 = .ok (.iinc 3 1, 3) := by decide +kernel
theorem dR_haveGrams_44 : decode cX9_haveGrams 44 = .ok (.goto (-40), 3) := by decide +kernel
theorem dR_haveGrams_47 : decode cX9_haveGrams 47 = .ok (.iload_n 2, 1) := by decide +kernel
theorem dR_haveGrams_48 : decode cX9_haveGrams 48 = .ok (.ireturn, 1) := by decide +kernel
theorem dR_most_0 : decode cX9_most 0 = .ok (.iload_n 1, 1) := by decide +kernel
theorem dR_most_1 : decode cX9_most 1 = .ok (.iconst 0, 1) := by decide +kernel
theorem dR_most_2 : decode cX9_most 2 = .ok (.iconst 3, 1) := by decide +kernel
theorem dR_most_3 : decode cX9_most 3 = .ok (.invokestatic 53, 3) := by decide +kernel
theorem dR_most_6 : decode cX9_most 6 = .ok (.ifCond .eq 21, 3) := by decide +kernel
theorem dR_most_9 : decode cX9_most 9 = .ok (.iload_n 2, 1) := by decide +kernel
theorem dR_most_10 : decode cX9_most 10 = .ok (.iconst 0, 1) := by decide +kernel
theorem dR_most_11 : decode cX9_most 11 = .ok (.iconst 3, 1) := by decide +kernel
theorem dR_most_12 : decode cX9_most 12 = .ok (.invokestatic 53, 3) := by decide +kernel
theorem dR_most_15 : decode cX9_most 15 = .ok (.ifCond .eq 12, 3) := by decide +kernel
theorem dR_most_18 : decode cX9_most 18 = .ok (.iload_n 3, 1) := by decide +kernel
theorem dR_most_19 : decode cX9_most 19 = .ok (.iconst 0, 1) := by decide +kernel
theorem dR_most_20 : decode cX9_most 20 = .ok (.iconst 1, 1) := by decide +kernel
theorem dR_most_21 : decode cX9_most 21 = .ok (.invokestatic 53, 3) := by decide +kernel
theorem dR_most_24 : decode cX9_most 24 = .ok (.ifCond .ne 9, 3) := by decide +kernel
theorem dR_most_27 : decode cX9_most 27 = .ok (.aload_n 0, 1) := by decide +kernel
theorem dR_most_28 : decode cX9_most 28 = .ok (.iconst 1, 1) := by decide +kernel
theorem dR_most_29 : decode cX9_most 29 = .ok (.invokevirtual 62, 3) := by decide +kernel
theorem dR_most_32 : decode cX9_most 32 = .ok (.ireturn, 1) := by decide +kernel
theorem dR_most_33 : decode cX9_most 33 = .ok (.iconst 0, 1) := by decide +kernel
theorem dR_most_34 : decode cX9_most 34 = .ok (.istore 4, 2) := by decide +kernel
theorem dR_most_36 : decode cX9_most 36 = .ok (.iconst 1, 1) := by decide +kernel
theorem dR_most_37 : decode cX9_most 37 = .ok (.istore 5, 2) := by decide +kernel
theorem dR_most_39 : decode cX9_most 39 = .ok (.iload 5, 2) := by decide +kernel
theorem dR_most_41 : decode cX9_most 41 = .ok (.iconst 1, 1) := by decide +kernel
theorem dR_most_42 : decode cX9_most 42 = .ok (.aload_n 0, 1) := by decide +kernel
theorem dR_most_43 : decode cX9_most 43 = .ok (.getfield 7, 3) := by decide +kernel
theorem dR_most_46 : decode cX9_most 46 = .ok (.iconst 0, 1) := by decide +kernel
theorem dR_most_47 : decode cX9_most 47 = .ok (.iaload, 1) := by decide +kernel
theorem dR_most_48 : decode cX9_most 48 = .ok (.ishl, 1) := by decide +kernel
theorem dR_most_49 : decode cX9_most 49 = .ok (.if_icmp .ge 76, 3) := by decide +kernel
theorem dR_most_52 : decode cX9_most 52 = .ok (.iload 5, 2) := by decide +kernel
theorem dR_most_54 : decode cX9_most 54 = .ok (.invokestatic 232, 3) := by decide +kernel
theorem dR_most_57 : decode cX9_most 57 = .ok (.iload_n 2, 1) := by decide +kernel
theorem dR_most_58 : decode cX9_most 58 = .ok (.if_icmp .gt 61, 3) := by decide +kernel
theorem dR_most_61 : decode cX9_most 61 = .ok (.aload_n 0, 1) := by decide +kernel
theorem dR_most_62 : decode cX9_most 62 = .ok (.iload 5, 2) := by decide +kernel
theorem dR_most_64 : decode cX9_most 64 = .ok (.invokevirtual 238, 3) := by decide +kernel
theorem dR_most_67 : decode cX9_most 67 = .ok (.ifCond .eq 52, 3) := by decide +kernel
theorem dR_most_70 : decode cX9_most 70 = .ok (.aload_n 0, 1) := by decide +kernel
theorem dR_most_71 : decode cX9_most 71 = .ok (.iload_n 1, 1) := by decide +kernel
theorem dR_most_72 : decode cX9_most 72 = .ok (.iload 5, 2) := by decide +kernel
theorem dR_most_74 : decode cX9_most 74 = .ok (.invokevirtual 241, 3) := by decide +kernel
theorem dR_most_77 : decode cX9_most 77 = .ok (.aload_n 0, 1) := by decide +kernel
theorem dR_most_78 : decode cX9_most 78 = .ok (.iload_n 1, 1) := by decide +kernel
theorem dR_most_79 : decode cX9_most 79 = .ok (.iload 4, 2) := by decide +kernel
theorem dR_most_81 : decode cX9_most 81 = .ok (.invokevirtual 241, 3) := by decide +kernel
theorem dR_most_84 : decode cX9_most 84 = .ok (.isub, 1) := by decide +kernel
theorem dR_most_85 : decode cX9_most 85 = .ok (.istore 6, 2) := by decide +kernel
theorem dR_most_87 : decode cX9_most 87 = .ok (.iload 6, 2) := by decide +kernel
theorem dR_most_89 : decode cX9_most 89 = .ok (.ifCond .gt 21, 3) := by decide +kernel
theorem dR_most_92 : decode cX9_most 92 = .ok (.iload 6, 2) := by decide +kernel
theorem dR_most_94 : decode cX9_most 94 = .ok (.ifCond .ne 21, 3) := by decide +kernel
theorem dR_most_97 : decode cX9_most 97 = .ok (.iload 5, 2) := by decide +kernel
theorem dR_most_99 : decode cX9_most 99 = .ok (.invokestatic 232, 3) := by decide +kernel
theorem dR_most_102 : decode cX9_most 102 = .ok (.iload 4, 2) := by decide +kernel
theorem dR_most_104 : decode cX9_most 104 = .ok (.invokestatic 232, 3) := by decide +kernel
theorem dR_most_107 : decode cX9_most 107 = .ok (.if_icmp .ge 8, 3) := by decide +kernel
theorem dR_most_110 : decode cX9_most 110 = .ok (.iload 5, 2) := by decide +kernel
theorem dR_most_112 : decode cX9_most 112 = .ok (.goto 5, 3) := by decide +kernel
theorem dR_most_115 : decode cX9_most 115 = .ok (.iload 4, 2) := by decide +kernel
theorem dR_most_117 : decode cX9_most 117 = .ok (.istore 4, 2) := by decide +kernel
theorem dR_most_119 : decode cX9_most 119 = .ok (.iinc 5 1, 3) := by decide +kernel
theorem dR_most_122 : decode cX9_most 122 = .ok (.goto (-83), 3) := by decide +kernel
theorem dR_most_125 : decode cX9_most 125 = .ok (.iload_n 3, 1) := by decide +kernel
theorem dR_most_126 : decode cX9_most 126 = .ok (.ifCond .ne 8, 3) := by decide +kernel
theorem dR_most_129 : decode cX9_most 129 = .ok (.iload 4, 2) := by decide +kernel
theorem dR_most_131 : decode cX9_most 131 = .ok (.goto 10, 3) := by decide +kernel
theorem dR_most_134 : decode cX9_most 134 = .ok (.aload_n 0, 1) := by decide +kernel
theorem dR_most_135 : decode cX9_most 135 = .ok (.iload_n 1, 1) := by decide +kernel
theorem dR_most_136 : decode cX9_most 136 = .ok (.iload 4, 2) := by decide +kernel
theorem dR_most_138 : decode cX9_most 138 = .ok (.invokevirtual 241, 3) := by decide +kernel
theorem dR_most_141 : decode cX9_most 141 = .ok (.ireturn, 1) := by decide +kernel
theorem dR_begins_0 : decode cX9_begins 0 = .ok (.aload_n 0, 1) := by decide +kernel
theorem dR_begins_1 : decode cX9_begins 1 = .ok (.getfield 244, 3) := by decide +kernel
theorem dR_begins_4 : decode cX9_begins 4 = .ok (.bipush 30, 2) := by decide +kernel
theorem dR_begins_6 : decode cX9_begins 6 = .ok (.if_icmp .ge 23, 3) := by decide +kernel
theorem dR_begins_9 : decode cX9_begins 9 = .ok (.aload_n 0, 1) := by decide +kernel
theorem dR_begins_10 : decode cX9_begins 10 = .ok (.getfield 37, 3) := by decide +kernel
theorem dR_begins_13 : decode cX9_begins 13 = .ok (.aload_n 0, 1) := by decide +kernel
theorem dR_begins_14 : decode cX9_begins 14 = .ok (.getfield 244, 3) := by decide +kernel
theorem dR_begins_17 : decode cX9_begins 17 = .ok (.iload_n 1, 1) := by decide +kernel
theorem dR_begins_18 : decode cX9_begins 18 = .ok (.iastore, 1) := by decide +kernel
theorem dR_begins_19 : decode cX9_begins 19 = .ok (.aload_n 0, 1) := by decide +kernel
theorem dR_begins_20 : decode cX9_begins 20 = .ok (.dup, 1) := by decide +kernel
theorem dR_begins_21 : decode cX9_begins 21 = .ok (.getfield 244, 3) := by decide +kernel
theorem dR_begins_24 : decode cX9_begins 24 = .ok (.iconst 1, 1) := by decide +kernel
theorem dR_begins_25 : decode cX9_begins 25 = .ok (.iadd, 1) := by decide +kernel
theorem dR_begins_26 : decode cX9_begins 26 = .ok (.putfield 244, 3) := by decide +kernel
theorem dR_begins_29 : decode cX9_begins 29 = .ok (.return_, 1) := by decide +kernel
theorem dR_above_0 : decode cX9_above 0 = .ok (.iload_n 0, 1) := by decide +kernel
theorem dR_above_1 : decode cX9_above 1 = .ok (.iconst 4, 1) := by decide +kernel
theorem dR_above_2 : decode cX9_above 2 = .ok (.if_icmp .ne 7, 3) := by decide +kernel
theorem dR_above_5 : decode cX9_above 5 = .ok (.iconst 1, 1) := by decide +kernel
theorem dR_above_6 : decode cX9_above 6 = .ok (.goto 23, 3) := by decide +kernel
theorem dR_above_9 : decode cX9_above 9 = .ok (.iload_n 0, 1) := by decide +kernel
theorem dR_above_10 : decode cX9_above 10 = .ok (.iconst 5, 1) := by decide +kernel
theorem dR_above_11 : decode cX9_above 11 = .ok (.if_icmp .ne 7, 3) := by decide +kernel
theorem dR_above_14 : decode cX9_above 14 = .ok (.iconst 2, 1) := by decide +kernel
theorem dR_above_15 : decode cX9_above 15 = .ok (.goto 14, 3) := by decide +kernel
theorem dR_above_18 : decode cX9_above 18 = .ok (.iload_n 0, 1) := by decide +kernel
theorem dR_above_19 : decode cX9_above 19 = .ok (.bipush 6, 2) := by decide +kernel
theorem dR_above_21 : decode cX9_above 21 = .ok (.if_icmp .ne 7, 3) := by decide +kernel
theorem dR_above_24 : decode cX9_above 24 = .ok (.iconst 3, 1) := by decide +kernel
theorem dR_above_25 : decode cX9_above 25 = .ok (.goto 4, 3) := by decide +kernel
theorem dR_above_28 : decode cX9_above 28 = .ok (.iconst 0, 1) := by decide +kernel
theorem dR_above_29 : decode cX9_above 29 = .ok (.ireturn, 1) := by decide +kernel
theorem dR_kindNow_0 : decode cX9_kindNow 0 = .ok (.aload_n 0, 1) := by decide +kernel
theorem dR_kindNow_1 : decode cX9_kindNow 1 = .ok (.aload_n 0, 1) := by decide +kernel
theorem dR_kindNow_2 : decode cX9_kindNow 2 = .ok (.getfield 247, 3) := by decide +kernel
theorem dR_kindNow_5 : decode cX9_kindNow 5 = .ok (.iconst 0, 1) := by decide +kernel
theorem dR_kindNow_6 : decode cX9_kindNow 6 = .ok (.invokevirtual 73, 3) := by decide +kernel
theorem dR_kindNow_9 : decode cX9_kindNow 9 = .ok (.ireturn, 1) := by decide +kernel
theorem dR_mNow_0 : decode cX9_mNow 0 = .ok (.aload_n 0, 1) := by decide +kernel
theorem dR_mNow_1 : decode cX9_mNow 1 = .ok (.aload_n 0, 1) := by decide +kernel
theorem dR_mNow_2 : decode cX9_mNow 2 = .ok (.getfield 247, 3) := by decide +kernel
theorem dR_mNow_5 : decode cX9_mNow 5 = .ok (.iconst 1, 1) := by decide +kernel
theorem dR_mNow_6 : decode cX9_mNow 6 = .ok (.invokevirtual 73, 3) := by decide +kernel
theorem dR_mNow_9 : decode cX9_mNow 9 = .ok (.ireturn, 1) := by decide +kernel
theorem dR_ringsBy_0 : decode cX9_ringsBy 0 = .ok (.iload_n 1, 1) := by decide +kernel
theorem dR_ringsBy_1 : decode cX9_ringsBy 1 = .ok (.tableswitch 101 0 6 #[43, 56, 101, 101, 74, 101, 92], 43) := by decide +kernel
