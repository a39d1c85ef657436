-- decode rows of the class
theorem dX8_claim_59 : decode cX8_claim 59 = .ok (.iconst 0, 1) := by decide +kernel
theorem dX8_claim_60 : decode cX8_claim 60 = .ok (.invokevirtual 139, 3) := by decide +kernel
theorem dX8_claim_63 : decode cX8_claim 63 = .ok (.ireturn, 1) := by decide +kernel
theorem dX8_claimIs_0 : decode cX8_claimIs 0 = .ok (.aload_n 0, 1) := by decide +kernel
theorem dX8_claimIs_1 : decode cX8_claimIs 1 = .ok (.getfield 12, 3) := by decide +kernel
theorem dX8_claimIs_4 : decode cX8_claimIs 4 = .ok (.getfield 162, 3) := by decide +kernel
theorem dX8_claimIs_7 : decode cX8_claimIs 7 = .ok (.iload_n 1, 1) := by decide +kernel
theorem dX8_claimIs_8 : decode cX8_claimIs 8 = .ok (.invokevirtual 165, 3) := by decide +kernel
theorem dX8_claimIs_11 : decode cX8_claimIs 11 = .ok (.ifCond .eq 12, 3) := by decide +kernel
theorem dX8_claimIs_14 : decode cX8_claimIs 14 = .ok (.iload_n 2, 1) := by decide +kernel
theorem dX8_claimIs_15 : decode cX8_claimIs 15 = .ok (.iconst 0, 1) := by decide +kernel
theorem dX8_claimIs_16 : decode cX8_claimIs 16 = .ok (.iconst 2, 1) := by decide +kernel
theorem dX8_claimIs_17 : decode cX8_claimIs 17 = .ok (.invokestatic 63, 3) := by decide +kernel
theorem dX8_claimIs_20 : decode cX8_claimIs 20 = .ok (.ifCond .ne 9, 3) := by decide +kernel
theorem dX8_claimIs_23 : decode cX8_claimIs 23 = .ok (.aload_n 0, 1) := by decide +kernel
theorem dX8_claimIs_24 : decode cX8_claimIs 24 = .ok (.iconst 1, 1) := by decide +kernel
theorem dX8_claimIs_25 : decode cX8_claimIs 25 = .ok (.invokevirtual 67, 3) := by decide +kernel
theorem dX8_claimIs_28 : decode cX8_claimIs 28 = .ok (.ireturn, 1) := by decide +kernel
theorem dX8_claimIs_29 : decode cX8_claimIs 29 = .ok (.iload_n 2, 1) := by decide +kernel
theorem dX8_claimIs_30 : decode cX8_claimIs 30 = .ok (.iconst 2, 1) := by decide +kernel
theorem dX8_claimIs_31 : decode cX8_claimIs 31 = .ok (.if_icmp .ne 14, 3) := by decide +kernel
theorem dX8_claimIs_34 : decode cX8_claimIs 34 = .ok (.aload_n 0, 1) := by decide +kernel
theorem dX8_claimIs_35 : decode cX8_claimIs 35 = .ok (.getfield 12, 3) := by decide +kernel
theorem dX8_claimIs_38 : decode cX8_claimIs 38 = .ok (.iload_n 1, 1) := by decide +kernel
theorem dX8_claimIs_39 : decode cX8_claimIs 39 = .ok (.invokevirtual 166, 3) := by decide +kernel
theorem dX8_claimIs_42 : decode cX8_claimIs 42 = .ok (.goto 15, 3) := by decide +kernel
theorem dX8_claimIs_45 : decode cX8_claimIs 45 = .ok (.aload_n 0, 1) := by decide +kernel
theorem dX8_claimIs_46 : decode cX8_claimIs 46 = .ok (.getfield 12, 3) := by decide +kernel
theorem dX8_claimIs_49 : decode cX8_claimIs 49 = .ok (.getfield 162, 3) := by decide +kernel
theorem dX8_claimIs_52 : decode cX8_claimIs 52 = .ok (.iload_n 1, 1) := by decide +kernel
theorem dX8_claimIs_53 : decode cX8_claimIs 53 = .ok (.iload_n 2, 1) := by decide +kernel
theorem dX8_claimIs_54 : decode cX8_claimIs 54 = .ok (.invokevirtual 169, 3) := by decide +kernel
theorem dX8_claimIs_57 : decode cX8_claimIs 57 = .ok (.ireturn, 1) := by decide +kernel
theorem dX8_share_0 : decode cX8_share 0 = .ok (.aload_n 0, 1) := by decide +kernel
theorem dX8_share_1 : decode cX8_share 1 = .ok (.getfield 12, 3) := by decide +kernel
theorem dX8_share_4 : decode cX8_share 4 = .ok (.getfield 162, 3) := by decide +kernel
theorem dX8_share_7 : decode cX8_share 7 = .ok (.iload_n 1, 1) := by decide +kernel
theorem dX8_share_8 : decode cX8_share 8 = .ok (.invokevirtual 165, 3) := by decide +kernel
theorem dX8_share_11 : decode cX8_share 11 = .ok (.ifCond .eq 12, 3) := by decide +kernel
theorem dX8_share_14 : decode cX8_share 14 = .ok (.iload_n 2, 1) := by decide +kernel
theorem dX8_share_15 : decode cX8_share 15 = .ok (.iconst 0, 1) := by decide +kernel
theorem dX8_share_16 : decode cX8_share 16 = .ok (.iconst 2, 1) := by decide +kernel
theorem dX8_share_17 : decode cX8_share 17 = .ok (.invokestatic 63, 3) := by decide +kernel
theorem dX8_share_20 : decode cX8_share 20 = .ok (.ifCond .ne 9, 3) := by decide +kernel
theorem dX8_share_23 : decode cX8_share 23 = .ok (.aload_n 0, 1) := by decide +kernel
theorem dX8_share_24 : decode cX8_share 24 = .ok (.iconst 1, 1) := by decide +kernel
theorem dX8_share_25 : decode cX8_share 25 = .ok (.invokevirtual 67, 3) := by decide +kernel
theorem dX8_share_28 : decode cX8_share 28 = .ok (.ireturn, 1) := by decide +kernel
theorem dX8_share_29 : decode cX8_share 29 = .ok (.aload_n 0, 1) := by decide +kernel
theorem dX8_share_30 : decode cX8_share 30 = .ok (.getfield 12, 3) := by decide +kernel
theorem dX8_share_33 : decode cX8_share 33 = .ok (.iload_n 1, 1) := by decide +kernel
theorem dX8_share_34 : decode cX8_share 34 = .ok (.iload_n 2, 1) := by decide +kernel
theorem dX8_share_35 : decode cX8_share 35 = .ok (.invokevirtual 172, 3) := by decide +kernel
theorem dX8_share_38 : decode cX8_share 38 = .ok (.ireturn, 1) := by decide +kernel
theorem dX8_left_0 : decode cX8_left 0 = .ok (.aload_n 0, 1) := by decide +kernel
theorem dX8_left_1 : decode cX8_left 1 = .ok (.getfield 12, 3) := by decide +kernel
theorem dX8_left_4 : decode cX8_left 4 = .ok (.getfield 71, 3) := by decide +kernel
theorem dX8_left_7 : decode cX8_left 7 = .ok (.iload_n 1, 1) := by decide +kernel
theorem dX8_left_8 : decode cX8_left 8 = .ok (.invokevirtual 82, 3) := by decide +kernel
theorem dX8_left_11 : decode cX8_left 11 = .ok (.ifCond .eq 12, 3) := by decide +kernel
theorem dX8_left_14 : decode cX8_left 14 = .ok (.iload_n 2, 1) := by decide +kernel
theorem dX8_left_15 : decode cX8_left 15 = .ok (.iconst 0, 1) := by decide +kernel
theorem dX8_left_16 : decode cX8_left 16 = .ok (.iconst 2, 1) := by decide +kernel
theorem dX8_left_17 : decode cX8_left 17 = .ok (.invokestatic 63, 3) := by decide +kernel
theorem dX8_left_20 : decode cX8_left 20 = .ok (.ifCond .ne 9, 3) := by decide +kernel
theorem dX8_left_23 : decode cX8_left 23 = .ok (.aload_n 0, 1) := by decide +kernel
theorem dX8_left_24 : decode cX8_left 24 = .ok (.iconst 1, 1) := by decide +kernel
theorem dX8_left_25 : decode cX8_left 25 = .ok (.invokevirtual 67, 3) := by decide +kernel
theorem dX8_left_28 : decode cX8_left 28 = .ok (.ireturn, 1) := by decide +kernel
theorem dX8_left_29 : decode cX8_left 29 = .ok (.aload_n 0, 1) := by decide +kernel
theorem dX8_left_30 : decode cX8_left 30 = .ok (.getfield 12, 3) := by decide +kernel
theorem dX8_left_33 : decode cX8_left 33 = .ok (.iload_n 1, 1) := by decide +kernel
theorem dX8_left_34 : decode cX8_left 34 = .ok (.iload_n 2, 1) := by decide +kernel
theorem dX8_left_35 : decode cX8_left 35 = .ok (.invokevirtual 175, 3) := by decide +kernel
theorem dX8_left_38 : decode cX8_left 38 = .ok (.ireturn, 1) := by decide +kernel
theorem dX8_paper_0 : decode cX8_paper 0 = .ok (.aload_n 0, 1) := by decide +kernel
theorem dX8_paper_1 : decode cX8_paper 1 = .ok (.iload_n 1, 1) := by decide +kernel
theorem dX8_paper_2 : decode cX8_paper 2 = .ok (.iload_n 2, 1) := by decide +kernel
theorem dX8_paper_3 : decode cX8_paper 3 = .ok (.iload_n 3, 1) := by decide +kernel
theorem dX8_paper_4 : decode cX8_paper 4 = .ok (.invokevirtual 178, 3) := by decide +kernel
theorem dX8_paper_7 : decode cX8_paper 7 = .ok (.ifCond .ne 9, 3) := by decide +kernel
theorem dX8_paper_10 : decode cX8_paper 10 = .ok (.aload_n 0, 1) := by decide +kernel
theorem dX8_paper_11 : decode cX8_paper 11 = .ok (.iconst 1, 1) := by decide +kernel
theorem dX8_paper_12 : decode cX8_paper 12 = .ok (.invokevirtual 67, 3) := by decide +kernel
theorem dX8_paper_15 : decode cX8_paper 15 = .ok (.ireturn, 1) := by decide +kernel
theorem dX8_paper_16 : decode cX8_paper 16 = .ok (.aload_n 0, 1) := by decide +kernel
theorem dX8_paper_17 : decode cX8_paper 17 = .ok (.getfield 12, 3) := by decide +kernel
theorem dX8_paper_20 : decode cX8_paper 20 = .ok (.getfield 181, 3) := by decide +kernel
theorem dX8_paper_23 : decode cX8_paper 23 = .ok (.invokevirtual 136, 3) := by decide +kernel
theorem dX8_paper_26 : decode cX8_paper 26 = .ok (.iconst 1, 1) := by decide +kernel
theorem dX8_paper_27 : decode cX8_paper 27 = .ok (.if_icmp .ge 9, 3) := by decide +kernel
theorem dX8_paper_30 : decode cX8_paper 30 = .ok (.aload_n 0, 1) := by decide +kernel
theorem dX8_paper_31 : decode cX8_paper 31 = .ok (.iconst 4, 1) := by decide +kernel
theorem dX8_paper_32 : decode cX8_paper 32 = .ok (.invokevirtual 67, 3) := by decide +kernel
theorem dX8_paper_35 : decode cX8_paper 35 = .ok (.ireturn, 1) := by decide +kernel
theorem dX8_paper_36 : decode cX8_paper 36 = .ok (.aload_n 0, 1) := by decide +kernel
theorem dX8_paper_37 : decode cX8_paper 37 = .ok (.getfield 12, 3) := by decide +kernel
theorem dX8_paper_40 : decode cX8_paper 40 = .ok (.getfield 181, 3) := by decide +kernel
theorem dX8_paper_43 : decode cX8_paper 43 = .ok (.iload_n 1, 1) := by decide +kernel
theorem dX8_paper_44 : decode cX8_paper 44 = .ok (.iload_n 2, 1) := by decide +kernel
theorem dX8_paper_45 : decode cX8_paper 45 = .ok (.iload_n 3, 1) := by decide +kernel
theorem dX8_paper_46 : decode cX8_paper 46 = .ok (.invokevirtual 139, 3) := by decide +kernel
theorem dX8_paper_49 : decode cX8_paper 49 = .ok (.ireturn, 1) := by decide +kernel
theorem dX8_weigh_0 : decode cX8_weigh 0 = .ok (.aload_n 0, 1) := by decide +kernel
theorem dX8_weigh_1 : decode cX8_weigh 1 = .ok (.getfield 12, 3) := by decide +kernel
theorem dX8_weigh_4 : decode cX8_weigh 4 = .ok (.getfield 71, 3) := by decide +kernel
theorem dX8_weigh_7 : decode cX8_weigh 7 = .ok (.iload_n 1, 1) := by decide +kernel
theorem dX8_weigh_8 : decode cX8_weigh 8 = .ok (.invokevirtual 82, 3) := by decide +kernel
theorem dX8_weigh_11 : decode cX8_weigh 11 = .ok (.ifCond .eq 23, 3) := by decide +kernel
theorem dX8_weigh_14 : decode cX8_weigh 14 = .ok (.iload_n 2, 1) := by decide +kernel
theorem dX8_weigh_15 : decode cX8_weigh 15 = .ok (.iconst 0, 1) := by decide +kernel
theorem dX8_weigh_16 : decode cX8_weigh 16 = .ok (.ldc 62, 2) := by decide +kernel
theorem dX8_weigh_18 : decode cX8_weigh 18 = .ok (.invokestatic 63, 3) := by decide +kernel
theorem dX8_weigh_21 : decode cX8_weigh 21 = .ok (.ifCond .eq 13, 3) := by decide +kernel
theorem dX8_weigh_24 : decode cX8_weigh 24 = .ok (.iload_n 3, 1) := by decide +kernel
theorem dX8_weigh_25 : decode cX8_weigh 25 = .ok (.iconst 0, 1) := by decide +kernel
theorem dX8_weigh_26 : decode cX8_weigh 26 = .ok (.bipush 99, 2) := by decide +kernel
theorem dX8_weigh_28 : decode cX8_weigh 28 = .ok (.invokestatic 63, 3) := by decide +kernel
theorem dX8_weigh_31 : decode cX8_weigh 31 = .ok (.ifCond .ne 9, 3) := by decide +kernel
theorem dX8_weigh_34 : decode cX8_weigh 34 = .ok (.aload_n 0, 1) := by decide +kernel
theorem dX8_weigh_35 : decode cX8_weigh 35 = .ok (.iconst 1, 1) := by decide +kernel
theorem dX8_weigh_36 : decode cX8_weigh 36 = .ok (.invokevirtual 67, 3) := by decide +kernel
theorem dX8_weigh_39 : decode cX8_weigh 39 = .ok (.ireturn, 1) := by decide +kernel
theorem dX8_weigh_40 : decode cX8_weigh 40 = .ok (.aload_n 0, 1) := by decide +kernel
theorem dX8_weigh_41 : decode cX8_weigh 41 = .ok (.getfield 12, 3) := by decide +kernel
theorem dX8_weigh_44 : decode cX8_weigh 44 = .ok (.getfield 184, 3) := by decide +kernel
theorem dX8_weigh_47 : decode cX8_weigh 47 = .ok (.invokevirtual 136, 3) := by decide +kernel
theorem dX8_weigh_50 : decode cX8_weigh 50 = .ok (.iconst 1, 1) := by decide +kernel
theorem dX8_weigh_51 : decode cX8_weigh 51 = .ok (.if_icmp .ge 9, 3) := by decide +kernel
theorem dX8_weigh_54 : decode cX8_weigh 54 = .ok (.aload_n 0, 1) := by decide +kernel
theorem dX8_weigh_55 : decode cX8_weigh 55 = .ok (.iconst 4, 1) := by decide +kernel
theorem dX8_weigh_56 : decode cX8_weigh 56 = .ok (.invokevirtual 67, 3) := by decide +kernel
theorem dX8_weigh_59 : decode cX8_weigh 59 = .ok (.ireturn, 1) := by decide +kernel
theorem dX8_weigh_60 : decode cX8_weigh 60 = .ok (.aload_n 0, 1) := by decide +kernel
theorem dX8_weigh_61 : decode cX8_weigh 61 = .ok (.getfield 12, 3) := by decide +kernel
theorem dX8_weigh_64 : decode cX8_weigh 64 = .ok (.getfield 184, 3) := by decide +kernel
theorem dX8_weigh_67 : decode cX8_weigh 67 = .ok (.iload_n 1, 1) := by decide +kernel
theorem dX8_weigh_68 : decode cX8_weigh 68 = .ok (.iload_n 2, 1) := by decide +kernel
theorem dX8_weigh_69 : decode cX8_weigh 69 = .ok (.iload_n 3, 1) := by decide +kernel
theorem dX8_weigh_70 : decode cX8_weigh 70 = .ok (.invokevirtual 139, 3) := by decide +kernel
theorem dX8_weigh_73 : decode cX8_weigh 73 = .ok (.ireturn, 1) := by decide +kernel
theorem dX8_forget_0 : decode cX8_forget 0 = .ok (.iload_n 1, 1) := by decide +kernel
theorem dX8_forget_1 : decode cX8_forget 1 = .ok (.iconst 0, 1) := by decide +kernel
theorem dX8_forget_2 : decode cX8_forget 2 = .ok (.iconst 1, 1) := by decide +kernel
theorem dX8_forget_3 : decode cX8_forget 3 = .ok (.invokestatic 63, 3) := by decide +kernel
theorem dX8_forget_6 : decode cX8_forget 6 = .ok (.ifCond .ne 9, 3) := by decide +kernel
theorem dX8_forget_9 : decode cX8_forget 9 = .ok (.aload_n 0, 1) := by decide +kernel
theorem dX8_forget_10 : decode cX8_forget 10 = .ok (.iconst 1, 1) := by decide +kernel
theorem dX8_forget_11 : decode cX8_forget 11 = .ok (.invokevirtual 67, 3) := by decide +kernel
theorem dX8_forget_14 : decode cX8_forget 14 = .ok (.ireturn, 1) := by decide +kernel
theorem dX8_forget_15 : decode cX8_forget 15 = .ok (.iload_n 1, 1) := by decide +kernel
theorem dX8_forget_16 : decode cX8_forget 16 = .ok (.ifCond .ne 13, 3) := by decide +kernel
theorem dX8_forget_19 : decode cX8_forget 19 = .ok (.aload_n 0, 1) := by decide +kernel
theorem dX8_forget_20 : decode cX8_forget 20 = .ok (.getfield 12, 3) := by decide +kernel
theorem dX8_forget_23 : decode cX8_forget 23 = .ok (.getfield 181, 3) := by decide +kernel
theorem dX8_forget_26 : decode cX8_forget 26 = .ok (.goto 10, 3) := by decide +kernel
theorem dX8_forget_29 : decode cX8_forget 29 = .ok (.aload_n 0, 1) := by decide +kernel
theorem dX8_forget_30 : decode cX8_forget 30 = .ok (.getfield 12, 3) := by decide +kernel
theorem dX8_forget_33 : decode cX8_forget 33 = .ok (.getfield 184, 3) := by decide +kernel
theorem dX8_forget_36 : decode cX8_forget 36 = .ok (.astore_n 2, 1) := by decide +kernel
theorem dX8_forget_37 : decode cX8_forget 37 = .ok (.aload_n 2, 1) := by decide +kernel
theorem dX8_forget_38 : decode cX8_forget 38 = .ok (.invokevirtual 143, 3) := by decide +kernel
theorem dX8_forget_41 : decode cX8_forget 41 = .ok (.istore_n 3, 1) := by decide +kernel
theorem dX8_forget_42 : decode cX8_forget 42 = .ok (.aload_n 2, 1) := by decide +kernel
theorem dX8_forget_43 : decode cX8_forget 43 = .ok (.invokevirtual 150, 3) := by decide +kernel
theorem dX8_forget_46 : decode cX8_forget 46 = .ok (.iload_n 3, 1) := by decide +kernel
theorem dX8_forget_47 : decode cX8_forget 47 = .ok (.ireturn, 1) := by decide +kernel
theorem dX8_by_0 : decode cX8_by 0 = .ok (.aload_n 0, 1) := by decide +kernel
theorem dX8_by_1 : decode cX8_by 1 = .ok (.iload_n 1, 1) := by decide +kernel
theorem dX8_by_2 : decode cX8_by 2 = .ok (.invokevirtual 187, 3) := by decide +kernel
theorem dX8_by_5 : decode cX8_by 5 = .ok (.ifCond .eq 27, 3) := by decide +kernel
theorem dX8_by_8 : decode cX8_by 8 = .ok (.aload_n 0, 1) := by decide +kernel
theorem dX8_by_9 : decode cX8_by 9 = .ok (.getfield 12, 3) := by decide +kernel
theorem dX8_by_12 : decode cX8_by 12 = .ok (.getfield 71, 3) := by decide +kernel
theorem dX8_by_15 : decode cX8_by 15 = .ok (.iload_n 2, 1) := by decide +kernel
theorem dX8_by_16 : decode cX8_by 16 = .ok (.invokevirtual 82, 3) := by decide +kernel
theorem dX8_by_19 : decode cX8_by 19 = .ok (.ifCond .eq 13, 3) := by decide +kernel
theorem dX8_by_22 : decode cX8_by 22 = .ok (.iload_n 3, 1) := by decide +kernel
theorem dX8_by_23 : decode cX8_by 23 = .ok (.iconst 2, 1) := by decide +kernel
theorem dX8_by_24 : decode cX8_by 24 = .ok (.bipush 9, 2) := by decide +kernel
theorem dX8_by_26 : decode cX8_by 26 = .ok (.invokestatic 63, 3) := by decide +kernel
theorem dX8_by_29 : decode cX8_by 29 = .ok (.ifCond .ne 9, 3) := by decide +kernel
theorem dX8_by_32 : decode cX8_by 32 = .ok (.aload_n 0, 1) := by decide +kernel
theorem dX8_by_33 : decode cX8_by 33 = .ok (.iconst 1, 1) := by decide +kernel
theorem dX8_by_34 : decode cX8_by 34 = .ok (.invokevirtual 67, 3) := by decide +kernel
theorem dX8_by_37 : decode cX8_by 37 = .ok (.ireturn, 1) := by decide +kernel
theorem dX8_by_38 : decode cX8_by 38 = .ok (.aload_n 0, 1) := by decide +kernel
theorem dX8_by_39 : decode cX8_by 39 = .ok (.getfield 29, 3) := by decide +kernel
theorem dX8_by_42 : decode cX8_by 42 = .ok (.aload_n 0, 1) := by decide +kernel
theorem dX8_by_43 : decode cX8_by 43 = .ok (.getfield 12, 3) := by decide +kernel
theorem dX8_by_46 : decode cX8_by 46 = .ok (.iload_n 1, 1) := by decide +kernel
theorem dX8_by_47 : decode cX8_by 47 = .ok (.invokevirtual 190, 3) := by decide +kernel
theorem dX8_by_50 : decode cX8_by 50 = .ok (.aload_n 0, 1) := by decide +kernel
theorem dX8_by_51 : decode cX8_by 51 = .ok (.getfield 29, 3) := by decide +kernel
theorem dX8_by_54 : decode cX8_by 54 = .ok (.iload_n 2, 1) := by decide +kernel
theorem dX8_by_55 : decode cX8_by 55 = .ok (.iload_n 3, 1) := by decide +kernel
theorem dX8_by_56 : decode cX8_by 56 = .ok (.invokevirtual 194, 3) := by decide +kernel
theorem dX8_by_59 : decode cX8_by 59 = .ok (.ireturn, 1) := by decide +kernel
theorem dX8_fits_0 : decode cX8_fits 0 = .ok (.iload_n 1, 1) := by decide +kernel
theorem dX8_fits_1 : decode cX8_fits 1 = .ok (.iconst 0, 1) := by decide +kernel
theorem dX8_fits_2 : decode cX8_fits 2 = .ok (.iconst 4, 1) := by decide +kernel
theorem dX8_fits_3 : decode cX8_fits 3 = .ok (.invokestatic 63, 3) := by decide +kernel
theorem dX8_fits_6 : decode cX8_fits 6 = .ok (.ifCond .ne 9, 3) := by decide +kernel
theorem dX8_fits_9 : decode cX8_fits 9 = .ok (.aload_n 0, 1) := by decide +kernel
theorem dX8_fits_10 : decode cX8_fits 10 = .ok (.iconst 1, 1) := by decide +kernel
theorem dX8_fits_11 : decode cX8_fits 11 = .ok (.invokevirtual 67, 3) := by decide +kernel
theorem dX8_fits_14 : decode cX8_fits 14 = .ok (.ireturn, 1) := by decide +kernel
theorem dX8_fits_15 : decode cX8_fits 15 = .ok (.aload_n 0, 1) := by decide +kernel
theorem dX8_fits_16 : decode cX8_fits 16 = .ok (.getfield 29, 3) := by decide +kernel
theorem dX8_fits_19 : decode cX8_fits 19 = .ok (.aload_n 0, 1) := by decide +kernel
theorem dX8_fits_20 : decode cX8_fits 20 = .ok (.getfield 12, 3) := by decide +kernel
theorem dX8_fits_23 : decode cX8_fits 23 = .ok (.invokevirtual 197, 3) := by decide +kernel
theorem dX8_fits_26 : decode cX8_fits 26 = .ok (.aload_n 0, 1) := by decide +kernel
theorem dX8_fits_27 : decode cX8_fits 27 = .ok (.invokevirtual 201, 3) := by decide +kernel
theorem dX8_fits_30 : decode cX8_fits 30 = .ok (.istore_n 2, 1) := by decide +kernel
theorem dX8_fits_31 : decode cX8_fits 31 = .ok (.aload_n 0, 1) := by decide +kernel
theorem dX8_fits_32 : decode cX8_fits 32 = .ok (.getfield 29, 3) := by decide +kernel
theorem dX8_fits_35 : decode cX8_fits 35 = .ok (.invokevirtual 204, 3) := by decide +kernel
theorem dX8_fits_38 : decode cX8_fits 38 = .ok (.ifCond .ne 19, 3) := by decide +kernel
theorem dX8_fits_41 : decode cX8_fits 41 = .ok (.iload_n 1, 1) := by decide +kernel
theorem dX8_fits_42 : decode cX8_fits 42 = .ok (.iconst 1, 1) := by decide +kernel
theorem dX8_fits_43 : decode cX8_fits 43 = .ok (.if_icmp .eq 8, 3) := by decide +kernel
theorem dX8_fits_46 : decode cX8_fits 46 = .ok (.iload_n 1, 1) := by decide +kernel
theorem dX8_fits_47 : decode cX8_fits 47 = .ok (.iconst 4, 1) := by decide +kernel
theorem dX8_fits_48 : decode cX8_fits 48 = .ok (.if_icmp .ne 9, 3) := by decide +kernel
theorem dX8_fits_51 : decode cX8_fits 51 = .ok (.aload_n 0, 1) := by decide +kernel
theorem dX8_fits_52 : decode cX8_fits 52 = .ok (.iconst 2, 1) := by decide +kernel
theorem dX8_fits_53 : decode cX8_fits 53 = .ok (.invokevirtual 67, 3) := by decide +kernel
theorem dX8_fits_56 : decode cX8_fits 56 = .ok (.ireturn, 1) := by decide +kernel
theorem dX8_fits_57 : decode cX8_fits 57 = .ok (.iload_n 1, 1) := by decide +kernel
theorem dX8_fits_58 : decode cX8_fits 58 = .ok (.tableswitch 64 0 3 #[30, 38, 47, 56], 30) := by decide +kernel
theorem dX8_fits_88 : decode cX8_fits 88 = .ok (.aload_n 0, 1) := by decide +kernel
theorem dX8_fits_89 : decode cX8_fits 89 = .ok (.getfield 29, 3) := by decide +kernel
theorem dX8_fits_92 : decode cX8_fits 92 = .ok (.invokevirtual 204, 3) := by decide +kernel
theorem dX8_fits_95 : decode cX8_fits 95 = .ok (.ireturn, 1) := by decide +kernel
theorem dX8_fits_96 : decode cX8_fits 96 = .ok (.aload_n 0, 1) := by decide +kernel
theorem dX8_fits_97 : decode cX8_fits 97 = .ok (.getfield 29, 3) := by decide +kernel
theorem dX8_fits_100 : decode cX8_fits 100 = .ok (.iconst 0, 1) := by decide +kernel
theorem dX8_fits_101 : decode cX8_fits 101 = .ok (.invokevirtual 205, 3) := by decide +kernel
theorem dX8_fits_104 : decode cX8_fits 104 = .ok (.ireturn, 1) := by decide +kernel
theorem dX8_fits_105 : decode cX8_fits 105 = .ok (.aload_n 0, 1) := by decide +kernel
theorem dX8_fits_106 : decode cX8_fits 106 = .ok (.getfield 29, 3) := by decide +kernel
theorem dX8_fits_109 : decode cX8_fits 109 = .ok (.iload_n 2, 1) := by decide +kernel
theorem dX8_fits_110 : decode cX8_fits 110 = .ok (.invokevirtual 208, 3) := by decide +kernel
theorem dX8_fits_113 : decode cX8_fits 113 = .ok (.ireturn, 1) := by decide +kernel
theorem dX8_fits_114 : decode cX8_fits 114 = .ok (.aload_n 0, 1) := by decide +kernel
theorem dX8_fits_115 : decode cX8_fits 115 = .ok (.getfield 29, 3) := by decide +kernel
theorem dX8_fits_118 : decode cX8_fits 118 = .ok (.invokevirtual 211, 3) := by decide +kernel
theorem dX8_fits_121 : decode cX8_fits 121 = .ok (.ireturn, 1) := by decide +kernel
theorem dX8_fits_122 : decode cX8_fits 122 = .ok (.aload_n 0, 1) := by decide +kernel
theorem dX8_fits_123 : decode cX8_fits 123 = .ok (.getfield 12, 3) := by decide +kernel
theorem dX8_fits_126 : decode cX8_fits 126 = .ok (.getfield 181, 3) := by decide +kernel
theorem dX8_fits_129 : decode cX8_fits 129 = .ok (.invokevirtual 143, 3) := by decide +kernel
theorem dX8_fits_132 : decode cX8_fits 132 = .ok (.aload_n 0, 1) := by decide +kernel
theorem dX8_fits_133 : decode cX8_fits 133 = .ok (.getfield 29, 3) := by decide +kernel
theorem dX8_fits_136 : decode cX8_fits 136 = .ok (.invokevirtual 214, 3) := by decide +kernel
theorem dX8_fits_139 : decode cX8_fits 139 = .ok (.isub, 1) := by decide +kernel
theorem dX8_fits_140 : decode cX8_fits 140 = .ok (.ireturn, 1) := by decide +kernel
theorem dX8_span_0 : decode cX8_span 0 = .ok (.aload_n 0, 1) := by decide +kernel
theorem dX8_span_1 : decode cX8_span 1 = .ok (.getfield 12, 3) := by decide +kernel
theorem dX8_span_4 : decode cX8_span 4 = .ok (.getfield 71, 3) := by decide +kernel
theorem dX8_span_7 : decode cX8_span 7 = .ok (.iload_n 1, 1) := by decide +kernel
theorem dX8_span_8 : decode cX8_span 8 = .ok (.invokevirtual 82, 3) := by decide +kernel
theorem dX8_span_11 : decode cX8_span 11 = .ok (.ifCond .eq 21, 3) := by decide +kernel
theorem dX8_span_14 : decode cX8_span 14 = .ok (.iload_n 2, 1) := by decide +kernel
theorem dX8_span_15 : decode cX8_span 15 = .ok (.iconst 0, 1) := by decide +kernel
theorem dX8_span_16 : decode cX8_span 16 = .ok (.iconst 3, 1) := by decide +kernel
theorem dX8_span_17 : decode cX8_span 17 = .ok (.invokestatic 63, 3) := by decide +kernel
theorem dX8_span_20 : decode cX8_span 20 = .ok (.ifCond .eq 12, 3) := by decide +kernel
theorem dX8_span_23 : decode cX8_span 23 = .ok (.iload_n 3, 1) := by decide +kernel
theorem dX8_span_24 : decode cX8_span 24 = .ok (.iconst 0, 1) := by decide +kernel
theorem dX8_span_25 : decode cX8_span 25 = .ok (.iconst 1, 1) := by decide +kernel
theorem dX8_span_26 : decode cX8_span 26 = .ok (.invokestatic 63, 3) := by decide +kernel
theorem dX8_span_29 : decode cX8_span 29 = .ok (.ifCond .ne 9, 3) := by decide +kernel
theorem dX8_span_32 : decode cX8_span 32 = .ok (.aload_n 0, 1) := by decide +kernel
theorem dX8_span_33 : decode cX8_span 33 = .ok (.iconst 1, 1) := by decide +kernel
theorem dX8_span_34 : decode cX8_span 34 = .ok (.invokevirtual 67, 3) := by decide +kernel
theorem dX8_span_37 : decode cX8_span 37 = .ok (.ireturn, 1) := by decide +kernel
theorem dX8_span_38 : decode cX8_span 38 = .ok (.aload_n 0, 1) := by decide +kernel
theorem dX8_span_39 : decode cX8_span 39 = .ok (.getfield 29, 3) := by decide +kernel
theorem dX8_span_42 : decode cX8_span 42 = .ok (.aload_n 0, 1) := by decide +kernel
theorem dX8_span_43 : decode cX8_span 43 = .ok (.getfield 12, 3) := by decide +kernel
theorem dX8_span_46 : decode cX8_span 46 = .ok (.invokevirtual 197, 3) := by decide +kernel
theorem dX8_span_49 : decode cX8_span 49 = .ok (.aload_n 0, 1) := by decide +kernel
theorem dX8_span_50 : decode cX8_span 50 = .ok (.getfield 29, 3) := by decide +kernel
theorem dX8_span_53 : decode cX8_span 53 = .ok (.invokevirtual 204, 3) := by decide +kernel
theorem dX8_span_56 : decode cX8_span 56 = .ok (.ifCond .ne 9, 3) := by decide +kernel
theorem dX8_span_59 : decode cX8_span 59 = .ok (.aload_n 0, 1) := by decide +kernel
theorem dX8_span_60 : decode cX8_span 60 = .ok (.iconst 2, 1) := by decide +kernel
theorem dX8_span_61 : decode cX8_span 61 = .ok (.invokevirtual 67, 3) := by decide +kernel
theorem dX8_span_64 : decode cX8_span 64 = .ok (.ireturn, 1) := by decide +kernel
theorem dX8_span_65 : decode cX8_span 65 = .ok (.aload_n 0, 1) := by decide +kernel
theorem dX8_span_66 : decode cX8_span 66 = .ok (.getfield 29, 3) := by decide +kernel
theorem dX8_span_69 : decode cX8_span 69 = .ok (.aload_n 0, 1) := by decide +kernel
theorem dX8_span_70 : decode cX8_span 70 = .ok (.getfield 12, 3) := by decide +kernel
theorem dX8_span_73 : decode cX8_span 73 = .ok (.iload_n 1, 1) := by decide +kernel
theorem dX8_span_74 : decode cX8_span 74 = .ok (.bipush 6, 2) := by decide +kernel
theorem dX8_span_76 : decode cX8_span 76 = .ok (.iload_n 2, 1) := by decide +kernel
theorem dX8_span_77 : decode cX8_span 77 = .ok (.iadd, 1) := by decide +kernel
theorem dX8_span_78 : decode cX8_span 78 = .ok (.iload_n 3, 1) := by decide +kernel
theorem dX8_span_79 : decode cX8_span 79 = .ok (.iconst 1, 1) := by decide +kernel
theorem dX8_span_80 : decode cX8_span 80 = .ok (.if_icmp .ne 7, 3) := by decide +kernel
theorem dX8_span_83 : decode cX8_span 83 = .ok (.iconst 1, 1) := by decide +kernel
theorem dX8_span_84 : decode cX8_span 84 = .ok (.goto 4, 3) := by decide +kernel
theorem dX8_span_87 : decode cX8_span 87 = .ok (.iconst 0, 1) := by decide +kernel
theorem dX8_span_88 : decode cX8_span 88 = .ok (.invokevirtual 217, 3) := by decide +kernel
theorem dX8_span_91 : decode cX8_span 91 = .ok (.ireturn, 1) := by decide +kernel
theorem dX8_next_0 : decode cX8_next 0 = .ok (.aload_n 0, 1) := by decide +kernel
theorem dX8_next_1 : decode cX8_next 1 = .ok (.getfield 29, 3) := by decide +kernel
theorem dX8_next_4 : decode cX8_next 4 = .ok (.aload_n 0, 1) := by decide +kernel
theorem dX8_next_5 : decode cX8_next 5 = .ok (.getfield 12, 3) := by decide +kernel
theorem dX8_next_8 : decode cX8_next 8 = .ok (.invokevirtual 197, 3) := by decide +kernel
theorem dX8_next_11 : decode cX8_next 11 = .ok (.aload_n 0, 1) := by decide +kernel
theorem dX8_next_12 : decode cX8_next 12 = .ok (.getfield 29, 3) := by decide +kernel
theorem dX8_next_15 : decode cX8_next 15 = .ok (.invokevirtual 204, 3) := by decide +kernel
theorem dX8_next_18 : decode cX8_next 18 = .ok (.ifCond .eq 16, 3) := by decide +kernel
theorem dX8_next_21 : decode cX8_next 21 = .ok (.aload_n 0, 1) := by decide +kernel
theorem dX8_next_22 : decode cX8_next 22 = .ok (.getfield 12, 3) := by decide +kernel
theorem dX8_next_25 : decode cX8_next 25 = .ok (.getfield 71, 3) := by decide +kernel
theorem dX8_next_28 : decode cX8_next 28 = .ok (.invokevirtual 221, 3) := by decide +kernel
theorem dX8_next_31 : decode cX8_next 31 = .ok (.ifCond .ne 9, 3) := by decide +kernel
theorem dX8_next_34 : decode cX8_next 34 = .ok (.aload_n 0, 1) := by decide +kernel
theorem dX8_next_35 : decode cX8_next 35 = .ok (.iconst 2, 1) := by decide +kernel
theorem dX8_next_36 : decode cX8_next 36 = .ok (.invokevirtual 67, 3) := by decide +kernel
theorem dX8_next_39 : decode cX8_next 39 = .ok (.ireturn, 1) := by decide +kernel
theorem dX8_next_40 : decode cX8_next 40 = .ok (.aload_n 0, 1) := by decide +kernel
theorem dX8_next_41 : decode cX8_next 41 = .ok (.getfield 29, 3) := by decide +kernel
theorem dX8_next_44 : decode cX8_next 44 = .ok (.aload_n 0, 1) := by decide +kernel
theorem dX8_next_45 : decode cX8_next 45 = .ok (.getfield 12, 3) := by decide +kernel
theorem dX8_next_48 : decode cX8_next 48 = .ok (.getfield 71, 3) := by decide +kernel
theorem dX8_next_51 : decode cX8_next 51 = .ok (.invokevirtual 221, 3) := by decide +kernel
theorem dX8_next_54 : decode cX8_next 54 = .ok (.invokevirtual 222, 3) := by decide +kernel
theorem dX8_next_57 : decode cX8_next 57 = .ok (.ireturn, 1) := by decide +kernel
theorem dX8_most_0 : decode cX8_most 0 = .ok (.iload_n 1, 1) := by decide +kernel
theorem dX8_most_1 : decode cX8_most 1 = .ok (.iconst 0, 1) := by decide +kernel
theorem dX8_most_2 : decode cX8_most 2 = .ok (.iconst 3, 1) := by decide +kernel
theorem dX8_most_3 : decode cX8_most 3 = .ok (.invokestatic 63, 3) := by decide +kernel
theorem dX8_most_6 : decode cX8_most 6 = .ok (.ifCond .eq 21, 3) := by decide +kernel
theorem dX8_most_9 : decode cX8_most 9 = .ok (.iload_n 2, 1) := by decide +kernel
theorem dX8_most_10 : decode cX8_most 10 = .ok (.iconst 0, 1) := by decide +kernel
theorem dX8_most_11 : decode cX8_most 11 = .ok (.iconst 3, 1) := by decide +kernel
theorem dX8_most_12 : decode cX8_most 12 = .ok (.invokestatic 63, 3) := by decide +kernel
theorem dX8_most_15 : decode cX8_most 15 = .ok (.ifCond .eq 12, 3) := by decide +kernel
theorem dX8_most_18 : decode cX8_most 18 = .ok (.iload_n 3, 1) := by decide +kernel
theorem dX8_most_19 : decode cX8_most 19 = .ok (.iconst 0, 1) := by decide +kernel
theorem dX8_most_20 : decode cX8_most 20 = .ok (.iconst 1, 1) := by decide +kernel
theorem dX8_most_21 : decode cX8_most 21 = .ok (.invokestatic 63, 3) := by decide +kernel
theorem dX8_most_24 : decode cX8_most 24 = .ok (.ifCond .ne 9, 3) := by decide +kernel
theorem dX8_most_27 : decode cX8_most 27 = .ok (.aload_n 0, 1) := by decide +kernel
theorem dX8_most_28 : decode cX8_most 28 = .ok (.iconst 1, 1) := by decide +kernel
theorem dX8_most_29 : decode cX8_most 29 = .ok (.invokevirtual 67, 3) := by decide +kernel
theorem dX8_most_32 : decode cX8_most 32 = .ok (.ireturn, 1) := by decide +kernel
theorem dX8_most_33 : decode cX8_most 33 = .ok (.aload_n 0, 1) := by decide +kernel
theorem dX8_most_34 : decode cX8_most 34 = .ok (.getfield 12, 3) := by decide +kernel
theorem dX8_most_37 : decode cX8_most 37 = .ok (.getfield 71, 3) := by decide +kernel
theorem dX8_most_40 : decode cX8_most 40 = .ok (.bipush 6, 2) := by decide +kernel
theorem dX8_most_42 : decode cX8_most 42 = .ok (.iload_n 1, 1) := by decide +kernel
theorem dX8_most_43 : decode cX8_most 43 = .ok (.iadd, 1) := by decide +kernel
theorem dX8_most_44 : decode cX8_most 44 = .ok (.iload_n 2, 1) := by decide +kernel
theorem dX8_most_45 : decode cX8_most 45 = .ok (.invokevirtual 225, 3) := by decide +kernel
theorem dX8_most_48 : decode cX8_most 48 = .ok (.istore 4, 2) := by decide +kernel
theorem dX8_most_50 : decode cX8_most 50 = .ok (.iload_n 3, 1) := by decide +kernel
theorem dX8_most_51 : decode cX8_most 51 = .ok (.ifCond .ne 8, 3) := by decide +kernel
theorem dX8_most_54 : decode cX8_most 54 = .ok (.iload 4, 2) := by decide +kernel
theorem dX8_most_56 : decode cX8_most 56 = .ok (.goto 23, 3) := by decide +kernel
theorem dX8_most_59 : decode cX8_most 59 = .ok (.iconst 0, 1) := by decide +kernel
theorem dX8_most_60 : decode cX8_most 60 = .ok (.aload_n 0, 1) := by decide +kernel
theorem dX8_most_61 : decode cX8_most 61 = .ok (.getfield 12, 3) := by decide +kernel
theorem dX8_most_64 : decode cX8_most 64 = .ok (.getfield 71, 3) := by decide +kernel
theorem dX8_most_67 : decode cX8_most 67 = .ok (.iload 4, 2) := by decide +kernel
theorem dX8_most_69 : decode cX8_most 69 = .ok (.bipush 6, 2) := by decide +kernel
theorem dX8_most_71 : decode cX8_most 71 = .ok (.iload_n 1, 1) := by decide +kernel
theorem dX8_most_72 : decode cX8_most 72 = .ok (.iadd, 1) := by decide +kernel
theorem dX8_most_73 : decode cX8_most 73 = .ok (.invokevirtual 228, 3) := by decide +kernel
theorem dX8_most_76 : decode cX8_most 76 = .ok (.invokestatic 231, 3) := by decide +kernel
theorem dX8_most_79 : decode cX8_most 79 = .ok (.ireturn, 1) := by decide +kernel
theorem dX8_voice_0 : decode cX8_voice 0 = .ok (.aload_n 0, 1) := by decide +kernel
theorem dX8_voice_1 : decode cX8_voice 1 = .ok (.getfield 12, 3) := by decide +kernel
theorem dX8_voice_4 : decode cX8_voice 4 = .ok (.getfield 71, 3) := by decide +kernel
theorem dX8_voice_7 : decode cX8_voice 7 = .ok (.iload_n 1, 1) := by decide +kernel
theorem dX8_voice_8 : decode cX8_voice 8 = .ok (.invokevirtual 82, 3) := by decide +kernel
theorem dX8_voice_11 : decode cX8_voice 11 = .ok (.ifCond .eq 12, 3) := by decide +kernel
theorem dX8_voice_14 : decode cX8_voice 14 = .ok (.iload_n 2, 1) := by decide +kernel
theorem dX8_voice_15 : decode cX8_voice 15 = .ok (.iconst 0, 1) := by decide +kernel
theorem dX8_voice_16 : decode cX8_voice 16 = .ok (.iconst 3, 1) := by decide +kernel
theorem dX8_voice_17 : decode cX8_voice 17 = .ok (.invokestatic 63, 3) := by decide +kernel
theorem dX8_voice_20 : decode cX8_voice 20 = .ok (.ifCond .ne 9, 3) := by decide +kernel
theorem dX8_voice_23 : decode cX8_voice 23 = .ok (.aload_n 0, 1) := by decide +kernel
theorem dX8_voice_24 : decode cX8_voice 24 = .ok (.iconst 1, 1) := by decide +kernel
theorem dX8_voice_25 : decode cX8_voice 25 = .ok (.invokevirtual 67, 3) := by decide +kernel
theorem dX8_voice_28 : decode cX8_voice 28 = .ok (.ireturn, 1) := by decide +kernel
theorem dX8_voice_29 : decode cX8_voice 29 = .ok (.aload_n 0, 1) := by decide +kernel
theorem dX8_voice_30 : decode cX8_voice 30 = .ok (.getfield 43, 3) := by decide +kernel
theorem dX8_voice_33 : decode cX8_voice 33 = .ok (.aload_n 0, 1) := by decide +kernel
theorem dX8_voice_34 : decode cX8_voice 34 = .ok (.getfield 12, 3) := by decide +kernel
theorem dX8_voice_37 : decode cX8_voice 37 = .ok (.getfield 71, 3) := by decide +kernel
theorem dX8_voice_40 : decode cX8_voice 40 = .ok (.iload_n 1, 1) := by decide +kernel
theorem dX8_voice_41 : decode cX8_voice 41 = .ok (.iconst 0, 1) := by decide +kernel
theorem dX8_voice_42 : decode cX8_voice 42 = .ok (.invokevirtual 89, 3) := by decide +kernel
theorem dX8_voice_45 : decode cX8_voice 45 = .ok (.iload_n 1, 1) := by decide +kernel
theorem dX8_voice_46 : decode cX8_voice 46 = .ok (.aload_n 0, 1) := by decide +kernel
theorem dX8_voice_47 : decode cX8_voice 47 = .ok (.getfield 12, 3) := by decide +kernel
theorem dX8_voice_50 : decode cX8_voice 50 = .ok (.getfield 71, 3) := by decide +kernel
theorem dX8_voice_53 : decode cX8_voice 53 = .ok (.iload_n 1, 1) := by decide +kernel
theorem dX8_voice_54 : decode cX8_voice 54 = .ok (.iconst 1, 1) := by decide +kernel
theorem dX8_voice_55 : decode cX8_voice 55 = .ok (.invokevirtual 89, 3) := by decide +kernel
theorem dX8_voice_58 : decode cX8_voice 58 = .ok (.invokevirtual 236, 3) := by decide +kernel
theorem dX8_voice_61 : decode cX8_voice 61 = .ok (.aload_n 0, 1) := by decide +kernel
theorem dX8_voice_62 : decode cX8_voice 62 = .ok (.getfield 43, 3) := by decide +kernel
theorem dX8_voice_65 : decode cX8_voice 65 = .ok (.iload_n 2, 1) := by decide +kernel
theorem dX8_voice_66 : decode cX8_voice 66 = .ok (.iload_n 3, 1) := by decide +kernel
theorem dX8_voice_67 : decode cX8_voice 67 = .ok (.iconst 0, 1) := by decide +kernel
theorem dX8_voice_68 : decode cX8_voice 68 = .ok (.invokevirtual 239, 3) := by decide +kernel
theorem dX8_voice_71 : decode cX8_voice 71 = .ok (.istore 4, 2) := by decide +kernel
theorem dX8_voice_73 : decode cX8_voice 73 = .ok (.aload_n 0, 1) := by decide +kernel
theorem dX8_voice_74 : decode cX8_voice 74 = .ok (.getfield 43, 3) := by decide +kernel
theorem dX8_voice_77 : decode cX8_voice 77 = .ok (.invokevirtual 242, 3) := by decide +kernel
theorem dX8_voice_80 : decode cX8_voice 80 = .ok (.ifCond .eq 12, 3) := by decide +kernel
theorem dX8_voice_83 : decode cX8_voice 83 = .ok (.aload_n 0, 1) := by decide +kernel
theorem dX8_voice_84 : decode cX8_voice 84 = .ok (.bipush 6, 2) := by decide +kernel
theorem dX8_voice_86 : decode cX8_voice 86 = .ok (.invokevirtual 67, 3) := by decide +kernel
theorem dX8_voice_89 : decode cX8_voice 89 = .ok (.goto 5, 3) := by decide +kernel
theorem dX8_voice_92 : decode cX8_voice 92 = .ok (.iload 4, 2) := by decide +kernel
theorem dX8_voice_94 : decode cX8_voice 94 = .ok (.ireturn, 1) := by decide +kernel
theorem dX8_body_0 : decode cX8_body 0 = .ok (.aload_n 0, 1) := by decide +kernel
theorem dX8_body_1 : decode cX8_body 1 = .ok (.getfield 43, 3) := by decide +kernel
theorem dX8_body_4 : decode cX8_body 4 = .ok (.invokevirtual 246, 3) := by decide +kernel
theorem dX8_body_7 : decode cX8_body 7 = .ok (.iload_n 1, 1) := by decide +kernel
theorem dX8_body_8 : decode cX8_body 8 = .ok (.invokevirtual 165, 3) := by decide +kernel
theorem dX8_body_11 : decode cX8_body 11 = .ok (.ifCond .eq 18, 3) := by decide +kernel
theorem dX8_body_14 : decode cX8_body 14 = .ok (.aload_n 0, 1) := by decide +kernel
theorem dX8_body_15 : decode cX8_body 15 = .ok (.getfield 43, 3) := by decide +kernel
theorem dX8_body_18 : decode cX8_body 18 = .ok (.invokevirtual 246, 3) := by decide +kernel
theorem dX8_body_21 : decode cX8_body 21 = .ok (.iload_n 1, 1) := by decide +kernel
theorem dX8_body_22 : decode cX8_body 22 = .ok (.iconst 0, 1) := by decide +kernel
theorem dX8_body_23 : decode cX8_body 23 = .ok (.invokevirtual 169, 3) := by decide +kernel
theorem dX8_body_26 : decode cX8_body 26 = .ok (.goto 8, 3) := by decide +kernel
theorem dX8_body_29 : decode cX8_body 29 = .ok (.aload_n 0, 1) := by decide +kernel
theorem dX8_body_30 : decode cX8_body 30 = .ok (.iconst 2, 1) := by decide +kernel
theorem dX8_body_31 : decode cX8_body 31 = .ok (.invokevirtual 67, 3) := by decide +kernel
theorem dX8_body_34 : decode cX8_body 34 = .ok (.ireturn, 1) := by decide +kernel
theorem dX8_sheet_0 : decode cX8_sheet 0 = .ok (.aload_n 0, 1) := by decide +kernel
theorem dX8_sheet_1 : decode cX8_sheet 1 = .ok (.iload_n 1, 1) := by decide +kernel
theorem dX8_sheet_2 : decode cX8_sheet 2 = .ok (.invokevirtual 250, 3) := by decide +kernel
theorem dX8_sheet_5 : decode cX8_sheet 5 = .ok (.astore 4, 2) := by decide +kernel
theorem dX8_sheet_7 : decode cX8_sheet 7 = .ok (.aload 4, 2) := by decide +kernel
theorem dX8_sheet_9 : decode cX8_sheet 9 = .ok (.ifnull 25, 3) := by decide +kernel
theorem dX8_sheet_12 : decode cX8_sheet 12 = .ok (.iload_n 2, 1) := by decide +kernel
theorem dX8_sheet_13 : decode cX8_sheet 13 = .ok (.ifCond .eq 27, 3) := by decide +kernel
theorem dX8_sheet_16 : decode cX8_sheet 16 = .ok (.iload_n 2, 1) := by decide +kernel
theorem dX8_sheet_17 : decode cX8_sheet 17 = .ok (.bipush 8, 2) := by decide +kernel
theorem dX8_sheet_19 : decode cX8_sheet 19 = .ok (.if_icmp .eq 21, 3) := by decide +kernel
theorem dX8_sheet_22 : decode cX8_sheet 22 = .ok (.iload_n 2, 1) := by decide +kernel
theorem dX8_sheet_23 : decode cX8_sheet 23 = .ok (.bipush 16, 2) := by decide +kernel
theorem dX8_sheet_25 : decode cX8_sheet 25 = .ok (.if_icmp .eq 15, 3) := by decide +kernel
theorem dX8_sheet_28 : decode cX8_sheet 28 = .ok (.iload_n 2, 1) := by decide +kernel
theorem dX8_sheet_29 : decode cX8_sheet 29 = .ok (.bipush 32, 2) := by decide +kernel
theorem dX8_sheet_31 : decode cX8_sheet 31 = .ok (.if_icmp .eq 9, 3) := by decide +kernel
theorem dX8_sheet_34 : decode cX8_sheet 34 = .ok (.aload_n 0, 1) := by decide +kernel
theorem dX8_sheet_35 : decode cX8_sheet 35 = .ok (.iconst 1, 1) := by decide +kernel
theorem dX8_sheet_36 : decode cX8_sheet 36 = .ok (.invokevirtual 67, 3) := by decide +kernel
theorem dX8_sheet_39 : decode cX8_sheet 39 = .ok (.ireturn, 1) := by decide +kernel
theorem dX8_sheet_40 : decode cX8_sheet 40 = .ok (.iload_n 2, 1) := by decide +kernel
theorem dX8_sheet_41 : decode cX8_sheet 41 = .ok (.ifCond .eq 13, 3) := by decide +kernel
theorem dX8_sheet_44 : decode cX8_sheet 44 = .ok (.iload_n 3, 1) := by decide +kernel
theorem dX8_sheet_45 : decode cX8_sheet 45 = .ok (.ifCond .ge 9, 3) := by decide +kernel
theorem dX8_sheet_48 : decode cX8_sheet 48 = .ok (.aload_n 0, 1) := by decide +kernel
theorem dX8_sheet_49 : decode cX8_sheet 49 = .ok (.iconst 3, 1) := by decide +kernel
theorem dX8_sheet_50 : decode cX8_sheet 50 = .ok (.invokevirtual 67, 3) := by decide +kernel
theorem dX8_sheet_53 : decode cX8_sheet 53 = .ok (.ireturn, 1) := by decide +kernel
theorem dX8_sheet_54 : decode cX8_sheet 54 = .ok (.iload_n 2, 1) := by decide +kernel
theorem dX8_sheet_55 : decode cX8_sheet 55 = .ok (.ifCond .eq 15, 3) := by decide +kernel
theorem dX8_sheet_58 : decode cX8_sheet 58 = .ok (.iload_n 3, 1) := by decide +kernel
theorem dX8_sheet_59 : decode cX8_sheet 59 = .ok (.bipush 24, 2) := by decide +kernel
theorem dX8_sheet_61 : decode cX8_sheet 61 = .ok (.if_icmp .le 9, 3) := by decide +kernel
theorem dX8_sheet_64 : decode cX8_sheet 64 = .ok (.aload_n 0, 1) := by decide +kernel
theorem dX8_sheet_65 : decode cX8_sheet 65 = .ok (.iconst 1, 1) := by decide +kernel
theorem dX8_sheet_66 : decode cX8_sheet 66 = .ok (.invokevirtual 67, 3) := by decide +kernel
theorem dX8_sheet_69 : decode cX8_sheet 69 = .ok (.ireturn, 1) := by decide +kernel
theorem dX8_sheet_70 : decode cX8_sheet 70 = .ok (.aload 4, 2) := by decide +kernel
theorem dX8_sheet_72 : decode cX8_sheet 72 = .ok (.iload_n 2, 1) := by decide +kernel
theorem dX8_sheet_73 : decode cX8_sheet 73 = .ok (.iload_n 2, 1) := by decide +kernel
theorem dX8_sheet_74 : decode cX8_sheet 74 = .ok (.ifCond .ne 7, 3) := by decide +kernel
theorem dX8_sheet_77 : decode cX8_sheet 77 = .ok (.iconst 0, 1) := by decide +kernel
theorem dX8_sheet_78 : decode cX8_sheet 78 = .ok (.goto 4, 3) := by decide +kernel
theorem dX8_sheet_81 : decode cX8_sheet 81 = .ok (.iload_n 3, 1) := by decide +kernel
theorem dX8_sheet_82 : decode cX8_sheet 82 = .ok (.invokevirtual 254, 3) := by decide +kernel
theorem dX8_sheet_85 : decode cX8_sheet 85 = .ok (.iconst 1, 1) := by decide +kernel
theorem dX8_sheet_86 : decode cX8_sheet 86 = .ok (.ireturn, 1) := by decide +kernel
theorem dX8_put_0 : decode cX8_put 0 = .ok (.aload_n 0, 1) := by decide +kernel
theorem dX8_put_1 : decode cX8_put 1 = .ok (.iload_n 1, 1) := by decide +kernel
theorem dX8_put_2 : decode cX8_put 2 = .ok (.invokevirtual 250, 3) := by decide +kernel
theorem dX8_put_5 : decode cX8_put 5 = .ok (.astore 4, 2) := by decide +kernel
theorem dX8_put_7 : decode cX8_put 7 = .ok (.aload 4, 2) := by decide +kernel
theorem dX8_put_9 : decode cX8_put 9 = .ok (.ifnonnull 9, 3) := by decide +kernel
theorem dX8_put_12 : decode cX8_put 12 = .ok (.aload_n 0, 1) := by decide +kernel
theorem dX8_put_13 : decode cX8_put 13 = .ok (.iconst 1, 1) := by decide +kernel
theorem dX8_put_14 : decode cX8_put 14 = .ok (.invokevirtual 67, 3) := by decide +kernel
theorem dX8_put_17 : decode cX8_put 17 = .ok (.ireturn, 1) := by decide +kernel
theorem dX8_put_18 : decode cX8_put 18 = .ok (.aload 4, 2) := by decide +kernel
theorem dX8_put_20 : decode cX8_put 20 = .ok (.invokevirtual 257, 3) := by decide +kernel
theorem dX8_put_23 : decode cX8_put 23 = .ok (.ifCond .eq 9, 3) := by decide +kernel
theorem dX8_put_26 : decode cX8_put 26 = .ok (.aload_n 0, 1) := by decide +kernel
theorem dX8_put_27 : decode cX8_put 27 = .ok (.iconst 2, 1) := by decide +kernel
theorem dX8_put_28 : decode cX8_put 28 = .ok (.invokevirtual 67, 3) := by decide +kernel
theorem dX8_put_31 : decode cX8_put 31 = .ok (.ireturn, 1) := by decide +kernel
theorem dX8_put_32 : decode cX8_put 32 = .ok (.aload 4, 2) := by decide +kernel
theorem dX8_put_34 : decode cX8_put 34 = .ok (.iload_n 2, 1) := by decide +kernel
theorem dX8_put_35 : decode cX8_put 35 = .ok (.invokevirtual 260, 3) := by decide +kernel
theorem dX8_put_38 : decode cX8_put 38 = .ok (.ifCond .ne 9, 3) := by decide +kernel
theorem dX8_put_41 : decode cX8_put 41 = .ok (.aload_n 0, 1) := by decide +kernel
theorem dX8_put_42 : decode cX8_put 42 = .ok (.iconst 1, 1) := by decide +kernel
theorem dX8_put_43 : decode cX8_put 43 = .ok (.invokevirtual 67, 3) := by decide +kernel
theorem dX8_put_46 : decode cX8_put 46 = .ok (.ireturn, 1) := by decide +kernel
theorem dX8_put_47 : decode cX8_put 47 = .ok (.aload 4, 2) := by decide +kernel
theorem dX8_put_49 : decode cX8_put 49 = .ok (.iload_n 2, 1) := by decide +kernel
theorem dX8_put_50 : decode cX8_put 50 = .ok (.iload_n 3, 1) := by decide +kernel
theorem dX8_put_51 : decode cX8_put 51 = .ok (.invokevirtual 261, 3) := by decide +kernel
theorem dX8_put_54 : decode cX8_put 54 = .ok (.iconst 1, 1) := by decide +kernel
theorem dX8_put_55 : decode cX8_put 55 = .ok (.ireturn, 1) := by decide +kernel
theorem dX8_move_0 : decode cX8_move 0 = .ok (.aload_n 0, 1) := by decide +kernel
theorem dX8_move_1 : decode cX8_move 1 = .ok (.iload_n 1, 1) := by decide +kernel
theorem dX8_move_2 : decode cX8_move 2 = .ok (.invokevirtual 250, 3) := by decide +kernel
theorem dX8_move_5 : decode cX8_move 5 = .ok (.astore 6, 2) := by decide +kernel
theorem dX8_move_7 : decode cX8_move 7 = .ok (.aload_n 0, 1) := by decide +kernel
theorem dX8_move_8 : decode cX8_move 8 = .ok (.iload_n 3, 1) := by decide +kernel
theorem dX8_move_9 : decode cX8_move 9 = .ok (.invokevirtual 250, 3) := by decide +kernel
theorem dX8_move_12 : decode cX8_move 12 = .ok (.astore 7, 2) := by decide +kernel
theorem dX8_move_14 : decode cX8_move 14 = .ok (.aload 6, 2) := by decide +kernel
theorem dX8_move_16 : decode cX8_move 16 = .ok (.ifnull 8, 3) := by decide +kernel
theorem dX8_move_19 : decode cX8_move 19 = .ok (.aload 7, 2) := by decide +kernel
theorem dX8_move_21 : decode cX8_move 21 = .ok (.ifnonnull 9, 3) := by decide +kernel
theorem dX8_move_24 : decode cX8_move 24 = .ok (.aload_n 0, 1) := by decide +kernel
theorem dX8_move_25 : decode cX8_move 25 = .ok (.iconst 1, 1) := by decide +kernel
theorem dX8_move_26 : decode cX8_move 26 = .ok (.invokevirtual 67, 3) := by decide +kernel
theorem dX8_move_29 : decode cX8_move 29 = .ok (.ireturn, 1) := by decide +kernel
theorem dX8_move_30 : decode cX8_move 30 = .ok (.aload 6, 2) := by decide +kernel
theorem dX8_move_32 : decode cX8_move 32 = .ok (.invokevirtual 257, 3) := by decide +kernel
theorem dX8_move_35 : decode cX8_move 35 = .ok (.ifCond .ne 11, 3) := by decide +kernel
theorem dX8_move_38 : decode cX8_move 38 = .ok (.aload 7, 2) := by decide +kernel
theorem dX8_move_40 : decode cX8_move 40 = .ok (.invokevirtual 257, 3) := by decide +kernel
theorem dX8_move_43 : decode cX8_move 43 = .ok (.ifCond .eq 9, 3) := by decide +kernel
theorem dX8_move_46 : decode cX8_move 46 = .ok (.aload_n 0, 1) := by decide +kernel
theorem dX8_move_47 : decode cX8_move 47 = .ok (.iconst 2, 1) := by decide +kernel
theorem dX8_move_48 : decode cX8_move 48 = .ok (.invokevirtual 67, 3) := by decide +kernel
theorem dX8_move_51 : decode cX8_move 51 = .ok (.ireturn, 1) := by decide +kernel
theorem dX8_move_52 : decode cX8_move 52 = .ok (.aload 6, 2) := by decide +kernel
theorem dX8_move_54 : decode cX8_move 54 = .ok (.aload 7, 2) := by decide +kernel
theorem dX8_move_56 : decode cX8_move 56 = .ok (.invokevirtual 264, 3) := by decide +kernel
theorem dX8_move_59 : decode cX8_move 59 = .ok (.ifCond .ne 9, 3) := by decide +kernel
theorem dX8_move_62 : decode cX8_move 62 = .ok (.aload_n 0, 1) := by decide +kernel
theorem dX8_move_63 : decode cX8_move 63 = .ok (.iconst 5, 1) := by decide +kernel
theorem dX8_move_64 : decode cX8_move 64 = .ok (.invokevirtual 67, 3) := by decide +kernel
theorem dX8_move_67 : decode cX8_move 67 = .ok (.ireturn, 1) := by decide +kernel
theorem dX8_move_68 : decode cX8_move 68 = .ok (.aload 6, 2) := by decide +kernel
theorem dX8_move_70 : decode cX8_move 70 = .ok (.iload_n 2, 1) := by decide +kernel
theorem dX8_move_71 : decode cX8_move 71 = .ok (.iload 5, 2) := by decide +kernel
theorem dX8_move_73 : decode cX8_move 73 = .ok (.invokevirtual 268, 3) := by decide +kernel
theorem dX8_move_76 : decode cX8_move 76 = .ok (.ifCond .eq 15, 3) := by decide +kernel
theorem dX8_move_79 : decode cX8_move 79 = .ok (.aload 7, 2) := by decide +kernel
theorem dX8_move_81 : decode cX8_move 81 = .ok (.iload 4, 2) := by decide +kernel
theorem dX8_move_83 : decode cX8_move 83 = .ok (.iload 5, 2) := by decide +kernel
theorem dX8_move_85 : decode cX8_move 85 = .ok (.invokevirtual 268, 3) := by decide +kernel
theorem dX8_move_88 : decode cX8_move 88 = .ok (.ifCond .ne 9, 3) := by decide +kernel
theorem dX8_move_91 : decode cX8_move 91 = .ok (.aload_n 0, 1) := by decide +kernel
theorem dX8_move_92 : decode cX8_move 92 = .ok (.iconst 1, 1) := by decide +kernel
theorem dX8_move_93 : decode cX8_move 93 = .ok (.invokevirtual 67, 3) := by decide +kernel
theorem dX8_move_96 : decode cX8_move 96 = .ok (.ireturn, 1) := by decide +kernel
theorem dX8_move_97 : decode cX8_move 97 = .ok (.aload 6, 2) := by decide +kernel
theorem dX8_move_99 : decode cX8_move 99 = .ok (.iload_n 2, 1) := by decide +kernel
theorem dX8_move_100 : decode cX8_move 100 = .ok (.aload 7, 2) := by decide +kernel
theorem dX8_move_102 : decode cX8_move 102 = .ok (.iload 4, 2) := by decide +kernel
theorem dX8_move_104 : decode cX8_move 104 = .ok (.iload 5, 2) := by decide +kernel
theorem dX8_move_106 : decode cX8_move 106 = .ok (.invokevirtual 271, 3) := by decide +kernel
theorem dX8_move_109 : decode cX8_move 109 = .ok (.iload 5, 2) := by decide +kernel
theorem dX8_move_111 : decode cX8_move 111 = .ok (.ireturn, 1) := by decide +kernel
theorem dX8_papers_0 : decode cX8_papers 0 = .ok (.aload_n 0, 1) := by decide +kernel
theorem dX8_papers_1 : decode cX8_papers 1 = .ok (.iload_n 1, 1) := by decide +kernel
theorem dX8_papers_2 : decode cX8_papers 2 = .ok (.invokevirtual 250, 3) := by decide +kernel
theorem dX8_papers_5 : decode cX8_papers 5 = .ok (.astore_n 2, 1) := by decide +kernel
theorem dX8_papers_6 : decode cX8_papers 6 = .ok (.aload_n 2, 1) := by decide +kernel
theorem dX8_papers_7 : decode cX8_papers 7 = .ok (.ifnonnull 9, 3) := by decide +kernel
theorem dX8_papers_10 : decode cX8_papers 10 = .ok (.aload_n 0, 1) := by decide +kernel
theorem dX8_papers_11 : decode cX8_papers 11 = .ok (.iconst 1, 1) := by decide +kernel
theorem dX8_papers_12 : decode cX8_papers 12 = .ok (.invokevirtual 67, 3) := by decide +kernel
theorem dX8_papers_15 : decode cX8_papers 15 = .ok (.ireturn, 1) := by decide +kernel
theorem dX8_papers_16 : decode cX8_papers 16 = .ok (.aload_n 2, 1) := by decide +kernel
theorem dX8_papers_17 : decode cX8_papers 17 = .ok (.invokevirtual 257, 3) := by decide +kernel
theorem dX8_papers_20 : decode cX8_papers 20 = .ok (.ifCond .eq 9, 3) := by decide +kernel
theorem dX8_papers_23 : decode cX8_papers 23 = .ok (.aload_n 0, 1) := by decide +kernel
theorem dX8_papers_24 : decode cX8_papers 24 = .ok (.iconst 2, 1) := by decide +kernel
theorem dX8_papers_25 : decode cX8_papers 25 = .ok (.invokevirtual 67, 3) := by decide +kernel
theorem dX8_papers_28 : decode cX8_papers 28 = .ok (.ireturn, 1) := by decide +kernel
theorem dX8_papers_29 : decode cX8_papers 29 = .ok (.iconst 0, 1) := by decide +kernel
theorem dX8_papers_30 : decode cX8_papers 30 = .ok (.istore_n 3, 1) := by decide +kernel
theorem dX8_papers_31 : decode cX8_papers 31 = .ok (.iconst 0, 1) := by decide +kernel
theorem dX8_papers_32 : decode cX8_papers 32 = .ok (.istore 4, 2) := by decide +kernel
theorem dX8_papers_34 : decode cX8_papers 34 = .ok (.iload 4, 2) := by decide +kernel
theorem dX8_papers_36 : decode cX8_papers 36 = .ok (.iconst 2, 1) := by decide +kernel
theorem dX8_papers_37 : decode cX8_papers 37 = .ok (.iadd, 1) := by decide +kernel
theorem dX8_papers_38 : decode cX8_papers 38 = .ok (.aload_n 2, 1) := by decide +kernel
theorem dX8_papers_39 : decode cX8_papers 39 = .ok (.invokevirtual 275, 3) := by decide +kernel
theorem dX8_papers_42 : decode cX8_papers 42 = .ok (.if_icmp .ge 90, 3) := by decide +kernel
theorem dX8_papers_45 : decode cX8_papers 45 = .ok (.aload_n 0, 1) := by decide +kernel
theorem dX8_papers_46 : decode cX8_papers 46 = .ok (.aload_n 2, 1) := by decide +kernel
theorem dX8_papers_47 : decode cX8_papers 47 = .ok (.iload 4, 2) := by decide +kernel
theorem dX8_papers_49 : decode cX8_papers 49 = .ok (.invokevirtual 276, 3) := by decide +kernel
theorem dX8_papers_52 : decode cX8_papers 52 = .ok (.aload_n 2, 1) := by decide +kernel
theorem dX8_papers_53 : decode cX8_papers 53 = .ok (.iload 4, 2) := by decide +kernel
theorem dX8_papers_55 : decode cX8_papers 55 = .ok (.iconst 1, 1) := by decide +kernel
theorem dX8_papers_56 : decode cX8_papers 56 = .ok (.iadd, 1) := by decide +kernel
theorem dX8_papers_57 : decode cX8_papers 57 = .ok (.invokevirtual 276, 3) := by decide +kernel
theorem dX8_papers_60 : decode cX8_papers 60 = .ok (.aload_n 2, 1) := by decide +kernel
theorem dX8_papers_61 : decode cX8_papers 61 = .ok (.iload 4, 2) := by decide +kernel
theorem dX8_papers_63 : decode cX8_papers 63 = .ok (.iconst 2, 1) := by decide +kernel
theorem dX8_papers_64 : decode cX8_papers 64 = .ok (.iadd, 1) := by decide +kernel
theorem dX8_papers_65 : decode cX8_papers 65 = .ok (.invokevirtual 276, 3) := by decide +kernel
theorem dX8_papers_68 : decode cX8_papers 68 = .ok (.invokevirtual 178, 3) := by decide +kernel
theorem dX8_papers_71 : decode cX8_papers 71 = .ok (.ifCond .eq 17, 3) := by decide +kernel
theorem dX8_papers_74 : decode cX8_papers 74 = .ok (.aload_n 0, 1) := by decide +kernel
theorem dX8_papers_75 : decode cX8_papers 75 = .ok (.getfield 12, 3) := by decide +kernel
theorem dX8_papers_78 : decode cX8_papers 78 = .ok (.getfield 181, 3) := by decide +kernel
theorem dX8_papers_81 : decode cX8_papers 81 = .ok (.invokevirtual 136, 3) := by decide +kernel
theorem dX8_papers_84 : decode cX8_papers 84 = .ok (.iconst 1, 1) := by decide +kernel
theorem dX8_papers_85 : decode cX8_papers 85 = .ok (.if_icmp .ge 5, 3) := by decide +kernel
theorem dX8_papers_88 : decode cX8_papers 88 = .ok (.iload_n 3, 1) := by decide +kernel
theorem dX8_papers_89 : decode cX8_papers 89 = .ok (.ireturn, 1) := by decide +kernel
theorem dX8_papers_90 : decode cX8_papers 90 = .ok (.aload_n 0, 1) := by decide +kernel
theorem dX8_papers_91 : decode cX8_papers 91 = .ok (.getfield 12, 3) := by decide +kernel
theorem dX8_papers_94 : decode cX8_papers 94 = .ok (.getfield 181, 3) := by decide +kernel
theorem dX8_papers_97 : decode cX8_papers 97 = .ok (.aload_n 2, 1) := by decide +kernel
theorem dX8_papers_98 : decode cX8_papers 98 = .ok (.iload 4, 2) := by decide +kernel
theorem dX8_papers_100 : decode cX8_papers 100 = .ok (.invokevirtual 276, 3) := by decide +kernel
theorem dX8_papers_103 : decode cX8_papers 103 = .ok (.aload_n 2, 1) := by decide +kernel
theorem dX8_papers_104 : decode cX8_papers 104 = .ok (.iload 4, 2) := by decide +kernel
theorem dX8_papers_106 : decode cX8_papers 106 = .ok (.iconst 1, 1) := by decide +kernel
theorem dX8_papers_107 : decode cX8_papers 107 = .ok (.iadd, 1) := by decide +kernel
theorem dX8_papers_108 : decode cX8_papers 108 = .ok (.invokevirtual 276, 3) := by decide +kernel
theorem dX8_papers_111 : decode cX8_papers 111 = .ok (.aload_n 2, 1) := by decide +kernel
theorem dX8_papers_112 : decode cX8_papers 112 = .ok (.iload 4, 2) := by decide +kernel
theorem dX8_papers_114 : decode cX8_papers 114 = .ok (.iconst 2, 1) := by decide +kernel
theorem dX8_papers_115 : decode cX8_papers 115 = .ok (.iadd, 1) := by decide +kernel
theorem dX8_papers_116 : decode cX8_papers 116 = .ok (.invokevirtual 276, 3) := by decide +kernel
theorem dX8_papers_119 : decode cX8_papers 119 = .ok (.invokevirtual 139, 3) := by decide +kernel
theorem dX8_papers_122 : decode cX8_papers 122 = .ok (.pop, 1) := by decide +kernel
theorem dX8_papers_123 : decode cX8_papers 123 = .ok (.iinc 3 1, 3) := by decide +kernel
theorem dX8_papers_126 : decode cX8_papers 126 = .ok (.iinc 4 3, 3) := by decide +kernel
theorem dX8_papers_129 : decode cX8_papers 129 = .ok (.goto (-95), 3) := by decide +kernel
theorem dX8_papers_132 : decode cX8_papers 132 = .ok (.iload_n 3, 1) := by decide +kernel
theorem dX8_papers_133 : decode cX8_papers 133 = .ok (.ireturn, 1) := by decide +kernel
theorem dX8_judge_0 : decode cX8_judge 0 = .ok (.aload_n 0, 1) := by decide +kernel
theorem dX8_judge_1 : decode cX8_judge 1 = .ok (.iload_n 1, 1) := by decide +kernel
theorem dX8_judge_2 : decode cX8_judge 2 = .ok (.invokevirtual 250, 3) := by decide +kernel
theorem dX8_judge_5 : decode cX8_judge 5 = .ok (.astore_n 3, 1) := by decide +kernel
theorem dX8_judge_6 : decode cX8_judge 6 = .ok (.aload_n 3, 1) := by decide +kernel
theorem dX8_judge_7 : decode cX8_judge 7 = .ok (.ifnull 11, 3) := by decide +kernel
theorem dX8_judge_10 : decode cX8_judge 10 = .ok (.aload_n 0, 1) := by decide +kernel
theorem dX8_judge_11 : decode cX8_judge 11 = .ok (.iload_n 2, 1) := by decide +kernel
theorem dX8_judge_12 : decode cX8_judge 12 = .ok (.invokevirtual 187, 3) := by decide +kernel
theorem dX8_judge_15 : decode cX8_judge 15 = .ok (.ifCond .ne 9, 3) := by decide +kernel
theorem dX8_judge_18 : decode cX8_judge 18 = .ok (.aload_n 0, 1) := by decide +kernel
theorem dX8_judge_19 : decode cX8_judge 19 = .ok (.iconst 1, 1) := by decide +kernel
theorem dX8_judge_20 : decode cX8_judge 20 = .ok (.invokevirtual 67, 3) := by decide +kernel
theorem dX8_judge_23 : decode cX8_judge 23 = .ok (.ireturn, 1) := by decide +kernel
theorem dX8_judge_24 : decode cX8_judge 24 = .ok (.aload_n 3, 1) := by decide +kernel
theorem dX8_judge_25 : decode cX8_judge 25 = .ok (.invokevirtual 257, 3) := by decide +kernel
theorem dX8_judge_28 : decode cX8_judge 28 = .ok (.ifCond .eq 9, 3) := by decide +kernel
theorem dX8_judge_31 : decode cX8_judge 31 = .ok (.aload_n 0, 1) := by decide +kernel
theorem dX8_judge_32 : decode cX8_judge 32 = .ok (.iconst 2, 1) := by decide +kernel
theorem dX8_judge_33 : decode cX8_judge 33 = .ok (.invokevirtual 67, 3) := by decide +kernel
theorem dX8_judge_36 : decode cX8_judge 36 = .ok (.ireturn, 1) := by decide +kernel
theorem dX8_judge_37 : decode cX8_judge 37 = .ok (.aload_n 0, 1) := by decide +kernel
theorem dX8_judge_38 : decode cX8_judge 38 = .ok (.getfield 29, 3) := by decide +kernel
theorem dX8_judge_41 : decode cX8_judge 41 = .ok (.aload_n 0, 1) := by decide +kernel
theorem dX8_judge_42 : decode cX8_judge 42 = .ok (.getfield 12, 3) := by decide +kernel
theorem dX8_judge_45 : decode cX8_judge 45 = .ok (.iload_n 2, 1) := by decide +kernel
theorem dX8_judge_46 : decode cX8_judge 46 = .ok (.invokevirtual 190, 3) := by decide +kernel
theorem dX8_judge_49 : decode cX8_judge 49 = .ok (.aload_n 0, 1) := by decide +kernel
theorem dX8_judge_50 : decode cX8_judge 50 = .ok (.getfield 12, 3) := by decide +kernel
theorem dX8_judge_53 : decode cX8_judge 53 = .ok (.getfield 71, 3) := by decide +kernel
theorem dX8_judge_56 : decode cX8_judge 56 = .ok (.invokevirtual 221, 3) := by decide +kernel
theorem dX8_judge_59 : decode cX8_judge 59 = .ok (.istore 4, 2) := by decide +kernel
theorem dX8_judge_61 : decode cX8_judge 61 = .ok (.iconst 0, 1) := by decide +kernel
theorem dX8_judge_62 : decode cX8_judge 62 = .ok (.istore 5, 2) := by decide +kernel
theorem dX8_judge_64 : decode cX8_judge 64 = .ok (.iload 5, 2) := by decide +kernel
theorem dX8_judge_66 : decode cX8_judge 66 = .ok (.iload 4, 2) := by decide +kernel
theorem dX8_judge_68 : decode cX8_judge 68 = .ok (.if_icmp .ge 40, 3) := by decide +kernel
theorem dX8_judge_71 : decode cX8_judge 71 = .ok (.aload_n 3, 1) := by decide +kernel
theorem dX8_judge_72 : decode cX8_judge 72 = .ok (.iload 5, 2) := by decide +kernel
theorem dX8_judge_74 : decode cX8_judge 74 = .ok (.invokevirtual 260, 3) := by decide +kernel
theorem dX8_judge_77 : decode cX8_judge 77 = .ok (.ifCond .eq 22, 3) := by decide +kernel
theorem dX8_judge_80 : decode cX8_judge 80 = .ok (.aload_n 3, 1) := by decide +kernel
theorem dX8_judge_81 : decode cX8_judge 81 = .ok (.iload 5, 2) := by decide +kernel
theorem dX8_judge_83 : decode cX8_judge 83 = .ok (.invokevirtual 276, 3) := by decide +kernel
theorem dX8_judge_86 : decode cX8_judge 86 = .ok (.aload_n 0, 1) := by decide +kernel
theorem dX8_judge_87 : decode cX8_judge 87 = .ok (.getfield 29, 3) := by decide +kernel
theorem dX8_judge_90 : decode cX8_judge 90 = .ok (.iload 5, 2) := by decide +kernel
theorem dX8_judge_92 : decode cX8_judge 92 = .ok (.iconst 2, 1) := by decide +kernel
theorem dX8_judge_93 : decode cX8_judge 93 = .ok (.invokevirtual 194, 3) := by decide +kernel
theorem dX8_judge_96 : decode cX8_judge 96 = .ok (.if_icmp .eq 6, 3) := by decide +kernel
theorem dX8_judge_99 : decode cX8_judge 99 = .ok (.iload 5, 2) := by decide +kernel
theorem dX8_judge_101 : decode cX8_judge 101 = .ok (.ireturn, 1) := by decide +kernel
theorem dX8_judge_102 : decode cX8_judge 102 = .ok (.iinc 5 1, 3) := by decide +kernel
theorem dX8_judge_105 : decode cX8_judge 105 = .ok (.goto (-41), 3) := by decide +kernel
theorem dX8_judge_108 : decode cX8_judge 108 = .ok (.iload 4, 2) := by decide +kernel
theorem dX8_judge_110 : decode cX8_judge 110 = .ok (.ireturn, 1) := by decide +kernel
theorem dX8_image_0 : decode cX8_image 0 = .ok (.aload_n 0, 1) := by decide +kernel
theorem dX8_image_1 : decode cX8_image 1 = .ok (.getfield 16, 3) := by decide +kernel
theorem dX8_image_4 : decode cX8_image 4 = .ok (.aload_n 0, 1) := by decide +kernel
theorem dX8_image_5 : decode cX8_image 5 = .ok (.getfield 12, 3) := by decide +kernel
theorem dX8_image_8 : decode cX8_image 8 = .ok (.invokevirtual 278, 3) := by decide +kernel
theorem dX8_image_11 : decode cX8_image 11 = .ok (.aload_n 0, 1) := by decide +kernel
theorem dX8_image_12 : decode cX8_image 12 = .ok (.dup, 1) := by decide +kernel
theorem dX8_image_13 : decode cX8_image 13 = .ok (.getfield 280, 3) := by decide +kernel
theorem dX8_image_16 : decode cX8_image 16 = .ok (.iconst 1, 1) := by decide +kernel
theorem dX8_image_17 : decode cX8_image 17 = .ok (.iadd, 1) := by decide +kernel
theorem dX8_image_18 : decode cX8_image 18 = .ok (.putfield 280, 3) := by decide +kernel
theorem dX8_image_21 : decode cX8_image 21 = .ok (.aload_n 0, 1) := by decide +kernel
theorem dX8_image_22 : decode cX8_image 22 = .ok (.getfield 280, 3) := by decide +kernel
theorem dX8_image_25 : decode cX8_image 25 = .ok (.ireturn, 1) := by decide +kernel
theorem dX8_restore_0 : decode cX8_restore 0 = .ok (.aload_n 0, 1) := by decide +kernel
theorem dX8_restore_1 : decode cX8_restore 1 = .ok (.getfield 280, 3) := by decide +kernel
theorem dX8_restore_4 : decode cX8_restore 4 = .ok (.ifCond .ne 9, 3) := by decide +kernel
theorem dX8_restore_7 : decode cX8_restore 7 = .ok (.aload_n 0, 1) := by decide +kernel
theorem dX8_restore_8 : decode cX8_restore 8 = .ok (.iconst 2, 1) := by decide +kernel
theorem dX8_restore_9 : decode cX8_restore 9 = .ok (.invokevirtual 67, 3) := by decide +kernel
theorem dX8_restore_12 : decode cX8_restore 12 = .ok (.ireturn, 1) := by decide +kernel
theorem dX8_restore_13 : decode cX8_restore 13 = .ok (.aload_n 0, 1) := by decide +kernel
theorem dX8_restore_14 : decode cX8_restore 14 = .ok (.getfield 12, 3) := by decide +kernel
theorem dX8_restore_17 : decode cX8_restore 17 = .ok (.aload_n 0, 1) := by decide +kernel
theorem dX8_restore_18 : decode cX8_restore 18 = .ok (.getfield 16, 3) := by decide +kernel
theorem dX8_restore_21 : decode cX8_restore 21 = .ok (.invokevirtual 278, 3) := by decide +kernel
theorem dX8_restore_24 : decode cX8_restore 24 = .ok (.aload_n 0, 1) := by decide +kernel
theorem dX8_restore_25 : decode cX8_restore 25 = .ok (.getfield 12, 3) := by decide +kernel
theorem dX8_restore_28 : decode cX8_restore 28 = .ok (.getfield 71, 3) := by decide +kernel
theorem dX8_restore_31 : decode cX8_restore 31 = .ok (.invokevirtual 116, 3) := by decide +kernel
theorem dX8_restore_34 : decode cX8_restore 34 = .ok (.ireturn, 1) := by decide +kernel
theorem dX8_tell_0 : decode cX8_tell 0 = .ok (.aload_n 0, 1) := by decide +kernel
theorem dX8_tell_1 : decode cX8_tell 1 = .ok (.getfield 12, 3) := by decide +kernel
theorem dX8_tell_4 : decode cX8_tell 4 = .ok (.getfield 284, 3) := by decide +kernel
theorem dX8_tell_7 : decode cX8_tell 7 = .ok (.invokevirtual 136, 3) := by decide +kernel
theorem dX8_tell_10 : decode cX8_tell 10 = .ok (.iconst 1, 1) := by decide +kernel
theorem dX8_tell_11 : decode cX8_tell 11 = .ok (.if_icmp .ge 9, 3) := by decide +kernel
theorem dX8_tell_14 : decode cX8_tell 14 = .ok (.aload_n 0, 1) := by decide +kernel
theorem dX8_tell_15 : decode cX8_tell 15 = .ok (.iconst 4, 1) := by decide +kernel
theorem dX8_tell_16 : decode cX8_tell 16 = .ok (.invokevirtual 67, 3) := by decide +kernel
theorem dX8_tell_19 : decode cX8_tell 19 = .ok (.ireturn, 1) := by decide +kernel
theorem dX8_tell_20 : decode cX8_tell 20 = .ok (.aload_n 0, 1) := by decide +kernel
theorem dX8_tell_21 : decode cX8_tell 21 = .ok (.getfield 12, 3) := by decide +kernel
theorem dX8_tell_24 : decode cX8_tell 24 = .ok (.getfield 284, 3) := by decide +kernel
theorem dX8_tell_27 : decode cX8_tell 27 = .ok (.iload_n 1, 1) := by decide +kernel
theorem dX8_tell_28 : decode cX8_tell 28 = .ok (.iconst 0, 1) := by decide +kernel
theorem dX8_tell_29 : decode cX8_tell 29 = .ok (.iconst 0, 1) := by decide +kernel
theorem dX8_tell_30 : decode cX8_tell 30 = .ok (.invokevirtual 139, 3) := by decide +kernel
theorem dX8_tell_33 : decode cX8_tell 33 = .ok (.pop, 1) := by decide +kernel
theorem dX8_tell_34 : decode cX8_tell 34 = .ok (.aload_n 0, 1) := by decide +kernel
theorem dX8_tell_35 : decode cX8_tell 35 = .ok (.getfield 12, 3) := by decide +kernel
theorem dX8_tell_38 : decode cX8_tell 38 = .ok (.getfield 284, 3) := by decide +kernel
theorem dX8_tell_41 : decode cX8_tell 41 = .ok (.invokevirtual 143, 3) := by decide +kernel
theorem dX8_tell_44 : decode cX8_tell 44 = .ok (.ireturn, 1) := by decide +kernel
theorem dX8_check_0 : decode cX8_check 0 = .ok (.aload_n 0, 1) := by decide +kernel
theorem dX8_check_1 : decode cX8_check 1 = .ok (.getfield 29, 3) := by decide +kernel
theorem dX8_check_4 : decode cX8_check 4 = .ok (.aload_n 0, 1) := by decide +kernel
theorem dX8_check_5 : decode cX8_check 5 = .ok (.getfield 12, 3) := by decide +kernel
theorem dX8_check_8 : decode cX8_check 8 = .ok (.invokevirtual 197, 3) := by decide +kernel
theorem dX8_check_11 : decode cX8_check 11 = .ok (.aload_n 0, 1) := by decide +kernel
theorem dX8_check_12 : decode cX8_check 12 = .ok (.getfield 29, 3) := by decide +kernel
theorem dX8_check_15 : decode cX8_check 15 = .ok (.aload_n 0, 1) := by decide +kernel
theorem dX8_check_16 : decode cX8_check 16 = .ok (.getfield 12, 3) := by decide +kernel
theorem dX8_check_19 : decode cX8_check 19 = .ok (.getfield 284, 3) := by decide +kernel
theorem dX8_check_22 : decode cX8_check 22 = .ok (.invokevirtual 287, 3) := by decide +kernel
theorem dX8_check_25 : decode cX8_check 25 = .ok (.istore_n 1, 1) := by decide +kernel
theorem dX8_check_26 : decode cX8_check 26 = .ok (.aload_n 0, 1) := by decide +kernel
theorem dX8_check_27 : decode cX8_check 27 = .ok (.getfield 12, 3) := by decide +kernel
theorem dX8_check_30 : decode cX8_check 30 = .ok (.getfield 284, 3) := by decide +kernel
theorem dX8_check_33 : decode cX8_check 33 = .ok (.invokevirtual 150, 3) := by decide +kernel
theorem dX8_check_36 : decode cX8_check 36 = .ok (.iload_n 1, 1) := by decide +kernel
theorem dX8_check_37 : decode cX8_check 37 = .ok (.iconst 1, 1) := by decide +kernel
theorem dX8_check_38 : decode cX8_check 38 = .ok (.iadd, 1) := by decide +kernel
theorem dX8_check_39 : decode cX8_check 39 = .ok (.ireturn, 1) := by decide +kernel
theorem dX8_count_0 : decode cX8_count 0 = .ok (.iload_n 1, 1) := by decide +kernel
theorem dX8_count_1 : decode cX8_count 1 = .ok (.tableswitch 180 0 10 #[59, 70, 81, 92, 103, 114, 125, 136, 147, 158, 169], 59) := by decide +kernel
theorem dX8_count_60 : decode cX8_count 60 = .ok (.aload_n 0, 1) := by decide +kernel
theorem dX8_count_61 : decode cX8_count 61 = .ok (.getfield 12, 3) := by decide +kernel
theorem dX8_count_64 : decode cX8_count 64 = .ok (.getfield 71, 3) := by decide +kernel
theorem dX8_count_67 : decode cX8_count 67 = .ok (.invokevirtual 221, 3) := by decide +kernel
theorem dX8_count_70 : decode cX8_count 70 = .ok (.ireturn, 1) := by decide +kernel
theorem dX8_count_71 : decode cX8_count 71 = .ok (.aload_n 0, 1) := by decide +kernel
theorem dX8_count_72 : decode cX8_count 72 = .ok (.getfield 12, 3) := by decide +kernel
theorem dX8_count_75 : decode cX8_count 75 = .ok (.getfield 71, 3) := by decide +kernel
theorem dX8_count_78 : decode cX8_count 78 = .ok (.invokevirtual 291, 3) := by decide +kernel
theorem dX8_count_81 : decode cX8_count 81 = .ok (.ireturn, 1) := by decide +kernel
theorem dX8_count_82 : decode cX8_count 82 = .ok (.aload_n 0, 1) := by decide +kernel
theorem dX8_count_83 : decode cX8_count 83 = .ok (.getfield 12, 3) := by decide +kernel
theorem dX8_count_86 : decode cX8_count 86 = .ok (.getfield 162, 3) := by decide +kernel
theorem dX8_count_89 : decode cX8_count 89 = .ok (.invokevirtual 143, 3) := by decide +kernel
theorem dX8_count_92 : decode cX8_count 92 = .ok (.ireturn, 1) := by decide +kernel
theorem dX8_count_93 : decode cX8_count 93 = .ok (.aload_n 0, 1) := by decide +kernel
theorem dX8_count_94 : decode cX8_count 94 = .ok (.getfield 12, 3) := by decide +kernel
theorem dX8_count_97 : decode cX8_count 97 = .ok (.getfield 181, 3) := by decide +kernel
theorem dX8_count_100 : decode cX8_count 100 = .ok (.invokevirtual 143, 3) := by decide +kernel
theorem dX8_count_103 : decode cX8_count 103 = .ok (.ireturn, 1) := by decide +kernel
theorem dX8_count_104 : decode cX8_count 104 = .ok (.aload_n 0, 1) := by decide +kernel
theorem dX8_count_105 : decode cX8_count 105 = .ok (.getfield 12, 3) := by decide +kernel
theorem dX8_count_108 : decode cX8_count 108 = .ok (.getfield 184, 3) := by decide +kernel
theorem dX8_count_111 : decode cX8_count 111 = .ok (.invokevirtual 143, 3) := by decide +kernel
theorem dX8_count_114 : decode cX8_count 114 = .ok (.ireturn, 1) := by decide +kernel
theorem dX8_count_115 : decode cX8_count 115 = .ok (.aload_n 0, 1) := by decide +kernel
theorem dX8_count_116 : decode cX8_count 116 = .ok (.getfield 12, 3) := by decide +kernel
theorem dX8_count_119 : decode cX8_count 119 = .ok (.getfield 71, 3) := by decide +kernel
theorem dX8_count_122 : decode cX8_count 122 = .ok (.invokevirtual 122, 3) := by decide +kernel
theorem dX8_count_125 : decode cX8_count 125 = .ok (.ireturn, 1) := by decide +kernel
theorem dX8_count_126 : decode cX8_count 126 = .ok (.aload_n 0, 1) := by decide +kernel
theorem dX8_count_127 : decode cX8_count 127 = .ok (.getfield 12, 3) := by decide +kernel
theorem dX8_count_130 : decode cX8_count 130 = .ok (.getfield 71, 3) := by decide +kernel
theorem dX8_count_133 : decode cX8_count 133 = .ok (.invokevirtual 116, 3) := by decide +kernel
theorem dX8_count_136 : decode cX8_count 136 = .ok (.ireturn, 1) := by decide +kernel
theorem dX8_count_137 : decode cX8_count 137 = .ok (.aload_n 0, 1) := by decide +kernel
theorem dX8_count_138 : decode cX8_count 138 = .ok (.getfield 12, 3) := by decide +kernel
theorem dX8_count_141 : decode cX8_count 141 = .ok (.getfield 132, 3) := by decide +kernel
theorem dX8_count_144 : decode cX8_count 144 = .ok (.invokevirtual 143, 3) := by decide +kernel
theorem dX8_count_147 : decode cX8_count 147 = .ok (.ireturn, 1) := by decide +kernel
theorem dX8_count_148 : decode cX8_count 148 = .ok (.aload_n 0, 1) := by decide +kernel
theorem dX8_count_149 : decode cX8_count 149 = .ok (.getfield 12, 3) := by decide +kernel
theorem dX8_count_152 : decode cX8_count 152 = .ok (.getfield 284, 3) := by decide +kernel
theorem dX8_count_155 : decode cX8_count 155 = .ok (.invokevirtual 143, 3) := by decide +kernel
theorem dX8_count_158 : decode cX8_count 158 = .ok (.ireturn, 1) := by decide +kernel
theorem dX8_count_159 : decode cX8_count 159 = .ok (.aload_n 0, 1) := by decide +kernel
theorem dX8_count_160 : decode cX8_count 160 = .ok (.getfield 43, 3) := by decide +kernel
theorem dX8_count_163 : decode cX8_count 163 = .ok (.invokevirtual 246, 3) := by decide +kernel
theorem dX8_count_166 : decode cX8_count 166 = .ok (.invokevirtual 143, 3) := by decide +kernel
theorem dX8_count_169 : decode cX8_count 169 = .ok (.ireturn, 1) := by decide +kernel
theorem dX8_count_170 : decode cX8_count 170 = .ok (.aload_n 0, 1) := by decide +kernel
theorem dX8_count_171 : decode cX8_count 171 = .ok (.getfield 12, 3) := by decide +kernel
theorem dX8_count_174 : decode cX8_count 174 = .ok (.getfield 71, 3) := by decide +kernel
theorem dX8_count_177 : decode cX8_count 177 = .ok (.invokevirtual 294, 3) := by decide +kernel
theorem dX8_count_180 : decode cX8_count 180 = .ok (.ireturn, 1) := by decide +kernel
theorem dX8_count_181 : decode cX8_count 181 = .ok (.aload_n 0, 1) := by decide +kernel
theorem dX8_count_182 : decode cX8_count 182 = .ok (.iconst 1, 1) := by decide +kernel
theorem dX8_count_183 : decode cX8_count 183 = .ok (.invokevirtual 67, 3) := by decide +kernel
theorem dX8_count_186 : decode cX8_count 186 = .ok (.ireturn, 1) := by decide +kernel
theorem dX8_told_0 : decode cX8_told 0 = .ok (.iload_n 1, 1) := by decide +kernel
theorem dX8_told_1 : decode cX8_told 1 = .ok (.iconst 1, 1) := by decide +kernel
theorem dX8_told_2 : decode cX8_told 2 = .ok (.if_icmp .lt 21, 3) := by decide +kernel
theorem dX8_told_5 : decode cX8_told 5 = .ok (.iload_n 1, 1) := by decide +kernel
theorem dX8_told_6 : decode cX8_told 6 = .ok (.aload_n 0, 1) := by decide +kernel
theorem dX8_told_7 : decode cX8_told 7 = .ok (.getfield 53, 3) := by decide +kernel
theorem dX8_told_10 : decode cX8_told 10 = .ok (.arraylength, 1) := by decide +kernel
theorem dX8_told_11 : decode cX8_told 11 = .ok (.if_icmp .ge 12, 3) := by decide +kernel
theorem dX8_told_14 : decode cX8_told 14 = .ok (.aload_n 0, 1) := by decide +kernel
theorem dX8_told_15 : decode cX8_told 15 = .ok (.getfield 53, 3) := by decide +kernel
theorem dX8_told_18 : decode cX8_told 18 = .ok (.iload_n 1, 1) := by decide +kernel
theorem dX8_told_19 : decode cX8_told 19 = .ok (.iaload, 1) := by decide +kernel
theorem dX8_told_20 : decode cX8_told 20 = .ok (.goto 8, 3) := by decide +kernel
theorem dX8_told_23 : decode cX8_told 23 = .ok (.aload_n 0, 1) := by decide +kernel
theorem dX8_told_24 : decode cX8_told 24 = .ok (.iconst 1, 1) := by decide +kernel
theorem dX8_told_25 : decode cX8_told 25 = .ok (.invokevirtual 67, 3) := by decide +kernel
theorem dX8_told_28 : decode cX8_told 28 = .ok (.ireturn, 1) := by decide +kernel
theorem dX8_refuse_0 : decode cX8_refuse 0 = .ok (.iload_n 1, 1) := by decide +kernel
theorem dX8_refuse_1 : decode cX8_refuse 1 = .ok (.ifCond .lt 22, 3) := by decide +kernel
theorem dX8_refuse_4 : decode cX8_refuse 4 = .ok (.iload_n 1, 1) := by decide +kernel
theorem dX8_refuse_5 : decode cX8_refuse 5 = .ok (.aload_n 0, 1) := by decide +kernel
theorem dX8_refuse_6 : decode cX8_refuse 6 = .ok (.getfield 53, 3) := by decide +kernel
theorem dX8_refuse_9 : decode cX8_refuse 9 = .ok (.arraylength, 1) := by decide +kernel
theorem dX8_refuse_10 : decode cX8_refuse 10 = .ok (.if_icmp .ge 13, 3) := by decide +kernel
theorem dX8_refuse_13 : decode cX8_refuse 13 = .ok (.aload_n 0, 1) := by decide +kernel
theorem dX8_refuse_14 : decode cX8_refuse 14 = .ok (.getfield 53, 3) := by decide +kernel
theorem dX8_refuse_17 : decode cX8_refuse 17 = .ok (.iload_n 1, 1) := by decide +kernel
theorem dX8_refuse_18 : decode cX8_refuse 18 = .ok (.dup2, 1) := by decide +kernel
theorem dX8_refuse_19 : decode cX8_refuse 19 = .ok (.iaload, 1) := by decide +kernel
theorem dX8_refuse_20 : decode cX8_refuse 20 = .ok (.iconst 1, 1) := by decide +kernel
theorem dX8_refuse_21 : decode cX8_refuse 21 = .ok (.iadd, 1) := by decide +kernel
theorem dX8_refuse_22 : decode cX8_refuse 22 = .ok (.iastore, 1) := by decide +kernel
theorem dX8_refuse_23 : decode cX8_refuse 23 = .ok (.ldc_w 297, 3) := by decide +kernel
theorem dX8_refuse_26 : decode cX8_refuse 26 = .ok (.iload_n 1, 1) := by decide +kernel
theorem dX8_refuse_27 : decode cX8_refuse 27 = .ok (.isub, 1) := by decide +kernel
theorem dX8_refuse_28 : decode cX8_refuse 28 = .ok (.ireturn, 1) := by decide +kernel
theorem dX8_sheetAt_0 : decode cX8_sheetAt 0 = .ok (.iload_n 1, 1) := by decide +kernel
theorem dX8_sheetAt_1 : decode cX8_sheetAt 1 = .ok (.ifCond .lt 21, 3) := by decide +kernel
theorem dX8_sheetAt_4 : decode cX8_sheetAt 4 = .ok (.iload_n 1, 1) := by decide +kernel
theorem dX8_sheetAt_5 : decode cX8_sheetAt 5 = .ok (.aload_n 0, 1) := by decide +kernel
theorem dX8_sheetAt_6 : decode cX8_sheetAt 6 = .ok (.getfield 49, 3) := by decide +kernel
theorem dX8_sheetAt_9 : decode cX8_sheetAt 9 = .ok (.arraylength, 1) := by decide +kernel
theorem dX8_sheetAt_10 : decode cX8_sheetAt 10 = .ok (.if_icmp .ge 12, 3) := by decide +kernel
theorem dX8_sheetAt_13 : decode cX8_sheetAt 13 = .ok (.aload_n 0, 1) := by decide +kernel
theorem dX8_sheetAt_14 : decode cX8_sheetAt 14 = .ok (.getfield 49, 3) := by decide +kernel
theorem dX8_sheetAt_17 : decode cX8_sheetAt 17 = .ok (.iload_n 1, 1) := by decide +kernel
theorem dX8_sheetAt_18 : decode cX8_sheetAt 18 = .ok (.aaload, 1) := by decide +kernel
theorem dX8_sheetAt_19 : decode cX8_sheetAt 19 = .ok (.goto 4, 3) := by decide +kernel
theorem dX8_sheetAt_22 : decode cX8_sheetAt 22 = .ok (.aconst_null, 1) := by decide +kernel
theorem dX8_sheetAt_23 : decode cX8_sheetAt 23 = .ok (.areturn, 1) := by decide +kernel
theorem dX8_allPapers_0 : decode cX8_allPapers 0 = .ok (.iconst 1, 1) := by decide +kernel
theorem dX8_allPapers_1 : decode cX8_allPapers 1 = .ok (.aload_n 0, 1) := by decide +kernel
theorem dX8_allPapers_2 : decode cX8_allPapers 2 = .ok (.getfield 12, 3) := by decide +kernel
theorem dX8_allPapers_5 : decode cX8_allPapers 5 = .ok (.getfield 181, 3) := by decide +kernel
theorem dX8_allPapers_8 : decode cX8_allPapers 8 = .ok (.invokevirtual 143, 3) := by decide +kernel
theorem dX8_allPapers_11 : decode cX8_allPapers 11 = .ok (.ishl, 1) := by decide +kernel
theorem dX8_allPapers_12 : decode cX8_allPapers 12 = .ok (.iconst 1, 1) := by decide +kernel
theorem dX8_allPapers_13 : decode cX8_allPapers 13 = .ok (.isub, 1) := by decide +kernel
theorem dX8_allPapers_14 : decode cX8_allPapers 14 = .ok (.ireturn, 1) := by decide +kernel
theorem dX8_isHistory_0 : decode cX8_isHistory 0 = .ok (.iload_n 1, 1) := by decide +kernel
theorem dX8_isHistory_1 : decode cX8_isHistory 1 = .ok (.iconst 0, 1) := by decide +kernel
theorem dX8_isHistory_2 : decode cX8_isHistory 2 = .ok (.aload_n 0, 1) := by decide +kernel
theorem dX8_isHistory_3 : decode cX8_isHistory 3 = .ok (.invokevirtual 201, 3) := by decide +kernel
theorem dX8_isHistory_6 : decode cX8_isHistory 6 = .ok (.invokestatic 63, 3) := by decide +kernel
theorem dX8_isHistory_9 : decode cX8_isHistory 9 = .ok (.ireturn, 1) := by decide +kernel
theorem dX8_isPaper_0 : decode cX8_isPaper 0 = .ok (.aload_n 0, 1) := by decide +kernel
theorem dX8_isPaper_1 : decode cX8_isPaper 1 = .ok (.getfield 12, 3) := by decide +kernel
theorem dX8_isPaper_4 : decode cX8_isPaper 4 = .ok (.getfield 71, 3) := by decide +kernel
theorem dX8_isPaper_7 : decode cX8_isPaper 7 = .ok (.iload_n 1, 1) := by decide +kernel
theorem dX8_isPaper_8 : decode cX8_isPaper 8 = .ok (.invokevirtual 82, 3) := by decide +kernel
theorem dX8_isPaper_11 : decode cX8_isPaper 11 = .ok (.ifCond .eq 36, 3) := by decide +kernel
theorem dX8_isPaper_14 : decode cX8_isPaper 14 = .ok (.aload_n 0, 1) := by decide +kernel
theorem dX8_isPaper_15 : decode cX8_isPaper 15 = .ok (.getfield 12, 3) := by decide +kernel
theorem dX8_isPaper_18 : decode cX8_isPaper 18 = .ok (.getfield 71, 3) := by decide +kernel
theorem dX8_isPaper_21 : decode cX8_isPaper 21 = .ok (.iload_n 2, 1) := by decide +kernel
theorem dX8_isPaper_22 : decode cX8_isPaper 22 = .ok (.invokevirtual 82, 3) := by decide +kernel
theorem dX8_isPaper_25 : decode cX8_isPaper 25 = .ok (.ifCond .eq 22, 3) := by decide +kernel
theorem dX8_isPaper_28 : decode cX8_isPaper 28 = .ok (.iload_n 1, 1) := by decide +kernel
theorem dX8_isPaper_29 : decode cX8_isPaper 29 = .ok (.iload_n 2, 1) := by decide +kernel
theorem dX8_isPaper_30 : decode cX8_isPaper 30 = .ok (.if_icmp .eq 17, 3) := by decide +kernel
theorem dX8_isPaper_33 : decode cX8_isPaper 33 = .ok (.iload_n 3, 1) := by decide +kernel
theorem dX8_isPaper_34 : decode cX8_isPaper 34 = .ok (.iconst 1, 1) := by decide +kernel
theorem dX8_isPaper_35 : decode cX8_isPaper 35 = .ok (.bipush 8, 2) := by decide +kernel
theorem dX8_isPaper_37 : decode cX8_isPaper 37 = .ok (.invokestatic 63, 3) := by decide +kernel
theorem dX8_isPaper_40 : decode cX8_isPaper 40 = .ok (.ifCond .eq 7, 3) := by decide +kernel
theorem dX8_isPaper_43 : decode cX8_isPaper 43 = .ok (.iconst 1, 1) := by decide +kernel
theorem dX8_isPaper_44 : decode cX8_isPaper 44 = .ok (.goto 4, 3) := by decide +kernel
theorem dX8_isPaper_47 : decode cX8_isPaper 47 = .ok (.iconst 0, 1) := by decide +kernel
theorem dX8_isPaper_48 : decode cX8_isPaper 48 = .ok (.ireturn, 1) := by decide +kernel
theorem dX8_isKindAndM_0 : decode cX8_isKindAndM 0 = .ok (.iload_n 0, 1) := by decide +kernel
theorem dX8_isKindAndM_1 : decode cX8_isKindAndM 1 = .ok (.iconst 0, 1) := by decide +kernel
theorem dX8_isKindAndM_2 : decode cX8_isKindAndM 2 = .ok (.sipush 699, 3) := by decide +kernel
theorem dX8_isKindAndM_5 : decode cX8_isKindAndM 5 = .ok (.invokestatic 63, 3) := by decide +kernel
theorem dX8_isKindAndM_8 : decode cX8_isKindAndM 8 = .ok (.ireturn, 1) := by decide +kernel
theorem dX8_isUnder_0 : decode cX8_isUnder 0 = .ok (.iload_n 0, 1) := by decide +kernel
theorem dX8_isUnder_1 : decode cX8_isUnder 1 = .ok (.istore_n 2, 1) := by decide +kernel
theorem dX8_isUnder_2 : decode cX8_isUnder 2 = .ok (.iconst 0, 1) := by decide +kernel
theorem dX8_isUnder_3 : decode cX8_isUnder 3 = .ok (.istore_n 3, 1) := by decide +kernel
theorem dX8_isUnder_4 : decode cX8_isUnder 4 = .ok (.iload_n 3, 1) := by decide +kernel
theorem dX8_isUnder_5 : decode cX8_isUnder 5 = .ok (.bipush 7, 2) := by decide +kernel
theorem dX8_isUnder_7 : decode cX8_isUnder 7 = .ok (.if_icmp .ge 23, 3) := by decide +kernel
theorem dX8_isUnder_10 : decode cX8_isUnder 10 = .ok (.iload_n 2, 1) := by decide +kernel
theorem dX8_isUnder_11 : decode cX8_isUnder 11 = .ok (.iload_n 1, 1) := by decide +kernel
theorem dX8_isUnder_12 : decode cX8_isUnder 12 = .ok (.if_icmp .eq 18, 3) := by decide +kernel
theorem dX8_isUnder_15 : decode cX8_isUnder 15 = .ok (.iload_n 2, 1) := by decide +kernel
theorem dX8_isUnder_16 : decode cX8_isUnder 16 = .ok (.ifCond .eq 14, 3) := by decide +kernel
theorem dX8_isUnder_19 : decode cX8_isUnder 19 = .ok (.iload_n 2, 1) := by decide +kernel
theorem dX8_isUnder_20 : decode cX8_isUnder 20 = .ok (.invokestatic 298, 3) := by decide +kernel
theorem dX8_isUnder_23 : decode cX8_isUnder 23 = .ok (.istore_n 2, 1) := by decide +kernel
theorem dX8_isUnder_24 : decode cX8_isUnder 24 = .ok (.iinc 3 1, 3) := by decide +kernel
theorem dX8_isUnder_27 : decode cX8_isUnder 27 = .ok (.goto (-23), 3) := by decide +kernel
theorem dX8_isUnder_30 : decode cX8_isUnder 30 = .ok (.iload_n 2, 1) := by decide +kernel
theorem dX8_isUnder_31 : decode cX8_isUnder 31 = .ok (.iload_n 1, 1) := by decide +kernel
theorem dX8_isUnder_32 : decode cX8_isUnder 32 = .ok (.if_icmp .ne 7, 3) := by decide +kernel
theorem dX8_isUnder_35 : decode cX8_isUnder 35 = .ok (.iconst 1, 1) := by decide +kernel
theorem dX8_isUnder_36 : decode cX8_isUnder 36 = .ok (.goto 4, 3) := by decide +kernel
theorem dX8_isUnder_39 : decode cX8_isUnder 39 = .ok (.iconst 0, 1) := by decide +kernel
theorem dX8_isUnder_40 : decode cX8_isUnder 40 = .ok (.ireturn, 1) := by decide +kernel
theorem dX8_above_0 : decode cX8_above 0 = .ok (.iload_n 0, 1) := by decide +kernel
theorem dX8_above_1 : decode cX8_above 1 = .ok (.ifCond .lt 19, 3) := by decide +kernel
theorem dX8_above_4 : decode cX8_above 4 = .ok (.iload_n 0, 1) := by decide +kernel
theorem dX8_above_5 : decode cX8_above 5 = .ok (.getstatic 301, 3) := by decide +kernel
theorem dX8_above_8 : decode cX8_above 8 = .ok (.arraylength, 1) := by decide +kernel
theorem dX8_above_9 : decode cX8_above 9 = .ok (.if_icmp .ge 11, 3) := by decide +kernel
theorem dX8_above_12 : decode cX8_above 12 = .ok (.getstatic 301, 3) := by decide +kernel
theorem dX8_above_15 : decode cX8_above 15 = .ok (.iload_n 0, 1) := by decide +kernel
theorem dX8_above_16 : decode cX8_above 16 = .ok (.iaload, 1) := by decide +kernel
theorem dX8_above_17 : decode cX8_above 17 = .ok (.goto 4, 3) := by decide +kernel
theorem dX8_above_20 : decode cX8_above 20 = .ok (.iconst 0, 1) := by decide +kernel
theorem dX8_above_21 : decode cX8_above 21 = .ok (.ireturn, 1) := by decide +kernel
theorem dX8_within_0 : decode cX8_within 0 = .ok (.iload_n 0, 1) := by decide +kernel
theorem dX8_within_1 : decode cX8_within 1 = .ok (.iload_n 1, 1) := by decide +kernel
theorem dX8_within_2 : decode cX8_within 2 = .ok (.if_icmp .lt 12, 3) := by decide +kernel
theorem dX8_within_5 : decode cX8_within 5 = .ok (.iload_n 0, 1) := by decide +kernel
theorem dX8_within_6 : decode cX8_within 6 = .ok (.iload_n 2, 1) := by decide +kernel
theorem dX8_within_7 : decode cX8_within 7 = .ok (.if_icmp .gt 7, 3) := by decide +kernel
theorem dX8_within_10 : decode cX8_within 10 = .ok (.iconst 1, 1) := by decide +kernel
theorem dX8_within_11 : decode cX8_within 11 = .ok (.goto 4, 3) := by decide +kernel
theorem dX8_within_14 : decode cX8_within 14 = .ok (.iconst 0, 1) := by decide +kernel
theorem dX8_within_15 : decode cX8_within 15 = .ok (.ireturn, 1) := by decide +kernel
theorem dX8_quotient_0 : decode cX8_quotient 0 = .ok (.lload_n 2, 1) := by decide +kernel
theorem dX8_quotient_1 : decode cX8_quotient 1 = .ok (.lconst 0, 1) := by decide +kernel
theorem dX8_quotient_2 : decode cX8_quotient 2 = .ok (.lcmp, 1) := by decide +kernel
theorem dX8_quotient_3 : decode cX8_quotient 3 = .ok (.ifCond .ne 7, 3) := by decide +kernel
theorem dX8_quotient_6 : decode cX8_quotient 6 = .ok (.iconst 0, 1) := by decide +kernel
theorem dX8_quotient_7 : decode cX8_quotient 7 = .ok (.goto 7, 3) := by decide +kernel
theorem dX8_quotient_10 : decode cX8_quotient 10 = .ok (.lload_n 0, 1) := by decide +kernel
theorem dX8_quotient_11 : decode cX8_quotient 11 = .ok (.lload_n 2, 1) := by decide +kernel
theorem dX8_quotient_12 : decode cX8_quotient 12 = .ok (.ldiv, 1) := by decide +kernel
theorem dX8_quotient_13 : decode cX8_quotient 13 = .ok (.l2i, 1) := by decide +kernel
theorem dX8_quotient_14 : decode cX8_quotient 14 = .ok (.ireturn, 1) := by decide +kernel
theorem dJ6_bitCount_0f7a4_0 : decode cJ6_bitCount_0f7a4 0 = .ok (.iload_n 0, 1) := by decide +kernel
theorem dJ6_bitCount_0f7a4_1 : decode cJ6_bitCount_0f7a4 1 = .ok (.iload_n 0, 1) := by decide +kernel
theorem dJ6_bitCount_0f7a4_2 : decode cJ6_bitCount_0f7a4 2 = .ok (.iconst 1, 1) := by decide +kernel
theorem dJ6_bitCount_0f7a4_3 : decode cJ6_bitCount_0f7a4 3 = .ok (.iushr, 1) := by decide +kernel
theorem dJ6_bitCount_0f7a4_4 : decode cJ6_bitCount_0f7a4 4 = .ok (.ldc_w 265, 3) := by decide +kernel
theorem dJ6_bitCount_0f7a4_7 : decode cJ6_bitCount_0f7a4 7 = .ok (.iand, 1) := by decide +kernel
theorem dJ6_bitCount_0f7a4_8 : decode cJ6_bitCount_0f7a4 8 = .ok (.isub, 1) := by decide +kernel
theorem dJ6_bitCount_0f7a4_9 : decode cJ6_bitCount_0f7a4 9 = .ok (.istore_n 0, 1) := by decide +kernel
