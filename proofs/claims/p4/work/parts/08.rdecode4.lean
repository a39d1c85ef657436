-- decode rows of the reference
theorem dR_ringsBy_44 : decode cX9_ringsBy 44 = .ok (.aload_n 0, 1) := by decide +kernel
theorem dR_ringsBy_45 : decode cX9_ringsBy 45 = .ok (.bipush 10, 2) := by decide +kernel
theorem dR_ringsBy_47 : decode cX9_ringsBy 47 = .ok (.invokevirtual 250, 3) := by decide +kernel
theorem dR_ringsBy_50 : decode cX9_ringsBy 50 = .ok (.iload_n 2, 1) := by decide +kernel
theorem dR_ringsBy_51 : decode cX9_ringsBy 51 = .ok (.aload_n 0, 1) := by decide +kernel
theorem dR_ringsBy_52 : decode cX9_ringsBy 52 = .ok (.getfield 247, 3) := by decide +kernel
theorem dR_ringsBy_55 : decode cX9_ringsBy 55 = .ok (.iadd, 1) := by decide +kernel
theorem dR_ringsBy_56 : decode cX9_ringsBy 56 = .ok (.ireturn, 1) := by decide +kernel
theorem dR_ringsBy_57 : decode cX9_ringsBy 57 = .ok (.aload_n 0, 1) := by decide +kernel
theorem dR_ringsBy_58 : decode cX9_ringsBy 58 = .ok (.bipush 20, 2) := by decide +kernel
theorem dR_ringsBy_60 : decode cX9_ringsBy 60 = .ok (.invokevirtual 250, 3) := by decide +kernel
theorem dR_ringsBy_63 : decode cX9_ringsBy 63 = .ok (.aload_n 0, 1) := by decide +kernel
theorem dR_ringsBy_64 : decode cX9_ringsBy 64 = .ok (.iconst 1, 1) := by decide +kernel
theorem dR_ringsBy_65 : decode cX9_ringsBy 65 = .ok (.invokestatic 253, 3) := by decide +kernel
theorem dR_ringsBy_68 : decode cX9_ringsBy 68 = .ok (.iload_n 2, 1) := by decide +kernel
theorem dR_ringsBy_69 : decode cX9_ringsBy 69 = .ok (.invokevirtual 256, 3) := by decide +kernel
theorem dR_ringsBy_72 : decode cX9_ringsBy 72 = .ok (.iconst 4, 1) := by decide +kernel
theorem dR_ringsBy_73 : decode cX9_ringsBy 73 = .ok (.isub, 1) := by decide +kernel
theorem dR_ringsBy_74 : decode cX9_ringsBy 74 = .ok (.ireturn, 1) := by decide +kernel
theorem dR_ringsBy_75 : decode cX9_ringsBy 75 = .ok (.aload_n 0, 1) := by decide +kernel
theorem dR_ringsBy_76 : decode cX9_ringsBy 76 = .ok (.bipush 50, 2) := by decide +kernel
theorem dR_ringsBy_78 : decode cX9_ringsBy 78 = .ok (.invokevirtual 250, 3) := by decide +kernel
theorem dR_ringsBy_81 : decode cX9_ringsBy 81 = .ok (.aload_n 0, 1) := by decide +kernel
theorem dR_ringsBy_82 : decode cX9_ringsBy 82 = .ok (.iconst 4, 1) := by decide +kernel
theorem dR_ringsBy_83 : decode cX9_ringsBy 83 = .ok (.invokestatic 253, 3) := by decide +kernel
theorem dR_ringsBy_86 : decode cX9_ringsBy 86 = .ok (.iload_n 2, 1) := by decide +kernel
theorem dR_ringsBy_87 : decode cX9_ringsBy 87 = .ok (.invokevirtual 256, 3) := by decide +kernel
theorem dR_ringsBy_90 : decode cX9_ringsBy 90 = .ok (.iconst 3, 1) := by decide +kernel
theorem dR_ringsBy_91 : decode cX9_ringsBy 91 = .ok (.imul, 1) := by decide +kernel
theorem dR_ringsBy_92 : decode cX9_ringsBy 92 = .ok (.ireturn, 1) := by decide +kernel
theorem dR_ringsBy_93 : decode cX9_ringsBy 93 = .ok (.aload_n 0, 1) := by decide +kernel
theorem dR_ringsBy_94 : decode cX9_ringsBy 94 = .ok (.bipush 70, 2) := by decide +kernel
theorem dR_ringsBy_96 : decode cX9_ringsBy 96 = .ok (.invokevirtual 250, 3) := by decide +kernel
theorem dR_ringsBy_99 : decode cX9_ringsBy 99 = .ok (.bipush 6, 2) := by decide +kernel
theorem dR_ringsBy_101 : decode cX9_ringsBy 101 = .ok (.ireturn, 1) := by decide +kernel
theorem dR_ringsBy_102 : decode cX9_ringsBy 102 = .ok (.aload_n 0, 1) := by decide +kernel
theorem dR_ringsBy_103 : decode cX9_ringsBy 103 = .ok (.iload_n 1, 1) := by decide +kernel
theorem dR_ringsBy_104 : decode cX9_ringsBy 104 = .ok (.invokestatic 253, 3) := by decide +kernel
theorem dR_ringsBy_107 : decode cX9_ringsBy 107 = .ok (.iload_n 2, 1) := by decide +kernel
theorem dR_ringsBy_108 : decode cX9_ringsBy 108 = .ok (.invokevirtual 256, 3) := by decide +kernel
theorem dR_ringsBy_111 : decode cX9_ringsBy 111 = .ok (.ireturn, 1) := by decide +kernel
theorem dR_weighsBy_0 : decode cX9_weighsBy 0 = .ok (.iload_n 1, 1) := by decide +kernel
theorem dR_weighsBy_1 : decode cX9_weighsBy 1 = .ok (.tableswitch 119 0 6 #[43, 119, 61, 119, 119, 79, 97], 43) := by decide +kernel
theorem dR_weighsBy_44 : decode cX9_weighsBy 44 = .ok (.aload_n 0, 1) := by decide +kernel
theorem dR_weighsBy_45 : decode cX9_weighsBy 45 = .ok (.bipush 11, 2) := by decide +kernel
theorem dR_weighsBy_47 : decode cX9_weighsBy 47 = .ok (.invokevirtual 250, 3) := by decide +kernel
theorem dR_weighsBy_50 : decode cX9_weighsBy 50 = .ok (.aload_n 0, 1) := by decide +kernel
theorem dR_weighsBy_51 : decode cX9_weighsBy 51 = .ok (.aload_n 0, 1) := by decide +kernel
theorem dR_weighsBy_52 : decode cX9_weighsBy 52 = .ok (.invokevirtual 259, 3) := by decide +kernel
theorem dR_weighsBy_55 : decode cX9_weighsBy 55 = .ok (.iload_n 2, 1) := by decide +kernel
theorem dR_weighsBy_56 : decode cX9_weighsBy 56 = .ok (.invokevirtual 256, 3) := by decide +kernel
theorem dR_weighsBy_59 : decode cX9_weighsBy 59 = .ok (.iconst 2, 1) := by decide +kernel
theorem dR_weighsBy_60 : decode cX9_weighsBy 60 = .ok (.imul, 1) := by decide +kernel
theorem dR_weighsBy_61 : decode cX9_weighsBy 61 = .ok (.ireturn, 1) := by decide +kernel
theorem dR_weighsBy_62 : decode cX9_weighsBy 62 = .ok (.aload_n 0, 1) := by decide +kernel
theorem dR_weighsBy_63 : decode cX9_weighsBy 63 = .ok (.bipush 30, 2) := by decide +kernel
theorem dR_weighsBy_65 : decode cX9_weighsBy 65 = .ok (.invokevirtual 250, 3) := by decide +kernel
theorem dR_weighsBy_68 : decode cX9_weighsBy 68 = .ok (.iconst 0, 1) := by decide +kernel
theorem dR_weighsBy_69 : decode cX9_weighsBy 69 = .ok (.aload_n 0, 1) := by decide +kernel
theorem dR_weighsBy_70 : decode cX9_weighsBy 70 = .ok (.iconst 2, 1) := by decide +kernel
theorem dR_weighsBy_71 : decode cX9_weighsBy 71 = .ok (.invokestatic 253, 3) := by decide +kernel
theorem dR_weighsBy_74 : decode cX9_weighsBy 74 = .ok (.iload_n 2, 1) := by decide +kernel
theorem dR_weighsBy_75 : decode cX9_weighsBy 75 = .ok (.invokevirtual 262, 3) := by decide +kernel
theorem dR_weighsBy_78 : decode cX9_weighsBy 78 = .ok (.isub, 1) := by decide +kernel
theorem dR_weighsBy_79 : decode cX9_weighsBy 79 = .ok (.ireturn, 1) := by decide +kernel
theorem dR_weighsBy_80 : decode cX9_weighsBy 80 = .ok (.aload_n 0, 1) := by decide +kernel
theorem dR_weighsBy_81 : decode cX9_weighsBy 81 = .ok (.bipush 60, 2) := by decide +kernel
theorem dR_weighsBy_83 : decode cX9_weighsBy 83 = .ok (.invokevirtual 250, 3) := by decide +kernel
theorem dR_weighsBy_86 : decode cX9_weighsBy 86 = .ok (.aload_n 0, 1) := by decide +kernel
theorem dR_weighsBy_87 : decode cX9_weighsBy 87 = .ok (.iconst 5, 1) := by decide +kernel
theorem dR_weighsBy_88 : decode cX9_weighsBy 88 = .ok (.invokestatic 253, 3) := by decide +kernel
theorem dR_weighsBy_91 : decode cX9_weighsBy 91 = .ok (.iload_n 2, 1) := by decide +kernel
theorem dR_weighsBy_92 : decode cX9_weighsBy 92 = .ok (.iconst 1, 1) := by decide +kernel
theorem dR_weighsBy_93 : decode cX9_weighsBy 93 = .ok (.iadd, 1) := by decide +kernel
theorem dR_weighsBy_94 : decode cX9_weighsBy 94 = .ok (.invokevirtual 262, 3) := by decide +kernel
theorem dR_weighsBy_97 : decode cX9_weighsBy 97 = .ok (.ireturn, 1) := by decide +kernel
theorem dR_weighsBy_98 : decode cX9_weighsBy 98 = .ok (.aload_n 0, 1) := by decide +kernel
theorem dR_weighsBy_99 : decode cX9_weighsBy 99 = .ok (.bipush 71, 2) := by decide +kernel
theorem dR_weighsBy_101 : decode cX9_weighsBy 101 = .ok (.invokevirtual 250, 3) := by decide +kernel
theorem dR_weighsBy_104 : decode cX9_weighsBy 104 = .ok (.aload_n 0, 1) := by decide +kernel
theorem dR_weighsBy_105 : decode cX9_weighsBy 105 = .ok (.bipush 6, 2) := by decide +kernel
theorem dR_weighsBy_107 : decode cX9_weighsBy 107 = .ok (.invokestatic 253, 3) := by decide +kernel
theorem dR_weighsBy_110 : decode cX9_weighsBy 110 = .ok (.iload_n 2, 1) := by decide +kernel
theorem dR_weighsBy_111 : decode cX9_weighsBy 111 = .ok (.invokevirtual 262, 3) := by decide +kernel
theorem dR_weighsBy_114 : decode cX9_weighsBy 114 = .ok (.aload_n 0, 1) := by decide +kernel
theorem dR_weighsBy_115 : decode cX9_weighsBy 115 = .ok (.invokevirtual 265, 3) := by decide +kernel
theorem dR_weighsBy_118 : decode cX9_weighsBy 118 = .ok (.iadd, 1) := by decide +kernel
theorem dR_weighsBy_119 : decode cX9_weighsBy 119 = .ok (.ireturn, 1) := by decide +kernel
theorem dR_weighsBy_120 : decode cX9_weighsBy 120 = .ok (.aload_n 0, 1) := by decide +kernel
theorem dR_weighsBy_121 : decode cX9_weighsBy 121 = .ok (.iload_n 1, 1) := by decide +kernel
theorem dR_weighsBy_122 : decode cX9_weighsBy 122 = .ok (.invokestatic 253, 3) := by decide +kernel
theorem dR_weighsBy_125 : decode cX9_weighsBy 125 = .ok (.iload_n 2, 1) := by decide +kernel
theorem dR_weighsBy_126 : decode cX9_weighsBy 126 = .ok (.invokevirtual 262, 3) := by decide +kernel
theorem dR_weighsBy_129 : decode cX9_weighsBy 129 = .ok (.ireturn, 1) := by decide +kernel
theorem dR_meltsBy_0 : decode cX9_meltsBy 0 = .ok (.iload_n 1, 1) := by decide +kernel
theorem dR_meltsBy_1 : decode cX9_meltsBy 1 = .ok (.tableswitch 95 0 4 #[35, 95, 95, 56, 74], 35) := by decide +kernel
theorem dR_meltsBy_36 : decode cX9_meltsBy 36 = .ok (.aload_n 0, 1) := by decide +kernel
theorem dR_meltsBy_37 : decode cX9_meltsBy 37 = .ok (.bipush 12, 2) := by decide +kernel
theorem dR_meltsBy_39 : decode cX9_meltsBy 39 = .ok (.invokevirtual 250, 3) := by decide +kernel
theorem dR_meltsBy_42 : decode cX9_meltsBy 42 = .ok (.aload_n 0, 1) := by decide +kernel
theorem dR_meltsBy_43 : decode cX9_meltsBy 43 = .ok (.aload_n 0, 1) := by decide +kernel
theorem dR_meltsBy_44 : decode cX9_meltsBy 44 = .ok (.invokevirtual 259, 3) := by decide +kernel
theorem dR_meltsBy_47 : decode cX9_meltsBy 47 = .ok (.iload_n 2, 1) := by decide +kernel
theorem dR_meltsBy_48 : decode cX9_meltsBy 48 = .ok (.invokevirtual 262, 3) := by decide +kernel
theorem dR_meltsBy_51 : decode cX9_meltsBy 51 = .ok (.aload_n 0, 1) := by decide +kernel
theorem dR_meltsBy_52 : decode cX9_meltsBy 52 = .ok (.invokevirtual 265, 3) := by decide +kernel
theorem dR_meltsBy_55 : decode cX9_meltsBy 55 = .ok (.isub, 1) := by decide +kernel
theorem dR_meltsBy_56 : decode cX9_meltsBy 56 = .ok (.ireturn, 1) := by decide +kernel
theorem dR_meltsBy_57 : decode cX9_meltsBy 57 = .ok (.aload_n 0, 1) := by decide +kernel
theorem dR_meltsBy_58 : decode cX9_meltsBy 58 = .ok (.bipush 40, 2) := by decide +kernel
theorem dR_meltsBy_60 : decode cX9_meltsBy 60 = .ok (.invokevirtual 250, 3) := by decide +kernel
theorem dR_meltsBy_63 : decode cX9_meltsBy 63 = .ok (.aload_n 0, 1) := by decide +kernel
theorem dR_meltsBy_64 : decode cX9_meltsBy 64 = .ok (.iconst 3, 1) := by decide +kernel
theorem dR_meltsBy_65 : decode cX9_meltsBy 65 = .ok (.invokestatic 253, 3) := by decide +kernel
theorem dR_meltsBy_68 : decode cX9_meltsBy 68 = .ok (.iload_n 2, 1) := by decide +kernel
theorem dR_meltsBy_69 : decode cX9_meltsBy 69 = .ok (.iconst 2, 1) := by decide +kernel
theorem dR_meltsBy_70 : decode cX9_meltsBy 70 = .ok (.idiv, 1) := by decide +kernel
theorem dR_meltsBy_71 : decode cX9_meltsBy 71 = .ok (.invokevirtual 268, 3) := by decide +kernel
theorem dR_meltsBy_74 : decode cX9_meltsBy 74 = .ok (.ireturn, 1) := by decide +kernel
theorem dR_meltsBy_75 : decode cX9_meltsBy 75 = .ok (.aload_n 0, 1) := by decide +kernel
theorem dR_meltsBy_76 : decode cX9_meltsBy 76 = .ok (.bipush 51, 2) := by decide +kernel
theorem dR_meltsBy_78 : decode cX9_meltsBy 78 = .ok (.invokevirtual 250, 3) := by decide +kernel
theorem dR_meltsBy_81 : decode cX9_meltsBy 81 = .ok (.aload_n 0, 1) := by decide +kernel
theorem dR_meltsBy_82 : decode cX9_meltsBy 82 = .ok (.iconst 4, 1) := by decide +kernel
theorem dR_meltsBy_83 : decode cX9_meltsBy 83 = .ok (.invokestatic 253, 3) := by decide +kernel
theorem dR_meltsBy_86 : decode cX9_meltsBy 86 = .ok (.iload_n 2, 1) := by decide +kernel
theorem dR_meltsBy_87 : decode cX9_meltsBy 87 = .ok (.invokevirtual 268, 3) := by decide +kernel
theorem dR_meltsBy_90 : decode cX9_meltsBy 90 = .ok (.aload_n 0, 1) := by decide +kernel
theorem dR_meltsBy_91 : decode cX9_meltsBy 91 = .ok (.getfield 247, 3) := by decide +kernel
theorem dR_meltsBy_94 : decode cX9_meltsBy 94 = .ok (.ixor, 1) := by decide +kernel
theorem dR_meltsBy_95 : decode cX9_meltsBy 95 = .ok (.ireturn, 1) := by decide +kernel
theorem dR_meltsBy_96 : decode cX9_meltsBy 96 = .ok (.aload_n 0, 1) := by decide +kernel
theorem dR_meltsBy_97 : decode cX9_meltsBy 97 = .ok (.iload_n 1, 1) := by decide +kernel
theorem dR_meltsBy_98 : decode cX9_meltsBy 98 = .ok (.invokestatic 253, 3) := by decide +kernel
theorem dR_meltsBy_101 : decode cX9_meltsBy 101 = .ok (.iload_n 2, 1) := by decide +kernel
theorem dR_meltsBy_102 : decode cX9_meltsBy 102 = .ok (.invokevirtual 268, 3) := by decide +kernel
theorem dR_meltsBy_105 : decode cX9_meltsBy 105 = .ok (.ireturn, 1) := by decide +kernel
theorem dR_partsBy_0 : decode cX9_partsBy 0 = .ok (.iload_n 1, 1) := by decide +kernel
theorem dR_partsBy_1 : decode cX9_partsBy 1 = .ok (.lookupswitch 119 #[(0, 27), (1, 78)], 27) := by decide +kernel
theorem dR_partsBy_28 : decode cX9_partsBy 28 = .ok (.aload_n 0, 1) := by decide +kernel
theorem dR_partsBy_29 : decode cX9_partsBy 29 = .ok (.bipush 13, 2) := by decide +kernel
theorem dR_partsBy_31 : decode cX9_partsBy 31 = .ok (.invokevirtual 250, 3) := by decide +kernel
theorem dR_partsBy_34 : decode cX9_partsBy 34 = .ok (.aload_n 0, 1) := by decide +kernel
theorem dR_partsBy_35 : decode cX9_partsBy 35 = .ok (.invokevirtual 265, 3) := by decide +kernel
theorem dR_partsBy_38 : decode cX9_partsBy 38 = .ok (.aload_n 0, 1) := by decide +kernel
theorem dR_partsBy_39 : decode cX9_partsBy 39 = .ok (.getfield 247, 3) := by decide +kernel
theorem dR_partsBy_42 : decode cX9_partsBy 42 = .ok (.isub, 1) := by decide +kernel
theorem dR_partsBy_43 : decode cX9_partsBy 43 = .ok (.istore_n 3, 1) := by decide +kernel
theorem dR_partsBy_44 : decode cX9_partsBy 44 = .ok (.aload_n 0, 1) := by decide +kernel
theorem dR_partsBy_45 : decode cX9_partsBy 45 = .ok (.iload_n 3, 1) := by decide +kernel
theorem dR_partsBy_46 : decode cX9_partsBy 46 = .ok (.ifCond .ne 7, 3) := by decide +kernel
theorem dR_partsBy_49 : decode cX9_partsBy 49 = .ok (.iconst 1, 1) := by decide +kernel
theorem dR_partsBy_50 : decode cX9_partsBy 50 = .ok (.goto 4, 3) := by decide +kernel
theorem dR_partsBy_53 : decode cX9_partsBy 53 = .ok (.iconst 0, 1) := by decide +kernel
theorem dR_partsBy_54 : decode cX9_partsBy 54 = .ok (.putfield 271, 3) := by decide +kernel
theorem dR_partsBy_57 : decode cX9_partsBy 57 = .ok (.iload_n 3, 1) := by decide +kernel
theorem dR_partsBy_58 : decode cX9_partsBy 58 = .ok (.ifCond .ne 7, 3) := by decide +kernel
theorem dR_partsBy_61 : decode cX9_partsBy 61 = .ok (.iconst 0, 1) := by decide +kernel
theorem dR_partsBy_62 : decode cX9_partsBy 62 = .ok (.goto 16, 3) := by decide +kernel
theorem dR_partsBy_65 : decode cX9_partsBy 65 = .ok (.iload_n 3, 1) := by decide +kernel
theorem dR_partsBy_66 : decode cX9_partsBy 66 = .ok (.iconst (-1), 1) := by decide +kernel
theorem dR_partsBy_67 : decode cX9_partsBy 67 = .ok (.if_icmp .ne 8, 3) := by decide +kernel
theorem dR_partsBy_70 : decode cX9_partsBy 70 = .ok (.iload_n 2, 1) := by decide +kernel
theorem dR_partsBy_71 : decode cX9_partsBy 71 = .ok (.ineg, 1) := by decide +kernel
theorem dR_partsBy_72 : decode cX9_partsBy 72 = .ok (.goto 6, 3) := by decide +kernel
theorem dR_partsBy_75 : decode cX9_partsBy 75 = .ok (.iload_n 2, 1) := by decide +kernel
theorem dR_partsBy_76 : decode cX9_partsBy 76 = .ok (.iload_n 3, 1) := by decide +kernel
theorem dR_partsBy_77 : decode cX9_partsBy 77 = .ok (.idiv, 1) := by decide +kernel
theorem dR_partsBy_78 : decode cX9_partsBy 78 = .ok (.ireturn, 1) := by decide +kernel
theorem dR_partsBy_79 : decode cX9_partsBy 79 = .ok (.aload_n 0, 1) := by decide +kernel
theorem dR_partsBy_80 : decode cX9_partsBy 80 = .ok (.bipush 21, 2) := by decide +kernel
theorem dR_partsBy_82 : decode cX9_partsBy 82 = .ok (.invokevirtual 250, 3) := by decide +kernel
theorem dR_partsBy_85 : decode cX9_partsBy 85 = .ok (.aload_n 0, 1) := by decide +kernel
theorem dR_partsBy_86 : decode cX9_partsBy 86 = .ok (.iconst 1, 1) := by decide +kernel
theorem dR_partsBy_87 : decode cX9_partsBy 87 = .ok (.invokestatic 253, 3) := by decide +kernel
theorem dR_partsBy_90 : decode cX9_partsBy 90 = .ok (.iload_n 2, 1) := by decide +kernel
theorem dR_partsBy_91 : decode cX9_partsBy 91 = .ok (.invokevirtual 275, 3) := by decide +kernel
theorem dR_partsBy_94 : decode cX9_partsBy 94 = .ok (.istore 4, 2) := by decide +kernel
theorem dR_partsBy_96 : decode cX9_partsBy 96 = .ok (.aload_n 0, 1) := by decide +kernel
theorem dR_partsBy_97 : decode cX9_partsBy 97 = .ok (.getfield 271, 3) := by decide +kernel
theorem dR_partsBy_100 : decode cX9_partsBy 100 = .ok (.ifCond .eq 7, 3) := by decide +kernel
theorem dR_partsBy_103 : decode cX9_partsBy 103 = .ok (.iconst 0, 1) := by decide +kernel
theorem dR_partsBy_104 : decode cX9_partsBy 104 = .ok (.goto 15, 3) := by decide +kernel
theorem dR_partsBy_107 : decode cX9_partsBy 107 = .ok (.iload 4, 2) := by decide +kernel
theorem dR_partsBy_109 : decode cX9_partsBy 109 = .ok (.aload_n 0, 1) := by decide +kernel
theorem dR_partsBy_110 : decode cX9_partsBy 110 = .ok (.aload_n 0, 1) := by decide +kernel
theorem dR_partsBy_111 : decode cX9_partsBy 111 = .ok (.invokevirtual 259, 3) := by decide +kernel
theorem dR_partsBy_114 : decode cX9_partsBy 114 = .ok (.iconst 1, 1) := by decide +kernel
theorem dR_partsBy_115 : decode cX9_partsBy 115 = .ok (.invokevirtual 262, 3) := by decide +kernel
theorem dR_partsBy_118 : decode cX9_partsBy 118 = .ok (.iadd, 1) := by decide +kernel
theorem dR_partsBy_119 : decode cX9_partsBy 119 = .ok (.ireturn, 1) := by decide +kernel
theorem dR_partsBy_120 : decode cX9_partsBy 120 = .ok (.aload_n 0, 1) := by decide +kernel
theorem dR_partsBy_121 : decode cX9_partsBy 121 = .ok (.iload_n 1, 1) := by decide +kernel
theorem dR_partsBy_122 : decode cX9_partsBy 122 = .ok (.invokestatic 253, 3) := by decide +kernel
theorem dR_partsBy_125 : decode cX9_partsBy 125 = .ok (.iload_n 2, 1) := by decide +kernel
theorem dR_partsBy_126 : decode cX9_partsBy 126 = .ok (.invokevirtual 275, 3) := by decide +kernel
theorem dR_partsBy_129 : decode cX9_partsBy 129 = .ok (.ireturn, 1) := by decide +kernel
theorem dR_voice_0 : decode cX9_voice 0 = .ok (.aload_n 0, 1) := by decide +kernel
theorem dR_voice_1 : decode cX9_voice 1 = .ok (.iload_n 1, 1) := by decide +kernel
theorem dR_voice_2 : decode cX9_voice 2 = .ok (.invokevirtual 77, 3) := by decide +kernel
theorem dR_voice_5 : decode cX9_voice 5 = .ok (.ifCond .eq 12, 3) := by decide +kernel
theorem dR_voice_8 : decode cX9_voice 8 = .ok (.iload_n 2, 1) := by decide +kernel
theorem dR_voice_9 : decode cX9_voice 9 = .ok (.iconst 0, 1) := by decide +kernel
theorem dR_voice_10 : decode cX9_voice 10 = .ok (.iconst 3, 1) := by decide +kernel
theorem dR_voice_11 : decode cX9_voice 11 = .ok (.invokestatic 53, 3) := by decide +kernel
theorem dR_voice_14 : decode cX9_voice 14 = .ok (.ifCond .ne 9, 3) := by decide +kernel
theorem dR_voice_17 : decode cX9_voice 17 = .ok (.aload_n 0, 1) := by decide +kernel
theorem dR_voice_18 : decode cX9_voice 18 = .ok (.iconst 1, 1) := by decide +kernel
theorem dR_voice_19 : decode cX9_voice 19 = .ok (.invokevirtual 62, 3) := by decide +kernel
theorem dR_voice_22 : decode cX9_voice 22 = .ok (.ireturn, 1) := by decide +kernel
theorem dR_voice_23 : decode cX9_voice 23 = .ok (.aload_n 0, 1) := by decide +kernel
theorem dR_voice_24 : decode cX9_voice 24 = .ok (.iconst 0, 1) := by decide +kernel
theorem dR_voice_25 : decode cX9_voice 25 = .ok (.putfield 244, 3) := by decide +kernel
theorem dR_voice_28 : decode cX9_voice 28 = .ok (.aload_n 0, 1) := by decide +kernel
theorem dR_voice_29 : decode cX9_voice 29 = .ok (.iload_n 1, 1) := by decide +kernel
theorem dR_voice_30 : decode cX9_voice 30 = .ok (.putfield 247, 3) := by decide +kernel
theorem dR_voice_33 : decode cX9_voice 33 = .ok (.aload_n 0, 1) := by decide +kernel
theorem dR_voice_34 : decode cX9_voice 34 = .ok (.iconst 0, 1) := by decide +kernel
theorem dR_voice_35 : decode cX9_voice 35 = .ok (.putfield 271, 3) := by decide +kernel
theorem dR_voice_38 : decode cX9_voice 38 = .ok (.aload_n 0, 1) := by decide +kernel
theorem dR_voice_39 : decode cX9_voice 39 = .ok (.invokevirtual 259, 3) := by decide +kernel
theorem dR_voice_42 : decode cX9_voice 42 = .ok (.istore 4, 2) := by decide +kernel
theorem dR_voice_44 : decode cX9_voice 44 = .ok (.iload_n 2, 1) := by decide +kernel
theorem dR_voice_45 : decode cX9_voice 45 = .ok (.ifCond .ne 13, 3) := by decide +kernel
theorem dR_voice_48 : decode cX9_voice 48 = .ok (.aload_n 0, 1) := by decide +kernel
theorem dR_voice_49 : decode cX9_voice 49 = .ok (.iload 4, 2) := by decide +kernel
theorem dR_voice_51 : decode cX9_voice 51 = .ok (.iload_n 3, 1) := by decide +kernel
theorem dR_voice_52 : decode cX9_voice 52 = .ok (.invokevirtual 256, 3) := by decide +kernel
theorem dR_voice_55 : decode cX9_voice 55 = .ok (.goto 40, 3) := by decide +kernel
theorem dR_voice_58 : decode cX9_voice 58 = .ok (.iload_n 2, 1) := by decide +kernel
theorem dR_voice_59 : decode cX9_voice 59 = .ok (.iconst 1, 1) := by decide +kernel
theorem dR_voice_60 : decode cX9_voice 60 = .ok (.if_icmp .ne 13, 3) := by decide +kernel
theorem dR_voice_63 : decode cX9_voice 63 = .ok (.aload_n 0, 1) := by decide +kernel
theorem dR_voice_64 : decode cX9_voice 64 = .ok (.iload 4, 2) := by decide +kernel
theorem dR_voice_66 : decode cX9_voice 66 = .ok (.iload_n 3, 1) := by decide +kernel
theorem dR_voice_67 : decode cX9_voice 67 = .ok (.invokevirtual 262, 3) := by decide +kernel
theorem dR_voice_70 : decode cX9_voice 70 = .ok (.goto 25, 3) := by decide +kernel
theorem dR_voice_73 : decode cX9_voice 73 = .ok (.iload_n 2, 1) := by decide +kernel
theorem dR_voice_74 : decode cX9_voice 74 = .ok (.iconst 2, 1) := by decide +kernel
theorem dR_voice_75 : decode cX9_voice 75 = .ok (.if_icmp .ne 13, 3) := by decide +kernel
theorem dR_voice_78 : decode cX9_voice 78 = .ok (.aload_n 0, 1) := by decide +kernel
theorem dR_voice_79 : decode cX9_voice 79 = .ok (.iload 4, 2) := by decide +kernel
theorem dR_voice_81 : decode cX9_voice 81 = .ok (.iload_n 3, 1) := by decide +kernel
theorem dR_voice_82 : decode cX9_voice 82 = .ok (.invokevirtual 268, 3) := by decide +kernel
theorem dR_voice_85 : decode cX9_voice 85 = .ok (.goto 10, 3) := by decide +kernel
theorem dR_voice_88 : decode cX9_voice 88 = .ok (.aload_n 0, 1) := by decide +kernel
theorem dR_voice_89 : decode cX9_voice 89 = .ok (.iload 4, 2) := by decide +kernel
theorem dR_voice_91 : decode cX9_voice 91 = .ok (.iload_n 3, 1) := by decide +kernel
theorem dR_voice_92 : decode cX9_voice 92 = .ok (.invokevirtual 275, 3) := by decide +kernel
theorem dR_voice_95 : decode cX9_voice 95 = .ok (.istore 5, 2) := by decide +kernel
theorem dR_voice_97 : decode cX9_voice 97 = .ok (.aload_n 0, 1) := by decide +kernel
theorem dR_voice_98 : decode cX9_voice 98 = .ok (.getfield 271, 3) := by decide +kernel
theorem dR_voice_101 : decode cX9_voice 101 = .ok (.ifCond .eq 12, 3) := by decide +kernel
theorem dR_voice_104 : decode cX9_voice 104 = .ok (.aload_n 0, 1) := by decide +kernel
theorem dR_voice_105 : decode cX9_voice 105 = .ok (.bipush 6, 2) := by decide +kernel
theorem dR_voice_107 : decode cX9_voice 107 = .ok (.invokevirtual 62, 3) := by decide +kernel
theorem dR_voice_110 : decode cX9_voice 110 = .ok (.goto 5, 3) := by decide +kernel
theorem dR_voice_113 : decode cX9_voice 113 = .ok (.iload 5, 2) := by decide +kernel
theorem dR_voice_115 : decode cX9_voice 115 = .ok (.ireturn, 1) := by decide +kernel
theorem dR_body_0 : decode cX9_body 0 = .ok (.iload_n 1, 1) := by decide +kernel
theorem dR_body_1 : decode cX9_body 1 = .ok (.iconst 0, 1) := by decide +kernel
theorem dR_body_2 : decode cX9_body 2 = .ok (.aload_n 0, 1) := by decide +kernel
theorem dR_body_3 : decode cX9_body 3 = .ok (.getfield 244, 3) := by decide +kernel
theorem dR_body_6 : decode cX9_body 6 = .ok (.iconst 1, 1) := by decide +kernel
theorem dR_body_7 : decode cX9_body 7 = .ok (.isub, 1) := by decide +kernel
theorem dR_body_8 : decode cX9_body 8 = .ok (.invokestatic 53, 3) := by decide +kernel
theorem dR_body_11 : decode cX9_body 11 = .ok (.ifCond .eq 12, 3) := by decide +kernel
theorem dR_body_14 : decode cX9_body 14 = .ok (.aload_n 0, 1) := by decide +kernel
theorem dR_body_15 : decode cX9_body 15 = .ok (.getfield 37, 3) := by decide +kernel
theorem dR_body_18 : decode cX9_body 18 = .ok (.iload_n 1, 1) := by decide +kernel
theorem dR_body_19 : decode cX9_body 19 = .ok (.iaload, 1) := by decide +kernel
theorem dR_body_20 : decode cX9_body 20 = .ok (.goto 8, 3) := by decide +kernel
theorem dR_body_23 : decode cX9_body 23 = .ok (.aload_n 0, 1) := by decide +kernel
theorem dR_body_24 : decode cX9_body 24 = .ok (.iconst 2, 1) := by decide +kernel
theorem dR_body_25 : decode cX9_body 25 = .ok (.invokevirtual 62, 3) := by decide +kernel
theorem dR_body_28 : decode cX9_body 28 = .ok (.ireturn, 1) := by decide +kernel
theorem dR_isSheet_0 : decode cX9_isSheet 0 = .ok (.iload_n 0, 1) := by decide +kernel
theorem dR_isSheet_1 : decode cX9_isSheet 1 = .ok (.iconst 0, 1) := by decide +kernel
theorem dR_isSheet_2 : decode cX9_isSheet 2 = .ok (.iconst 3, 1) := by decide +kernel
theorem dR_isSheet_3 : decode cX9_isSheet 3 = .ok (.invokestatic 53, 3) := by decide +kernel
theorem dR_isSheet_6 : decode cX9_isSheet 6 = .ok (.ireturn, 1) := by decide +kernel
theorem dR_sheet_0 : decode cX9_sheet 0 = .ok (.iload_n 1, 1) := by decide +kernel
theorem dR_sheet_1 : decode cX9_sheet 1 = .ok (.invokestatic 278, 3) := by decide +kernel
theorem dR_sheet_4 : decode cX9_sheet 4 = .ok (.ifCond .eq 25, 3) := by decide +kernel
theorem dR_sheet_7 : decode cX9_sheet 7 = .ok (.iload_n 2, 1) := by decide +kernel
theorem dR_sheet_8 : decode cX9_sheet 8 = .ok (.ifCond .eq 27, 3) := by decide +kernel
theorem dR_sheet_11 : decode cX9_sheet 11 = .ok (.iload_n 2, 1) := by decide +kernel
theorem dR_sheet_12 : decode cX9_sheet 12 = .ok (.bipush 8, 2) := by decide +kernel
theorem dR_sheet_14 : decode cX9_sheet 14 = .ok (.if_icmp .eq 21, 3) := by decide +kernel
theorem dR_sheet_17 : decode cX9_sheet 17 = .ok (.iload_n 2, 1) := by decide +kernel
theorem dR_sheet_18 : decode cX9_sheet 18 = .ok (.bipush 16, 2) := by decide +kernel
theorem dR_sheet_20 : decode cX9_sheet 20 = .ok (.if_icmp .eq 15, 3) := by decide +kernel
theorem dR_sheet_23 : decode cX9_sheet 23 = .ok (.iload_n 2, 1) := by decide +kernel
theorem dR_sheet_24 : decode cX9_sheet 24 = .ok (.bipush 32, 2) := by decide +kernel
theorem dR_sheet_26 : decode cX9_sheet 26 = .ok (.if_icmp .eq 9, 3) := by decide +kernel
theorem dR_sheet_29 : decode cX9_sheet 29 = .ok (.aload_n 0, 1) := by decide +kernel
theorem dR_sheet_30 : decode cX9_sheet 30 = .ok (.iconst 1, 1) := by decide +kernel
theorem dR_sheet_31 : decode cX9_sheet 31 = .ok (.invokevirtual 62, 3) := by decide +kernel
theorem dR_sheet_34 : decode cX9_sheet 34 = .ok (.ireturn, 1) := by decide +kernel
theorem dR_sheet_35 : decode cX9_sheet 35 = .ok (.iload_n 2, 1) := by decide +kernel
theorem dR_sheet_36 : decode cX9_sheet 36 = .ok (.ifCond .eq 13, 3) := by decide +kernel
theorem dR_sheet_39 : decode cX9_sheet 39 = .ok (.iload_n 3, 1) := by decide +kernel
theorem dR_sheet_40 : decode cX9_sheet 40 = .ok (.ifCond .ge 9, 3) := by decide +kernel
theorem dR_sheet_43 : decode cX9_sheet 43 = .ok (.aload_n 0, 1) := by decide +kernel
theorem dR_sheet_44 : decode cX9_sheet 44 = .ok (.iconst 3, 1) := by decide +kernel
theorem dR_sheet_45 : decode cX9_sheet 45 = .ok (.invokevirtual 62, 3) := by decide +kernel
theorem dR_sheet_48 : decode cX9_sheet 48 = .ok (.ireturn, 1) := by decide +kernel
theorem dR_sheet_49 : decode cX9_sheet 49 = .ok (.iload_n 2, 1) := by decide +kernel
theorem dR_sheet_50 : decode cX9_sheet 50 = .ok (.ifCond .eq 15, 3) := by decide +kernel
theorem dR_sheet_53 : decode cX9_sheet 53 = .ok (.iload_n 3, 1) := by decide +kernel
theorem dR_sheet_54 : decode cX9_sheet 54 = .ok (.bipush 24, 2) := by decide +kernel
theorem dR_sheet_56 : decode cX9_sheet 56 = .ok (.if_icmp .le 9, 3) := by decide +kernel
theorem dR_sheet_59 : decode cX9_sheet 59 = .ok (.aload_n 0, 1) := by decide +kernel
theorem dR_sheet_60 : decode cX9_sheet 60 = .ok (.iconst 1, 1) := by decide +kernel
theorem dR_sheet_61 : decode cX9_sheet 61 = .ok (.invokevirtual 62, 3) := by decide +kernel
theorem dR_sheet_64 : decode cX9_sheet 64 = .ok (.ireturn, 1) := by decide +kernel
theorem dR_sheet_65 : decode cX9_sheet 65 = .ok (.aload_n 0, 1) := by decide +kernel
theorem dR_sheet_66 : decode cX9_sheet 66 = .ok (.getfield 40, 3) := by decide +kernel
theorem dR_sheet_69 : decode cX9_sheet 69 = .ok (.iload_n 1, 1) := by decide +kernel
theorem dR_sheet_70 : decode cX9_sheet 70 = .ok (.iload_n 2, 1) := by decide +kernel
theorem dR_sheet_71 : decode cX9_sheet 71 = .ok (.iastore, 1) := by decide +kernel
theorem dR_sheet_72 : decode cX9_sheet 72 = .ok (.aload_n 0, 1) := by decide +kernel
theorem dR_sheet_73 : decode cX9_sheet 73 = .ok (.getfield 43, 3) := by decide +kernel
theorem dR_sheet_76 : decode cX9_sheet 76 = .ok (.iload_n 1, 1) := by decide +kernel
theorem dR_sheet_77 : decode cX9_sheet 77 = .ok (.iload_n 2, 1) := by decide +kernel
theorem dR_sheet_78 : decode cX9_sheet 78 = .ok (.ifCond .ne 7, 3) := by decide +kernel
theorem dR_sheet_81 : decode cX9_sheet 81 = .ok (.iconst 0, 1) := by decide +kernel
theorem dR_sheet_82 : decode cX9_sheet 82 = .ok (.goto 4, 3) := by decide +kernel
theorem dR_sheet_85 : decode cX9_sheet 85 = .ok (.iload_n 3, 1) := by decide +kernel
theorem dR_sheet_86 : decode cX9_sheet 86 = .ok (.iastore, 1) := by decide +kernel
theorem dR_sheet_87 : decode cX9_sheet 87 = .ok (.iconst 0, 1) := by decide +kernel
theorem dR_sheet_88 : decode cX9_sheet 88 = .ok (.istore 4, 2) := by decide +kernel
theorem dR_sheet_90 : decode cX9_sheet 90 = .ok (.iload 4, 2) := by decide +kernel
theorem dR_sheet_92 : decode cX9_sheet 92 = .ok (.bipush 24, 2) := by decide +kernel
theorem dR_sheet_94 : decode cX9_sheet 94 = .ok (.if_icmp .ge 22, 3) := by decide +kernel
theorem dR_sheet_97 : decode cX9_sheet 97 = .ok (.aload_n 0, 1) := by decide +kernel
theorem dR_sheet_98 : decode cX9_sheet 98 = .ok (.getfield 46, 3) := by decide +kernel
theorem dR_sheet_101 : decode cX9_sheet 101 = .ok (.bipush 24, 2) := by decide +kernel
theorem dR_sheet_103 : decode cX9_sheet 103 = .ok (.iload_n 1, 1) := by decide +kernel
theorem dR_sheet_104 : decode cX9_sheet 104 = .ok (.imul, 1) := by decide +kernel
theorem dR_sheet_105 : decode cX9_sheet 105 = .ok (.iload 4, 2) := by decide +kernel
theorem dR_sheet_107 : decode cX9_sheet 107 = .ok (.iadd, 1) := by decide +kernel
theorem dR_sheet_108 : decode cX9_sheet 108 = .ok (.iconst 0, 1) := by decide +kernel
theorem dR_sheet_109 : decode cX9_sheet 109 = .ok (.iastore, 1) := by decide +kernel
theorem dR_sheet_110 : decode cX9_sheet 110 = .ok (.iinc 4 1, 3) := by decide +kernel
theorem dR_sheet_113 : decode cX9_sheet 113 = .ok (.goto (-23), 3) := by decide +kernel
theorem dR_sheet_116 : decode cX9_sheet 116 = .ok (.iconst 1, 1) := by decide +kernel
theorem dR_sheet_117 : decode cX9_sheet 117 = .ok (.ireturn, 1) := by decide +kernel
theorem dR_put_0 : decode cX9_put 0 = .ok (.iload_n 1, 1) := by decide +kernel
theorem dR_put_1 : decode cX9_put 1 = .ok (.invokestatic 278, 3) := by decide +kernel
theorem dR_put_4 : decode cX9_put 4 = .ok (.ifCond .ne 9, 3) := by decide +kernel
theorem dR_put_7 : decode cX9_put 7 = .ok (.aload_n 0, 1) := by decide +kernel
theorem dR_put_8 : decode cX9_put 8 = .ok (.iconst 1, 1) := by decide +kernel
theorem dR_put_9 : decode cX9_put 9 = .ok (.invokevirtual 62, 3) := by decide +kernel
theorem dR_put_12 : decode cX9_put 12 = .ok (.ireturn, 1) := by decide +kernel
theorem dR_put_13 : decode cX9_put 13 = .ok (.aload_n 0, 1) := by decide +kernel
theorem dR_put_14 : decode cX9_put 14 = .ok (.getfield 40, 3) := by decide +kernel
theorem dR_put_17 : decode cX9_put 17 = .ok (.iload_n 1, 1) := by decide +kernel
theorem dR_put_18 : decode cX9_put 18 = .ok (.iaload, 1) := by decide +kernel
theorem dR_put_19 : decode cX9_put 19 = .ok (.ifCond .ne 9, 3) := by decide +kernel
theorem dR_put_22 : decode cX9_put 22 = .ok (.aload_n 0, 1) := by decide +kernel
theorem dR_put_23 : decode cX9_put 23 = .ok (.iconst 2, 1) := by decide +kernel
theorem dR_put_24 : decode cX9_put 24 = .ok (.invokevirtual 62, 3) := by decide +kernel
theorem dR_put_27 : decode cX9_put 27 = .ok (.ireturn, 1) := by decide +kernel
theorem dR_put_28 : decode cX9_put 28 = .ok (.iload_n 2, 1) := by decide +kernel
theorem dR_put_29 : decode cX9_put 29 = .ok (.iconst 0, 1) := by decide +kernel
theorem dR_put_30 : decode cX9_put 30 = .ok (.aload_n 0, 1) := by decide +kernel
theorem dR_put_31 : decode cX9_put 31 = .ok (.getfield 43, 3) := by decide +kernel
theorem dR_put_34 : decode cX9_put 34 = .ok (.iload_n 1, 1) := by decide +kernel
theorem dR_put_35 : decode cX9_put 35 = .ok (.iaload, 1) := by decide +kernel
theorem dR_put_36 : decode cX9_put 36 = .ok (.iconst 1, 1) := by decide +kernel
theorem dR_put_37 : decode cX9_put 37 = .ok (.isub, 1) := by decide +kernel
theorem dR_put_38 : decode cX9_put 38 = .ok (.invokestatic 53, 3) := by decide +kernel
theorem dR_put_41 : decode cX9_put 41 = .ok (.ifCond .ne 9, 3) := by decide +kernel
theorem dR_put_44 : decode cX9_put 44 = .ok (.aload_n 0, 1) := by decide +kernel
theorem dR_put_45 : decode cX9_put 45 = .ok (.iconst 1, 1) := by decide +kernel
theorem dR_put_46 : decode cX9_put 46 = .ok (.invokevirtual 62, 3) := by decide +kernel
theorem dR_put_49 : decode cX9_put 49 = .ok (.ireturn, 1) := by decide +kernel
theorem dR_put_50 : decode cX9_put 50 = .ok (.bipush 32, 2) := by decide +kernel
theorem dR_put_52 : decode cX9_put 52 = .ok (.aload_n 0, 1) := by decide +kernel
theorem dR_put_53 : decode cX9_put 53 = .ok (.getfield 40, 3) := by decide +kernel
theorem dR_put_56 : decode cX9_put 56 = .ok (.iload_n 1, 1) := by decide +kernel
theorem dR_put_57 : decode cX9_put 57 = .ok (.iaload, 1) := by decide +kernel
theorem dR_put_58 : decode cX9_put 58 = .ok (.isub, 1) := by decide +kernel
theorem dR_put_59 : decode cX9_put 59 = .ok (.istore 4, 2) := by decide +kernel
theorem dR_put_61 : decode cX9_put 61 = .ok (.aload_n 0, 1) := by decide +kernel
theorem dR_put_62 : decode cX9_put 62 = .ok (.getfield 46, 3) := by decide +kernel
theorem dR_put_65 : decode cX9_put 65 = .ok (.bipush 24, 2) := by decide +kernel
theorem dR_put_67 : decode cX9_put 67 = .ok (.iload_n 1, 1) := by decide +kernel
theorem dR_put_68 : decode cX9_put 68 = .ok (.imul, 1) := by decide +kernel
theorem dR_put_69 : decode cX9_put 69 = .ok (.iload_n 2, 1) := by decide +kernel
theorem dR_put_70 : decode cX9_put 70 = .ok (.iadd, 1) := by decide +kernel
theorem dR_put_71 : decode cX9_put 71 = .ok (.iload_n 3, 1) := by decide +kernel
theorem dR_put_72 : decode cX9_put 72 = .ok (.iload 4, 2) := by decide +kernel
theorem dR_put_74 : decode cX9_put 74 = .ok (.ishl, 1) := by decide +kernel
theorem dR_put_75 : decode cX9_put 75 = .ok (.iload 4, 2) := by decide +kernel
theorem dR_put_77 : decode cX9_put 77 = .ok (.ishr, 1) := by decide +kernel
theorem dR_put_78 : decode cX9_put 78 = .ok (.iastore, 1) := by decide +kernel
theorem dR_put_79 : decode cX9_put 79 = .ok (.iconst 1, 1) := by decide +kernel
theorem dR_put_80 : decode cX9_put 80 = .ok (.ireturn, 1) := by decide +kernel
theorem dR_move_0 : decode cX9_move 0 = .ok (.iload_n 1, 1) := by decide +kernel
theorem dR_move_1 : decode cX9_move 1 = .ok (.invokestatic 278, 3) := by decide +kernel
theorem dR_move_4 : decode cX9_move 4 = .ok (.ifCond .eq 10, 3) := by decide +kernel
theorem dR_move_7 : decode cX9_move 7 = .ok (.iload_n 3, 1) := by decide +kernel
theorem dR_move_8 : decode cX9_move 8 = .ok (.invokestatic 278, 3) := by decide +kernel
theorem dR_move_11 : decode cX9_move 11 = .ok (.ifCond .ne 9, 3) := by decide +kernel
theorem dR_move_14 : decode cX9_move 14 = .ok (.aload_n 0, 1) := by decide +kernel
theorem dR_move_15 : decode cX9_move 15 = .ok (.iconst 1, 1) := by decide +kernel
theorem dR_move_16 : decode cX9_move 16 = .ok (.invokevirtual 62, 3) := by decide +kernel
theorem dR_move_19 : decode cX9_move 19 = .ok (.ireturn, 1) := by decide +kernel
theorem dR_move_20 : decode cX9_move 20 = .ok (.aload_n 0, 1) := by decide +kernel
theorem dR_move_21 : decode cX9_move 21 = .ok (.getfield 40, 3) := by decide +kernel
theorem dR_move_24 : decode cX9_move 24 = .ok (.iload_n 1, 1) := by decide +kernel
theorem dR_move_25 : decode cX9_move 25 = .ok (.iaload, 1) := by decide +kernel
theorem dR_move_26 : decode cX9_move 26 = .ok (.ifCond .eq 12, 3) := by decide +kernel
theorem dR_move_29 : decode cX9_move 29 = .ok (.aload_n 0, 1) := by decide +kernel
theorem dR_move_30 : decode cX9_move 30 = .ok (.getfield 40, 3) := by decide +kernel
theorem dR_move_33 : decode cX9_move 33 = .ok (.iload_n 3, 1) := by decide +kernel
theorem dR_move_34 : decode cX9_move 34 = .ok (.iaload, 1) := by decide +kernel
theorem dR_move_35 : decode cX9_move 35 = .ok (.ifCond .ne 9, 3) := by decide +kernel
theorem dR_move_38 : decode cX9_move 38 = .ok (.aload_n 0, 1) := by decide +kernel
theorem dR_move_39 : decode cX9_move 39 = .ok (.iconst 2, 1) := by decide +kernel
theorem dR_move_40 : decode cX9_move 40 = .ok (.invokevirtual 62, 3) := by decide +kernel
theorem dR_move_43 : decode cX9_move 43 = .ok (.ireturn, 1) := by decide +kernel
theorem dR_move_44 : decode cX9_move 44 = .ok (.aload_n 0, 1) := by decide +kernel
theorem dR_move_45 : decode cX9_move 45 = .ok (.getfield 40, 3) := by decide +kernel
theorem dR_move_48 : decode cX9_move 48 = .ok (.iload_n 1, 1) := by decide +kernel
theorem dR_move_49 : decode cX9_move 49 = .ok (.iaload, 1) := by decide +kernel
theorem dR_move_50 : decode cX9_move 50 = .ok (.aload_n 0, 1) := by decide +kernel
theorem dR_move_51 : decode cX9_move 51 = .ok (.getfield 40, 3) := by decide +kernel
theorem dR_move_54 : decode cX9_move 54 = .ok (.iload_n 3, 1) := by decide +kernel
theorem dR_move_55 : decode cX9_move 55 = .ok (.iaload, 1) := by decide +kernel
theorem dR_move_56 : decode cX9_move 56 = .ok (.if_icmp .eq 9, 3) := by decide +kernel
theorem dR_move_59 : decode cX9_move 59 = .ok (.aload_n 0, 1) := by decide +kernel
theorem dR_move_60 : decode cX9_move 60 = .ok (.iconst 5, 1) := by decide +kernel
theorem dR_move_61 : decode cX9_move 61 = .ok (.invokevirtual 62, 3) := by decide +kernel
theorem dR_move_64 : decode cX9_move 64 = .ok (.ireturn, 1) := by decide +kernel
theorem dR_move_65 : decode cX9_move 65 = .ok (.iload 5, 2) := by decide +kernel
theorem dR_move_67 : decode cX9_move 67 = .ok (.ifCond .lt 39, 3) := by decide +kernel
theorem dR_move_70 : decode cX9_move 70 = .ok (.iload_n 2, 1) := by decide +kernel
theorem dR_move_71 : decode cX9_move 71 = .ok (.ifCond .lt 35, 3) := by decide +kernel
theorem dR_move_74 : decode cX9_move 74 = .ok (.iload 4, 2) := by decide +kernel
theorem dR_move_76 : decode cX9_move 76 = .ok (.ifCond .lt 30, 3) := by decide +kernel
theorem dR_move_79 : decode cX9_move 79 = .ok (.iload_n 2, 1) := by decide +kernel
theorem dR_move_80 : decode cX9_move 80 = .ok (.aload_n 0, 1) := by decide +kernel
theorem dR_move_81 : decode cX9_move 81 = .ok (.getfield 43, 3) := by decide +kernel
theorem dR_move_84 : decode cX9_move 84 = .ok (.iload_n 1, 1) := by decide +kernel
theorem dR_move_85 : decode cX9_move 85 = .ok (.iaload, 1) := by decide +kernel
theorem dR_move_86 : decode cX9_move 86 = .ok (.iload 5, 2) := by decide +kernel
theorem dR_move_88 : decode cX9_move 88 = .ok (.isub, 1) := by decide +kernel
theorem dR_move_89 : decode cX9_move 89 = .ok (.if_icmp .gt 17, 3) := by decide +kernel
theorem dR_move_92 : decode cX9_move 92 = .ok (.iload 4, 2) := by decide +kernel
theorem dR_move_94 : decode cX9_move 94 = .ok (.aload_n 0, 1) := by decide +kernel
theorem dR_move_95 : decode cX9_move 95 = .ok (.getfield 43, 3) := by decide +kernel
theorem dR_move_98 : decode cX9_move 98 = .ok (.iload_n 3, 1) := by decide +kernel
theorem dR_move_99 : decode cX9_move 99 = .ok (.iaload, 1) := by decide +kernel
theorem dR_move_100 : decode cX9_move 100 = .ok (.iload 5, 2) := by decide +kernel
theorem dR_move_102 : decode cX9_move 102 = .ok (.isub, 1) := by decide +kernel
theorem dR_move_103 : decode cX9_move 103 = .ok (.if_icmp .le 9, 3) := by decide +kernel
theorem dR_move_106 : decode cX9_move 106 = .ok (.aload_n 0, 1) := by decide +kernel
theorem dR_move_107 : decode cX9_move 107 = .ok (.iconst 1, 1) := by decide +kernel
theorem dR_move_108 : decode cX9_move 108 = .ok (.invokevirtual 62, 3) := by decide +kernel
theorem dR_move_111 : decode cX9_move 111 = .ok (.ireturn, 1) := by decide +kernel
theorem dR_move_112 : decode cX9_move 112 = .ok (.iconst 0, 1) := by decide +kernel
theorem dR_move_113 : decode cX9_move 113 = .ok (.istore 6, 2) := by decide +kernel
theorem dR_move_115 : decode cX9_move 115 = .ok (.iload 6, 2) := by decide +kernel
theorem dR_move_117 : decode cX9_move 117 = .ok (.iload 5, 2) := by decide +kernel
theorem dR_move_119 : decode cX9_move 119 = .ok (.if_icmp .ge 30, 3) := by decide +kernel
theorem dR_move_122 : decode cX9_move 122 = .ok (.aload_n 0, 1) := by decide +kernel
theorem dR_move_123 : decode cX9_move 123 = .ok (.getfield 49, 3) := by decide +kernel
theorem dR_move_126 : decode cX9_move 126 = .ok (.iload 6, 2) := by decide +kernel
theorem dR_move_128 : decode cX9_move 128 = .ok (.aload_n 0, 1) := by decide +kernel
theorem dR_move_129 : decode cX9_move 129 = .ok (.getfield 46, 3) := by decide +kernel
theorem dR_move_132 : decode cX9_move 132 = .ok (.bipush 24, 2) := by decide +kernel
theorem dR_move_134 : decode cX9_move 134 = .ok (.iload_n 1, 1) := by decide +kernel
theorem dR_move_135 : decode cX9_move 135 = .ok (.imul, 1) := by decide +kernel
theorem dR_move_136 : decode cX9_move 136 = .ok (.iload_n 2, 1) := by decide +kernel
theorem dR_move_137 : decode cX9_move 137 = .ok (.iadd, 1) := by decide +kernel
theorem dR_move_138 : decode cX9_move 138 = .ok (.iload 6, 2) := by decide +kernel
theorem dR_move_140 : decode cX9_move 140 = .ok (.iadd, 1) := by decide +kernel
theorem dR_move_141 : decode cX9_move 141 = .ok (.iaload, 1) := by decide +kernel
theorem dR_move_142 : decode cX9_move 142 = .ok (.iastore, 1) := by decide +kernel
theorem dR_move_143 : decode cX9_move 143 = .ok (.iinc 6 1, 3) := by decide +kernel
theorem dR_move_146 : decode cX9_move 146 = .ok (.goto (-31), 3) := by decide +kernel
theorem dR_move_149 : decode cX9_move 149 = .ok (.iconst 0, 1) := by decide +kernel
theorem dR_move_150 : decode cX9_move 150 = .ok (.istore 6, 2) := by decide +kernel
theorem dR_move_152 : decode cX9_move 152 = .ok (.iload 6, 2) := by decide +kernel
theorem dR_move_154 : decode cX9_move 154 = .ok (.iload 5, 2) := by decide +kernel
theorem dR_move_156 : decode cX9_move 156 = .ok (.if_icmp .ge 31, 3) := by decide +kernel
theorem dR_move_159 : decode cX9_move 159 = .ok (.aload_n 0, 1) := by decide +kernel
theorem dR_move_160 : decode cX9_move 160 = .ok (.getfield 46, 3) := by decide +kernel
theorem dR_move_163 : decode cX9_move 163 = .ok (.bipush 24, 2) := by decide +kernel
theorem dR_move_165 : decode cX9_move 165 = .ok (.iload_n 3, 1) := by decide +kernel
theorem dR_move_166 : decode cX9_move 166 = .ok (.imul, 1) := by decide +kernel
theorem dR_move_167 : decode cX9_move 167 = .ok (.iload 4, 2) := by decide +kernel
theorem dR_move_169 : decode cX9_move 169 = .ok (.iadd, 1) := by decide +kernel
theorem dR_move_170 : decode cX9_move 170 = .ok (.iload 6, 2) := by decide +kernel
theorem dR_move_172 : decode cX9_move 172 = .ok (.iadd, 1) := by decide +kernel
theorem dR_move_173 : decode cX9_move 173 = .ok (.aload_n 0, 1) := by decide +kernel
theorem dR_move_174 : decode cX9_move 174 = .ok (.getfield 49, 3) := by decide +kernel
theorem dR_move_177 : decode cX9_move 177 = .ok (.iload 6, 2) := by decide +kernel
theorem dR_move_179 : decode cX9_move 179 = .ok (.iaload, 1) := by decide +kernel
theorem dR_move_180 : decode cX9_move 180 = .ok (.iastore, 1) := by decide +kernel
theorem dR_move_181 : decode cX9_move 181 = .ok (.iinc 6 1, 3) := by decide +kernel
theorem dR_move_184 : decode cX9_move 184 = .ok (.goto (-32), 3) := by decide +kernel
theorem dR_move_187 : decode cX9_move 187 = .ok (.iload 5, 2) := by decide +kernel
theorem dR_move_189 : decode cX9_move 189 = .ok (.ireturn, 1) := by decide +kernel
theorem dR_lacks_0 : decode cX9_lacks 0 = .ok (.iload_n 1, 1) := by decide +kernel
theorem dR_lacks_1 : decode cX9_lacks 1 = .ok (.invokestatic 278, 3) := by decide +kernel
theorem dR_lacks_4 : decode cX9_lacks 4 = .ok (.ifCond .ne 7, 3) := by decide +kernel
theorem dR_lacks_7 : decode cX9_lacks 7 = .ok (.iconst 1, 1) := by decide +kernel
theorem dR_lacks_8 : decode cX9_lacks 8 = .ok (.goto 17, 3) := by decide +kernel
theorem dR_lacks_11 : decode cX9_lacks 11 = .ok (.aload_n 0, 1) := by decide +kernel
theorem dR_lacks_12 : decode cX9_lacks 12 = .ok (.getfield 40, 3) := by decide +kernel
theorem dR_lacks_15 : decode cX9_lacks 15 = .ok (.iload_n 1, 1) := by decide +kernel
theorem dR_lacks_16 : decode cX9_lacks 16 = .ok (.iaload, 1) := by decide +kernel
theorem dR_lacks_17 : decode cX9_lacks 17 = .ok (.ifCond .ne 7, 3) := by decide +kernel
theorem dR_lacks_20 : decode cX9_lacks 20 = .ok (.iconst 2, 1) := by decide +kernel
theorem dR_lacks_21 : decode cX9_lacks 21 = .ok (.goto 4, 3) := by decide +kernel
theorem dR_lacks_24 : decode cX9_lacks 24 = .ok (.iconst 0, 1) := by decide +kernel
theorem dR_lacks_25 : decode cX9_lacks 25 = .ok (.ireturn, 1) := by decide +kernel
theorem dR_papers_0 : decode cX9_papers 0 = .ok (.aload_n 0, 1) := by decide +kernel
theorem dR_papers_1 : decode cX9_papers 1 = .ok (.iload_n 1, 1) := by decide +kernel
theorem dR_papers_2 : decode cX9_papers 2 = .ok (.invokevirtual 281, 3) := by decide +kernel
theorem dR_papers_5 : decode cX9_papers 5 = .ok (.istore_n 2, 1) := by decide +kernel
theorem dR_papers_6 : decode cX9_papers 6 = .ok (.iload_n 2, 1) := by decide +kernel
theorem dR_papers_7 : decode cX9_papers 7 = .ok (.ifCond .le 9, 3) := by decide +kernel
theorem dR_papers_10 : decode cX9_papers 10 = .ok (.aload_n 0, 1) := by decide +kernel
theorem dR_papers_11 : decode cX9_papers 11 = .ok (.iload_n 2, 1) := by decide +kernel
theorem dR_papers_12 : decode cX9_papers 12 = .ok (.invokevirtual 62, 3) := by decide +kernel
theorem dR_papers_15 : decode cX9_papers 15 = .ok (.ireturn, 1) := by decide +kernel
theorem dR_papers_16 : decode cX9_papers 16 = .ok (.iconst 0, 1) := by decide +kernel
theorem dR_papers_17 : decode cX9_papers 17 = .ok (.istore_n 3, 1) := by decide +kernel
theorem dR_papers_18 : decode cX9_papers 18 = .ok (.bipush 24, 2) := by decide +kernel
theorem dR_papers_20 : decode cX9_papers 20 = .ok (.iload_n 1, 1) := by decide +kernel
theorem dR_papers_21 : decode cX9_papers 21 = .ok (.imul, 1) := by decide +kernel
theorem dR_papers_22 : decode cX9_papers 22 = .ok (.istore 4, 2) := by decide +kernel
theorem dR_papers_24 : decode cX9_papers 24 = .ok (.iconst 3, 1) := by decide +kernel
theorem dR_papers_25 : decode cX9_papers 25 = .ok (.iload_n 3, 1) := by decide +kernel
theorem dR_papers_26 : decode cX9_papers 26 = .ok (.imul, 1) := by decide +kernel
theorem dR_papers_27 : decode cX9_papers 27 = .ok (.iconst 2, 1) := by decide +kernel
theorem dR_papers_28 : decode cX9_papers 28 = .ok (.iadd, 1) := by decide +kernel
theorem dR_papers_29 : decode cX9_papers 29 = .ok (.aload_n 0, 1) := by decide +kernel
theorem dR_papers_30 : decode cX9_papers 30 = .ok (.getfield 43, 3) := by decide +kernel
theorem dR_papers_33 : decode cX9_papers 33 = .ok (.iload_n 1, 1) := by decide +kernel
theorem dR_papers_34 : decode cX9_papers 34 = .ok (.iaload, 1) := by decide +kernel
theorem dR_papers_35 : decode cX9_papers 35 = .ok (.if_icmp .ge 105, 3) := by decide +kernel
theorem dR_papers_38 : decode cX9_papers 38 = .ok (.aload_n 0, 1) := by decide +kernel
theorem dR_papers_39 : decode cX9_papers 39 = .ok (.getfield 7, 3) := by decide +kernel
theorem dR_papers_42 : decode cX9_papers 42 = .ok (.iconst 3, 1) := by decide +kernel
theorem dR_papers_43 : decode cX9_papers 43 = .ok (.iaload, 1) := by decide +kernel
theorem dR_papers_44 : decode cX9_papers 44 = .ok (.bipush 6, 2) := by decide +kernel
theorem dR_papers_46 : decode cX9_papers 46 = .ok (.if_icmp .ge 94, 3) := by decide +kernel
theorem dR_papers_49 : decode cX9_papers 49 = .ok (.aload_n 0, 1) := by decide +kernel
theorem dR_papers_50 : decode cX9_papers 50 = .ok (.aload_n 0, 1) := by decide +kernel
theorem dR_papers_51 : decode cX9_papers 51 = .ok (.getfield 46, 3) := by decide +kernel
theorem dR_papers_54 : decode cX9_papers 54 = .ok (.iload 4, 2) := by decide +kernel
theorem dR_papers_56 : decode cX9_papers 56 = .ok (.iconst 3, 1) := by decide +kernel
theorem dR_papers_57 : decode cX9_papers 57 = .ok (.iload_n 3, 1) := by decide +kernel
theorem dR_papers_58 : decode cX9_papers 58 = .ok (.imul, 1) := by decide +kernel
theorem dR_papers_59 : decode cX9_papers 59 = .ok (.iadd, 1) := by decide +kernel
theorem dR_papers_60 : decode cX9_papers 60 = .ok (.iaload, 1) := by decide +kernel
theorem dR_papers_61 : decode cX9_papers 61 = .ok (.aload_n 0, 1) := by decide +kernel
theorem dR_papers_62 : decode cX9_papers 62 = .ok (.getfield 46, 3) := by decide +kernel
theorem dR_papers_65 : decode cX9_papers 65 = .ok (.iload 4, 2) := by decide +kernel
theorem dR_papers_67 : decode cX9_papers 67 = .ok (.iconst 3, 1) := by decide +kernel
theorem dR_papers_68 : decode cX9_papers 68 = .ok (.iload_n 3, 1) := by decide +kernel
theorem dR_papers_69 : decode cX9_papers 69 = .ok (.imul, 1) := by decide +kernel
theorem dR_papers_70 : decode cX9_papers 70 = .ok (.iadd, 1) := by decide +kernel
theorem dR_papers_71 : decode cX9_papers 71 = .ok (.iconst 1, 1) := by decide +kernel
theorem dR_papers_72 : decode cX9_papers 72 = .ok (.iadd, 1) := by decide +kernel
theorem dR_papers_73 : decode cX9_papers 73 = .ok (.iaload, 1) := by decide +kernel
theorem dR_papers_74 : decode cX9_papers 74 = .ok (.aload_n 0, 1) := by decide +kernel
theorem dR_papers_75 : decode cX9_papers 75 = .ok (.getfield 46, 3) := by decide +kernel
theorem dR_papers_78 : decode cX9_papers 78 = .ok (.iload 4, 2) := by decide +kernel
theorem dR_papers_80 : decode cX9_papers 80 = .ok (.iconst 3, 1) := by decide +kernel
theorem dR_papers_81 : decode cX9_papers 81 = .ok (.iload_n 3, 1) := by decide +kernel
theorem dR_papers_82 : decode cX9_papers 82 = .ok (.imul, 1) := by decide +kernel
theorem dR_papers_83 : decode cX9_papers 83 = .ok (.iadd, 1) := by decide +kernel
theorem dR_papers_84 : decode cX9_papers 84 = .ok (.iconst 2, 1) := by decide +kernel
theorem dR_papers_85 : decode cX9_papers 85 = .ok (.iadd, 1) := by decide +kernel
theorem dR_papers_86 : decode cX9_papers 86 = .ok (.iaload, 1) := by decide +kernel
theorem dR_papers_87 : decode cX9_papers 87 = .ok (.invokevirtual 205, 3) := by decide +kernel
theorem dR_papers_90 : decode cX9_papers 90 = .ok (.ifCond .eq 50, 3) := by decide +kernel
theorem dR_papers_93 : decode cX9_papers 93 = .ok (.aload_n 0, 1) := by decide +kernel
theorem dR_papers_94 : decode cX9_papers 94 = .ok (.aload_n 0, 1) := by decide +kernel
theorem dR_papers_95 : decode cX9_papers 95 = .ok (.getfield 46, 3) := by decide +kernel
theorem dR_papers_98 : decode cX9_papers 98 = .ok (.iload 4, 2) := by decide +kernel
theorem dR_papers_100 : decode cX9_papers 100 = .ok (.iconst 3, 1) := by decide +kernel
theorem dR_papers_101 : decode cX9_papers 101 = .ok (.iload_n 3, 1) := by decide +kernel
theorem dR_papers_102 : decode cX9_papers 102 = .ok (.imul, 1) := by decide +kernel
theorem dR_papers_103 : decode cX9_papers 103 = .ok (.iadd, 1) := by decide +kernel
theorem dR_papers_104 : decode cX9_papers 104 = .ok (.iaload, 1) := by decide +kernel
theorem dR_papers_105 : decode cX9_papers 105 = .ok (.aload_n 0, 1) := by decide +kernel
theorem dR_papers_106 : decode cX9_papers 106 = .ok (.getfield 46, 3) := by decide +kernel
theorem dR_papers_109 : decode cX9_papers 109 = .ok (.iload 4, 2) := by decide +kernel
theorem dR_papers_111 : decode cX9_papers 111 = .ok (.iconst 3, 1) := by decide +kernel
theorem dR_papers_112 : decode cX9_papers 112 = .ok (.iload_n 3, 1) := by decide +kernel
theorem dR_papers_113 : decode cX9_papers 113 = .ok (.imul, 1) := by decide +kernel
theorem dR_papers_114 : decode cX9_papers 114 = .ok (.iadd, 1) := by decide +kernel
theorem dR_papers_115 : decode cX9_papers 115 = .ok (.iconst 1, 1) := by decide +kernel
theorem dR_papers_116 : decode cX9_papers 116 = .ok (.iadd, 1) := by decide +kernel
theorem dR_papers_117 : decode cX9_papers 117 = .ok (.iaload, 1) := by decide +kernel
theorem dR_papers_118 : decode cX9_papers 118 = .ok (.aload_n 0, 1) := by decide +kernel
theorem dR_papers_119 : decode cX9_papers 119 = .ok (.getfield 46, 3) := by decide +kernel
theorem dR_papers_122 : decode cX9_papers 122 = .ok (.iload 4, 2) := by decide +kernel
theorem dR_papers_124 : decode cX9_papers 124 = .ok (.iconst 3, 1) := by decide +kernel
theorem dR_papers_125 : decode cX9_papers 125 = .ok (.iload_n 3, 1) := by decide +kernel
theorem dR_papers_126 : decode cX9_papers 126 = .ok (.imul, 1) := by decide +kernel
theorem dR_papers_127 : decode cX9_papers 127 = .ok (.iadd, 1) := by decide +kernel
theorem dR_papers_128 : decode cX9_papers 128 = .ok (.iconst 2, 1) := by decide +kernel
theorem dR_papers_129 : decode cX9_papers 129 = .ok (.iadd, 1) := by decide +kernel
theorem dR_papers_130 : decode cX9_papers 130 = .ok (.iaload, 1) := by decide +kernel
theorem dR_papers_131 : decode cX9_papers 131 = .ok (.invokevirtual 208, 3) := by decide +kernel
theorem dR_papers_134 : decode cX9_papers 134 = .ok (.iinc 3 1, 3) := by decide +kernel
theorem dR_papers_137 : decode cX9_papers 137 = .ok (.goto (-113), 3) := by decide +kernel
theorem dR_papers_140 : decode cX9_papers 140 = .ok (.iload_n 3, 1) := by decide +kernel
theorem dR_papers_141 : decode cX9_papers 141 = .ok (.ireturn, 1) := by decide +kernel
theorem dR_judge_0 : decode cX9_judge 0 = .ok (.aload_n 0, 1) := by decide +kernel
theorem dR_judge_1 : decode cX9_judge 1 = .ok (.iload_n 2, 1) := by decide +kernel
theorem dR_judge_2 : decode cX9_judge 2 = .ok (.invokevirtual 217, 3) := by decide +kernel
theorem dR_judge_5 : decode cX9_judge 5 = .ok (.ifCond .eq 11, 3) := by decide +kernel
theorem dR_judge_8 : decode cX9_judge 8 = .ok (.aload_n 0, 1) := by decide +kernel
theorem dR_judge_9 : decode cX9_judge 9 = .ok (.iload_n 1, 1) := by decide +kernel
theorem dR_judge_10 : decode cX9_judge 10 = .ok (.invokevirtual 281, 3) := by decide +kernel
theorem dR_judge_13 : decode cX9_judge 13 = .ok (.goto 4, 3) := by decide +kernel
theorem dR_judge_16 : decode cX9_judge 16 = .ok (.iconst 1, 1) := by decide +kernel
theorem dR_judge_17 : decode cX9_judge 17 = .ok (.istore_n 3, 1) := by decide +kernel
theorem dR_judge_18 : decode cX9_judge 18 = .ok (.iload_n 3, 1) := by decide +kernel
theorem dR_judge_19 : decode cX9_judge 19 = .ok (.ifCond .le 9, 3) := by decide +kernel
theorem dR_judge_22 : decode cX9_judge 22 = .ok (.aload_n 0, 1) := by decide +kernel
theorem dR_judge_23 : decode cX9_judge 23 = .ok (.iload_n 3, 1) := by decide +kernel
theorem dR_judge_24 : decode cX9_judge 24 = .ok (.invokevirtual 62, 3) := by decide +kernel
theorem dR_judge_27 : decode cX9_judge 27 = .ok (.ireturn, 1) := by decide +kernel
theorem dR_judge_28 : decode cX9_judge 28 = .ok (.aload_n 0, 1) := by decide +kernel
theorem dR_judge_29 : decode cX9_judge 29 = .ok (.getfield 7, 3) := by decide +kernel
theorem dR_judge_32 : decode cX9_judge 32 = .ok (.aload_n 0, 1) := by decide +kernel
theorem dR_judge_33 : decode cX9_judge 33 = .ok (.getfield 16, 3) := by decide +kernel
theorem dR_judge_36 : decode cX9_judge 36 = .ok (.invokestatic 117, 3) := by decide +kernel
theorem dR_judge_39 : decode cX9_judge 39 = .ok (.aload_n 0, 1) := by decide +kernel
theorem dR_judge_40 : decode cX9_judge 40 = .ok (.iload_n 2, 1) := by decide +kernel
theorem dR_judge_41 : decode cX9_judge 41 = .ok (.invokevirtual 214, 3) := by decide +kernel
theorem dR_judge_44 : decode cX9_judge 44 = .ok (.iconst 0, 1) := by decide +kernel
theorem dR_judge_45 : decode cX9_judge 45 = .ok (.istore 4, 2) := by decide +kernel
theorem dR_judge_47 : decode cX9_judge 47 = .ok (.iload 4, 2) := by decide +kernel
theorem dR_judge_49 : decode cX9_judge 49 = .ok (.aload_n 0, 1) := by decide +kernel
theorem dR_judge_50 : decode cX9_judge 50 = .ok (.getfield 7, 3) := by decide +kernel
theorem dR_judge_53 : decode cX9_judge 53 = .ok (.iconst 0, 1) := by decide +kernel
theorem dR_judge_54 : decode cX9_judge 54 = .ok (.iaload, 1) := by decide +kernel
theorem dR_judge_55 : decode cX9_judge 55 = .ok (.if_icmp .ge 42, 3) := by decide +kernel
theorem dR_judge_58 : decode cX9_judge 58 = .ok (.iload 4, 2) := by decide +kernel
theorem dR_judge_60 : decode cX9_judge 60 = .ok (.aload_n 0, 1) := by decide +kernel
theorem dR_judge_61 : decode cX9_judge 61 = .ok (.getfield 43, 3) := by decide +kernel
theorem dR_judge_64 : decode cX9_judge 64 = .ok (.iload_n 1, 1) := by decide +kernel
theorem dR_judge_65 : decode cX9_judge 65 = .ok (.iaload, 1) := by decide +kernel
theorem dR_judge_66 : decode cX9_judge 66 = .ok (.if_icmp .ge 31, 3) := by decide +kernel
theorem dR_judge_69 : decode cX9_judge 69 = .ok (.aload_n 0, 1) := by decide +kernel
theorem dR_judge_70 : decode cX9_judge 70 = .ok (.getfield 46, 3) := by decide +kernel
theorem dR_judge_73 : decode cX9_judge 73 = .ok (.bipush 24, 2) := by decide +kernel
theorem dR_judge_75 : decode cX9_judge 75 = .ok (.iload_n 1, 1) := by decide +kernel
theorem dR_judge_76 : decode cX9_judge 76 = .ok (.imul, 1) := by decide +kernel
theorem dR_judge_77 : decode cX9_judge 77 = .ok (.iload 4, 2) := by decide +kernel
theorem dR_judge_79 : decode cX9_judge 79 = .ok (.iadd, 1) := by decide +kernel
theorem dR_judge_80 : decode cX9_judge 80 = .ok (.iaload, 1) := by decide +kernel
theorem dR_judge_81 : decode cX9_judge 81 = .ok (.aload_n 0, 1) := by decide +kernel
theorem dR_judge_82 : decode cX9_judge 82 = .ok (.iload 4, 2) := by decide +kernel
theorem dR_judge_84 : decode cX9_judge 84 = .ok (.iconst 2, 1) := by decide +kernel
theorem dR_judge_85 : decode cX9_judge 85 = .ok (.invokevirtual 73, 3) := by decide +kernel
theorem dR_judge_88 : decode cX9_judge 88 = .ok (.if_icmp .ne 9, 3) := by decide +kernel
theorem dR_judge_91 : decode cX9_judge 91 = .ok (.iinc 4 1, 3) := by decide +kernel
theorem dR_judge_94 : decode cX9_judge 94 = .ok (.goto (-47), 3) := by decide +kernel
theorem dR_judge_97 : decode cX9_judge 97 = .ok (.aload_n 0, 1) := by decide +kernel
theorem dR_judge_98 : decode cX9_judge 98 = .ok (.getfield 16, 3) := by decide +kernel
theorem dR_judge_101 : decode cX9_judge 101 = .ok (.aload_n 0, 1) := by decide +kernel
theorem dR_judge_102 : decode cX9_judge 102 = .ok (.getfield 7, 3) := by decide +kernel
theorem dR_judge_105 : decode cX9_judge 105 = .ok (.invokestatic 117, 3) := by decide +kernel
theorem dR_judge_108 : decode cX9_judge 108 = .ok (.iload 4, 2) := by decide +kernel
theorem dR_judge_110 : decode cX9_judge 110 = .ok (.ireturn, 1) := by decide +kernel
theorem dR_image_0 : decode cX9_image 0 = .ok (.aload_n 0, 1) := by decide +kernel
theorem dR_image_1 : decode cX9_image 1 = .ok (.getfield 7, 3) := by decide +kernel
theorem dR_image_4 : decode cX9_image 4 = .ok (.aload_n 0, 1) := by decide +kernel
theorem dR_image_5 : decode cX9_image 5 = .ok (.getfield 13, 3) := by decide +kernel
theorem dR_image_8 : decode cX9_image 8 = .ok (.invokestatic 117, 3) := by decide +kernel
theorem dR_image_11 : decode cX9_image 11 = .ok (.aload_n 0, 1) := by decide +kernel
theorem dR_image_12 : decode cX9_image 12 = .ok (.dup, 1) := by decide +kernel
theorem dR_image_13 : decode cX9_image 13 = .ok (.getfield 284, 3) := by decide +kernel
theorem dR_image_16 : decode cX9_image 16 = .ok (.iconst 1, 1) := by decide +kernel
theorem dR_image_17 : decode cX9_image 17 = .ok (.iadd, 1) := by decide +kernel
theorem dR_image_18 : decode cX9_image 18 = .ok (.putfield 284, 3) := by decide +kernel
theorem dR_image_21 : decode cX9_image 21 = .ok (.aload_n 0, 1) := by decide +kernel
theorem dR_image_22 : decode cX9_image 22 = .ok (.getfield 284, 3) := by decide +kernel
theorem dR_image_25 : decode cX9_image 25 = .ok (.ireturn, 1) := by decide +kernel
theorem dR_restore_0 : decode cX9_restore 0 = .ok (.aload_n 0, 1) := by decide +kernel
theorem dR_restore_1 : decode cX9_restore 1 = .ok (.getfield 284, 3) := by decide +kernel
theorem dR_restore_4 : decode cX9_restore 4 = .ok (.ifCond .ne 9, 3) := by decide +kernel
theorem dR_restore_7 : decode cX9_restore 7 = .ok (.aload_n 0, 1) := by decide +kernel
theorem dR_restore_8 : decode cX9_restore 8 = .ok (.iconst 2, 1) := by decide +kernel
theorem dR_restore_9 : decode cX9_restore 9 = .ok (.invokevirtual 62, 3) := by decide +kernel
theorem dR_restore_12 : decode cX9_restore 12 = .ok (.ireturn, 1) := by decide +kernel
theorem dR_restore_13 : decode cX9_restore 13 = .ok (.aload_n 0, 1) := by decide +kernel
theorem dR_restore_14 : decode cX9_restore 14 = .ok (.getfield 13, 3) := by decide +kernel
theorem dR_restore_17 : decode cX9_restore 17 = .ok (.aload_n 0, 1) := by decide +kernel
theorem dR_restore_18 : decode cX9_restore 18 = .ok (.getfield 7, 3) := by decide +kernel
theorem dR_restore_21 : decode cX9_restore 21 = .ok (.invokestatic 117, 3) := by decide +kernel
theorem dR_restore_24 : decode cX9_restore 24 = .ok (.aload_n 0, 1) := by decide +kernel
theorem dR_restore_25 : decode cX9_restore 25 = .ok (.getfield 7, 3) := by decide +kernel
theorem dR_restore_28 : decode cX9_restore 28 = .ok (.iconst 5, 1) := by decide +kernel
theorem dR_restore_29 : decode cX9_restore 29 = .ok (.iaload, 1) := by decide +kernel
theorem dR_restore_30 : decode cX9_restore 30 = .ok (.ireturn, 1) := by decide +kernel
theorem dR_tell_0 : decode cX9_tell 0 = .ok (.aload_n 0, 1) := by decide +kernel
theorem dR_tell_1 : decode cX9_tell 1 = .ok (.getfield 7, 3) := by decide +kernel
theorem dR_tell_4 : decode cX9_tell 4 = .ok (.bipush 7, 2) := by decide +kernel
theorem dR_tell_6 : decode cX9_tell 6 = .ok (.iaload, 1) := by decide +kernel
theorem dR_tell_7 : decode cX9_tell 7 = .ok (.bipush 24, 2) := by decide +kernel
theorem dR_tell_9 : decode cX9_tell 9 = .ok (.if_icmp .ne 9, 3) := by decide +kernel
theorem dR_tell_12 : decode cX9_tell 12 = .ok (.aload_n 0, 1) := by decide +kernel
theorem dR_tell_13 : decode cX9_tell 13 = .ok (.iconst 4, 1) := by decide +kernel
theorem dR_tell_14 : decode cX9_tell 14 = .ok (.invokevirtual 62, 3) := by decide +kernel
theorem dR_tell_17 : decode cX9_tell 17 = .ok (.ireturn, 1) := by decide +kernel
theorem dR_tell_18 : decode cX9_tell 18 = .ok (.aload_n 0, 1) := by decide +kernel
theorem dR_tell_19 : decode cX9_tell 19 = .ok (.getfield 7, 3) := by decide +kernel
theorem dR_tell_22 : decode cX9_tell 22 = .ok (.sipush 512, 3) := by decide +kernel
theorem dR_tell_25 : decode cX9_tell 25 = .ok (.aload_n 0, 1) := by decide +kernel
theorem dR_tell_26 : decode cX9_tell 26 = .ok (.getfield 7, 3) := by decide +kernel
theorem dR_tell_29 : decode cX9_tell 29 = .ok (.bipush 7, 2) := by decide +kernel
theorem dR_tell_31 : decode cX9_tell 31 = .ok (.iaload, 1) := by decide +kernel
theorem dR_tell_32 : decode cX9_tell 32 = .ok (.iadd, 1) := by decide +kernel
theorem dR_tell_33 : decode cX9_tell 33 = .ok (.iload_n 1, 1) := by decide +kernel
theorem dR_tell_34 : decode cX9_tell 34 = .ok (.iastore, 1) := by decide +kernel
theorem dR_tell_35 : decode cX9_tell 35 = .ok (.aload_n 0, 1) := by decide +kernel
theorem dR_tell_36 : decode cX9_tell 36 = .ok (.getfield 7, 3) := by decide +kernel
theorem dR_tell_39 : decode cX9_tell 39 = .ok (.bipush 7, 2) := by decide +kernel
theorem dR_tell_41 : decode cX9_tell 41 = .ok (.dup2, 1) := by decide +kernel
theorem dR_tell_42 : decode cX9_tell 42 = .ok (.iaload, 1) := by decide +kernel
theorem dR_tell_43 : decode cX9_tell 43 = .ok (.iconst 1, 1) := by decide +kernel
theorem dR_tell_44 : decode cX9_tell 44 = .ok (.iadd, 1) := by decide +kernel
theorem dR_tell_45 : decode cX9_tell 45 = .ok (.iastore, 1) := by decide +kernel
theorem dR_tell_46 : decode cX9_tell 46 = .ok (.aload_n 0, 1) := by decide +kernel
theorem dR_tell_47 : decode cX9_tell 47 = .ok (.getfield 7, 3) := by decide +kernel
theorem dR_tell_50 : decode cX9_tell 50 = .ok (.bipush 7, 2) := by decide +kernel
theorem dR_tell_52 : decode cX9_tell 52 = .ok (.iaload, 1) := by decide +kernel
theorem dR_tell_53 : decode cX9_tell 53 = .ok (.ireturn, 1) := by decide +kernel
theorem dR_check_0 : decode cX9_check 0 = .ok (.aload_n 0, 1) := by decide +kernel
theorem dR_check_1 : decode cX9_check 1 = .ok (.getfield 7, 3) := by decide +kernel
theorem dR_check_4 : decode cX9_check 4 = .ok (.bipush 7, 2) := by decide +kernel
theorem dR_check_6 : decode cX9_check 6 = .ok (.iaload, 1) := by decide +kernel
theorem dR_check_7 : decode cX9_check 7 = .ok (.istore_n 1, 1) := by decide +kernel
theorem dR_check_8 : decode cX9_check 8 = .ok (.aload_n 0, 1) := by decide +kernel
theorem dR_check_9 : decode cX9_check 9 = .ok (.getfield 7, 3) := by decide +kernel
theorem dR_check_12 : decode cX9_check 12 = .ok (.bipush 7, 2) := by decide +kernel
theorem dR_check_14 : decode cX9_check 14 = .ok (.iconst 0, 1) := by decide +kernel
theorem dR_check_15 : decode cX9_check 15 = .ok (.iastore, 1) := by decide +kernel
theorem dR_check_16 : decode cX9_check 16 = .ok (.aload_n 0, 1) := by decide +kernel
theorem dR_check_17 : decode cX9_check 17 = .ok (.invokevirtual 229, 3) := by decide +kernel
theorem dR_check_20 : decode cX9_check 20 = .ok (.iconst 0, 1) := by decide +kernel
theorem dR_check_21 : decode cX9_check 21 = .ok (.istore_n 2, 1) := by decide +kernel
theorem dR_check_22 : decode cX9_check 22 = .ok (.iload_n 2, 1) := by decide +kernel
theorem dR_check_23 : decode cX9_check 23 = .ok (.iload_n 1, 1) := by decide +kernel
theorem dR_check_24 : decode cX9_check 24 = .ok (.if_icmp .ge 36, 3) := by decide +kernel
theorem dR_check_27 : decode cX9_check 27 = .ok (.iload_n 2, 1) := by decide +kernel
theorem dR_check_28 : decode cX9_check 28 = .ok (.aload_n 0, 1) := by decide +kernel
theorem dR_check_29 : decode cX9_check 29 = .ok (.getfield 223, 3) := by decide +kernel
theorem dR_check_32 : decode cX9_check 32 = .ok (.if_icmp .ge 28, 3) := by decide +kernel
theorem dR_check_35 : decode cX9_check 35 = .ok (.aload_n 0, 1) := by decide +kernel
theorem dR_check_36 : decode cX9_check 36 = .ok (.getfield 7, 3) := by decide +kernel
theorem dR_check_39 : decode cX9_check 39 = .ok (.sipush 512, 3) := by decide +kernel
theorem dR_check_42 : decode cX9_check 42 = .ok (.iload_n 2, 1) := by decide +kernel
theorem dR_check_43 : decode cX9_check 43 = .ok (.iadd, 1) := by decide +kernel
theorem dR_check_44 : decode cX9_check 44 = .ok (.iaload, 1) := by decide +kernel
theorem dR_check_45 : decode cX9_check 45 = .ok (.aload_n 0, 1) := by decide +kernel
theorem dR_check_46 : decode cX9_check 46 = .ok (.getfield 31, 3) := by decide +kernel
theorem dR_check_49 : decode cX9_check 49 = .ok (.iload_n 2, 1) := by decide +kernel
theorem dR_check_50 : decode cX9_check 50 = .ok (.iaload, 1) := by decide +kernel
theorem dR_check_51 : decode cX9_check 51 = .ok (.if_icmp .ne 9, 3) := by decide +kernel
theorem dR_check_54 : decode cX9_check 54 = .ok (.iinc 2 1, 3) := by decide +kernel
theorem dR_check_57 : decode cX9_check 57 = .ok (.goto (-35), 3) := by decide +kernel
theorem dR_check_60 : decode cX9_check 60 = .ok (.iload_n 2, 1) := by decide +kernel
theorem dR_check_61 : decode cX9_check 61 = .ok (.iload_n 1, 1) := by decide +kernel
theorem dR_check_62 : decode cX9_check 62 = .ok (.if_icmp .ne 15, 3) := by decide +kernel
theorem dR_check_65 : decode cX9_check 65 = .ok (.iload_n 2, 1) := by decide +kernel
theorem dR_check_66 : decode cX9_check 66 = .ok (.aload_n 0, 1) := by decide +kernel
theorem dR_check_67 : decode cX9_check 67 = .ok (.getfield 223, 3) := by decide +kernel
theorem dR_check_70 : decode cX9_check 70 = .ok (.if_icmp .ne 7, 3) := by decide +kernel
theorem dR_check_73 : decode cX9_check 73 = .ok (.iconst 0, 1) := by decide +kernel
theorem dR_check_74 : decode cX9_check 74 = .ok (.goto 6, 3) := by decide +kernel
theorem dR_check_77 : decode cX9_check 77 = .ok (.iconst 1, 1) := by decide +kernel
theorem dR_check_78 : decode cX9_check 78 = .ok (.iload_n 2, 1) := by decide +kernel
theorem dR_check_79 : decode cX9_check 79 = .ok (.iadd, 1) := by decide +kernel
theorem dR_check_80 : decode cX9_check 80 = .ok (.ireturn, 1) := by decide +kernel
theorem dR_count_0 : decode cX9_count 0 = .ok (.iload_n 1, 1) := by decide +kernel
theorem dR_count_1 : decode cX9_count 1 = .ok (.tableswitch 135 0 10 #[59, 66, 73, 80, 87, 94, 99, 106, 114, 122, 127], 59) := by decide +kernel
theorem dR_count_60 : decode cX9_count 60 = .ok (.aload_n 0, 1) := by decide +kernel
theorem dR_count_61 : decode cX9_count 61 = .ok (.getfield 7, 3) := by decide +kernel
theorem dR_count_64 : decode cX9_count 64 = .ok (.iconst 0, 1) := by decide +kernel
theorem dR_count_65 : decode cX9_count 65 = .ok (.iaload, 1) := by decide +kernel
theorem dR_count_66 : decode cX9_count 66 = .ok (.ireturn, 1) := by decide +kernel
theorem dR_count_67 : decode cX9_count 67 = .ok (.aload_n 0, 1) := by decide +kernel
theorem dR_count_68 : decode cX9_count 68 = .ok (.getfield 7, 3) := by decide +kernel
theorem dR_count_71 : decode cX9_count 71 = .ok (.iconst 1, 1) := by decide +kernel
theorem dR_count_72 : decode cX9_count 72 = .ok (.iaload, 1) := by decide +kernel
theorem dR_count_73 : decode cX9_count 73 = .ok (.ireturn, 1) := by decide +kernel
theorem dR_count_74 : decode cX9_count 74 = .ok (.aload_n 0, 1) := by decide +kernel
theorem dR_count_75 : decode cX9_count 75 = .ok (.getfield 7, 3) := by decide +kernel
theorem dR_count_78 : decode cX9_count 78 = .ok (.iconst 2, 1) := by decide +kernel
theorem dR_count_79 : decode cX9_count 79 = .ok (.iaload, 1) := by decide +kernel
theorem dR_count_80 : decode cX9_count 80 = .ok (.ireturn, 1) := by decide +kernel
theorem dR_count_81 : decode cX9_count 81 = .ok (.aload_n 0, 1) := by decide +kernel
theorem dR_count_82 : decode cX9_count 82 = .ok (.getfield 7, 3) := by decide +kernel
theorem dR_count_85 : decode cX9_count 85 = .ok (.iconst 3, 1) := by decide +kernel
theorem dR_count_86 : decode cX9_count 86 = .ok (.iaload, 1) := by decide +kernel
theorem dR_count_87 : decode cX9_count 87 = .ok (.ireturn, 1) := by decide +kernel
theorem dR_count_88 : decode cX9_count 88 = .ok (.aload_n 0, 1) := by decide +kernel
theorem dR_count_89 : decode cX9_count 89 = .ok (.getfield 7, 3) := by decide +kernel
theorem dR_count_92 : decode cX9_count 92 = .ok (.iconst 4, 1) := by decide +kernel
theorem dR_count_93 : decode cX9_count 93 = .ok (.iaload, 1) := by decide +kernel
theorem dR_count_94 : decode cX9_count 94 = .ok (.ireturn, 1) := by decide +kernel
theorem dR_count_95 : decode cX9_count 95 = .ok (.aload_n 0, 1) := by decide +kernel
theorem dR_count_96 : decode cX9_count 96 = .ok (.invokevirtual 114, 3) := by decide +kernel
theorem dR_count_99 : decode cX9_count 99 = .ok (.ireturn, 1) := by decide +kernel
theorem dR_count_100 : decode cX9_count 100 = .ok (.aload_n 0, 1) := by decide +kernel
theorem dR_count_101 : decode cX9_count 101 = .ok (.getfield 7, 3) := by decide +kernel
theorem dR_count_104 : decode cX9_count 104 = .ok (.iconst 5, 1) := by decide +kernel
theorem dR_count_105 : decode cX9_count 105 = .ok (.iaload, 1) := by decide +kernel
theorem dR_count_106 : decode cX9_count 106 = .ok (.ireturn, 1) := by decide +kernel
theorem dR_count_107 : decode cX9_count 107 = .ok (.aload_n 0, 1) := by decide +kernel
theorem dR_count_108 : decode cX9_count 108 = .ok (.getfield 7, 3) := by decide +kernel
theorem dR_count_111 : decode cX9_count 111 = .ok (.bipush 6, 2) := by decide +kernel
theorem dR_count_113 : decode cX9_count 113 = .ok (.iaload, 1) := by decide +kernel
theorem dR_count_114 : decode cX9_count 114 = .ok (.ireturn, 1) := by decide +kernel
theorem dR_count_115 : decode cX9_count 115 = .ok (.aload_n 0, 1) := by decide +kernel
theorem dR_count_116 : decode cX9_count 116 = .ok (.getfield 7, 3) := by decide +kernel
theorem dR_count_119 : decode cX9_count 119 = .ok (.bipush 7, 2) := by decide +kernel
theorem dR_count_121 : decode cX9_count 121 = .ok (.iaload, 1) := by decide +kernel
theorem dR_count_122 : decode cX9_count 122 = .ok (.ireturn, 1) := by decide +kernel
theorem dR_count_123 : decode cX9_count 123 = .ok (.aload_n 0, 1) := by decide +kernel
theorem dR_count_124 : decode cX9_count 124 = .ok (.getfield 244, 3) := by decide +kernel
theorem dR_count_127 : decode cX9_count 127 = .ok (.ireturn, 1) := by decide +kernel
theorem dR_count_128 : decode cX9_count 128 = .ok (.aload_n 0, 1) := by decide +kernel
theorem dR_count_129 : decode cX9_count 129 = .ok (.getfield 7, 3) := by decide +kernel
theorem dR_count_132 : decode cX9_count 132 = .ok (.bipush 8, 2) := by decide +kernel
theorem dR_count_134 : decode cX9_count 134 = .ok (.iaload, 1) := by decide +kernel
theorem dR_count_135 : decode cX9_count 135 = .ok (.ireturn, 1) := by decide +kernel
theorem dR_count_136 : decode cX9_count 136 = .ok (.aload_n 0, 1) := by decide +kernel
theorem dR_count_137 : decode cX9_count 137 = .ok (.iconst 1, 1) := by decide +kernel
theorem dR_count_138 : decode cX9_count 138 = .ok (.invokevirtual 62, 3) := by decide +kernel
theorem dR_count_141 : decode cX9_count 141 = .ok (.ireturn, 1) := by decide +kernel
theorem dR_told_0 : decode cX9_told 0 = .ok (.iload_n 1, 1) := by decide +kernel
theorem dR_told_1 : decode cX9_told 1 = .ok (.iconst 1, 1) := by decide +kernel
theorem dR_told_2 : decode cX9_told 2 = .ok (.bipush 6, 2) := by decide +kernel
theorem dR_told_4 : decode cX9_told 4 = .ok (.invokestatic 53, 3) := by decide +kernel
theorem dR_told_7 : decode cX9_told 7 = .ok (.ifCond .eq 12, 3) := by decide +kernel
theorem dR_told_10 : decode cX9_told 10 = .ok (.aload_n 0, 1) := by decide +kernel
theorem dR_told_11 : decode cX9_told 11 = .ok (.getfield 19, 3) := by decide +kernel
theorem dR_told_14 : decode cX9_told 14 = .ok (.iload_n 1, 1) := by decide +kernel
theorem dR_told_15 : decode cX9_told 15 = .ok (.iaload, 1) := by decide +kernel
theorem dR_told_16 : decode cX9_told 16 = .ok (.goto 8, 3) := by decide +kernel
theorem dR_told_19 : decode cX9_told 19 = .ok (.aload_n 0, 1) := by decide +kernel
theorem dR_told_20 : decode cX9_told 20 = .ok (.iconst 1, 1) := by decide +kernel
theorem dR_told_21 : decode cX9_told 21 = .ok (.invokevirtual 62, 3) := by decide +kernel
theorem dR_told_24 : decode cX9_told 24 = .ok (.ireturn, 1) := by decide +kernel
