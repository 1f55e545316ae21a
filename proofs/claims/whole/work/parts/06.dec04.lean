theorem d_MD_number_0 : decode b_MD_number 0 = .ok (.aload_n 0, 1) := by decide +kernel
theorem d_MD_number_1 : decode b_MD_number 1 = .ok (.invokevirtual 166, 3) := by decide +kernel
theorem d_MD_number_4 : decode b_MD_number 4 = .ok (.ifCond .eq 5, 3) := by decide +kernel
theorem d_MD_number_7 : decode b_MD_number 7 = .ok (.lconst 0, 1) := by decide +kernel
theorem d_MD_number_8 : decode b_MD_number 8 = .ok (.lreturn, 1) := by decide +kernel
theorem d_MD_number_9 : decode b_MD_number 9 = .ok (.aload_n 0, 1) := by decide +kernel
theorem d_MD_number_10 : decode b_MD_number 10 = .ok (.getfield 150, 3) := by decide +kernel
theorem d_MD_number_13 : decode b_MD_number 13 = .ok (.bipush (-3), 2) := by decide +kernel
theorem d_MD_number_15 : decode b_MD_number 15 = .ok (.if_icmp .ne 44, 3) := by decide +kernel
theorem d_MD_number_18 : decode b_MD_number 18 = .ok (.aload_n 0, 1) := by decide +kernel
theorem d_MD_number_19 : decode b_MD_number 19 = .ok (.getfield 141, 3) := by decide +kernel
theorem d_MD_number_22 : decode b_MD_number 22 = .ok (.aload_n 0, 1) := by decide +kernel
theorem d_MD_number_23 : decode b_MD_number 23 = .ok (.getfield 147, 3) := by decide +kernel
theorem d_MD_number_26 : decode b_MD_number 26 = .ok (.isub, 1) := by decide +kernel
theorem d_MD_number_27 : decode b_MD_number 27 = .ok (.bipush 6, 2) := by decide +kernel
theorem d_MD_number_29 : decode b_MD_number 29 = .ok (.if_icmp .gt 30, 3) := by decide +kernel
theorem d_MD_number_32 : decode b_MD_number 32 = .ok (.aload_n 0, 1) := by decide +kernel
theorem d_MD_number_33 : decode b_MD_number 33 = .ok (.getfield 7, 3) := by decide +kernel
theorem d_MD_number_36 : decode b_MD_number 36 = .ok (.aload_n 0, 1) := by decide +kernel
theorem d_MD_number_37 : decode b_MD_number 37 = .ok (.getfield 147, 3) := by decide +kernel
theorem d_MD_number_40 : decode b_MD_number 40 = .ok (.baload, 1) := by decide +kernel
theorem d_MD_number_41 : decode b_MD_number 41 = .ok (.bipush 48, 2) := by decide +kernel
theorem d_MD_number_43 : decode b_MD_number 43 = .ok (.if_icmp .ne 26, 3) := by decide +kernel
theorem d_MD_number_46 : decode b_MD_number 46 = .ok (.aload_n 0, 1) := by decide +kernel
theorem d_MD_number_47 : decode b_MD_number 47 = .ok (.getfield 141, 3) := by decide +kernel
theorem d_MD_number_50 : decode b_MD_number 50 = .ok (.aload_n 0, 1) := by decide +kernel
theorem d_MD_number_51 : decode b_MD_number 51 = .ok (.getfield 147, 3) := by decide +kernel
theorem d_MD_number_54 : decode b_MD_number 54 = .ok (.isub, 1) := by decide +kernel
theorem d_MD_number_55 : decode b_MD_number 55 = .ok (.iconst 1, 1) := by decide +kernel
theorem d_MD_number_56 : decode b_MD_number 56 = .ok (.if_icmp .le 13, 3) := by decide +kernel
theorem d_MD_number_59 : decode b_MD_number 59 = .ok (.aload_n 0, 1) := by decide +kernel
theorem d_MD_number_60 : decode b_MD_number 60 = .ok (.aload_n 0, 1) := by decide +kernel
theorem d_MD_number_61 : decode b_MD_number 61 = .ok (.getfield 147, 3) := by decide +kernel
theorem d_MD_number_64 : decode b_MD_number 64 = .ok (.invokevirtual 173, 3) := by decide +kernel
theorem d_MD_number_67 : decode b_MD_number 67 = .ok (.lconst 0, 1) := by decide +kernel
theorem d_MD_number_68 : decode b_MD_number 68 = .ok (.lreturn, 1) := by decide +kernel
theorem d_MD_number_69 : decode b_MD_number 69 = .ok (.lconst 0, 1) := by decide +kernel
theorem d_MD_number_70 : decode b_MD_number 70 = .ok (.lstore_n 1, 1) := by decide +kernel
theorem d_MD_number_71 : decode b_MD_number 71 = .ok (.aload_n 0, 1) := by decide +kernel
theorem d_MD_number_72 : decode b_MD_number 72 = .ok (.getfield 147, 3) := by decide +kernel
theorem d_MD_number_75 : decode b_MD_number 75 = .ok (.istore_n 3, 1) := by decide +kernel
theorem d_MD_number_76 : decode b_MD_number 76 = .ok (.iload_n 3, 1) := by decide +kernel
theorem d_MD_number_77 : decode b_MD_number 77 = .ok (.aload_n 0, 1) := by decide +kernel
theorem d_MD_number_78 : decode b_MD_number 78 = .ok (.getfield 141, 3) := by decide +kernel
theorem d_MD_number_81 : decode b_MD_number 81 = .ok (.if_icmp .ge 27, 3) := by decide +kernel
theorem d_MD_number_84 : decode b_MD_number 84 = .ok (.ldc2_w 177, 3) := by decide +kernel
theorem d_MD_number_87 : decode b_MD_number 87 = .ok (.lload_n 1, 1) := by decide +kernel
theorem d_MD_number_88 : decode b_MD_number 88 = .ok (.lmul, 1) := by decide +kernel
theorem d_MD_number_89 : decode b_MD_number 89 = .ok (.aload_n 0, 1) := by decide +kernel
theorem d_MD_number_90 : decode b_MD_number 90 = .ok (.getfield 7, 3) := by decide +kernel
theorem d_MD_number_93 : decode b_MD_number 93 = .ok (.iload_n 3, 1) := by decide +kernel
theorem d_MD_number_94 : decode b_MD_number 94 = .ok (.baload, 1) := by decide +kernel
theorem d_MD_number_95 : decode b_MD_number 95 = .ok (.i2l, 1) := by decide +kernel
theorem d_MD_number_96 : decode b_MD_number 96 = .ok (.ladd, 1) := by decide +kernel
theorem d_MD_number_97 : decode b_MD_number 97 = .ok (.ldc2_w 179, 3) := by decide +kernel
theorem d_MD_number_100 : decode b_MD_number 100 = .ok (.lsub, 1) := by decide +kernel
theorem d_MD_number_101 : decode b_MD_number 101 = .ok (.lstore_n 1, 1) := by decide +kernel
theorem d_MD_number_102 : decode b_MD_number 102 = .ok (.iinc 3 1, 3) := by decide +kernel
theorem d_MD_number_105 : decode b_MD_number 105 = .ok (.goto (-29), 3) := by decide +kernel
theorem d_MD_number_108 : decode b_MD_number 108 = .ok (.aload_n 0, 1) := by decide +kernel
theorem d_MD_number_109 : decode b_MD_number 109 = .ok (.invokevirtual 170, 3) := by decide +kernel
theorem d_MD_number_112 : decode b_MD_number 112 = .ok (.lload_n 1, 1) := by decide +kernel
theorem d_MD_number_113 : decode b_MD_number 113 = .ok (.lreturn, 1) := by decide +kernel
theorem d_MD_stayClose_0 : decode b_MD_stayClose 0 = .ok (.aload_n 0, 1) := by decide +kernel
theorem d_MD_stayClose_1 : decode b_MD_stayClose 1 = .ok (.getfield 147, 3) := by decide +kernel
theorem d_MD_stayClose_4 : decode b_MD_stayClose 4 = .ok (.aload_n 0, 1) := by decide +kernel
theorem d_MD_stayClose_5 : decode b_MD_stayClose 5 = .ok (.getfield 144, 3) := by decide +kernel
theorem d_MD_stayClose_8 : decode b_MD_stayClose 8 = .ok (.if_icmp .eq 11, 3) := by decide +kernel
theorem d_MD_stayClose_11 : decode b_MD_stayClose 11 = .ok (.aload_n 0, 1) := by decide +kernel
theorem d_MD_stayClose_12 : decode b_MD_stayClose 12 = .ok (.aload_n 0, 1) := by decide +kernel
theorem d_MD_stayClose_13 : decode b_MD_stayClose 13 = .ok (.getfield 147, 3) := by decide +kernel
theorem d_MD_stayClose_16 : decode b_MD_stayClose 16 = .ok (.invokevirtual 173, 3) := by decide +kernel
theorem d_MD_stayClose_19 : decode b_MD_stayClose 19 = .ok (.return_, 1) := by decide +kernel
theorem d_MD_readVersion_0 : decode b_MD_readVersion 0 = .ok (.lconst 0, 1) := by decide +kernel
theorem d_MD_readVersion_1 : decode b_MD_readVersion 1 = .ok (.lstore_n 1, 1) := by decide +kernel
theorem d_MD_readVersion_2 : decode b_MD_readVersion 2 = .ok (.iconst 0, 1) := by decide +kernel
theorem d_MD_readVersion_3 : decode b_MD_readVersion 3 = .ok (.istore_n 3, 1) := by decide +kernel
theorem d_MD_readVersion_4 : decode b_MD_readVersion 4 = .ok (.iload_n 3, 1) := by decide +kernel
theorem d_MD_readVersion_5 : decode b_MD_readVersion 5 = .ok (.iconst 3, 1) := by decide +kernel
theorem d_MD_readVersion_6 : decode b_MD_readVersion 6 = .ok (.if_icmp .ge 38, 3) := by decide +kernel
theorem d_MD_readVersion_9 : decode b_MD_readVersion 9 = .ok (.iload_n 3, 1) := by decide +kernel
theorem d_MD_readVersion_10 : decode b_MD_readVersion 10 = .ok (.ifCond .le 17, 3) := by decide +kernel
theorem d_MD_readVersion_13 : decode b_MD_readVersion 13 = .ok (.aload_n 0, 1) := by decide +kernel
theorem d_MD_readVersion_14 : decode b_MD_readVersion 14 = .ok (.invokevirtual 181, 3) := by decide +kernel
theorem d_MD_readVersion_17 : decode b_MD_readVersion 17 = .ok (.aload_n 0, 1) := by decide +kernel
theorem d_MD_readVersion_18 : decode b_MD_readVersion 18 = .ok (.bipush 46, 2) := by decide +kernel
theorem d_MD_readVersion_20 : decode b_MD_readVersion 20 = .ok (.invokevirtual 184, 3) := by decide +kernel
theorem d_MD_readVersion_23 : decode b_MD_readVersion 23 = .ok (.aload_n 0, 1) := by decide +kernel
theorem d_MD_readVersion_24 : decode b_MD_readVersion 24 = .ok (.invokevirtual 181, 3) := by decide +kernel
theorem d_MD_readVersion_27 : decode b_MD_readVersion 27 = .ok (.ldc2_w 187, 3) := by decide +kernel
theorem d_MD_readVersion_30 : decode b_MD_readVersion 30 = .ok (.lload_n 1, 1) := by decide +kernel
theorem d_MD_readVersion_31 : decode b_MD_readVersion 31 = .ok (.lmul, 1) := by decide +kernel
theorem d_MD_readVersion_32 : decode b_MD_readVersion 32 = .ok (.aload_n 0, 1) := by decide +kernel
theorem d_MD_readVersion_33 : decode b_MD_readVersion 33 = .ok (.invokevirtual 189, 3) := by decide +kernel
theorem d_MD_readVersion_36 : decode b_MD_readVersion 36 = .ok (.ladd, 1) := by decide +kernel
theorem d_MD_readVersion_37 : decode b_MD_readVersion 37 = .ok (.lstore_n 1, 1) := by decide +kernel
theorem d_MD_readVersion_38 : decode b_MD_readVersion 38 = .ok (.iinc 3 1, 3) := by decide +kernel
theorem d_MD_readVersion_41 : decode b_MD_readVersion 41 = .ok (.goto (-37), 3) := by decide +kernel
theorem d_MD_readVersion_44 : decode b_MD_readVersion 44 = .ok (.lload_n 1, 1) := by decide +kernel
theorem d_MD_readVersion_45 : decode b_MD_readVersion 45 = .ok (.lreturn, 1) := by decide +kernel
theorem d_MD_isBound_0 : decode b_MD_isBound 0 = .ok (.aload_n 0, 1) := by decide +kernel
theorem d_MD_isBound_1 : decode b_MD_isBound 1 = .ok (.getfield 150, 3) := by decide +kernel
theorem d_MD_isBound_4 : decode b_MD_isBound 4 = .ok (.bipush 61, 2) := by decide +kernel
theorem d_MD_isBound_6 : decode b_MD_isBound 6 = .ok (.if_icmp .eq 41, 3) := by decide +kernel
theorem d_MD_isBound_9 : decode b_MD_isBound 9 = .ok (.aload_n 0, 1) := by decide +kernel
theorem d_MD_isBound_10 : decode b_MD_isBound 10 = .ok (.getfield 150, 3) := by decide +kernel
theorem d_MD_isBound_13 : decode b_MD_isBound 13 = .ok (.bipush 60, 2) := by decide +kernel
theorem d_MD_isBound_15 : decode b_MD_isBound 15 = .ok (.if_icmp .eq 32, 3) := by decide +kernel
theorem d_MD_isBound_18 : decode b_MD_isBound 18 = .ok (.aload_n 0, 1) := by decide +kernel
theorem d_MD_isBound_19 : decode b_MD_isBound 19 = .ok (.getfield 150, 3) := by decide +kernel
theorem d_MD_isBound_22 : decode b_MD_isBound 22 = .ok (.bipush 62, 2) := by decide +kernel
theorem d_MD_isBound_24 : decode b_MD_isBound 24 = .ok (.if_icmp .eq 23, 3) := by decide +kernel
theorem d_MD_isBound_27 : decode b_MD_isBound 27 = .ok (.aload_n 0, 1) := by decide +kernel
theorem d_MD_isBound_28 : decode b_MD_isBound 28 = .ok (.getfield 150, 3) := by decide +kernel
theorem d_MD_isBound_31 : decode b_MD_isBound 31 = .ok (.sipush 360, 3) := by decide +kernel
theorem d_MD_isBound_34 : decode b_MD_isBound 34 = .ok (.if_icmp .eq 13, 3) := by decide +kernel
theorem d_MD_isBound_37 : decode b_MD_isBound 37 = .ok (.aload_n 0, 1) := by decide +kernel
theorem d_MD_isBound_38 : decode b_MD_isBound 38 = .ok (.getfield 150, 3) := by decide +kernel
theorem d_MD_isBound_41 : decode b_MD_isBound 41 = .ok (.sipush 362, 3) := by decide +kernel
theorem d_MD_isBound_44 : decode b_MD_isBound 44 = .ok (.if_icmp .ne 7, 3) := by decide +kernel
theorem d_MD_isBound_47 : decode b_MD_isBound 47 = .ok (.iconst 1, 1) := by decide +kernel
theorem d_MD_isBound_48 : decode b_MD_isBound 48 = .ok (.goto 4, 3) := by decide +kernel
theorem d_MD_isBound_51 : decode b_MD_isBound 51 = .ok (.iconst 0, 1) := by decide +kernel
theorem d_MD_isBound_52 : decode b_MD_isBound 52 = .ok (.ireturn, 1) := by decide +kernel
theorem d_MD_bound_0 : decode b_MD_bound 0 = .ok (.aload_n 0, 1) := by decide +kernel
theorem d_MD_bound_1 : decode b_MD_bound 1 = .ok (.getfield 150, 3) := by decide +kernel
theorem d_MD_bound_4 : decode b_MD_bound 4 = .ok (.istore_n 1, 1) := by decide +kernel
theorem d_MD_bound_5 : decode b_MD_bound 5 = .ok (.aload_n 0, 1) := by decide +kernel
theorem d_MD_bound_6 : decode b_MD_bound 6 = .ok (.invokevirtual 170, 3) := by decide +kernel
theorem d_MD_bound_9 : decode b_MD_bound 9 = .ok (.aload_n 0, 1) := by decide +kernel
theorem d_MD_bound_10 : decode b_MD_bound 10 = .ok (.invokevirtual 193, 3) := by decide +kernel
theorem d_MD_bound_13 : decode b_MD_bound 13 = .ok (.lstore_n 2, 1) := by decide +kernel
theorem d_MD_bound_14 : decode b_MD_bound 14 = .ok (.iload_n 1, 1) := by decide +kernel
theorem d_MD_bound_15 : decode b_MD_bound 15 = .ok (.bipush 61, 2) := by decide +kernel
theorem d_MD_bound_17 : decode b_MD_bound 17 = .ok (.if_icmp .eq 10, 3) := by decide +kernel
theorem d_MD_bound_20 : decode b_MD_bound 20 = .ok (.iload_n 1, 1) := by decide +kernel
theorem d_MD_bound_21 : decode b_MD_bound 21 = .ok (.sipush 362, 3) := by decide +kernel
theorem d_MD_bound_24 : decode b_MD_bound 24 = .ok (.if_icmp .ne 24, 3) := by decide +kernel
theorem d_MD_bound_27 : decode b_MD_bound 27 = .ok (.aload_n 0, 1) := by decide +kernel
theorem d_MD_bound_28 : decode b_MD_bound 28 = .ok (.aload_n 0, 1) := by decide +kernel
theorem d_MD_bound_29 : decode b_MD_bound 29 = .ok (.getfield 196, 3) := by decide +kernel
theorem d_MD_bound_32 : decode b_MD_bound 32 = .ok (.lload_n 2, 1) := by decide +kernel
theorem d_MD_bound_33 : decode b_MD_bound 33 = .ok (.lcmp, 1) := by decide +kernel
theorem d_MD_bound_34 : decode b_MD_bound 34 = .ok (.ifCond .le 10, 3) := by decide +kernel
theorem d_MD_bound_37 : decode b_MD_bound 37 = .ok (.aload_n 0, 1) := by decide +kernel
theorem d_MD_bound_38 : decode b_MD_bound 38 = .ok (.getfield 196, 3) := by decide +kernel
theorem d_MD_bound_41 : decode b_MD_bound 41 = .ok (.goto 4, 3) := by decide +kernel
theorem d_MD_bound_44 : decode b_MD_bound 44 = .ok (.lload_n 2, 1) := by decide +kernel
theorem d_MD_bound_45 : decode b_MD_bound 45 = .ok (.putfield 196, 3) := by decide +kernel
theorem d_MD_bound_48 : decode b_MD_bound 48 = .ok (.iload_n 1, 1) := by decide +kernel
theorem d_MD_bound_49 : decode b_MD_bound 49 = .ok (.bipush 62, 2) := by decide +kernel
theorem d_MD_bound_51 : decode b_MD_bound 51 = .ok (.if_icmp .ne 28, 3) := by decide +kernel
theorem d_MD_bound_54 : decode b_MD_bound 54 = .ok (.aload_n 0, 1) := by decide +kernel
theorem d_MD_bound_55 : decode b_MD_bound 55 = .ok (.aload_n 0, 1) := by decide +kernel
theorem d_MD_bound_56 : decode b_MD_bound 56 = .ok (.getfield 196, 3) := by decide +kernel
theorem d_MD_bound_59 : decode b_MD_bound 59 = .ok (.lload_n 2, 1) := by decide +kernel
theorem d_MD_bound_60 : decode b_MD_bound 60 = .ok (.lconst 1, 1) := by decide +kernel
theorem d_MD_bound_61 : decode b_MD_bound 61 = .ok (.ladd, 1) := by decide +kernel
theorem d_MD_bound_62 : decode b_MD_bound 62 = .ok (.lcmp, 1) := by decide +kernel
theorem d_MD_bound_63 : decode b_MD_bound 63 = .ok (.ifCond .le 10, 3) := by decide +kernel
theorem d_MD_bound_66 : decode b_MD_bound 66 = .ok (.aload_n 0, 1) := by decide +kernel
theorem d_MD_bound_67 : decode b_MD_bound 67 = .ok (.getfield 196, 3) := by decide +kernel
theorem d_MD_bound_70 : decode b_MD_bound 70 = .ok (.goto 6, 3) := by decide +kernel
theorem d_MD_bound_73 : decode b_MD_bound 73 = .ok (.lload_n 2, 1) := by decide +kernel
theorem d_MD_bound_74 : decode b_MD_bound 74 = .ok (.lconst 1, 1) := by decide +kernel
theorem d_MD_bound_75 : decode b_MD_bound 75 = .ok (.ladd, 1) := by decide +kernel
theorem d_MD_bound_76 : decode b_MD_bound 76 = .ok (.putfield 196, 3) := by decide +kernel
theorem d_MD_bound_79 : decode b_MD_bound 79 = .ok (.iload_n 1, 1) := by decide +kernel
theorem d_MD_bound_80 : decode b_MD_bound 80 = .ok (.bipush 61, 2) := by decide +kernel
theorem d_MD_bound_82 : decode b_MD_bound 82 = .ok (.if_icmp .eq 10, 3) := by decide +kernel
theorem d_MD_bound_85 : decode b_MD_bound 85 = .ok (.iload_n 1, 1) := by decide +kernel
theorem d_MD_bound_86 : decode b_MD_bound 86 = .ok (.sipush 360, 3) := by decide +kernel
theorem d_MD_bound_89 : decode b_MD_bound 89 = .ok (.if_icmp .ne 28, 3) := by decide +kernel
theorem d_MD_bound_92 : decode b_MD_bound 92 = .ok (.aload_n 0, 1) := by decide +kernel
theorem d_MD_bound_93 : decode b_MD_bound 93 = .ok (.aload_n 0, 1) := by decide +kernel
theorem d_MD_bound_94 : decode b_MD_bound 94 = .ok (.getfield 200, 3) := by decide +kernel
theorem d_MD_bound_97 : decode b_MD_bound 97 = .ok (.lload_n 2, 1) := by decide +kernel
theorem d_MD_bound_98 : decode b_MD_bound 98 = .ok (.lconst 1, 1) := by decide +kernel
theorem d_MD_bound_99 : decode b_MD_bound 99 = .ok (.ladd, 1) := by decide +kernel
theorem d_MD_bound_100 : decode b_MD_bound 100 = .ok (.lcmp, 1) := by decide +kernel
theorem d_MD_bound_101 : decode b_MD_bound 101 = .ok (.ifCond .ge 10, 3) := by decide +kernel
theorem d_MD_bound_104 : decode b_MD_bound 104 = .ok (.aload_n 0, 1) := by decide +kernel
theorem d_MD_bound_105 : decode b_MD_bound 105 = .ok (.getfield 200, 3) := by decide +kernel
theorem d_MD_bound_108 : decode b_MD_bound 108 = .ok (.goto 6, 3) := by decide +kernel
theorem d_MD_bound_111 : decode b_MD_bound 111 = .ok (.lload_n 2, 1) := by decide +kernel
theorem d_MD_bound_112 : decode b_MD_bound 112 = .ok (.lconst 1, 1) := by decide +kernel
theorem d_MD_bound_113 : decode b_MD_bound 113 = .ok (.ladd, 1) := by decide +kernel
theorem d_MD_bound_114 : decode b_MD_bound 114 = .ok (.putfield 200, 3) := by decide +kernel
theorem d_MD_bound_117 : decode b_MD_bound 117 = .ok (.iload_n 1, 1) := by decide +kernel
theorem d_MD_bound_118 : decode b_MD_bound 118 = .ok (.bipush 60, 2) := by decide +kernel
theorem d_MD_bound_120 : decode b_MD_bound 120 = .ok (.if_icmp .ne 24, 3) := by decide +kernel
theorem d_MD_bound_123 : decode b_MD_bound 123 = .ok (.aload_n 0, 1) := by decide +kernel
theorem d_MD_bound_124 : decode b_MD_bound 124 = .ok (.aload_n 0, 1) := by decide +kernel
theorem d_MD_bound_125 : decode b_MD_bound 125 = .ok (.getfield 200, 3) := by decide +kernel
theorem d_MD_bound_128 : decode b_MD_bound 128 = .ok (.lload_n 2, 1) := by decide +kernel
theorem d_MD_bound_129 : decode b_MD_bound 129 = .ok (.lcmp, 1) := by decide +kernel
theorem d_MD_bound_130 : decode b_MD_bound 130 = .ok (.ifCond .ge 10, 3) := by decide +kernel
theorem d_MD_bound_133 : decode b_MD_bound 133 = .ok (.aload_n 0, 1) := by decide +kernel
theorem d_MD_bound_134 : decode b_MD_bound 134 = .ok (.getfield 200, 3) := by decide +kernel
theorem d_MD_bound_137 : decode b_MD_bound 137 = .ok (.goto 4, 3) := by decide +kernel
theorem d_MD_bound_140 : decode b_MD_bound 140 = .ok (.lload_n 2, 1) := by decide +kernel
theorem d_MD_bound_141 : decode b_MD_bound 141 = .ok (.putfield 200, 3) := by decide +kernel
theorem d_MD_bound_144 : decode b_MD_bound 144 = .ok (.return_, 1) := by decide +kernel
theorem d_MD_close_0 : decode b_MD_close 0 = .ok (.aload_n 0, 1) := by decide +kernel
theorem d_MD_close_1 : decode b_MD_close 1 = .ok (.getfield 196, 3) := by decide +kernel
theorem d_MD_close_4 : decode b_MD_close 4 = .ok (.aload_n 0, 1) := by decide +kernel
theorem d_MD_close_5 : decode b_MD_close 5 = .ok (.getfield 200, 3) := by decide +kernel
theorem d_MD_close_8 : decode b_MD_close 8 = .ok (.lcmp, 1) := by decide +kernel
theorem d_MD_close_9 : decode b_MD_close 9 = .ok (.ifCond .lt 13, 3) := by decide +kernel
theorem d_MD_close_12 : decode b_MD_close 12 = .ok (.aload_n 0, 1) := by decide +kernel
theorem d_MD_close_13 : decode b_MD_close 13 = .ok (.lconst 0, 1) := by decide +kernel
theorem d_MD_close_14 : decode b_MD_close 14 = .ok (.putfield 196, 3) := by decide +kernel
theorem d_MD_close_17 : decode b_MD_close 17 = .ok (.aload_n 0, 1) := by decide +kernel
theorem d_MD_close_18 : decode b_MD_close 18 = .ok (.lconst 0, 1) := by decide +kernel
theorem d_MD_close_19 : decode b_MD_close 19 = .ok (.putfield 200, 3) := by decide +kernel
theorem d_MD_close_22 : decode b_MD_close 22 = .ok (.return_, 1) := by decide +kernel
theorem d_MD_readRange_0 : decode b_MD_readRange 0 = .ok (.aload_n 0, 1) := by decide +kernel
theorem d_MD_readRange_1 : decode b_MD_readRange 1 = .ok (.lconst 0, 1) := by decide +kernel
theorem d_MD_readRange_2 : decode b_MD_readRange 2 = .ok (.putfield 196, 3) := by decide +kernel
theorem d_MD_readRange_5 : decode b_MD_readRange 5 = .ok (.aload_n 0, 1) := by decide +kernel
theorem d_MD_readRange_6 : decode b_MD_readRange 6 = .ok (.ldc2_w 203, 3) := by decide +kernel
theorem d_MD_readRange_9 : decode b_MD_readRange 9 = .ok (.putfield 200, 3) := by decide +kernel
theorem d_MD_readRange_12 : decode b_MD_readRange 12 = .ok (.aload_n 0, 1) := by decide +kernel
theorem d_MD_readRange_13 : decode b_MD_readRange 13 = .ok (.invokevirtual 166, 3) := by decide +kernel
theorem d_MD_readRange_16 : decode b_MD_readRange 16 = .ok (.ifCond .eq 4, 3) := by decide +kernel
theorem d_MD_readRange_19 : decode b_MD_readRange 19 = .ok (.return_, 1) := by decide +kernel
theorem d_MD_readRange_20 : decode b_MD_readRange 20 = .ok (.aload_n 0, 1) := by decide +kernel
theorem d_MD_readRange_21 : decode b_MD_readRange 21 = .ok (.getfield 150, 3) := by decide +kernel
theorem d_MD_readRange_24 : decode b_MD_readRange 24 = .ok (.bipush 42, 2) := by decide +kernel
theorem d_MD_readRange_26 : decode b_MD_readRange 26 = .ok (.if_icmp .ne 10, 3) := by decide +kernel
theorem d_MD_readRange_29 : decode b_MD_readRange 29 = .ok (.aload_n 0, 1) := by decide +kernel
theorem d_MD_readRange_30 : decode b_MD_readRange 30 = .ok (.invokevirtual 170, 3) := by decide +kernel
theorem d_MD_readRange_33 : decode b_MD_readRange 33 = .ok (.goto 43, 3) := by decide +kernel
theorem d_MD_readRange_36 : decode b_MD_readRange 36 = .ok (.aload_n 0, 1) := by decide +kernel
theorem d_MD_readRange_37 : decode b_MD_readRange 37 = .ok (.invokevirtual 205, 3) := by decide +kernel
theorem d_MD_readRange_40 : decode b_MD_readRange 40 = .ok (.ifCond .ne 14, 3) := by decide +kernel
theorem d_MD_readRange_43 : decode b_MD_readRange 43 = .ok (.aload_n 0, 1) := by decide +kernel
theorem d_MD_readRange_44 : decode b_MD_readRange 44 = .ok (.aload_n 0, 1) := by decide +kernel
theorem d_MD_readRange_45 : decode b_MD_readRange 45 = .ok (.getfield 147, 3) := by decide +kernel
theorem d_MD_readRange_48 : decode b_MD_readRange 48 = .ok (.invokevirtual 173, 3) := by decide +kernel
theorem d_MD_readRange_51 : decode b_MD_readRange 51 = .ok (.goto 25, 3) := by decide +kernel
theorem d_MD_readRange_54 : decode b_MD_readRange 54 = .ok (.aload_n 0, 1) := by decide +kernel
theorem d_MD_readRange_55 : decode b_MD_readRange 55 = .ok (.invokevirtual 208, 3) := by decide +kernel
theorem d_MD_readRange_58 : decode b_MD_readRange 58 = .ok (.aload_n 0, 1) := by decide +kernel
theorem d_MD_readRange_59 : decode b_MD_readRange 59 = .ok (.invokevirtual 166, 3) := by decide +kernel
theorem d_MD_readRange_62 : decode b_MD_readRange 62 = .ok (.ifCond .ne 14, 3) := by decide +kernel
theorem d_MD_readRange_65 : decode b_MD_readRange 65 = .ok (.aload_n 0, 1) := by decide +kernel
theorem d_MD_readRange_66 : decode b_MD_readRange 66 = .ok (.invokevirtual 205, 3) := by decide +kernel
theorem d_MD_readRange_69 : decode b_MD_readRange 69 = .ok (.ifCond .eq 7, 3) := by decide +kernel
theorem d_MD_readRange_72 : decode b_MD_readRange 72 = .ok (.aload_n 0, 1) := by decide +kernel
theorem d_MD_readRange_73 : decode b_MD_readRange 73 = .ok (.invokevirtual 208, 3) := by decide +kernel
theorem d_MD_readRange_76 : decode b_MD_readRange 76 = .ok (.aload_n 0, 1) := by decide +kernel
theorem d_MD_readRange_77 : decode b_MD_readRange 77 = .ok (.invokevirtual 211, 3) := by decide +kernel
theorem d_MD_readRange_80 : decode b_MD_readRange 80 = .ok (.return_, 1) := by decide +kernel
theorem d_MD_folded_0 : decode b_MD_folded 0 = .ok (.iconst 0, 1) := by decide +kernel
theorem d_MD_folded_1 : decode b_MD_folded 1 = .ok (.istore 4, 2) := by decide +kernel
theorem d_MD_folded_3 : decode b_MD_folded 3 = .ok (.iconst 0, 1) := by decide +kernel
theorem d_MD_folded_4 : decode b_MD_folded 4 = .ok (.istore 5, 2) := by decide +kernel
theorem d_MD_folded_6 : decode b_MD_folded 6 = .ok (.iload 5, 2) := by decide +kernel
theorem d_MD_folded_8 : decode b_MD_folded 8 = .ok (.iload_n 2, 1) := by decide +kernel
theorem d_MD_folded_9 : decode b_MD_folded 9 = .ok (.if_icmp .ge 83, 3) := by decide +kernel
theorem d_MD_folded_12 : decode b_MD_folded 12 = .ok (.aload_n 0, 1) := by decide +kernel
theorem d_MD_folded_13 : decode b_MD_folded 13 = .ok (.iload_n 1, 1) := by decide +kernel
theorem d_MD_folded_14 : decode b_MD_folded 14 = .ok (.iload 5, 2) := by decide +kernel
theorem d_MD_folded_16 : decode b_MD_folded 16 = .ok (.iadd, 1) := by decide +kernel
theorem d_MD_folded_17 : decode b_MD_folded 17 = .ok (.baload, 1) := by decide +kernel
theorem d_MD_folded_18 : decode b_MD_folded 18 = .ok (.istore 6, 2) := by decide +kernel
theorem d_MD_folded_20 : decode b_MD_folded 20 = .ok (.iload 6, 2) := by decide +kernel
theorem d_MD_folded_22 : decode b_MD_folded 22 = .ok (.invokestatic 160, 3) := by decide +kernel
theorem d_MD_folded_25 : decode b_MD_folded 25 = .ok (.ifCond .ne 38, 3) := by decide +kernel
theorem d_MD_folded_28 : decode b_MD_folded 28 = .ok (.aload_n 3, 1) := by decide +kernel
theorem d_MD_folded_29 : decode b_MD_folded 29 = .ok (.iload 4, 2) := by decide +kernel
theorem d_MD_folded_31 : decode b_MD_folded 31 = .ok (.iload 6, 2) := by decide +kernel
theorem d_MD_folded_33 : decode b_MD_folded 33 = .ok (.bipush 65, 2) := by decide +kernel
theorem d_MD_folded_35 : decode b_MD_folded 35 = .ok (.if_icmp .lt 18, 3) := by decide +kernel
theorem d_MD_folded_38 : decode b_MD_folded 38 = .ok (.iload 6, 2) := by decide +kernel
theorem d_MD_folded_40 : decode b_MD_folded 40 = .ok (.bipush 90, 2) := by decide +kernel
theorem d_MD_folded_42 : decode b_MD_folded 42 = .ok (.if_icmp .gt 11, 3) := by decide +kernel
theorem d_MD_folded_45 : decode b_MD_folded 45 = .ok (.iload 6, 2) := by decide +kernel
theorem d_MD_folded_47 : decode b_MD_folded 47 = .ok (.bipush 32, 2) := by decide +kernel
theorem d_MD_folded_49 : decode b_MD_folded 49 = .ok (.iadd, 1) := by decide +kernel
theorem d_MD_folded_50 : decode b_MD_folded 50 = .ok (.goto 5, 3) := by decide +kernel
theorem d_MD_folded_53 : decode b_MD_folded 53 = .ok (.iload 6, 2) := by decide +kernel
theorem d_MD_folded_55 : decode b_MD_folded 55 = .ok (.i2b, 1) := by decide +kernel
theorem d_MD_folded_56 : decode b_MD_folded 56 = .ok (.bastore, 1) := by decide +kernel
theorem d_MD_folded_57 : decode b_MD_folded 57 = .ok (.iinc 4 1, 3) := by decide +kernel
theorem d_MD_folded_60 : decode b_MD_folded 60 = .ok (.goto 26, 3) := by decide +kernel
theorem d_MD_folded_63 : decode b_MD_folded 63 = .ok (.aload_n 0, 1) := by decide +kernel
theorem d_MD_folded_64 : decode b_MD_folded 64 = .ok (.iload_n 1, 1) := by decide +kernel
theorem d_MD_folded_65 : decode b_MD_folded 65 = .ok (.iload 5, 2) := by decide +kernel
theorem d_MD_folded_67 : decode b_MD_folded 67 = .ok (.iadd, 1) := by decide +kernel
theorem d_MD_folded_68 : decode b_MD_folded 68 = .ok (.iconst 1, 1) := by decide +kernel
theorem d_MD_folded_69 : decode b_MD_folded 69 = .ok (.isub, 1) := by decide +kernel
theorem d_MD_folded_70 : decode b_MD_folded 70 = .ok (.baload, 1) := by decide +kernel
theorem d_MD_folded_71 : decode b_MD_folded 71 = .ok (.invokestatic 160, 3) := by decide +kernel
theorem d_MD_folded_74 : decode b_MD_folded 74 = .ok (.ifCond .ne 12, 3) := by decide +kernel
theorem d_MD_folded_77 : decode b_MD_folded 77 = .ok (.aload_n 3, 1) := by decide +kernel
theorem d_MD_folded_78 : decode b_MD_folded 78 = .ok (.iload 4, 2) := by decide +kernel
theorem d_MD_folded_80 : decode b_MD_folded 80 = .ok (.bipush 45, 2) := by decide +kernel
theorem d_MD_folded_82 : decode b_MD_folded 82 = .ok (.bastore, 1) := by decide +kernel
theorem d_MD_folded_83 : decode b_MD_folded 83 = .ok (.iinc 4 1, 3) := by decide +kernel
theorem d_MD_folded_86 : decode b_MD_folded 86 = .ok (.iinc 5 1, 3) := by decide +kernel
theorem d_MD_folded_89 : decode b_MD_folded 89 = .ok (.goto (-83), 3) := by decide +kernel
theorem d_MD_folded_92 : decode b_MD_folded 92 = .ok (.iload 4, 2) := by decide +kernel
theorem d_MD_folded_94 : decode b_MD_folded 94 = .ok (.ireturn, 1) := by decide +kernel
theorem d_MD_compare_0 : decode b_MD_compare 0 = .ok (.aload_n 1, 1) := by decide +kernel
theorem d_MD_compare_1 : decode b_MD_compare 1 = .ok (.iload_n 2, 1) := by decide +kernel
theorem d_MD_compare_2 : decode b_MD_compare 2 = .ok (.iload_n 3, 1) := by decide +kernel
theorem d_MD_compare_3 : decode b_MD_compare 3 = .ok (.aload_n 0, 1) := by decide +kernel
theorem d_MD_compare_4 : decode b_MD_compare 4 = .ok (.getfield 115, 3) := by decide +kernel
theorem d_MD_compare_7 : decode b_MD_compare 7 = .ok (.invokestatic 214, 3) := by decide +kernel
theorem d_MD_compare_10 : decode b_MD_compare 10 = .ok (.istore 7, 2) := by decide +kernel
theorem d_MD_compare_12 : decode b_MD_compare 12 = .ok (.aload 4, 2) := by decide +kernel
theorem d_MD_compare_14 : decode b_MD_compare 14 = .ok (.iload 5, 2) := by decide +kernel
theorem d_MD_compare_16 : decode b_MD_compare 16 = .ok (.iload 6, 2) := by decide +kernel
theorem d_MD_compare_18 : decode b_MD_compare 18 = .ok (.aload_n 0, 1) := by decide +kernel
theorem d_MD_compare_19 : decode b_MD_compare 19 = .ok (.getfield 118, 3) := by decide +kernel
theorem d_MD_compare_22 : decode b_MD_compare 22 = .ok (.invokestatic 214, 3) := by decide +kernel
theorem d_MD_compare_25 : decode b_MD_compare 25 = .ok (.istore 8, 2) := by decide +kernel
theorem d_MD_compare_27 : decode b_MD_compare 27 = .ok (.iconst 0, 1) := by decide +kernel
theorem d_MD_compare_28 : decode b_MD_compare 28 = .ok (.istore 9, 2) := by decide +kernel
theorem d_MD_compare_30 : decode b_MD_compare 30 = .ok (.iload 9, 2) := by decide +kernel
theorem d_MD_compare_32 : decode b_MD_compare 32 = .ok (.iload 7, 2) := by decide +kernel
theorem d_MD_compare_34 : decode b_MD_compare 34 = .ok (.if_icmp .ge 49, 3) := by decide +kernel
theorem d_MD_compare_37 : decode b_MD_compare 37 = .ok (.iload 9, 2) := by decide +kernel
theorem d_MD_compare_39 : decode b_MD_compare 39 = .ok (.iload 8, 2) := by decide +kernel
theorem d_MD_compare_41 : decode b_MD_compare 41 = .ok (.if_icmp .ge 42, 3) := by decide +kernel
theorem d_MD_compare_44 : decode b_MD_compare 44 = .ok (.aload_n 0, 1) := by decide +kernel
theorem d_MD_compare_45 : decode b_MD_compare 45 = .ok (.getfield 115, 3) := by decide +kernel
theorem d_MD_compare_48 : decode b_MD_compare 48 = .ok (.iload 9, 2) := by decide +kernel
theorem d_MD_compare_50 : decode b_MD_compare 50 = .ok (.baload, 1) := by decide +kernel
theorem d_MD_compare_51 : decode b_MD_compare 51 = .ok (.aload_n 0, 1) := by decide +kernel
theorem d_MD_compare_52 : decode b_MD_compare 52 = .ok (.getfield 118, 3) := by decide +kernel
theorem d_MD_compare_55 : decode b_MD_compare 55 = .ok (.iload 9, 2) := by decide +kernel
theorem d_MD_compare_57 : decode b_MD_compare 57 = .ok (.baload, 1) := by decide +kernel
theorem d_MD_compare_58 : decode b_MD_compare 58 = .ok (.if_icmp .eq 19, 3) := by decide +kernel
theorem d_MD_compare_61 : decode b_MD_compare 61 = .ok (.aload_n 0, 1) := by decide +kernel
theorem d_MD_compare_62 : decode b_MD_compare 62 = .ok (.getfield 115, 3) := by decide +kernel
theorem d_MD_compare_65 : decode b_MD_compare 65 = .ok (.iload 9, 2) := by decide +kernel
theorem d_MD_compare_67 : decode b_MD_compare 67 = .ok (.baload, 1) := by decide +kernel
theorem d_MD_compare_68 : decode b_MD_compare 68 = .ok (.aload_n 0, 1) := by decide +kernel
theorem d_MD_compare_69 : decode b_MD_compare 69 = .ok (.getfield 118, 3) := by decide +kernel
theorem d_MD_compare_72 : decode b_MD_compare 72 = .ok (.iload 9, 2) := by decide +kernel
theorem d_MD_compare_74 : decode b_MD_compare 74 = .ok (.baload, 1) := by decide +kernel
theorem d_MD_compare_75 : decode b_MD_compare 75 = .ok (.isub, 1) := by decide +kernel
theorem d_MD_compare_76 : decode b_MD_compare 76 = .ok (.ireturn, 1) := by decide +kernel
theorem d_MD_compare_77 : decode b_MD_compare 77 = .ok (.iinc 9 1, 3) := by decide +kernel
theorem d_MD_compare_80 : decode b_MD_compare 80 = .ok (.goto (-50), 3) := by decide +kernel
theorem d_MD_compare_83 : decode b_MD_compare 83 = .ok (.iload 7, 2) := by decide +kernel
theorem d_MD_compare_85 : decode b_MD_compare 85 = .ok (.iload 8, 2) := by decide +kernel
theorem d_MD_compare_87 : decode b_MD_compare 87 = .ok (.isub, 1) := by decide +kernel
theorem d_MD_compare_88 : decode b_MD_compare 88 = .ok (.ireturn, 1) := by decide +kernel
theorem d_MD_base_0 : decode b_MD_base 0 = .ok (.sipush 200, 3) := by decide +kernel
theorem d_MD_base_3 : decode b_MD_base 3 = .ok (.aload_n 0, 1) := by decide +kernel
theorem d_MD_base_4 : decode b_MD_base 4 = .ok (.getfield 218, 3) := by decide +kernel
theorem d_MD_base_7 : decode b_MD_base 7 = .ok (.imul, 1) := by decide +kernel
theorem d_MD_base_8 : decode b_MD_base 8 = .ok (.ireturn, 1) := by decide +kernel
theorem d_MD_copyName_0 : decode b_MD_copyName 0 = .ok (.iconst 0, 1) := by decide +kernel
theorem d_MD_copyName_1 : decode b_MD_copyName 1 = .ok (.istore 5, 2) := by decide +kernel
theorem d_MD_copyName_3 : decode b_MD_copyName 3 = .ok (.iload 5, 2) := by decide +kernel
theorem d_MD_copyName_5 : decode b_MD_copyName 5 = .ok (.iload_n 2, 1) := by decide +kernel
theorem d_MD_copyName_6 : decode b_MD_copyName 6 = .ok (.if_icmp .ge 25, 3) := by decide +kernel
theorem d_MD_copyName_9 : decode b_MD_copyName 9 = .ok (.aload_n 3, 1) := by decide +kernel
theorem d_MD_copyName_10 : decode b_MD_copyName 10 = .ok (.iload 4, 2) := by decide +kernel
theorem d_MD_copyName_12 : decode b_MD_copyName 12 = .ok (.iload 5, 2) := by decide +kernel
theorem d_MD_copyName_14 : decode b_MD_copyName 14 = .ok (.iadd, 1) := by decide +kernel
theorem d_MD_copyName_15 : decode b_MD_copyName 15 = .ok (.aload_n 0, 1) := by decide +kernel
theorem d_MD_copyName_16 : decode b_MD_copyName 16 = .ok (.getfield 7, 3) := by decide +kernel
theorem d_MD_copyName_19 : decode b_MD_copyName 19 = .ok (.iload_n 1, 1) := by decide +kernel
theorem d_MD_copyName_20 : decode b_MD_copyName 20 = .ok (.iload 5, 2) := by decide +kernel
theorem d_MD_copyName_22 : decode b_MD_copyName 22 = .ok (.iadd, 1) := by decide +kernel
theorem d_MD_copyName_23 : decode b_MD_copyName 23 = .ok (.baload, 1) := by decide +kernel
theorem d_MD_copyName_24 : decode b_MD_copyName 24 = .ok (.bastore, 1) := by decide +kernel
theorem d_MD_copyName_25 : decode b_MD_copyName 25 = .ok (.iinc 5 1, 3) := by decide +kernel
theorem d_MD_copyName_28 : decode b_MD_copyName 28 = .ok (.goto (-25), 3) := by decide +kernel
theorem d_MD_copyName_31 : decode b_MD_copyName 31 = .ok (.return_, 1) := by decide +kernel
theorem d_MD_addRow_0 : decode b_MD_addRow 0 = .ok (.aload_n 0, 1) := by decide +kernel
theorem d_MD_addRow_1 : decode b_MD_addRow 1 = .ok (.invokevirtual 166, 3) := by decide +kernel
theorem d_MD_addRow_4 : decode b_MD_addRow 4 = .ok (.ifCond .eq 5, 3) := by decide +kernel
theorem d_MD_addRow_7 : decode b_MD_addRow 7 = .ok (.iconst 0, 1) := by decide +kernel
theorem d_MD_addRow_8 : decode b_MD_addRow 8 = .ok (.ireturn, 1) := by decide +kernel
theorem d_MD_addRow_9 : decode b_MD_addRow 9 = .ok (.aload_n 0, 1) := by decide +kernel
theorem d_MD_addRow_10 : decode b_MD_addRow 10 = .ok (.getfield 221, 3) := by decide +kernel
theorem d_MD_addRow_13 : decode b_MD_addRow 13 = .ok (.sipush 200, 3) := by decide +kernel
theorem d_MD_addRow_16 : decode b_MD_addRow 16 = .ok (.if_icmp .ne 13, 3) := by decide +kernel
theorem d_MD_addRow_19 : decode b_MD_addRow 19 = .ok (.aload_n 0, 1) := by decide +kernel
theorem d_MD_addRow_20 : decode b_MD_addRow 20 = .ok (.aload_n 0, 1) := by decide +kernel
theorem d_MD_addRow_21 : decode b_MD_addRow 21 = .ok (.getfield 224, 3) := by decide +kernel
theorem d_MD_addRow_24 : decode b_MD_addRow 24 = .ok (.invokevirtual 173, 3) := by decide +kernel
theorem d_MD_addRow_27 : decode b_MD_addRow 27 = .ok (.iconst 0, 1) := by decide +kernel
theorem d_MD_addRow_28 : decode b_MD_addRow 28 = .ok (.ireturn, 1) := by decide +kernel
theorem d_MD_addRow_29 : decode b_MD_addRow 29 = .ok (.aload_n 0, 1) := by decide +kernel
theorem d_MD_addRow_30 : decode b_MD_addRow 30 = .ok (.invokevirtual 227, 3) := by decide +kernel
theorem d_MD_addRow_33 : decode b_MD_addRow 33 = .ok (.aload_n 0, 1) := by decide +kernel
theorem d_MD_addRow_34 : decode b_MD_addRow 34 = .ok (.getfield 221, 3) := by decide +kernel
theorem d_MD_addRow_37 : decode b_MD_addRow 37 = .ok (.iadd, 1) := by decide +kernel
theorem d_MD_addRow_38 : decode b_MD_addRow 38 = .ok (.istore 9, 2) := by decide +kernel
theorem d_MD_addRow_40 : decode b_MD_addRow 40 = .ok (.aload_n 0, 1) := by decide +kernel
theorem d_MD_addRow_41 : decode b_MD_addRow 41 = .ok (.getfield 80, 3) := by decide +kernel
theorem d_MD_addRow_44 : decode b_MD_addRow 44 = .ok (.iload 9, 2) := by decide +kernel
theorem d_MD_addRow_46 : decode b_MD_addRow 46 = .ok (.aload_n 0, 1) := by decide +kernel
theorem d_MD_addRow_47 : decode b_MD_addRow 47 = .ok (.getfield 231, 3) := by decide +kernel
theorem d_MD_addRow_50 : decode b_MD_addRow 50 = .ok (.i2b, 1) := by decide +kernel
theorem d_MD_addRow_51 : decode b_MD_addRow 51 = .ok (.bastore, 1) := by decide +kernel
theorem d_MD_addRow_52 : decode b_MD_addRow 52 = .ok (.aload_n 0, 1) := by decide +kernel
theorem d_MD_addRow_53 : decode b_MD_addRow 53 = .ok (.getfield 83, 3) := by decide +kernel
theorem d_MD_addRow_56 : decode b_MD_addRow 56 = .ok (.iload 9, 2) := by decide +kernel
theorem d_MD_addRow_58 : decode b_MD_addRow 58 = .ok (.aload_n 0, 1) := by decide +kernel
theorem d_MD_addRow_59 : decode b_MD_addRow 59 = .ok (.getfield 231, 3) := by decide +kernel
theorem d_MD_addRow_62 : decode b_MD_addRow 62 = .ok (.bipush 8, 2) := by decide +kernel
theorem d_MD_addRow_64 : decode b_MD_addRow 64 = .ok (.if_icmp .ne 10, 3) := by decide +kernel
theorem d_MD_addRow_67 : decode b_MD_addRow 67 = .ok (.aload_n 0, 1) := by decide +kernel
theorem d_MD_addRow_68 : decode b_MD_addRow 68 = .ok (.getfield 234, 3) := by decide +kernel
theorem d_MD_addRow_71 : decode b_MD_addRow 71 = .ok (.goto 4, 3) := by decide +kernel
theorem d_MD_addRow_74 : decode b_MD_addRow 74 = .ok (.iconst (-1), 1) := by decide +kernel
theorem d_MD_addRow_75 : decode b_MD_addRow 75 = .ok (.iastore, 1) := by decide +kernel
theorem d_MD_addRow_76 : decode b_MD_addRow 76 = .ok (.aload_n 0, 1) := by decide +kernel
theorem d_MD_addRow_77 : decode b_MD_addRow 77 = .ok (.getfield 86, 3) := by decide +kernel
theorem d_MD_addRow_80 : decode b_MD_addRow 80 = .ok (.iload 9, 2) := by decide +kernel
theorem d_MD_addRow_82 : decode b_MD_addRow 82 = .ok (.iload_n 2, 1) := by decide +kernel
theorem d_MD_addRow_83 : decode b_MD_addRow 83 = .ok (.iastore, 1) := by decide +kernel
theorem d_MD_addRow_84 : decode b_MD_addRow 84 = .ok (.aload_n 0, 1) := by decide +kernel
theorem d_MD_addRow_85 : decode b_MD_addRow 85 = .ok (.iload_n 1, 1) := by decide +kernel
theorem d_MD_addRow_86 : decode b_MD_addRow 86 = .ok (.iload_n 2, 1) := by decide +kernel
theorem d_MD_addRow_87 : decode b_MD_addRow 87 = .ok (.aload_n 0, 1) := by decide +kernel
theorem d_MD_addRow_88 : decode b_MD_addRow 88 = .ok (.getfield 93, 3) := by decide +kernel
theorem d_MD_addRow_91 : decode b_MD_addRow 91 = .ok (.bipush 20, 2) := by decide +kernel
theorem d_MD_addRow_93 : decode b_MD_addRow 93 = .ok (.iload 9, 2) := by decide +kernel
theorem d_MD_addRow_95 : decode b_MD_addRow 95 = .ok (.imul, 1) := by decide +kernel
theorem d_MD_addRow_96 : decode b_MD_addRow 96 = .ok (.invokevirtual 237, 3) := by decide +kernel
theorem d_MD_addRow_99 : decode b_MD_addRow 99 = .ok (.aload_n 0, 1) := by decide +kernel
theorem d_MD_addRow_100 : decode b_MD_addRow 100 = .ok (.getfield 89, 3) := by decide +kernel
theorem d_MD_addRow_103 : decode b_MD_addRow 103 = .ok (.iload 9, 2) := by decide +kernel
theorem d_MD_addRow_105 : decode b_MD_addRow 105 = .ok (.iload 4, 2) := by decide +kernel
theorem d_MD_addRow_107 : decode b_MD_addRow 107 = .ok (.iastore, 1) := by decide +kernel
theorem d_MD_addRow_108 : decode b_MD_addRow 108 = .ok (.aload_n 0, 1) := by decide +kernel
theorem d_MD_addRow_109 : decode b_MD_addRow 109 = .ok (.iload_n 3, 1) := by decide +kernel
theorem d_MD_addRow_110 : decode b_MD_addRow 110 = .ok (.iload 4, 2) := by decide +kernel
theorem d_MD_addRow_112 : decode b_MD_addRow 112 = .ok (.aload_n 0, 1) := by decide +kernel
theorem d_MD_addRow_113 : decode b_MD_addRow 113 = .ok (.getfield 96, 3) := by decide +kernel
theorem d_MD_addRow_116 : decode b_MD_addRow 116 = .ok (.bipush 20, 2) := by decide +kernel
theorem d_MD_addRow_118 : decode b_MD_addRow 118 = .ok (.iload 9, 2) := by decide +kernel
theorem d_MD_addRow_120 : decode b_MD_addRow 120 = .ok (.imul, 1) := by decide +kernel
theorem d_MD_addRow_121 : decode b_MD_addRow 121 = .ok (.invokevirtual 237, 3) := by decide +kernel
theorem d_MD_addRow_124 : decode b_MD_addRow 124 = .ok (.aload_n 0, 1) := by decide +kernel
theorem d_MD_addRow_125 : decode b_MD_addRow 125 = .ok (.getfield 99, 3) := by decide +kernel
theorem d_MD_addRow_128 : decode b_MD_addRow 128 = .ok (.iload 9, 2) := by decide +kernel
theorem d_MD_addRow_130 : decode b_MD_addRow 130 = .ok (.lload 5, 2) := by decide +kernel
theorem d_MD_addRow_132 : decode b_MD_addRow 132 = .ok (.lastore, 1) := by decide +kernel
theorem d_MD_addRow_133 : decode b_MD_addRow 133 = .ok (.aload_n 0, 1) := by decide +kernel
theorem d_MD_addRow_134 : decode b_MD_addRow 134 = .ok (.getfield 102, 3) := by decide +kernel
theorem d_MD_addRow_137 : decode b_MD_addRow 137 = .ok (.iload 9, 2) := by decide +kernel
theorem d_MD_addRow_139 : decode b_MD_addRow 139 = .ok (.lload 7, 2) := by decide +kernel
theorem d_MD_addRow_141 : decode b_MD_addRow 141 = .ok (.lastore, 1) := by decide +kernel
theorem d_MD_addRow_142 : decode b_MD_addRow 142 = .ok (.aload_n 0, 1) := by decide +kernel
theorem d_MD_addRow_143 : decode b_MD_addRow 143 = .ok (.getfield 105, 3) := by decide +kernel
theorem d_MD_addRow_146 : decode b_MD_addRow 146 = .ok (.iload 9, 2) := by decide +kernel
theorem d_MD_addRow_148 : decode b_MD_addRow 148 = .ok (.iconst 0, 1) := by decide +kernel
theorem d_MD_addRow_149 : decode b_MD_addRow 149 = .ok (.bastore, 1) := by decide +kernel
theorem d_MD_addRow_150 : decode b_MD_addRow 150 = .ok (.aload_n 0, 1) := by decide +kernel
theorem d_MD_addRow_151 : decode b_MD_addRow 151 = .ok (.dup, 1) := by decide +kernel
theorem d_MD_addRow_152 : decode b_MD_addRow 152 = .ok (.getfield 221, 3) := by decide +kernel
theorem d_MD_addRow_155 : decode b_MD_addRow 155 = .ok (.iconst 1, 1) := by decide +kernel
theorem d_MD_addRow_156 : decode b_MD_addRow 156 = .ok (.iadd, 1) := by decide +kernel
theorem d_MD_addRow_157 : decode b_MD_addRow 157 = .ok (.putfield 221, 3) := by decide +kernel
theorem d_MD_addRow_160 : decode b_MD_addRow 160 = .ok (.iconst 1, 1) := by decide +kernel
theorem d_MD_addRow_161 : decode b_MD_addRow 161 = .ok (.ireturn, 1) := by decide +kernel
theorem d_MD_takeName_0 : decode b_MD_takeName 0 = .ok (.aload_n 0, 1) := by decide +kernel
theorem d_MD_takeName_1 : decode b_MD_takeName 1 = .ok (.getfield 147, 3) := by decide +kernel
theorem d_MD_takeName_4 : decode b_MD_takeName 4 = .ok (.istore_n 1, 1) := by decide +kernel
theorem d_MD_takeName_5 : decode b_MD_takeName 5 = .ok (.aload_n 0, 1) := by decide +kernel
theorem d_MD_takeName_6 : decode b_MD_takeName 6 = .ok (.aload_n 0, 1) := by decide +kernel
theorem d_MD_takeName_7 : decode b_MD_takeName 7 = .ok (.getfield 141, 3) := by decide +kernel
theorem d_MD_takeName_10 : decode b_MD_takeName 10 = .ok (.aload_n 0, 1) := by decide +kernel
theorem d_MD_takeName_11 : decode b_MD_takeName 11 = .ok (.getfield 147, 3) := by decide +kernel
theorem d_MD_takeName_14 : decode b_MD_takeName 14 = .ok (.isub, 1) := by decide +kernel
theorem d_MD_takeName_15 : decode b_MD_takeName 15 = .ok (.putfield 241, 3) := by decide +kernel
theorem d_MD_takeName_18 : decode b_MD_takeName 18 = .ok (.aload_n 0, 1) := by decide +kernel
theorem d_MD_takeName_19 : decode b_MD_takeName 19 = .ok (.invokevirtual 166, 3) := by decide +kernel
theorem d_MD_takeName_22 : decode b_MD_takeName 22 = .ok (.ifCond .eq 5, 3) := by decide +kernel
theorem d_MD_takeName_25 : decode b_MD_takeName 25 = .ok (.iload_n 1, 1) := by decide +kernel
theorem d_MD_takeName_26 : decode b_MD_takeName 26 = .ok (.ireturn, 1) := by decide +kernel
theorem d_MD_takeName_27 : decode b_MD_takeName 27 = .ok (.aload_n 0, 1) := by decide +kernel
theorem d_MD_takeName_28 : decode b_MD_takeName 28 = .ok (.invokevirtual 244, 3) := by decide +kernel
theorem d_MD_takeName_31 : decode b_MD_takeName 31 = .ok (.ifCond .eq 10, 3) := by decide +kernel
theorem d_MD_takeName_34 : decode b_MD_takeName 34 = .ok (.aload_n 0, 1) := by decide +kernel
theorem d_MD_takeName_35 : decode b_MD_takeName 35 = .ok (.invokevirtual 170, 3) := by decide +kernel
theorem d_MD_takeName_38 : decode b_MD_takeName 38 = .ok (.goto 11, 3) := by decide +kernel
theorem d_MD_takeName_41 : decode b_MD_takeName 41 = .ok (.aload_n 0, 1) := by decide +kernel
theorem d_MD_takeName_42 : decode b_MD_takeName 42 = .ok (.aload_n 0, 1) := by decide +kernel
theorem d_MD_takeName_43 : decode b_MD_takeName 43 = .ok (.getfield 147, 3) := by decide +kernel
theorem d_MD_takeName_46 : decode b_MD_takeName 46 = .ok (.invokevirtual 173, 3) := by decide +kernel
theorem d_MD_takeName_49 : decode b_MD_takeName 49 = .ok (.iload_n 1, 1) := by decide +kernel
theorem d_MD_takeName_50 : decode b_MD_takeName 50 = .ok (.ireturn, 1) := by decide +kernel
theorem d_MD_readRanged_0 : decode b_MD_readRanged 0 = .ok (.aload_n 0, 1) := by decide +kernel
theorem d_MD_readRanged_1 : decode b_MD_readRanged 1 = .ok (.invokevirtual 253, 3) := by decide +kernel
theorem d_MD_readRanged_4 : decode b_MD_readRanged 4 = .ok (.istore_n 1, 1) := by decide +kernel
theorem d_MD_readRanged_5 : decode b_MD_readRanged 5 = .ok (.aload_n 0, 1) := by decide +kernel
theorem d_MD_readRanged_6 : decode b_MD_readRanged 6 = .ok (.getfield 241, 3) := by decide +kernel
theorem d_MD_readRanged_9 : decode b_MD_readRanged 9 = .ok (.istore_n 2, 1) := by decide +kernel
theorem d_MD_readRanged_10 : decode b_MD_readRanged 10 = .ok (.aload_n 0, 1) := by decide +kernel
theorem d_MD_readRanged_11 : decode b_MD_readRanged 11 = .ok (.invokevirtual 256, 3) := by decide +kernel
theorem d_MD_readRanged_14 : decode b_MD_readRanged 14 = .ok (.aload_n 0, 1) := by decide +kernel
theorem d_MD_readRanged_15 : decode b_MD_readRanged 15 = .ok (.iload_n 1, 1) := by decide +kernel
theorem d_MD_readRanged_16 : decode b_MD_readRanged 16 = .ok (.iload_n 2, 1) := by decide +kernel
theorem d_MD_readRanged_17 : decode b_MD_readRanged 17 = .ok (.iconst 0, 1) := by decide +kernel
theorem d_MD_readRanged_18 : decode b_MD_readRanged 18 = .ok (.iconst 0, 1) := by decide +kernel
theorem d_MD_readRanged_19 : decode b_MD_readRanged 19 = .ok (.aload_n 0, 1) := by decide +kernel
theorem d_MD_readRanged_20 : decode b_MD_readRanged 20 = .ok (.getfield 196, 3) := by decide +kernel
theorem d_MD_readRanged_23 : decode b_MD_readRanged 23 = .ok (.aload_n 0, 1) := by decide +kernel
theorem d_MD_readRanged_24 : decode b_MD_readRanged 24 = .ok (.getfield 200, 3) := by decide +kernel
theorem d_MD_readRanged_27 : decode b_MD_readRanged 27 = .ok (.invokevirtual 259, 3) := by decide +kernel
theorem d_MD_readRanged_30 : decode b_MD_readRanged 30 = .ok (.pop, 1) := by decide +kernel
theorem d_MD_readRanged_31 : decode b_MD_readRanged 31 = .ok (.return_, 1) := by decide +kernel
theorem d_MD_readNeed_0 : decode b_MD_readNeed 0 = .ok (.iconst 0, 1) := by decide +kernel
theorem d_MD_readNeed_1 : decode b_MD_readNeed 1 = .ok (.istore_n 1, 1) := by decide +kernel
theorem d_MD_readNeed_2 : decode b_MD_readNeed 2 = .ok (.aload_n 0, 1) := by decide +kernel
theorem d_MD_readNeed_3 : decode b_MD_readNeed 3 = .ok (.invokevirtual 247, 3) := by decide +kernel
theorem d_MD_readNeed_6 : decode b_MD_readNeed 6 = .ok (.lstore_n 2, 1) := by decide +kernel
theorem d_MD_readNeed_7 : decode b_MD_readNeed 7 = .ok (.iload_n 1, 1) := by decide +kernel
theorem d_MD_readNeed_8 : decode b_MD_readNeed 8 = .ok (.iconst 5, 1) := by decide +kernel
theorem d_MD_readNeed_9 : decode b_MD_readNeed 9 = .ok (.if_icmp .ge 20, 3) := by decide +kernel
theorem d_MD_readNeed_12 : decode b_MD_readNeed 12 = .ok (.aload_n 0, 1) := by decide +kernel
theorem d_MD_readNeed_13 : decode b_MD_readNeed 13 = .ok (.getfield 23, 3) := by decide +kernel
theorem d_MD_readNeed_16 : decode b_MD_readNeed 16 = .ok (.iload_n 1, 1) := by decide +kernel
theorem d_MD_readNeed_17 : decode b_MD_readNeed 17 = .ok (.laload, 1) := by decide +kernel
theorem d_MD_readNeed_18 : decode b_MD_readNeed 18 = .ok (.lload_n 2, 1) := by decide +kernel
theorem d_MD_readNeed_19 : decode b_MD_readNeed 19 = .ok (.lcmp, 1) := by decide +kernel
theorem d_MD_readNeed_20 : decode b_MD_readNeed 20 = .ok (.ifCond .eq 9, 3) := by decide +kernel
theorem d_MD_readNeed_23 : decode b_MD_readNeed 23 = .ok (.iinc 1 1, 3) := by decide +kernel
theorem d_MD_readNeed_26 : decode b_MD_readNeed 26 = .ok (.goto (-19), 3) := by decide +kernel
theorem d_MD_readNeed_29 : decode b_MD_readNeed 29 = .ok (.iload_n 1, 1) := by decide +kernel
theorem d_MD_readNeed_30 : decode b_MD_readNeed 30 = .ok (.iconst 5, 1) := by decide +kernel
theorem d_MD_readNeed_31 : decode b_MD_readNeed 31 = .ok (.if_icmp .ne 12, 3) := by decide +kernel
theorem d_MD_readNeed_34 : decode b_MD_readNeed 34 = .ok (.aload_n 0, 1) := by decide +kernel
theorem d_MD_readNeed_35 : decode b_MD_readNeed 35 = .ok (.aload_n 0, 1) := by decide +kernel
theorem d_MD_readNeed_36 : decode b_MD_readNeed 36 = .ok (.getfield 147, 3) := by decide +kernel
theorem d_MD_readNeed_39 : decode b_MD_readNeed 39 = .ok (.invokevirtual 173, 3) := by decide +kernel
theorem d_MD_readNeed_42 : decode b_MD_readNeed 42 = .ok (.return_, 1) := by decide +kernel
theorem d_MD_readNeed_43 : decode b_MD_readNeed 43 = .ok (.aload_n 0, 1) := by decide +kernel
theorem d_MD_readNeed_44 : decode b_MD_readNeed 44 = .ok (.iload_n 1, 1) := by decide +kernel
theorem d_MD_readNeed_45 : decode b_MD_readNeed 45 = .ok (.putfield 231, 3) := by decide +kernel
theorem d_MD_readNeed_48 : decode b_MD_readNeed 48 = .ok (.aload_n 0, 1) := by decide +kernel
theorem d_MD_readNeed_49 : decode b_MD_readNeed 49 = .ok (.invokevirtual 170, 3) := by decide +kernel
theorem d_MD_readNeed_52 : decode b_MD_readNeed 52 = .ok (.aload_n 0, 1) := by decide +kernel
theorem d_MD_readNeed_53 : decode b_MD_readNeed 53 = .ok (.invokevirtual 250, 3) := by decide +kernel
theorem d_MD_readNeed_56 : decode b_MD_readNeed 56 = .ok (.return_, 1) := by decide +kernel
theorem d_MD_readAny_0 : decode b_MD_readAny 0 = .ok (.aload_n 0, 1) := by decide +kernel
theorem d_MD_readAny_1 : decode b_MD_readAny 1 = .ok (.invokevirtual 250, 3) := by decide +kernel
theorem d_MD_readAny_4 : decode b_MD_readAny 4 = .ok (.aload_n 0, 1) := by decide +kernel
theorem d_MD_readAny_5 : decode b_MD_readAny 5 = .ok (.bipush 124, 2) := by decide +kernel
theorem d_MD_readAny_7 : decode b_MD_readAny 7 = .ok (.invokevirtual 184, 3) := by decide +kernel
theorem d_MD_readAny_10 : decode b_MD_readAny 10 = .ok (.aload_n 0, 1) := by decide +kernel
theorem d_MD_readAny_11 : decode b_MD_readAny 11 = .ok (.invokevirtual 250, 3) := by decide +kernel
theorem d_MD_readAny_14 : decode b_MD_readAny 14 = .ok (.aload_n 0, 1) := by decide +kernel
theorem d_MD_readAny_15 : decode b_MD_readAny 15 = .ok (.invokevirtual 166, 3) := by decide +kernel
theorem d_MD_readAny_18 : decode b_MD_readAny 18 = .ok (.ifCond .ne 23, 3) := by decide +kernel
theorem d_MD_readAny_21 : decode b_MD_readAny 21 = .ok (.aload_n 0, 1) := by decide +kernel
theorem d_MD_readAny_22 : decode b_MD_readAny 22 = .ok (.getfield 150, 3) := by decide +kernel
theorem d_MD_readAny_25 : decode b_MD_readAny 25 = .ok (.bipush 124, 2) := by decide +kernel
theorem d_MD_readAny_27 : decode b_MD_readAny 27 = .ok (.if_icmp .ne 14, 3) := by decide +kernel
theorem d_MD_readAny_30 : decode b_MD_readAny 30 = .ok (.aload_n 0, 1) := by decide +kernel
theorem d_MD_readAny_31 : decode b_MD_readAny 31 = .ok (.invokevirtual 170, 3) := by decide +kernel
theorem d_MD_readAny_34 : decode b_MD_readAny 34 = .ok (.aload_n 0, 1) := by decide +kernel
theorem d_MD_readAny_35 : decode b_MD_readAny 35 = .ok (.invokevirtual 250, 3) := by decide +kernel
theorem d_MD_readAny_38 : decode b_MD_readAny 38 = .ok (.goto (-24), 3) := by decide +kernel
theorem d_MD_readAny_41 : decode b_MD_readAny 41 = .ok (.aload_n 0, 1) := by decide +kernel
theorem d_MD_readAny_42 : decode b_MD_readAny 42 = .ok (.dup, 1) := by decide +kernel
theorem d_MD_readAny_43 : decode b_MD_readAny 43 = .ok (.getfield 234, 3) := by decide +kernel
theorem d_MD_readAny_46 : decode b_MD_readAny 46 = .ok (.iconst 1, 1) := by decide +kernel
theorem d_MD_readAny_47 : decode b_MD_readAny 47 = .ok (.iadd, 1) := by decide +kernel
theorem d_MD_readAny_48 : decode b_MD_readAny 48 = .ok (.putfield 234, 3) := by decide +kernel
theorem d_MD_readAny_51 : decode b_MD_readAny 51 = .ok (.return_, 1) := by decide +kernel
theorem d_MD_readNames_0 : decode b_MD_readNames 0 = .ok (.iconst 1, 1) := by decide +kernel
theorem d_MD_readNames_1 : decode b_MD_readNames 1 = .ok (.istore_n 3, 1) := by decide +kernel
theorem d_MD_readNames_2 : decode b_MD_readNames 2 = .ok (.iload_n 3, 1) := by decide +kernel
theorem d_MD_readNames_3 : decode b_MD_readNames 3 = .ok (.ifCond .eq 119, 3) := by decide +kernel
theorem d_MD_readNames_6 : decode b_MD_readNames 6 = .ok (.aload_n 0, 1) := by decide +kernel
theorem d_MD_readNames_7 : decode b_MD_readNames 7 = .ok (.invokevirtual 166, 3) := by decide +kernel
theorem d_MD_readNames_10 : decode b_MD_readNames 10 = .ok (.ifCond .ne 112, 3) := by decide +kernel
theorem d_MD_readNames_13 : decode b_MD_readNames 13 = .ok (.aload_n 0, 1) := by decide +kernel
theorem d_MD_readNames_14 : decode b_MD_readNames 14 = .ok (.invokevirtual 253, 3) := by decide +kernel
theorem d_MD_readNames_17 : decode b_MD_readNames 17 = .ok (.istore 4, 2) := by decide +kernel
theorem d_MD_readNames_19 : decode b_MD_readNames 19 = .ok (.aload_n 0, 1) := by decide +kernel
theorem d_MD_readNames_20 : decode b_MD_readNames 20 = .ok (.getfield 241, 3) := by decide +kernel
theorem d_MD_readNames_23 : decode b_MD_readNames 23 = .ok (.istore 5, 2) := by decide +kernel
theorem d_MD_readNames_25 : decode b_MD_readNames 25 = .ok (.aload_n 0, 1) := by decide +kernel
theorem d_MD_readNames_26 : decode b_MD_readNames 26 = .ok (.iload 4, 2) := by decide +kernel
theorem d_MD_readNames_28 : decode b_MD_readNames 28 = .ok (.iload 5, 2) := by decide +kernel
theorem d_MD_readNames_30 : decode b_MD_readNames 30 = .ok (.iload_n 1, 1) := by decide +kernel
theorem d_MD_readNames_31 : decode b_MD_readNames 31 = .ok (.iload_n 2, 1) := by decide +kernel
theorem d_MD_readNames_32 : decode b_MD_readNames 32 = .ok (.ldc2_w 267, 3) := by decide +kernel
theorem d_MD_readNames_35 : decode b_MD_readNames 35 = .ok (.ldc2_w 267, 3) := by decide +kernel
theorem d_MD_readNames_38 : decode b_MD_readNames 38 = .ok (.invokevirtual 259, 3) := by decide +kernel
theorem d_MD_readNames_41 : decode b_MD_readNames 41 = .ok (.istore 6, 2) := by decide +kernel
theorem d_MD_readNames_43 : decode b_MD_readNames 43 = .ok (.iload 6, 2) := by decide +kernel
theorem d_MD_readNames_45 : decode b_MD_readNames 45 = .ok (.ifCond .eq 44, 3) := by decide +kernel
theorem d_MD_readNames_48 : decode b_MD_readNames 48 = .ok (.aload_n 0, 1) := by decide +kernel
theorem d_MD_readNames_49 : decode b_MD_readNames 49 = .ok (.getfield 231, 3) := by decide +kernel
theorem d_MD_readNames_52 : decode b_MD_readNames 52 = .ok (.bipush 10, 2) := by decide +kernel
theorem d_MD_readNames_54 : decode b_MD_readNames 54 = .ok (.if_icmp .ne 35, 3) := by decide +kernel
theorem d_MD_readNames_57 : decode b_MD_readNames 57 = .ok (.aload_n 0, 1) := by decide +kernel
theorem d_MD_readNames_58 : decode b_MD_readNames 58 = .ok (.getfield 109, 3) := by decide +kernel
theorem d_MD_readNames_61 : decode b_MD_readNames 61 = .ok (.aload_n 0, 1) := by decide +kernel
theorem d_MD_readNames_62 : decode b_MD_readNames 62 = .ok (.getfield 269, 3) := by decide +kernel
theorem d_MD_readNames_65 : decode b_MD_readNames 65 = .ok (.iload 4, 2) := by decide +kernel
theorem d_MD_readNames_67 : decode b_MD_readNames 67 = .ok (.iastore, 1) := by decide +kernel
theorem d_MD_readNames_68 : decode b_MD_readNames 68 = .ok (.aload_n 0, 1) := by decide +kernel
theorem d_MD_readNames_69 : decode b_MD_readNames 69 = .ok (.getfield 112, 3) := by decide +kernel
theorem d_MD_readNames_72 : decode b_MD_readNames 72 = .ok (.aload_n 0, 1) := by decide +kernel
theorem d_MD_readNames_73 : decode b_MD_readNames 73 = .ok (.getfield 269, 3) := by decide +kernel
theorem d_MD_readNames_76 : decode b_MD_readNames 76 = .ok (.iload 5, 2) := by decide +kernel
theorem d_MD_readNames_78 : decode b_MD_readNames 78 = .ok (.iastore, 1) := by decide +kernel
theorem d_MD_readNames_79 : decode b_MD_readNames 79 = .ok (.aload_n 0, 1) := by decide +kernel
theorem d_MD_readNames_80 : decode b_MD_readNames 80 = .ok (.dup, 1) := by decide +kernel
theorem d_MD_readNames_81 : decode b_MD_readNames 81 = .ok (.getfield 269, 3) := by decide +kernel
theorem d_MD_readNames_84 : decode b_MD_readNames 84 = .ok (.iconst 1, 1) := by decide +kernel
theorem d_MD_readNames_85 : decode b_MD_readNames 85 = .ok (.iadd, 1) := by decide +kernel
theorem d_MD_readNames_86 : decode b_MD_readNames 86 = .ok (.putfield 269, 3) := by decide +kernel
theorem d_MD_readNames_89 : decode b_MD_readNames 89 = .ok (.aload_n 0, 1) := by decide +kernel
theorem d_MD_readNames_90 : decode b_MD_readNames 90 = .ok (.invokevirtual 166, 3) := by decide +kernel
theorem d_MD_readNames_93 : decode b_MD_readNames 93 = .ok (.ifCond .ne 16, 3) := by decide +kernel
theorem d_MD_readNames_96 : decode b_MD_readNames 96 = .ok (.aload_n 0, 1) := by decide +kernel
theorem d_MD_readNames_97 : decode b_MD_readNames 97 = .ok (.getfield 150, 3) := by decide +kernel
theorem d_MD_readNames_100 : decode b_MD_readNames 100 = .ok (.bipush 44, 2) := by decide +kernel
theorem d_MD_readNames_102 : decode b_MD_readNames 102 = .ok (.if_icmp .ne 7, 3) := by decide +kernel
theorem d_MD_readNames_105 : decode b_MD_readNames 105 = .ok (.iconst 1, 1) := by decide +kernel
theorem d_MD_readNames_106 : decode b_MD_readNames 106 = .ok (.goto 4, 3) := by decide +kernel
theorem d_MD_readNames_109 : decode b_MD_readNames 109 = .ok (.iconst 0, 1) := by decide +kernel
theorem d_MD_readNames_110 : decode b_MD_readNames 110 = .ok (.istore_n 3, 1) := by decide +kernel
theorem d_MD_readNames_111 : decode b_MD_readNames 111 = .ok (.iload_n 3, 1) := by decide +kernel
theorem d_MD_readNames_112 : decode b_MD_readNames 112 = .ok (.ifCond .eq 7, 3) := by decide +kernel
theorem d_MD_readNames_115 : decode b_MD_readNames 115 = .ok (.aload_n 0, 1) := by decide +kernel
theorem d_MD_readNames_116 : decode b_MD_readNames 116 = .ok (.invokevirtual 170, 3) := by decide +kernel
theorem d_MD_readNames_119 : decode b_MD_readNames 119 = .ok (.goto (-117), 3) := by decide +kernel
theorem d_MD_readNames_122 : decode b_MD_readNames 122 = .ok (.return_, 1) := by decide +kernel
theorem d_MD_readFeature_0 : decode b_MD_readFeature 0 = .ok (.aload_n 0, 1) := by decide +kernel
theorem d_MD_readFeature_1 : decode b_MD_readFeature 1 = .ok (.invokevirtual 253, 3) := by decide +kernel
theorem d_MD_readFeature_4 : decode b_MD_readFeature 4 = .ok (.istore_n 1, 1) := by decide +kernel
theorem d_MD_readFeature_5 : decode b_MD_readFeature 5 = .ok (.aload_n 0, 1) := by decide +kernel
theorem d_MD_readFeature_6 : decode b_MD_readFeature 6 = .ok (.getfield 241, 3) := by decide +kernel
theorem d_MD_readFeature_9 : decode b_MD_readFeature 9 = .ok (.istore_n 2, 1) := by decide +kernel
theorem d_MD_readFeature_10 : decode b_MD_readFeature 10 = .ok (.aload_n 0, 1) := by decide +kernel
theorem d_MD_readFeature_11 : decode b_MD_readFeature 11 = .ok (.bipush 58, 2) := by decide +kernel
theorem d_MD_readFeature_13 : decode b_MD_readFeature 13 = .ok (.invokevirtual 184, 3) := by decide +kernel
theorem d_MD_readFeature_16 : decode b_MD_readFeature 16 = .ok (.aload_n 0, 1) := by decide +kernel
theorem d_MD_readFeature_17 : decode b_MD_readFeature 17 = .ok (.invokevirtual 166, 3) := by decide +kernel
theorem d_MD_readFeature_20 : decode b_MD_readFeature 20 = .ok (.ifCond .eq 4, 3) := by decide +kernel
theorem d_MD_readFeature_23 : decode b_MD_readFeature 23 = .ok (.return_, 1) := by decide +kernel
theorem d_MD_readFeature_24 : decode b_MD_readFeature 24 = .ok (.sipush 250, 3) := by decide +kernel
theorem d_MD_readFeature_27 : decode b_MD_readFeature 27 = .ok (.aload_n 0, 1) := by decide +kernel
theorem d_MD_readFeature_28 : decode b_MD_readFeature 28 = .ok (.getfield 218, 3) := by decide +kernel
theorem d_MD_readFeature_31 : decode b_MD_readFeature 31 = .ok (.imul, 1) := by decide +kernel
theorem d_MD_readFeature_32 : decode b_MD_readFeature 32 = .ok (.aload_n 0, 1) := by decide +kernel
theorem d_MD_readFeature_33 : decode b_MD_readFeature 33 = .ok (.getfield 64, 3) := by decide +kernel
theorem d_MD_readFeature_36 : decode b_MD_readFeature 36 = .ok (.aload_n 0, 1) := by decide +kernel
theorem d_MD_readFeature_37 : decode b_MD_readFeature 37 = .ok (.getfield 218, 3) := by decide +kernel
theorem d_MD_readFeature_40 : decode b_MD_readFeature 40 = .ok (.iaload, 1) := by decide +kernel
theorem d_MD_readFeature_41 : decode b_MD_readFeature 41 = .ok (.iadd, 1) := by decide +kernel
theorem d_MD_readFeature_42 : decode b_MD_readFeature 42 = .ok (.istore_n 3, 1) := by decide +kernel
theorem d_MD_readFeature_43 : decode b_MD_readFeature 43 = .ok (.aload_n 0, 1) := by decide +kernel
theorem d_MD_readFeature_44 : decode b_MD_readFeature 44 = .ok (.getfield 77, 3) := by decide +kernel
theorem d_MD_readFeature_47 : decode b_MD_readFeature 47 = .ok (.iload_n 3, 1) := by decide +kernel
theorem d_MD_readFeature_48 : decode b_MD_readFeature 48 = .ok (.iload_n 2, 1) := by decide +kernel
theorem d_MD_readFeature_49 : decode b_MD_readFeature 49 = .ok (.iastore, 1) := by decide +kernel
theorem d_MD_readFeature_50 : decode b_MD_readFeature 50 = .ok (.aload_n 0, 1) := by decide +kernel
theorem d_MD_readFeature_51 : decode b_MD_readFeature 51 = .ok (.iload_n 1, 1) := by decide +kernel
theorem d_MD_readFeature_52 : decode b_MD_readFeature 52 = .ok (.iload_n 2, 1) := by decide +kernel
theorem d_MD_readFeature_53 : decode b_MD_readFeature 53 = .ok (.aload_n 0, 1) := by decide +kernel
theorem d_MD_readFeature_54 : decode b_MD_readFeature 54 = .ok (.getfield 74, 3) := by decide +kernel
theorem d_MD_readFeature_57 : decode b_MD_readFeature 57 = .ok (.bipush 20, 2) := by decide +kernel
theorem d_MD_readFeature_59 : decode b_MD_readFeature 59 = .ok (.iload_n 3, 1) := by decide +kernel
theorem d_MD_readFeature_60 : decode b_MD_readFeature 60 = .ok (.imul, 1) := by decide +kernel
theorem d_MD_readFeature_61 : decode b_MD_readFeature 61 = .ok (.invokevirtual 237, 3) := by decide +kernel
theorem d_MD_readFeature_64 : decode b_MD_readFeature 64 = .ok (.aload_n 0, 1) := by decide +kernel
theorem d_MD_readFeature_65 : decode b_MD_readFeature 65 = .ok (.getfield 64, 3) := by decide +kernel
theorem d_MD_readFeature_68 : decode b_MD_readFeature 68 = .ok (.aload_n 0, 1) := by decide +kernel
theorem d_MD_readFeature_69 : decode b_MD_readFeature 69 = .ok (.getfield 218, 3) := by decide +kernel
theorem d_MD_readFeature_72 : decode b_MD_readFeature 72 = .ok (.dup2, 1) := by decide +kernel
theorem d_MD_readFeature_73 : decode b_MD_readFeature 73 = .ok (.iaload, 1) := by decide +kernel
theorem d_MD_readFeature_74 : decode b_MD_readFeature 74 = .ok (.iconst 1, 1) := by decide +kernel
theorem d_MD_readFeature_75 : decode b_MD_readFeature 75 = .ok (.iadd, 1) := by decide +kernel
theorem d_MD_readFeature_76 : decode b_MD_readFeature 76 = .ok (.iastore, 1) := by decide +kernel
theorem d_MD_readFeature_77 : decode b_MD_readFeature 77 = .ok (.aload_n 0, 1) := by decide +kernel
theorem d_MD_readFeature_78 : decode b_MD_readFeature 78 = .ok (.getfield 150, 3) := by decide +kernel
theorem d_MD_readFeature_81 : decode b_MD_readFeature 81 = .ok (.bipush 59, 2) := by decide +kernel
theorem d_MD_readFeature_83 : decode b_MD_readFeature 83 = .ok (.if_icmp .eq 9, 3) := by decide +kernel
theorem d_MD_readFeature_86 : decode b_MD_readFeature 86 = .ok (.aload_n 0, 1) := by decide +kernel
theorem d_MD_readFeature_87 : decode b_MD_readFeature 87 = .ok (.iload_n 1, 1) := by decide +kernel
theorem d_MD_readFeature_88 : decode b_MD_readFeature 88 = .ok (.iload_n 2, 1) := by decide +kernel
theorem d_MD_readFeature_89 : decode b_MD_readFeature 89 = .ok (.invokevirtual 263, 3) := by decide +kernel
theorem d_MD_readFeature_92 : decode b_MD_readFeature 92 = .ok (.return_, 1) := by decide +kernel
theorem d_MD_readPlain_0 : decode b_MD_readPlain 0 = .ok (.aload_n 0, 1) := by decide +kernel
theorem d_MD_readPlain_1 : decode b_MD_readPlain 1 = .ok (.invokevirtual 253, 3) := by decide +kernel
theorem d_MD_readPlain_4 : decode b_MD_readPlain 4 = .ok (.istore_n 1, 1) := by decide +kernel
theorem d_MD_readPlain_5 : decode b_MD_readPlain 5 = .ok (.aload_n 0, 1) := by decide +kernel
theorem d_MD_readPlain_6 : decode b_MD_readPlain 6 = .ok (.getfield 241, 3) := by decide +kernel
theorem d_MD_readPlain_9 : decode b_MD_readPlain 9 = .ok (.istore_n 2, 1) := by decide +kernel
theorem d_MD_readPlain_10 : decode b_MD_readPlain 10 = .ok (.aload_n 0, 1) := by decide +kernel
theorem d_MD_readPlain_11 : decode b_MD_readPlain 11 = .ok (.getfield 231, 3) := by decide +kernel
theorem d_MD_readPlain_14 : decode b_MD_readPlain 14 = .ok (.bipush 7, 2) := by decide +kernel
theorem d_MD_readPlain_16 : decode b_MD_readPlain 16 = .ok (.if_icmp .ne 24, 3) := by decide +kernel
theorem d_MD_readPlain_19 : decode b_MD_readPlain 19 = .ok (.aload_n 0, 1) := by decide +kernel
theorem d_MD_readPlain_20 : decode b_MD_readPlain 20 = .ok (.invokevirtual 193, 3) := by decide +kernel
theorem d_MD_readPlain_23 : decode b_MD_readPlain 23 = .ok (.lstore_n 3, 1) := by decide +kernel
theorem d_MD_readPlain_24 : decode b_MD_readPlain 24 = .ok (.aload_n 0, 1) := by decide +kernel
theorem d_MD_readPlain_25 : decode b_MD_readPlain 25 = .ok (.iload_n 1, 1) := by decide +kernel
theorem d_MD_readPlain_26 : decode b_MD_readPlain 26 = .ok (.iload_n 2, 1) := by decide +kernel
theorem d_MD_readPlain_27 : decode b_MD_readPlain 27 = .ok (.iconst 0, 1) := by decide +kernel
theorem d_MD_readPlain_28 : decode b_MD_readPlain 28 = .ok (.iconst 0, 1) := by decide +kernel
theorem d_MD_readPlain_29 : decode b_MD_readPlain 29 = .ok (.lload_n 3, 1) := by decide +kernel
theorem d_MD_readPlain_30 : decode b_MD_readPlain 30 = .ok (.lload_n 3, 1) := by decide +kernel
theorem d_MD_readPlain_31 : decode b_MD_readPlain 31 = .ok (.lconst 1, 1) := by decide +kernel
theorem d_MD_readPlain_32 : decode b_MD_readPlain 32 = .ok (.ladd, 1) := by decide +kernel
theorem d_MD_readPlain_33 : decode b_MD_readPlain 33 = .ok (.invokevirtual 259, 3) := by decide +kernel
theorem d_MD_readPlain_36 : decode b_MD_readPlain 36 = .ok (.pop, 1) := by decide +kernel
theorem d_MD_readPlain_37 : decode b_MD_readPlain 37 = .ok (.goto 60, 3) := by decide +kernel
theorem d_MD_readPlain_40 : decode b_MD_readPlain 40 = .ok (.aload_n 0, 1) := by decide +kernel
theorem d_MD_readPlain_41 : decode b_MD_readPlain 41 = .ok (.getfield 231, 3) := by decide +kernel
theorem d_MD_readPlain_44 : decode b_MD_readPlain 44 = .ok (.bipush 14, 2) := by decide +kernel
theorem d_MD_readPlain_46 : decode b_MD_readPlain 46 = .ok (.if_icmp .ne 33, 3) := by decide +kernel
theorem d_MD_readPlain_49 : decode b_MD_readPlain 49 = .ok (.aload_n 0, 1) := by decide +kernel
theorem d_MD_readPlain_50 : decode b_MD_readPlain 50 = .ok (.invokevirtual 253, 3) := by decide +kernel
theorem d_MD_readPlain_53 : decode b_MD_readPlain 53 = .ok (.istore_n 3, 1) := by decide +kernel
theorem d_MD_readPlain_54 : decode b_MD_readPlain 54 = .ok (.aload_n 0, 1) := by decide +kernel
theorem d_MD_readPlain_55 : decode b_MD_readPlain 55 = .ok (.getfield 241, 3) := by decide +kernel
theorem d_MD_readPlain_58 : decode b_MD_readPlain 58 = .ok (.istore 4, 2) := by decide +kernel
theorem d_MD_readPlain_60 : decode b_MD_readPlain 60 = .ok (.aload_n 0, 1) := by decide +kernel
theorem d_MD_readPlain_61 : decode b_MD_readPlain 61 = .ok (.iload_n 1, 1) := by decide +kernel
theorem d_MD_readPlain_62 : decode b_MD_readPlain 62 = .ok (.iload_n 2, 1) := by decide +kernel
theorem d_MD_readPlain_63 : decode b_MD_readPlain 63 = .ok (.iload_n 3, 1) := by decide +kernel
theorem d_MD_readPlain_64 : decode b_MD_readPlain 64 = .ok (.iload 4, 2) := by decide +kernel
theorem d_MD_readPlain_66 : decode b_MD_readPlain 66 = .ok (.ldc2_w 267, 3) := by decide +kernel
theorem d_MD_readPlain_69 : decode b_MD_readPlain 69 = .ok (.ldc2_w 267, 3) := by decide +kernel
theorem d_MD_readPlain_72 : decode b_MD_readPlain 72 = .ok (.invokevirtual 259, 3) := by decide +kernel
theorem d_MD_readPlain_75 : decode b_MD_readPlain 75 = .ok (.pop, 1) := by decide +kernel
theorem d_MD_readPlain_76 : decode b_MD_readPlain 76 = .ok (.goto 21, 3) := by decide +kernel
theorem d_MD_readPlain_79 : decode b_MD_readPlain 79 = .ok (.aload_n 0, 1) := by decide +kernel
theorem d_MD_readPlain_80 : decode b_MD_readPlain 80 = .ok (.invokevirtual 189, 3) := by decide +kernel
theorem d_MD_readPlain_83 : decode b_MD_readPlain 83 = .ok (.lstore_n 3, 1) := by decide +kernel
theorem d_MD_readPlain_84 : decode b_MD_readPlain 84 = .ok (.aload_n 0, 1) := by decide +kernel
theorem d_MD_readPlain_85 : decode b_MD_readPlain 85 = .ok (.iload_n 1, 1) := by decide +kernel
theorem d_MD_readPlain_86 : decode b_MD_readPlain 86 = .ok (.iload_n 2, 1) := by decide +kernel
theorem d_MD_readPlain_87 : decode b_MD_readPlain 87 = .ok (.iconst 0, 1) := by decide +kernel
theorem d_MD_readPlain_88 : decode b_MD_readPlain 88 = .ok (.iconst 0, 1) := by decide +kernel
theorem d_MD_readPlain_89 : decode b_MD_readPlain 89 = .ok (.lload_n 3, 1) := by decide +kernel
theorem d_MD_readPlain_90 : decode b_MD_readPlain 90 = .ok (.ldc2_w 267, 3) := by decide +kernel
theorem d_MD_readPlain_93 : decode b_MD_readPlain 93 = .ok (.invokevirtual 259, 3) := by decide +kernel
theorem d_MD_readPlain_96 : decode b_MD_readPlain 96 = .ok (.pop, 1) := by decide +kernel
theorem d_MD_readPlain_97 : decode b_MD_readPlain 97 = .ok (.return_, 1) := by decide +kernel
theorem d_MD_readRow_0 : decode b_MD_readRow 0 = .ok (.aload_n 0, 1) := by decide +kernel
theorem d_MD_readRow_1 : decode b_MD_readRow 1 = .ok (.aload_n 0, 1) := by decide +kernel
theorem d_MD_readRow_2 : decode b_MD_readRow 2 = .ok (.getfield 147, 3) := by decide +kernel
theorem d_MD_readRow_5 : decode b_MD_readRow 5 = .ok (.putfield 224, 3) := by decide +kernel
theorem d_MD_readRow_8 : decode b_MD_readRow 8 = .ok (.aload_n 0, 1) := by decide +kernel
theorem d_MD_readRow_9 : decode b_MD_readRow 9 = .ok (.invokevirtual 247, 3) := by decide +kernel
theorem d_MD_readRow_12 : decode b_MD_readRow 12 = .ok (.lstore_n 1, 1) := by decide +kernel
theorem d_MD_readRow_13 : decode b_MD_readRow 13 = .ok (.iconst 0, 1) := by decide +kernel
theorem d_MD_readRow_14 : decode b_MD_readRow 14 = .ok (.istore_n 3, 1) := by decide +kernel
theorem d_MD_readRow_15 : decode b_MD_readRow 15 = .ok (.iload_n 3, 1) := by decide +kernel
theorem d_MD_readRow_16 : decode b_MD_readRow 16 = .ok (.bipush 12, 2) := by decide +kernel
theorem d_MD_readRow_18 : decode b_MD_readRow 18 = .ok (.if_icmp .ge 20, 3) := by decide +kernel
theorem d_MD_readRow_21 : decode b_MD_readRow 21 = .ok (.aload_n 0, 1) := by decide +kernel
theorem d_MD_readRow_22 : decode b_MD_readRow 22 = .ok (.getfield 51, 3) := by decide +kernel
theorem d_MD_readRow_25 : decode b_MD_readRow 25 = .ok (.iload_n 3, 1) := by decide +kernel
theorem d_MD_readRow_26 : decode b_MD_readRow 26 = .ok (.laload, 1) := by decide +kernel
theorem d_MD_readRow_27 : decode b_MD_readRow 27 = .ok (.lload_n 1, 1) := by decide +kernel
theorem d_MD_readRow_28 : decode b_MD_readRow 28 = .ok (.lcmp, 1) := by decide +kernel
theorem d_MD_readRow_29 : decode b_MD_readRow 29 = .ok (.ifCond .eq 9, 3) := by decide +kernel
theorem d_MD_readRow_32 : decode b_MD_readRow 32 = .ok (.iinc 3 1, 3) := by decide +kernel
theorem d_MD_readRow_35 : decode b_MD_readRow 35 = .ok (.goto (-20), 3) := by decide +kernel
theorem d_MD_readRow_38 : decode b_MD_readRow 38 = .ok (.iload_n 3, 1) := by decide +kernel
theorem d_MD_readRow_39 : decode b_MD_readRow 39 = .ok (.bipush 12, 2) := by decide +kernel
theorem d_MD_readRow_41 : decode b_MD_readRow 41 = .ok (.if_icmp .eq 9, 3) := by decide +kernel
theorem d_MD_readRow_44 : decode b_MD_readRow 44 = .ok (.lload_n 1, 1) := by decide +kernel
theorem d_MD_readRow_45 : decode b_MD_readRow 45 = .ok (.lconst 0, 1) := by decide +kernel
theorem d_MD_readRow_46 : decode b_MD_readRow 46 = .ok (.lcmp, 1) := by decide +kernel
theorem d_MD_readRow_47 : decode b_MD_readRow 47 = .ok (.ifCond .ne 12, 3) := by decide +kernel
theorem d_MD_readRow_50 : decode b_MD_readRow 50 = .ok (.aload_n 0, 1) := by decide +kernel
theorem d_MD_readRow_51 : decode b_MD_readRow 51 = .ok (.aload_n 0, 1) := by decide +kernel
theorem d_MD_readRow_52 : decode b_MD_readRow 52 = .ok (.getfield 147, 3) := by decide +kernel
theorem d_MD_readRow_55 : decode b_MD_readRow 55 = .ok (.invokevirtual 173, 3) := by decide +kernel
theorem d_MD_readRow_58 : decode b_MD_readRow 58 = .ok (.return_, 1) := by decide +kernel
theorem d_MD_readRow_59 : decode b_MD_readRow 59 = .ok (.aload_n 0, 1) := by decide +kernel
theorem d_MD_readRow_60 : decode b_MD_readRow 60 = .ok (.aload_n 0, 1) := by decide +kernel
theorem d_MD_readRow_61 : decode b_MD_readRow 61 = .ok (.getfield 54, 3) := by decide +kernel
theorem d_MD_readRow_64 : decode b_MD_readRow 64 = .ok (.iload_n 3, 1) := by decide +kernel
theorem d_MD_readRow_65 : decode b_MD_readRow 65 = .ok (.iaload, 1) := by decide +kernel
theorem d_MD_readRow_66 : decode b_MD_readRow 66 = .ok (.putfield 231, 3) := by decide +kernel
theorem d_MD_readRow_69 : decode b_MD_readRow 69 = .ok (.aload_n 0, 1) := by decide +kernel
theorem d_MD_readRow_70 : decode b_MD_readRow 70 = .ok (.invokevirtual 170, 3) := by decide +kernel
theorem d_MD_readRow_73 : decode b_MD_readRow 73 = .ok (.aload_n 0, 1) := by decide +kernel
theorem d_MD_readRow_74 : decode b_MD_readRow 74 = .ok (.getfield 231, 3) := by decide +kernel
theorem d_MD_readRow_77 : decode b_MD_readRow 77 = .ok (.ifCond .ne 10, 3) := by decide +kernel
theorem d_MD_readRow_80 : decode b_MD_readRow 80 = .ok (.aload_n 0, 1) := by decide +kernel
theorem d_MD_readRow_81 : decode b_MD_readRow 81 = .ok (.invokevirtual 272, 3) := by decide +kernel
theorem d_MD_readRow_84 : decode b_MD_readRow 84 = .ok (.goto 90, 3) := by decide +kernel
theorem d_MD_readRow_87 : decode b_MD_readRow 87 = .ok (.aload_n 0, 1) := by decide +kernel
theorem d_MD_readRow_88 : decode b_MD_readRow 88 = .ok (.getfield 231, 3) := by decide +kernel
theorem d_MD_readRow_91 : decode b_MD_readRow 91 = .ok (.iconst 5, 1) := by decide +kernel
theorem d_MD_readRow_92 : decode b_MD_readRow 92 = .ok (.if_icmp .eq 12, 3) := by decide +kernel
theorem d_MD_readRow_95 : decode b_MD_readRow 95 = .ok (.aload_n 0, 1) := by decide +kernel
theorem d_MD_readRow_96 : decode b_MD_readRow 96 = .ok (.getfield 231, 3) := by decide +kernel
theorem d_MD_readRow_99 : decode b_MD_readRow 99 = .ok (.bipush 6, 2) := by decide +kernel
theorem d_MD_readRow_101 : decode b_MD_readRow 101 = .ok (.if_icmp .ne 10, 3) := by decide +kernel
theorem d_MD_readRow_104 : decode b_MD_readRow 104 = .ok (.aload_n 0, 1) := by decide +kernel
theorem d_MD_readRow_105 : decode b_MD_readRow 105 = .ok (.invokevirtual 250, 3) := by decide +kernel
theorem d_MD_readRow_108 : decode b_MD_readRow 108 = .ok (.goto 66, 3) := by decide +kernel
theorem d_MD_readRow_111 : decode b_MD_readRow 111 = .ok (.aload_n 0, 1) := by decide +kernel
theorem d_MD_readRow_112 : decode b_MD_readRow 112 = .ok (.getfield 231, 3) := by decide +kernel
theorem d_MD_readRow_115 : decode b_MD_readRow 115 = .ok (.bipush 8, 2) := by decide +kernel
theorem d_MD_readRow_117 : decode b_MD_readRow 117 = .ok (.if_icmp .ne 10, 3) := by decide +kernel
theorem d_MD_readRow_120 : decode b_MD_readRow 120 = .ok (.aload_n 0, 1) := by decide +kernel
theorem d_MD_readRow_121 : decode b_MD_readRow 121 = .ok (.invokevirtual 275, 3) := by decide +kernel
theorem d_MD_readRow_124 : decode b_MD_readRow 124 = .ok (.goto 50, 3) := by decide +kernel
theorem d_MD_readRow_127 : decode b_MD_readRow 127 = .ok (.aload_n 0, 1) := by decide +kernel
theorem d_MD_readRow_128 : decode b_MD_readRow 128 = .ok (.getfield 231, 3) := by decide +kernel
theorem d_MD_readRow_131 : decode b_MD_readRow 131 = .ok (.bipush 9, 2) := by decide +kernel
theorem d_MD_readRow_133 : decode b_MD_readRow 133 = .ok (.if_icmp .ne 10, 3) := by decide +kernel
theorem d_MD_readRow_136 : decode b_MD_readRow 136 = .ok (.aload_n 0, 1) := by decide +kernel
theorem d_MD_readRow_137 : decode b_MD_readRow 137 = .ok (.invokevirtual 278, 3) := by decide +kernel
theorem d_MD_readRow_140 : decode b_MD_readRow 140 = .ok (.goto 34, 3) := by decide +kernel
theorem d_MD_readRow_143 : decode b_MD_readRow 143 = .ok (.aload_n 0, 1) := by decide +kernel
theorem d_MD_readRow_144 : decode b_MD_readRow 144 = .ok (.getfield 231, 3) := by decide +kernel
theorem d_MD_readRow_147 : decode b_MD_readRow 147 = .ok (.bipush 9, 2) := by decide +kernel
theorem d_MD_readRow_149 : decode b_MD_readRow 149 = .ok (.if_icmp .le 21, 3) := by decide +kernel
theorem d_MD_readRow_152 : decode b_MD_readRow 152 = .ok (.aload_n 0, 1) := by decide +kernel
theorem d_MD_readRow_153 : decode b_MD_readRow 153 = .ok (.getfield 231, 3) := by decide +kernel
theorem d_MD_readRow_156 : decode b_MD_readRow 156 = .ok (.bipush 14, 2) := by decide +kernel
theorem d_MD_readRow_158 : decode b_MD_readRow 158 = .ok (.if_icmp .ge 12, 3) := by decide +kernel
theorem d_MD_readRow_161 : decode b_MD_readRow 161 = .ok (.aload_n 0, 1) := by decide +kernel
theorem d_MD_readRow_162 : decode b_MD_readRow 162 = .ok (.iconst 0, 1) := by decide +kernel
theorem d_MD_readRow_163 : decode b_MD_readRow 163 = .ok (.iconst 0, 1) := by decide +kernel
theorem d_MD_readRow_164 : decode b_MD_readRow 164 = .ok (.invokevirtual 263, 3) := by decide +kernel
theorem d_MD_readRow_167 : decode b_MD_readRow 167 = .ok (.goto 7, 3) := by decide +kernel
theorem d_MD_readRow_170 : decode b_MD_readRow 170 = .ok (.aload_n 0, 1) := by decide +kernel
theorem d_MD_readRow_171 : decode b_MD_readRow 171 = .ok (.invokevirtual 281, 3) := by decide +kernel
theorem d_MD_readRow_174 : decode b_MD_readRow 174 = .ok (.aload_n 0, 1) := by decide +kernel
theorem d_MD_readRow_175 : decode b_MD_readRow 175 = .ok (.bipush 59, 2) := by decide +kernel
theorem d_MD_readRow_177 : decode b_MD_readRow 177 = .ok (.invokevirtual 184, 3) := by decide +kernel
theorem d_MD_readRow_180 : decode b_MD_readRow 180 = .ok (.return_, 1) := by decide +kernel
theorem d_MD_isFeature_0 : decode b_MD_isFeature 0 = .ok (.sipush 250, 3) := by decide +kernel
theorem d_MD_isFeature_3 : decode b_MD_isFeature 3 = .ok (.iload_n 1, 1) := by decide +kernel
theorem d_MD_isFeature_4 : decode b_MD_isFeature 4 = .ok (.imul, 1) := by decide +kernel
theorem d_MD_isFeature_5 : decode b_MD_isFeature 5 = .ok (.istore 5, 2) := by decide +kernel
theorem d_MD_isFeature_7 : decode b_MD_isFeature 7 = .ok (.iload 5, 2) := by decide +kernel
theorem d_MD_isFeature_9 : decode b_MD_isFeature 9 = .ok (.sipush 250, 3) := by decide +kernel
theorem d_MD_isFeature_12 : decode b_MD_isFeature 12 = .ok (.iload_n 1, 1) := by decide +kernel
theorem d_MD_isFeature_13 : decode b_MD_isFeature 13 = .ok (.imul, 1) := by decide +kernel
theorem d_MD_isFeature_14 : decode b_MD_isFeature 14 = .ok (.aload_n 0, 1) := by decide +kernel
theorem d_MD_isFeature_15 : decode b_MD_isFeature 15 = .ok (.getfield 64, 3) := by decide +kernel
theorem d_MD_isFeature_18 : decode b_MD_isFeature 18 = .ok (.iload_n 1, 1) := by decide +kernel
theorem d_MD_isFeature_19 : decode b_MD_isFeature 19 = .ok (.iaload, 1) := by decide +kernel
theorem d_MD_isFeature_20 : decode b_MD_isFeature 20 = .ok (.iadd, 1) := by decide +kernel
theorem d_MD_isFeature_21 : decode b_MD_isFeature 21 = .ok (.if_icmp .ge 38, 3) := by decide +kernel
theorem d_MD_isFeature_24 : decode b_MD_isFeature 24 = .ok (.aload_n 0, 1) := by decide +kernel
theorem d_MD_isFeature_25 : decode b_MD_isFeature 25 = .ok (.aload_n 2, 1) := by decide +kernel
theorem d_MD_isFeature_26 : decode b_MD_isFeature 26 = .ok (.iload_n 3, 1) := by decide +kernel
theorem d_MD_isFeature_27 : decode b_MD_isFeature 27 = .ok (.iload 4, 2) := by decide +kernel
theorem d_MD_isFeature_29 : decode b_MD_isFeature 29 = .ok (.aload_n 0, 1) := by decide +kernel
theorem d_MD_isFeature_30 : decode b_MD_isFeature 30 = .ok (.getfield 74, 3) := by decide +kernel
theorem d_MD_isFeature_33 : decode b_MD_isFeature 33 = .ok (.bipush 20, 2) := by decide +kernel
theorem d_MD_isFeature_35 : decode b_MD_isFeature 35 = .ok (.iload 5, 2) := by decide +kernel
theorem d_MD_isFeature_37 : decode b_MD_isFeature 37 = .ok (.imul, 1) := by decide +kernel
theorem d_MD_isFeature_38 : decode b_MD_isFeature 38 = .ok (.aload_n 0, 1) := by decide +kernel
theorem d_MD_isFeature_39 : decode b_MD_isFeature 39 = .ok (.getfield 77, 3) := by decide +kernel
theorem d_MD_isFeature_42 : decode b_MD_isFeature 42 = .ok (.iload 5, 2) := by decide +kernel
theorem d_MD_isFeature_44 : decode b_MD_isFeature 44 = .ok (.iaload, 1) := by decide +kernel
theorem d_MD_isFeature_45 : decode b_MD_isFeature 45 = .ok (.invokevirtual 284, 3) := by decide +kernel
theorem d_MD_isFeature_48 : decode b_MD_isFeature 48 = .ok (.ifCond .ne 5, 3) := by decide +kernel
theorem d_MD_isFeature_51 : decode b_MD_isFeature 51 = .ok (.iconst 1, 1) := by decide +kernel
theorem d_MD_isFeature_52 : decode b_MD_isFeature 52 = .ok (.ireturn, 1) := by decide +kernel
theorem d_MD_isFeature_53 : decode b_MD_isFeature 53 = .ok (.iinc 5 1, 3) := by decide +kernel
theorem d_MD_isFeature_56 : decode b_MD_isFeature 56 = .ok (.goto (-49), 3) := by decide +kernel
theorem d_MD_isFeature_59 : decode b_MD_isFeature 59 = .ok (.iconst 0, 1) := by decide +kernel
theorem d_MD_isFeature_60 : decode b_MD_isFeature 60 = .ok (.ireturn, 1) := by decide +kernel
