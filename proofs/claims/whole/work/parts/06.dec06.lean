theorem d_MD_letter_0 : decode b_MD_letter 0 = .ok (.aload_n 0, 1) := by decide +kernel
theorem d_MD_letter_1 : decode b_MD_letter 1 = .ok (.iconst 0, 1) := by decide +kernel
theorem d_MD_letter_2 : decode b_MD_letter 2 = .ok (.putfield 134, 3) := by decide +kernel
theorem d_MD_letter_5 : decode b_MD_letter 5 = .ok (.aload_n 0, 1) := by decide +kernel
theorem d_MD_letter_6 : decode b_MD_letter 6 = .ok (.iload_n 1, 1) := by decide +kernel
theorem d_MD_letter_7 : decode b_MD_letter 7 = .ok (.iload_n 2, 1) := by decide +kernel
theorem d_MD_letter_8 : decode b_MD_letter 8 = .ok (.invokevirtual 323, 3) := by decide +kernel
theorem d_MD_letter_11 : decode b_MD_letter 11 = .ok (.ifCond .eq 17, 3) := by decide +kernel
theorem d_MD_letter_14 : decode b_MD_letter 14 = .ok (.iload_n 3, 1) := by decide +kernel
theorem d_MD_letter_15 : decode b_MD_letter 15 = .ok (.ifCond .lt 13, 3) := by decide +kernel
theorem d_MD_letter_18 : decode b_MD_letter 18 = .ok (.iload_n 3, 1) := by decide +kernel
theorem d_MD_letter_19 : decode b_MD_letter 19 = .ok (.iconst 2, 1) := by decide +kernel
theorem d_MD_letter_20 : decode b_MD_letter 20 = .ok (.if_icmp .gt 8, 3) := by decide +kernel
theorem d_MD_letter_23 : decode b_MD_letter 23 = .ok (.iload 4, 2) := by decide +kernel
theorem d_MD_letter_25 : decode b_MD_letter 25 = .ok (.ifCond .ge 5, 3) := by decide +kernel
theorem d_MD_letter_28 : decode b_MD_letter 28 = .ok (.iconst (-1), 1) := by decide +kernel
theorem d_MD_letter_29 : decode b_MD_letter 29 = .ok (.ireturn, 1) := by decide +kernel
theorem d_MD_letter_30 : decode b_MD_letter 30 = .ok (.sipush 200, 3) := by decide +kernel
theorem d_MD_letter_33 : decode b_MD_letter 33 = .ok (.iload_n 1, 1) := by decide +kernel
theorem d_MD_letter_34 : decode b_MD_letter 34 = .ok (.imul, 1) := by decide +kernel
theorem d_MD_letter_35 : decode b_MD_letter 35 = .ok (.iload_n 2, 1) := by decide +kernel
theorem d_MD_letter_36 : decode b_MD_letter 36 = .ok (.iadd, 1) := by decide +kernel
theorem d_MD_letter_37 : decode b_MD_letter 37 = .ok (.istore 5, 2) := by decide +kernel
theorem d_MD_letter_39 : decode b_MD_letter 39 = .ok (.iload_n 3, 1) := by decide +kernel
theorem d_MD_letter_40 : decode b_MD_letter 40 = .ok (.iconst 1, 1) := by decide +kernel
theorem d_MD_letter_41 : decode b_MD_letter 41 = .ok (.if_icmp .ne 43, 3) := by decide +kernel
theorem d_MD_letter_44 : decode b_MD_letter 44 = .ok (.iload 4, 2) := by decide +kernel
theorem d_MD_letter_46 : decode b_MD_letter 46 = .ok (.aload_n 0, 1) := by decide +kernel
theorem d_MD_letter_47 : decode b_MD_letter 47 = .ok (.getfield 93, 3) := by decide +kernel
theorem d_MD_letter_50 : decode b_MD_letter 50 = .ok (.bipush 20, 2) := by decide +kernel
theorem d_MD_letter_52 : decode b_MD_letter 52 = .ok (.iload 5, 2) := by decide +kernel
theorem d_MD_letter_54 : decode b_MD_letter 54 = .ok (.imul, 1) := by decide +kernel
theorem d_MD_letter_55 : decode b_MD_letter 55 = .ok (.aload_n 0, 1) := by decide +kernel
theorem d_MD_letter_56 : decode b_MD_letter 56 = .ok (.getfield 86, 3) := by decide +kernel
theorem d_MD_letter_59 : decode b_MD_letter 59 = .ok (.iload 5, 2) := by decide +kernel
theorem d_MD_letter_61 : decode b_MD_letter 61 = .ok (.iaload, 1) := by decide +kernel
theorem d_MD_letter_62 : decode b_MD_letter 62 = .ok (.aload_n 0, 1) := by decide +kernel
theorem d_MD_letter_63 : decode b_MD_letter 63 = .ok (.getfield 115, 3) := by decide +kernel
theorem d_MD_letter_66 : decode b_MD_letter 66 = .ok (.invokestatic 214, 3) := by decide +kernel
theorem d_MD_letter_69 : decode b_MD_letter 69 = .ok (.if_icmp .ge 13, 3) := by decide +kernel
theorem d_MD_letter_72 : decode b_MD_letter 72 = .ok (.aload_n 0, 1) := by decide +kernel
theorem d_MD_letter_73 : decode b_MD_letter 73 = .ok (.getfield 115, 3) := by decide +kernel
theorem d_MD_letter_76 : decode b_MD_letter 76 = .ok (.iload 4, 2) := by decide +kernel
theorem d_MD_letter_78 : decode b_MD_letter 78 = .ok (.baload, 1) := by decide +kernel
theorem d_MD_letter_79 : decode b_MD_letter 79 = .ok (.goto 4, 3) := by decide +kernel
theorem d_MD_letter_82 : decode b_MD_letter 82 = .ok (.iconst (-1), 1) := by decide +kernel
theorem d_MD_letter_83 : decode b_MD_letter 83 = .ok (.ireturn, 1) := by decide +kernel
theorem d_MD_letter_84 : decode b_MD_letter 84 = .ok (.iload_n 3, 1) := by decide +kernel
theorem d_MD_letter_85 : decode b_MD_letter 85 = .ok (.ifCond .ne 33, 3) := by decide +kernel
theorem d_MD_letter_88 : decode b_MD_letter 88 = .ok (.iload 4, 2) := by decide +kernel
theorem d_MD_letter_90 : decode b_MD_letter 90 = .ok (.aload_n 0, 1) := by decide +kernel
theorem d_MD_letter_91 : decode b_MD_letter 91 = .ok (.getfield 86, 3) := by decide +kernel
theorem d_MD_letter_94 : decode b_MD_letter 94 = .ok (.iload 5, 2) := by decide +kernel
theorem d_MD_letter_96 : decode b_MD_letter 96 = .ok (.iaload, 1) := by decide +kernel
theorem d_MD_letter_97 : decode b_MD_letter 97 = .ok (.if_icmp .ge 19, 3) := by decide +kernel
theorem d_MD_letter_100 : decode b_MD_letter 100 = .ok (.aload_n 0, 1) := by decide +kernel
theorem d_MD_letter_101 : decode b_MD_letter 101 = .ok (.getfield 93, 3) := by decide +kernel
theorem d_MD_letter_104 : decode b_MD_letter 104 = .ok (.bipush 20, 2) := by decide +kernel
theorem d_MD_letter_106 : decode b_MD_letter 106 = .ok (.iload 5, 2) := by decide +kernel
theorem d_MD_letter_108 : decode b_MD_letter 108 = .ok (.imul, 1) := by decide +kernel
theorem d_MD_letter_109 : decode b_MD_letter 109 = .ok (.iload 4, 2) := by decide +kernel
theorem d_MD_letter_111 : decode b_MD_letter 111 = .ok (.iadd, 1) := by decide +kernel
theorem d_MD_letter_112 : decode b_MD_letter 112 = .ok (.baload, 1) := by decide +kernel
theorem d_MD_letter_113 : decode b_MD_letter 113 = .ok (.goto 4, 3) := by decide +kernel
theorem d_MD_letter_116 : decode b_MD_letter 116 = .ok (.iconst (-1), 1) := by decide +kernel
theorem d_MD_letter_117 : decode b_MD_letter 117 = .ok (.ireturn, 1) := by decide +kernel
theorem d_MD_letter_118 : decode b_MD_letter 118 = .ok (.iload 4, 2) := by decide +kernel
theorem d_MD_letter_120 : decode b_MD_letter 120 = .ok (.aload_n 0, 1) := by decide +kernel
theorem d_MD_letter_121 : decode b_MD_letter 121 = .ok (.getfield 89, 3) := by decide +kernel
theorem d_MD_letter_124 : decode b_MD_letter 124 = .ok (.iload 5, 2) := by decide +kernel
theorem d_MD_letter_126 : decode b_MD_letter 126 = .ok (.iaload, 1) := by decide +kernel
theorem d_MD_letter_127 : decode b_MD_letter 127 = .ok (.if_icmp .ge 19, 3) := by decide +kernel
theorem d_MD_letter_130 : decode b_MD_letter 130 = .ok (.aload_n 0, 1) := by decide +kernel
theorem d_MD_letter_131 : decode b_MD_letter 131 = .ok (.getfield 96, 3) := by decide +kernel
theorem d_MD_letter_134 : decode b_MD_letter 134 = .ok (.bipush 20, 2) := by decide +kernel
theorem d_MD_letter_136 : decode b_MD_letter 136 = .ok (.iload 5, 2) := by decide +kernel
theorem d_MD_letter_138 : decode b_MD_letter 138 = .ok (.imul, 1) := by decide +kernel
theorem d_MD_letter_139 : decode b_MD_letter 139 = .ok (.iload 4, 2) := by decide +kernel
theorem d_MD_letter_141 : decode b_MD_letter 141 = .ok (.iadd, 1) := by decide +kernel
theorem d_MD_letter_142 : decode b_MD_letter 142 = .ok (.baload, 1) := by decide +kernel
theorem d_MD_letter_143 : decode b_MD_letter 143 = .ok (.goto 4, 3) := by decide +kernel
theorem d_MD_letter_146 : decode b_MD_letter 146 = .ok (.iconst (-1), 1) := by decide +kernel
theorem d_MD_letter_147 : decode b_MD_letter 147 = .ok (.ireturn, 1) := by decide +kernel
theorem d_MD_low_0 : decode b_MD_low 0 = .ok (.aload_n 0, 1) := by decide +kernel
theorem d_MD_low_1 : decode b_MD_low 1 = .ok (.iconst 0, 1) := by decide +kernel
theorem d_MD_low_2 : decode b_MD_low 2 = .ok (.putfield 134, 3) := by decide +kernel
theorem d_MD_low_5 : decode b_MD_low 5 = .ok (.aload_n 0, 1) := by decide +kernel
theorem d_MD_low_6 : decode b_MD_low 6 = .ok (.iload_n 1, 1) := by decide +kernel
theorem d_MD_low_7 : decode b_MD_low 7 = .ok (.iload_n 2, 1) := by decide +kernel
theorem d_MD_low_8 : decode b_MD_low 8 = .ok (.invokevirtual 323, 3) := by decide +kernel
theorem d_MD_low_11 : decode b_MD_low 11 = .ok (.ifCond .eq 18, 3) := by decide +kernel
theorem d_MD_low_14 : decode b_MD_low 14 = .ok (.aload_n 0, 1) := by decide +kernel
theorem d_MD_low_15 : decode b_MD_low 15 = .ok (.getfield 99, 3) := by decide +kernel
theorem d_MD_low_18 : decode b_MD_low 18 = .ok (.sipush 200, 3) := by decide +kernel
theorem d_MD_low_21 : decode b_MD_low 21 = .ok (.iload_n 1, 1) := by decide +kernel
theorem d_MD_low_22 : decode b_MD_low 22 = .ok (.imul, 1) := by decide +kernel
theorem d_MD_low_23 : decode b_MD_low 23 = .ok (.iload_n 2, 1) := by decide +kernel
theorem d_MD_low_24 : decode b_MD_low 24 = .ok (.iadd, 1) := by decide +kernel
theorem d_MD_low_25 : decode b_MD_low 25 = .ok (.laload, 1) := by decide +kernel
theorem d_MD_low_26 : decode b_MD_low 26 = .ok (.goto 6, 3) := by decide +kernel
theorem d_MD_low_29 : decode b_MD_low 29 = .ok (.ldc2_w 267, 3) := by decide +kernel
theorem d_MD_low_32 : decode b_MD_low 32 = .ok (.lreturn, 1) := by decide +kernel
theorem d_MD_high_0 : decode b_MD_high 0 = .ok (.aload_n 0, 1) := by decide +kernel
theorem d_MD_high_1 : decode b_MD_high 1 = .ok (.iconst 0, 1) := by decide +kernel
theorem d_MD_high_2 : decode b_MD_high 2 = .ok (.putfield 134, 3) := by decide +kernel
theorem d_MD_high_5 : decode b_MD_high 5 = .ok (.aload_n 0, 1) := by decide +kernel
theorem d_MD_high_6 : decode b_MD_high 6 = .ok (.iload_n 1, 1) := by decide +kernel
theorem d_MD_high_7 : decode b_MD_high 7 = .ok (.iload_n 2, 1) := by decide +kernel
theorem d_MD_high_8 : decode b_MD_high 8 = .ok (.invokevirtual 323, 3) := by decide +kernel
theorem d_MD_high_11 : decode b_MD_high 11 = .ok (.ifCond .eq 18, 3) := by decide +kernel
theorem d_MD_high_14 : decode b_MD_high 14 = .ok (.aload_n 0, 1) := by decide +kernel
theorem d_MD_high_15 : decode b_MD_high 15 = .ok (.getfield 102, 3) := by decide +kernel
theorem d_MD_high_18 : decode b_MD_high 18 = .ok (.sipush 200, 3) := by decide +kernel
theorem d_MD_high_21 : decode b_MD_high 21 = .ok (.iload_n 1, 1) := by decide +kernel
theorem d_MD_high_22 : decode b_MD_high 22 = .ok (.imul, 1) := by decide +kernel
theorem d_MD_high_23 : decode b_MD_high 23 = .ok (.iload_n 2, 1) := by decide +kernel
theorem d_MD_high_24 : decode b_MD_high 24 = .ok (.iadd, 1) := by decide +kernel
theorem d_MD_high_25 : decode b_MD_high 25 = .ok (.laload, 1) := by decide +kernel
theorem d_MD_high_26 : decode b_MD_high 26 = .ok (.goto 6, 3) := by decide +kernel
theorem d_MD_high_29 : decode b_MD_high 29 = .ok (.ldc2_w 267, 3) := by decide +kernel
theorem d_MD_high_32 : decode b_MD_high 32 = .ok (.lreturn, 1) := by decide +kernel
theorem d_MD_check_0 : decode b_MD_check 0 = .ok (.aload_n 0, 1) := by decide +kernel
theorem d_MD_check_1 : decode b_MD_check 1 = .ok (.iconst 0, 1) := by decide +kernel
theorem d_MD_check_2 : decode b_MD_check 2 = .ok (.putfield 134, 3) := by decide +kernel
theorem d_MD_check_5 : decode b_MD_check 5 = .ok (.aload_n 0, 1) := by decide +kernel
theorem d_MD_check_6 : decode b_MD_check 6 = .ok (.iload_n 1, 1) := by decide +kernel
theorem d_MD_check_7 : decode b_MD_check 7 = .ok (.invokevirtual 317, 3) := by decide +kernel
theorem d_MD_check_10 : decode b_MD_check 10 = .ok (.ifCond .ne 5, 3) := by decide +kernel
theorem d_MD_check_13 : decode b_MD_check 13 = .ok (.iconst (-1), 1) := by decide +kernel
theorem d_MD_check_14 : decode b_MD_check 14 = .ok (.ireturn, 1) := by decide +kernel
theorem d_MD_check_15 : decode b_MD_check 15 = .ok (.iconst 0, 1) := by decide +kernel
theorem d_MD_check_16 : decode b_MD_check 16 = .ok (.istore_n 2, 1) := by decide +kernel
theorem d_MD_check_17 : decode b_MD_check 17 = .ok (.iload_n 2, 1) := by decide +kernel
theorem d_MD_check_18 : decode b_MD_check 18 = .ok (.aload_n 0, 1) := by decide +kernel
theorem d_MD_check_19 : decode b_MD_check 19 = .ok (.getfield 61, 3) := by decide +kernel
theorem d_MD_check_22 : decode b_MD_check 22 = .ok (.iload_n 1, 1) := by decide +kernel
theorem d_MD_check_23 : decode b_MD_check 23 = .ok (.iaload, 1) := by decide +kernel
theorem d_MD_check_24 : decode b_MD_check 24 = .ok (.if_icmp .ge 28, 3) := by decide +kernel
theorem d_MD_check_27 : decode b_MD_check 27 = .ok (.aload_n 0, 1) := by decide +kernel
theorem d_MD_check_28 : decode b_MD_check 28 = .ok (.iload_n 1, 1) := by decide +kernel
theorem d_MD_check_29 : decode b_MD_check 29 = .ok (.sipush 200, 3) := by decide +kernel
theorem d_MD_check_32 : decode b_MD_check 32 = .ok (.iload_n 1, 1) := by decide +kernel
theorem d_MD_check_33 : decode b_MD_check 33 = .ok (.imul, 1) := by decide +kernel
theorem d_MD_check_34 : decode b_MD_check 34 = .ok (.iload_n 2, 1) := by decide +kernel
theorem d_MD_check_35 : decode b_MD_check 35 = .ok (.iadd, 1) := by decide +kernel
theorem d_MD_check_36 : decode b_MD_check 36 = .ok (.invokevirtual 326, 3) := by decide +kernel
theorem d_MD_check_39 : decode b_MD_check 39 = .ok (.ifCond .le 7, 3) := by decide +kernel
theorem d_MD_check_42 : decode b_MD_check 42 = .ok (.iload_n 2, 1) := by decide +kernel
theorem d_MD_check_43 : decode b_MD_check 43 = .ok (.iconst 1, 1) := by decide +kernel
theorem d_MD_check_44 : decode b_MD_check 44 = .ok (.iadd, 1) := by decide +kernel
theorem d_MD_check_45 : decode b_MD_check 45 = .ok (.ireturn, 1) := by decide +kernel
theorem d_MD_check_46 : decode b_MD_check 46 = .ok (.iinc 2 1, 3) := by decide +kernel
theorem d_MD_check_49 : decode b_MD_check 49 = .ok (.goto (-32), 3) := by decide +kernel
theorem d_MD_check_52 : decode b_MD_check 52 = .ok (.iconst 0, 1) := by decide +kernel
theorem d_MD_check_53 : decode b_MD_check 53 = .ok (.ireturn, 1) := by decide +kernel
theorem d_MD_isLike_0 : decode b_MD_isLike 0 = .ok (.aload_n 0, 1) := by decide +kernel
theorem d_MD_isLike_1 : decode b_MD_isLike 1 = .ok (.iload_n 1, 1) := by decide +kernel
theorem d_MD_isLike_2 : decode b_MD_isLike 2 = .ok (.iload_n 2, 1) := by decide +kernel
theorem d_MD_isLike_3 : decode b_MD_isLike 3 = .ok (.invokevirtual 297, 3) := by decide +kernel
theorem d_MD_isLike_6 : decode b_MD_isLike 6 = .ok (.ifCond .ne 74, 3) := by decide +kernel
theorem d_MD_isLike_9 : decode b_MD_isLike 9 = .ok (.aload_n 0, 1) := by decide +kernel
theorem d_MD_isLike_10 : decode b_MD_isLike 10 = .ok (.getfield 99, 3) := by decide +kernel
theorem d_MD_isLike_13 : decode b_MD_isLike 13 = .ok (.iload_n 1, 1) := by decide +kernel
theorem d_MD_isLike_14 : decode b_MD_isLike 14 = .ok (.laload, 1) := by decide +kernel
theorem d_MD_isLike_15 : decode b_MD_isLike 15 = .ok (.aload_n 0, 1) := by decide +kernel
theorem d_MD_isLike_16 : decode b_MD_isLike 16 = .ok (.getfield 99, 3) := by decide +kernel
theorem d_MD_isLike_19 : decode b_MD_isLike 19 = .ok (.iload_n 2, 1) := by decide +kernel
theorem d_MD_isLike_20 : decode b_MD_isLike 20 = .ok (.laload, 1) := by decide +kernel
theorem d_MD_isLike_21 : decode b_MD_isLike 21 = .ok (.lcmp, 1) := by decide +kernel
theorem d_MD_isLike_22 : decode b_MD_isLike 22 = .ok (.ifCond .ne 58, 3) := by decide +kernel
theorem d_MD_isLike_25 : decode b_MD_isLike 25 = .ok (.aload_n 0, 1) := by decide +kernel
theorem d_MD_isLike_26 : decode b_MD_isLike 26 = .ok (.getfield 102, 3) := by decide +kernel
theorem d_MD_isLike_29 : decode b_MD_isLike 29 = .ok (.iload_n 1, 1) := by decide +kernel
theorem d_MD_isLike_30 : decode b_MD_isLike 30 = .ok (.laload, 1) := by decide +kernel
theorem d_MD_isLike_31 : decode b_MD_isLike 31 = .ok (.aload_n 0, 1) := by decide +kernel
theorem d_MD_isLike_32 : decode b_MD_isLike 32 = .ok (.getfield 102, 3) := by decide +kernel
theorem d_MD_isLike_35 : decode b_MD_isLike 35 = .ok (.iload_n 2, 1) := by decide +kernel
theorem d_MD_isLike_36 : decode b_MD_isLike 36 = .ok (.laload, 1) := by decide +kernel
theorem d_MD_isLike_37 : decode b_MD_isLike 37 = .ok (.lcmp, 1) := by decide +kernel
theorem d_MD_isLike_38 : decode b_MD_isLike 38 = .ok (.ifCond .ne 42, 3) := by decide +kernel
theorem d_MD_isLike_41 : decode b_MD_isLike 41 = .ok (.aload_n 0, 1) := by decide +kernel
theorem d_MD_isLike_42 : decode b_MD_isLike 42 = .ok (.aload_n 0, 1) := by decide +kernel
theorem d_MD_isLike_43 : decode b_MD_isLike 43 = .ok (.getfield 96, 3) := by decide +kernel
theorem d_MD_isLike_46 : decode b_MD_isLike 46 = .ok (.bipush 20, 2) := by decide +kernel
theorem d_MD_isLike_48 : decode b_MD_isLike 48 = .ok (.iload_n 1, 1) := by decide +kernel
theorem d_MD_isLike_49 : decode b_MD_isLike 49 = .ok (.imul, 1) := by decide +kernel
theorem d_MD_isLike_50 : decode b_MD_isLike 50 = .ok (.aload_n 0, 1) := by decide +kernel
theorem d_MD_isLike_51 : decode b_MD_isLike 51 = .ok (.getfield 89, 3) := by decide +kernel
theorem d_MD_isLike_54 : decode b_MD_isLike 54 = .ok (.iload_n 1, 1) := by decide +kernel
theorem d_MD_isLike_55 : decode b_MD_isLike 55 = .ok (.iaload, 1) := by decide +kernel
theorem d_MD_isLike_56 : decode b_MD_isLike 56 = .ok (.aload_n 0, 1) := by decide +kernel
theorem d_MD_isLike_57 : decode b_MD_isLike 57 = .ok (.getfield 96, 3) := by decide +kernel
theorem d_MD_isLike_60 : decode b_MD_isLike 60 = .ok (.bipush 20, 2) := by decide +kernel
theorem d_MD_isLike_62 : decode b_MD_isLike 62 = .ok (.iload_n 2, 1) := by decide +kernel
theorem d_MD_isLike_63 : decode b_MD_isLike 63 = .ok (.imul, 1) := by decide +kernel
theorem d_MD_isLike_64 : decode b_MD_isLike 64 = .ok (.aload_n 0, 1) := by decide +kernel
theorem d_MD_isLike_65 : decode b_MD_isLike 65 = .ok (.getfield 89, 3) := by decide +kernel
theorem d_MD_isLike_68 : decode b_MD_isLike 68 = .ok (.iload_n 2, 1) := by decide +kernel
theorem d_MD_isLike_69 : decode b_MD_isLike 69 = .ok (.iaload, 1) := by decide +kernel
theorem d_MD_isLike_70 : decode b_MD_isLike 70 = .ok (.invokevirtual 284, 3) := by decide +kernel
theorem d_MD_isLike_73 : decode b_MD_isLike 73 = .ok (.ifCond .ne 7, 3) := by decide +kernel
theorem d_MD_isLike_76 : decode b_MD_isLike 76 = .ok (.iconst 1, 1) := by decide +kernel
theorem d_MD_isLike_77 : decode b_MD_isLike 77 = .ok (.goto 4, 3) := by decide +kernel
theorem d_MD_isLike_80 : decode b_MD_isLike 80 = .ok (.iconst 0, 1) := by decide +kernel
theorem d_MD_isLike_81 : decode b_MD_isLike 81 = .ok (.ireturn, 1) := by decide +kernel
theorem d_MD_tell_0 : decode b_MD_tell 0 = .ok (.aload_n 0, 1) := by decide +kernel
theorem d_MD_tell_1 : decode b_MD_tell 1 = .ok (.getfield 121, 3) := by decide +kernel
theorem d_MD_tell_4 : decode b_MD_tell 4 = .ok (.aload_n 0, 1) := by decide +kernel
theorem d_MD_tell_5 : decode b_MD_tell 5 = .ok (.getfield 329, 3) := by decide +kernel
theorem d_MD_tell_8 : decode b_MD_tell 8 = .ok (.iload_n 1, 1) := by decide +kernel
theorem d_MD_tell_9 : decode b_MD_tell 9 = .ok (.ifCond .eq 7, 3) := by decide +kernel
theorem d_MD_tell_12 : decode b_MD_tell 12 = .ok (.iconst 1, 1) := by decide +kernel
theorem d_MD_tell_13 : decode b_MD_tell 13 = .ok (.goto 4, 3) := by decide +kernel
theorem d_MD_tell_16 : decode b_MD_tell 16 = .ok (.iconst 0, 1) := by decide +kernel
theorem d_MD_tell_17 : decode b_MD_tell 17 = .ok (.iastore, 1) := by decide +kernel
theorem d_MD_tell_18 : decode b_MD_tell 18 = .ok (.aload_n 0, 1) := by decide +kernel
theorem d_MD_tell_19 : decode b_MD_tell 19 = .ok (.getfield 124, 3) := by decide +kernel
theorem d_MD_tell_22 : decode b_MD_tell 22 = .ok (.aload_n 0, 1) := by decide +kernel
theorem d_MD_tell_23 : decode b_MD_tell 23 = .ok (.getfield 329, 3) := by decide +kernel
theorem d_MD_tell_26 : decode b_MD_tell 26 = .ok (.iload_n 2, 1) := by decide +kernel
theorem d_MD_tell_27 : decode b_MD_tell 27 = .ok (.iastore, 1) := by decide +kernel
theorem d_MD_tell_28 : decode b_MD_tell 28 = .ok (.aload_n 0, 1) := by decide +kernel
theorem d_MD_tell_29 : decode b_MD_tell 29 = .ok (.dup, 1) := by decide +kernel
theorem d_MD_tell_30 : decode b_MD_tell 30 = .ok (.getfield 329, 3) := by decide +kernel
theorem d_MD_tell_33 : decode b_MD_tell 33 = .ok (.iconst 1, 1) := by decide +kernel
theorem d_MD_tell_34 : decode b_MD_tell 34 = .ok (.iadd, 1) := by decide +kernel
theorem d_MD_tell_35 : decode b_MD_tell 35 = .ok (.putfield 329, 3) := by decide +kernel
theorem d_MD_tell_38 : decode b_MD_tell 38 = .ok (.return_, 1) := by decide +kernel
theorem d_MD_compareRows_0 : decode b_MD_compareRows 0 = .ok (.iconst 0, 1) := by decide +kernel
theorem d_MD_compareRows_1 : decode b_MD_compareRows 1 = .ok (.istore 4, 2) := by decide +kernel
theorem d_MD_compareRows_3 : decode b_MD_compareRows 3 = .ok (.iload 4, 2) := by decide +kernel
theorem d_MD_compareRows_5 : decode b_MD_compareRows 5 = .ok (.aload_n 0, 1) := by decide +kernel
theorem d_MD_compareRows_6 : decode b_MD_compareRows 6 = .ok (.getfield 61, 3) := by decide +kernel
theorem d_MD_compareRows_9 : decode b_MD_compareRows 9 = .ok (.iload_n 2, 1) := by decide +kernel
theorem d_MD_compareRows_10 : decode b_MD_compareRows 10 = .ok (.iaload, 1) := by decide +kernel
theorem d_MD_compareRows_11 : decode b_MD_compareRows 11 = .ok (.if_icmp .ge 17, 3) := by decide +kernel
theorem d_MD_compareRows_14 : decode b_MD_compareRows 14 = .ok (.aload_n 0, 1) := by decide +kernel
theorem d_MD_compareRows_15 : decode b_MD_compareRows 15 = .ok (.getfield 127, 3) := by decide +kernel
theorem d_MD_compareRows_18 : decode b_MD_compareRows 18 = .ok (.iload 4, 2) := by decide +kernel
theorem d_MD_compareRows_20 : decode b_MD_compareRows 20 = .ok (.iconst 0, 1) := by decide +kernel
theorem d_MD_compareRows_21 : decode b_MD_compareRows 21 = .ok (.bastore, 1) := by decide +kernel
theorem d_MD_compareRows_22 : decode b_MD_compareRows 22 = .ok (.iinc 4 1, 3) := by decide +kernel
theorem d_MD_compareRows_25 : decode b_MD_compareRows 25 = .ok (.goto (-22), 3) := by decide +kernel
theorem d_MD_compareRows_28 : decode b_MD_compareRows 28 = .ok (.iconst 0, 1) := by decide +kernel
theorem d_MD_compareRows_29 : decode b_MD_compareRows 29 = .ok (.istore 4, 2) := by decide +kernel
theorem d_MD_compareRows_31 : decode b_MD_compareRows 31 = .ok (.iconst 0, 1) := by decide +kernel
theorem d_MD_compareRows_32 : decode b_MD_compareRows 32 = .ok (.istore 5, 2) := by decide +kernel
theorem d_MD_compareRows_34 : decode b_MD_compareRows 34 = .ok (.iload 5, 2) := by decide +kernel
theorem d_MD_compareRows_36 : decode b_MD_compareRows 36 = .ok (.aload_n 0, 1) := by decide +kernel
theorem d_MD_compareRows_37 : decode b_MD_compareRows 37 = .ok (.getfield 61, 3) := by decide +kernel
theorem d_MD_compareRows_40 : decode b_MD_compareRows 40 = .ok (.iload_n 1, 1) := by decide +kernel
theorem d_MD_compareRows_41 : decode b_MD_compareRows 41 = .ok (.iaload, 1) := by decide +kernel
theorem d_MD_compareRows_42 : decode b_MD_compareRows 42 = .ok (.if_icmp .ge 98, 3) := by decide +kernel
theorem d_MD_compareRows_45 : decode b_MD_compareRows 45 = .ok (.iconst 0, 1) := by decide +kernel
theorem d_MD_compareRows_46 : decode b_MD_compareRows 46 = .ok (.istore 6, 2) := by decide +kernel
theorem d_MD_compareRows_48 : decode b_MD_compareRows 48 = .ok (.iload 6, 2) := by decide +kernel
theorem d_MD_compareRows_50 : decode b_MD_compareRows 50 = .ok (.aload_n 0, 1) := by decide +kernel
theorem d_MD_compareRows_51 : decode b_MD_compareRows 51 = .ok (.getfield 61, 3) := by decide +kernel
theorem d_MD_compareRows_54 : decode b_MD_compareRows 54 = .ok (.iload_n 2, 1) := by decide +kernel
theorem d_MD_compareRows_55 : decode b_MD_compareRows 55 = .ok (.iaload, 1) := by decide +kernel
theorem d_MD_compareRows_56 : decode b_MD_compareRows 56 = .ok (.if_icmp .ge 42, 3) := by decide +kernel
theorem d_MD_compareRows_59 : decode b_MD_compareRows 59 = .ok (.aload_n 0, 1) := by decide +kernel
theorem d_MD_compareRows_60 : decode b_MD_compareRows 60 = .ok (.getfield 127, 3) := by decide +kernel
theorem d_MD_compareRows_63 : decode b_MD_compareRows 63 = .ok (.iload 6, 2) := by decide +kernel
theorem d_MD_compareRows_65 : decode b_MD_compareRows 65 = .ok (.baload, 1) := by decide +kernel
theorem d_MD_compareRows_66 : decode b_MD_compareRows 66 = .ok (.ifCond .ne 26, 3) := by decide +kernel
theorem d_MD_compareRows_69 : decode b_MD_compareRows 69 = .ok (.aload_n 0, 1) := by decide +kernel
theorem d_MD_compareRows_70 : decode b_MD_compareRows 70 = .ok (.sipush 200, 3) := by decide +kernel
theorem d_MD_compareRows_73 : decode b_MD_compareRows 73 = .ok (.iload_n 1, 1) := by decide +kernel
theorem d_MD_compareRows_74 : decode b_MD_compareRows 74 = .ok (.imul, 1) := by decide +kernel
theorem d_MD_compareRows_75 : decode b_MD_compareRows 75 = .ok (.iload 5, 2) := by decide +kernel
theorem d_MD_compareRows_77 : decode b_MD_compareRows 77 = .ok (.iadd, 1) := by decide +kernel
theorem d_MD_compareRows_78 : decode b_MD_compareRows 78 = .ok (.sipush 200, 3) := by decide +kernel
theorem d_MD_compareRows_81 : decode b_MD_compareRows 81 = .ok (.iload_n 2, 1) := by decide +kernel
theorem d_MD_compareRows_82 : decode b_MD_compareRows 82 = .ok (.imul, 1) := by decide +kernel
theorem d_MD_compareRows_83 : decode b_MD_compareRows 83 = .ok (.iload 6, 2) := by decide +kernel
theorem d_MD_compareRows_85 : decode b_MD_compareRows 85 = .ok (.iadd, 1) := by decide +kernel
theorem d_MD_compareRows_86 : decode b_MD_compareRows 86 = .ok (.invokevirtual 332, 3) := by decide +kernel
theorem d_MD_compareRows_89 : decode b_MD_compareRows 89 = .ok (.ifCond .ne 9, 3) := by decide +kernel
theorem d_MD_compareRows_92 : decode b_MD_compareRows 92 = .ok (.iinc 6 1, 3) := by decide +kernel
theorem d_MD_compareRows_95 : decode b_MD_compareRows 95 = .ok (.goto (-47), 3) := by decide +kernel
theorem d_MD_compareRows_98 : decode b_MD_compareRows 98 = .ok (.iload 6, 2) := by decide +kernel
theorem d_MD_compareRows_100 : decode b_MD_compareRows 100 = .ok (.aload_n 0, 1) := by decide +kernel
theorem d_MD_compareRows_101 : decode b_MD_compareRows 101 = .ok (.getfield 61, 3) := by decide +kernel
theorem d_MD_compareRows_104 : decode b_MD_compareRows 104 = .ok (.iload_n 2, 1) := by decide +kernel
theorem d_MD_compareRows_105 : decode b_MD_compareRows 105 = .ok (.iaload, 1) := by decide +kernel
theorem d_MD_compareRows_106 : decode b_MD_compareRows 106 = .ok (.if_icmp .ge 14, 3) := by decide +kernel
theorem d_MD_compareRows_109 : decode b_MD_compareRows 109 = .ok (.aload_n 0, 1) := by decide +kernel
theorem d_MD_compareRows_110 : decode b_MD_compareRows 110 = .ok (.getfield 127, 3) := by decide +kernel
theorem d_MD_compareRows_113 : decode b_MD_compareRows 113 = .ok (.iload 6, 2) := by decide +kernel
theorem d_MD_compareRows_115 : decode b_MD_compareRows 115 = .ok (.iconst 1, 1) := by decide +kernel
theorem d_MD_compareRows_116 : decode b_MD_compareRows 116 = .ok (.bastore, 1) := by decide +kernel
theorem d_MD_compareRows_117 : decode b_MD_compareRows 117 = .ok (.goto 17, 3) := by decide +kernel
theorem d_MD_compareRows_120 : decode b_MD_compareRows 120 = .ok (.iinc 4 1, 3) := by decide +kernel
theorem d_MD_compareRows_123 : decode b_MD_compareRows 123 = .ok (.iload_n 3, 1) := by decide +kernel
theorem d_MD_compareRows_124 : decode b_MD_compareRows 124 = .ok (.ifCond .eq 10, 3) := by decide +kernel
theorem d_MD_compareRows_127 : decode b_MD_compareRows 127 = .ok (.aload_n 0, 1) := by decide +kernel
theorem d_MD_compareRows_128 : decode b_MD_compareRows 128 = .ok (.iconst 0, 1) := by decide +kernel
theorem d_MD_compareRows_129 : decode b_MD_compareRows 129 = .ok (.iload 5, 2) := by decide +kernel
theorem d_MD_compareRows_131 : decode b_MD_compareRows 131 = .ok (.invokevirtual 335, 3) := by decide +kernel
theorem d_MD_compareRows_134 : decode b_MD_compareRows 134 = .ok (.iinc 5 1, 3) := by decide +kernel
theorem d_MD_compareRows_137 : decode b_MD_compareRows 137 = .ok (.goto (-103), 3) := by decide +kernel
theorem d_MD_compareRows_140 : decode b_MD_compareRows 140 = .ok (.iconst 0, 1) := by decide +kernel
theorem d_MD_compareRows_141 : decode b_MD_compareRows 141 = .ok (.istore 5, 2) := by decide +kernel
theorem d_MD_compareRows_143 : decode b_MD_compareRows 143 = .ok (.iload 5, 2) := by decide +kernel
theorem d_MD_compareRows_145 : decode b_MD_compareRows 145 = .ok (.aload_n 0, 1) := by decide +kernel
theorem d_MD_compareRows_146 : decode b_MD_compareRows 146 = .ok (.getfield 61, 3) := by decide +kernel
theorem d_MD_compareRows_149 : decode b_MD_compareRows 149 = .ok (.iload_n 2, 1) := by decide +kernel
theorem d_MD_compareRows_150 : decode b_MD_compareRows 150 = .ok (.iaload, 1) := by decide +kernel
theorem d_MD_compareRows_151 : decode b_MD_compareRows 151 = .ok (.if_icmp .ge 33, 3) := by decide +kernel
theorem d_MD_compareRows_154 : decode b_MD_compareRows 154 = .ok (.aload_n 0, 1) := by decide +kernel
theorem d_MD_compareRows_155 : decode b_MD_compareRows 155 = .ok (.getfield 127, 3) := by decide +kernel
theorem d_MD_compareRows_158 : decode b_MD_compareRows 158 = .ok (.iload 5, 2) := by decide +kernel
theorem d_MD_compareRows_160 : decode b_MD_compareRows 160 = .ok (.baload, 1) := by decide +kernel
theorem d_MD_compareRows_161 : decode b_MD_compareRows 161 = .ok (.ifCond .ne 17, 3) := by decide +kernel
theorem d_MD_compareRows_164 : decode b_MD_compareRows 164 = .ok (.iinc 4 1, 3) := by decide +kernel
theorem d_MD_compareRows_167 : decode b_MD_compareRows 167 = .ok (.iload_n 3, 1) := by decide +kernel
theorem d_MD_compareRows_168 : decode b_MD_compareRows 168 = .ok (.ifCond .eq 10, 3) := by decide +kernel
theorem d_MD_compareRows_171 : decode b_MD_compareRows 171 = .ok (.aload_n 0, 1) := by decide +kernel
theorem d_MD_compareRows_172 : decode b_MD_compareRows 172 = .ok (.iconst 1, 1) := by decide +kernel
theorem d_MD_compareRows_173 : decode b_MD_compareRows 173 = .ok (.iload 5, 2) := by decide +kernel
theorem d_MD_compareRows_175 : decode b_MD_compareRows 175 = .ok (.invokevirtual 335, 3) := by decide +kernel
theorem d_MD_compareRows_178 : decode b_MD_compareRows 178 = .ok (.iinc 5 1, 3) := by decide +kernel
theorem d_MD_compareRows_181 : decode b_MD_compareRows 181 = .ok (.goto (-38), 3) := by decide +kernel
theorem d_MD_compareRows_184 : decode b_MD_compareRows 184 = .ok (.iload 4, 2) := by decide +kernel
theorem d_MD_compareRows_186 : decode b_MD_compareRows 186 = .ok (.ireturn, 1) := by decide +kernel
theorem d_MD_hasAll_0 : decode b_MD_hasAll 0 = .ok (.iconst 1, 1) := by decide +kernel
theorem d_MD_hasAll_1 : decode b_MD_hasAll 1 = .ok (.istore_n 3, 1) := by decide +kernel
theorem d_MD_hasAll_2 : decode b_MD_hasAll 2 = .ok (.sipush 250, 3) := by decide +kernel
theorem d_MD_hasAll_5 : decode b_MD_hasAll 5 = .ok (.iload_n 1, 1) := by decide +kernel
theorem d_MD_hasAll_6 : decode b_MD_hasAll 6 = .ok (.imul, 1) := by decide +kernel
theorem d_MD_hasAll_7 : decode b_MD_hasAll 7 = .ok (.istore 4, 2) := by decide +kernel
theorem d_MD_hasAll_9 : decode b_MD_hasAll 9 = .ok (.iload 4, 2) := by decide +kernel
theorem d_MD_hasAll_11 : decode b_MD_hasAll 11 = .ok (.sipush 250, 3) := by decide +kernel
theorem d_MD_hasAll_14 : decode b_MD_hasAll 14 = .ok (.iload_n 1, 1) := by decide +kernel
theorem d_MD_hasAll_15 : decode b_MD_hasAll 15 = .ok (.imul, 1) := by decide +kernel
theorem d_MD_hasAll_16 : decode b_MD_hasAll 16 = .ok (.aload_n 0, 1) := by decide +kernel
theorem d_MD_hasAll_17 : decode b_MD_hasAll 17 = .ok (.getfield 64, 3) := by decide +kernel
theorem d_MD_hasAll_20 : decode b_MD_hasAll 20 = .ok (.iload_n 1, 1) := by decide +kernel
theorem d_MD_hasAll_21 : decode b_MD_hasAll 21 = .ok (.iaload, 1) := by decide +kernel
theorem d_MD_hasAll_22 : decode b_MD_hasAll 22 = .ok (.iadd, 1) := by decide +kernel
theorem d_MD_hasAll_23 : decode b_MD_hasAll 23 = .ok (.if_icmp .ge 43, 3) := by decide +kernel
theorem d_MD_hasAll_26 : decode b_MD_hasAll 26 = .ok (.iload_n 3, 1) := by decide +kernel
theorem d_MD_hasAll_27 : decode b_MD_hasAll 27 = .ok (.ifCond .eq 31, 3) := by decide +kernel
theorem d_MD_hasAll_30 : decode b_MD_hasAll 30 = .ok (.aload_n 0, 1) := by decide +kernel
theorem d_MD_hasAll_31 : decode b_MD_hasAll 31 = .ok (.iload_n 2, 1) := by decide +kernel
theorem d_MD_hasAll_32 : decode b_MD_hasAll 32 = .ok (.aload_n 0, 1) := by decide +kernel
theorem d_MD_hasAll_33 : decode b_MD_hasAll 33 = .ok (.getfield 74, 3) := by decide +kernel
theorem d_MD_hasAll_36 : decode b_MD_hasAll 36 = .ok (.bipush 20, 2) := by decide +kernel
theorem d_MD_hasAll_38 : decode b_MD_hasAll 38 = .ok (.iload 4, 2) := by decide +kernel
theorem d_MD_hasAll_40 : decode b_MD_hasAll 40 = .ok (.imul, 1) := by decide +kernel
theorem d_MD_hasAll_41 : decode b_MD_hasAll 41 = .ok (.aload_n 0, 1) := by decide +kernel
theorem d_MD_hasAll_42 : decode b_MD_hasAll 42 = .ok (.getfield 77, 3) := by decide +kernel
theorem d_MD_hasAll_45 : decode b_MD_hasAll 45 = .ok (.iload 4, 2) := by decide +kernel
theorem d_MD_hasAll_47 : decode b_MD_hasAll 47 = .ok (.iaload, 1) := by decide +kernel
theorem d_MD_hasAll_48 : decode b_MD_hasAll 48 = .ok (.invokevirtual 293, 3) := by decide +kernel
theorem d_MD_hasAll_51 : decode b_MD_hasAll 51 = .ok (.ifCond .eq 7, 3) := by decide +kernel
theorem d_MD_hasAll_54 : decode b_MD_hasAll 54 = .ok (.iconst 1, 1) := by decide +kernel
theorem d_MD_hasAll_55 : decode b_MD_hasAll 55 = .ok (.goto 4, 3) := by decide +kernel
theorem d_MD_hasAll_58 : decode b_MD_hasAll 58 = .ok (.iconst 0, 1) := by decide +kernel
theorem d_MD_hasAll_59 : decode b_MD_hasAll 59 = .ok (.istore_n 3, 1) := by decide +kernel
theorem d_MD_hasAll_60 : decode b_MD_hasAll 60 = .ok (.iinc 4 1, 3) := by decide +kernel
theorem d_MD_hasAll_63 : decode b_MD_hasAll 63 = .ok (.goto (-54), 3) := by decide +kernel
theorem d_MD_hasAll_66 : decode b_MD_hasAll 66 = .ok (.iload_n 3, 1) := by decide +kernel
theorem d_MD_hasAll_67 : decode b_MD_hasAll 67 = .ok (.ireturn, 1) := by decide +kernel
theorem d_MD_same_0 : decode b_MD_same 0 = .ok (.aload_n 0, 1) := by decide +kernel
theorem d_MD_same_1 : decode b_MD_same 1 = .ok (.iconst 0, 1) := by decide +kernel
theorem d_MD_same_2 : decode b_MD_same 2 = .ok (.putfield 134, 3) := by decide +kernel
theorem d_MD_same_5 : decode b_MD_same 5 = .ok (.aload_n 0, 1) := by decide +kernel
theorem d_MD_same_6 : decode b_MD_same 6 = .ok (.iload_n 1, 1) := by decide +kernel
theorem d_MD_same_7 : decode b_MD_same 7 = .ok (.invokevirtual 317, 3) := by decide +kernel
theorem d_MD_same_10 : decode b_MD_same 10 = .ok (.ifCond .eq 27, 3) := by decide +kernel
theorem d_MD_same_13 : decode b_MD_same 13 = .ok (.aload_n 0, 1) := by decide +kernel
theorem d_MD_same_14 : decode b_MD_same 14 = .ok (.iload_n 2, 1) := by decide +kernel
theorem d_MD_same_15 : decode b_MD_same 15 = .ok (.invokevirtual 317, 3) := by decide +kernel
theorem d_MD_same_18 : decode b_MD_same 18 = .ok (.ifCond .eq 19, 3) := by decide +kernel
theorem d_MD_same_21 : decode b_MD_same 21 = .ok (.aload_n 0, 1) := by decide +kernel
theorem d_MD_same_22 : decode b_MD_same 22 = .ok (.getfield 70, 3) := by decide +kernel
theorem d_MD_same_25 : decode b_MD_same 25 = .ok (.iload_n 1, 1) := by decide +kernel
theorem d_MD_same_26 : decode b_MD_same 26 = .ok (.laload, 1) := by decide +kernel
theorem d_MD_same_27 : decode b_MD_same 27 = .ok (.aload_n 0, 1) := by decide +kernel
theorem d_MD_same_28 : decode b_MD_same 28 = .ok (.getfield 70, 3) := by decide +kernel
theorem d_MD_same_31 : decode b_MD_same 31 = .ok (.iload_n 2, 1) := by decide +kernel
theorem d_MD_same_32 : decode b_MD_same 32 = .ok (.laload, 1) := by decide +kernel
theorem d_MD_same_33 : decode b_MD_same 33 = .ok (.lcmp, 1) := by decide +kernel
theorem d_MD_same_34 : decode b_MD_same 34 = .ok (.ifCond .eq 5, 3) := by decide +kernel
theorem d_MD_same_37 : decode b_MD_same 37 = .ok (.iconst 0, 1) := by decide +kernel
theorem d_MD_same_38 : decode b_MD_same 38 = .ok (.ireturn, 1) := by decide +kernel
theorem d_MD_same_39 : decode b_MD_same 39 = .ok (.aload_n 0, 1) := by decide +kernel
theorem d_MD_same_40 : decode b_MD_same 40 = .ok (.aload_n 0, 1) := by decide +kernel
theorem d_MD_same_41 : decode b_MD_same 41 = .ok (.getfield 67, 3) := by decide +kernel
theorem d_MD_same_44 : decode b_MD_same 44 = .ok (.bipush 20, 2) := by decide +kernel
theorem d_MD_same_46 : decode b_MD_same 46 = .ok (.iload_n 1, 1) := by decide +kernel
theorem d_MD_same_47 : decode b_MD_same 47 = .ok (.imul, 1) := by decide +kernel
theorem d_MD_same_48 : decode b_MD_same 48 = .ok (.aload_n 0, 1) := by decide +kernel
theorem d_MD_same_49 : decode b_MD_same 49 = .ok (.getfield 58, 3) := by decide +kernel
theorem d_MD_same_52 : decode b_MD_same 52 = .ok (.iload_n 1, 1) := by decide +kernel
theorem d_MD_same_53 : decode b_MD_same 53 = .ok (.iaload, 1) := by decide +kernel
theorem d_MD_same_54 : decode b_MD_same 54 = .ok (.aload_n 0, 1) := by decide +kernel
theorem d_MD_same_55 : decode b_MD_same 55 = .ok (.getfield 67, 3) := by decide +kernel
theorem d_MD_same_58 : decode b_MD_same 58 = .ok (.bipush 20, 2) := by decide +kernel
theorem d_MD_same_60 : decode b_MD_same 60 = .ok (.iload_n 2, 1) := by decide +kernel
theorem d_MD_same_61 : decode b_MD_same 61 = .ok (.imul, 1) := by decide +kernel
theorem d_MD_same_62 : decode b_MD_same 62 = .ok (.aload_n 0, 1) := by decide +kernel
theorem d_MD_same_63 : decode b_MD_same 63 = .ok (.getfield 58, 3) := by decide +kernel
theorem d_MD_same_66 : decode b_MD_same 66 = .ok (.iload_n 2, 1) := by decide +kernel
theorem d_MD_same_67 : decode b_MD_same 67 = .ok (.iaload, 1) := by decide +kernel
theorem d_MD_same_68 : decode b_MD_same 68 = .ok (.invokevirtual 284, 3) := by decide +kernel
theorem d_MD_same_71 : decode b_MD_same 71 = .ok (.ifCond .ne 35, 3) := by decide +kernel
theorem d_MD_same_74 : decode b_MD_same 74 = .ok (.aload_n 0, 1) := by decide +kernel
theorem d_MD_same_75 : decode b_MD_same 75 = .ok (.iload_n 1, 1) := by decide +kernel
theorem d_MD_same_76 : decode b_MD_same 76 = .ok (.iload_n 2, 1) := by decide +kernel
theorem d_MD_same_77 : decode b_MD_same 77 = .ok (.invokevirtual 339, 3) := by decide +kernel
theorem d_MD_same_80 : decode b_MD_same 80 = .ok (.ifCond .eq 26, 3) := by decide +kernel
theorem d_MD_same_83 : decode b_MD_same 83 = .ok (.aload_n 0, 1) := by decide +kernel
theorem d_MD_same_84 : decode b_MD_same 84 = .ok (.iload_n 2, 1) := by decide +kernel
theorem d_MD_same_85 : decode b_MD_same 85 = .ok (.iload_n 1, 1) := by decide +kernel
theorem d_MD_same_86 : decode b_MD_same 86 = .ok (.invokevirtual 339, 3) := by decide +kernel
theorem d_MD_same_89 : decode b_MD_same 89 = .ok (.ifCond .eq 17, 3) := by decide +kernel
theorem d_MD_same_92 : decode b_MD_same 92 = .ok (.aload_n 0, 1) := by decide +kernel
theorem d_MD_same_93 : decode b_MD_same 93 = .ok (.iload_n 1, 1) := by decide +kernel
theorem d_MD_same_94 : decode b_MD_same 94 = .ok (.iload_n 2, 1) := by decide +kernel
theorem d_MD_same_95 : decode b_MD_same 95 = .ok (.iconst 0, 1) := by decide +kernel
theorem d_MD_same_96 : decode b_MD_same 96 = .ok (.invokevirtual 342, 3) := by decide +kernel
theorem d_MD_same_99 : decode b_MD_same 99 = .ok (.ifCond .ne 7, 3) := by decide +kernel
theorem d_MD_same_102 : decode b_MD_same 102 = .ok (.iconst 1, 1) := by decide +kernel
theorem d_MD_same_103 : decode b_MD_same 103 = .ok (.goto 4, 3) := by decide +kernel
theorem d_MD_same_106 : decode b_MD_same 106 = .ok (.iconst 0, 1) := by decide +kernel
theorem d_MD_same_107 : decode b_MD_same 107 = .ok (.ireturn, 1) := by decide +kernel
theorem d_MD_differ_0 : decode b_MD_differ 0 = .ok (.aload_n 0, 1) := by decide +kernel
theorem d_MD_differ_1 : decode b_MD_differ 1 = .ok (.iconst 0, 1) := by decide +kernel
theorem d_MD_differ_2 : decode b_MD_differ 2 = .ok (.putfield 134, 3) := by decide +kernel
theorem d_MD_differ_5 : decode b_MD_differ 5 = .ok (.aload_n 0, 1) := by decide +kernel
theorem d_MD_differ_6 : decode b_MD_differ 6 = .ok (.iload_n 1, 1) := by decide +kernel
theorem d_MD_differ_7 : decode b_MD_differ 7 = .ok (.invokevirtual 317, 3) := by decide +kernel
theorem d_MD_differ_10 : decode b_MD_differ 10 = .ok (.ifCond .eq 11, 3) := by decide +kernel
theorem d_MD_differ_13 : decode b_MD_differ 13 = .ok (.aload_n 0, 1) := by decide +kernel
theorem d_MD_differ_14 : decode b_MD_differ 14 = .ok (.iload_n 2, 1) := by decide +kernel
theorem d_MD_differ_15 : decode b_MD_differ 15 = .ok (.invokevirtual 317, 3) := by decide +kernel
theorem d_MD_differ_18 : decode b_MD_differ 18 = .ok (.ifCond .ne 5, 3) := by decide +kernel
theorem d_MD_differ_21 : decode b_MD_differ 21 = .ok (.iconst (-1), 1) := by decide +kernel
theorem d_MD_differ_22 : decode b_MD_differ 22 = .ok (.ireturn, 1) := by decide +kernel
theorem d_MD_differ_23 : decode b_MD_differ 23 = .ok (.aload_n 0, 1) := by decide +kernel
theorem d_MD_differ_24 : decode b_MD_differ 24 = .ok (.iconst 0, 1) := by decide +kernel
theorem d_MD_differ_25 : decode b_MD_differ 25 = .ok (.putfield 329, 3) := by decide +kernel
theorem d_MD_differ_28 : decode b_MD_differ 28 = .ok (.aload_n 0, 1) := by decide +kernel
theorem d_MD_differ_29 : decode b_MD_differ 29 = .ok (.iload_n 1, 1) := by decide +kernel
theorem d_MD_differ_30 : decode b_MD_differ 30 = .ok (.iload_n 2, 1) := by decide +kernel
theorem d_MD_differ_31 : decode b_MD_differ 31 = .ok (.iconst 1, 1) := by decide +kernel
theorem d_MD_differ_32 : decode b_MD_differ 32 = .ok (.invokevirtual 342, 3) := by decide +kernel
theorem d_MD_differ_35 : decode b_MD_differ 35 = .ok (.ireturn, 1) := by decide +kernel
theorem d_MD_change_0 : decode b_MD_change 0 = .ok (.aload_n 0, 1) := by decide +kernel
theorem d_MD_change_1 : decode b_MD_change 1 = .ok (.iconst 0, 1) := by decide +kernel
theorem d_MD_change_2 : decode b_MD_change 2 = .ok (.putfield 134, 3) := by decide +kernel
theorem d_MD_change_5 : decode b_MD_change 5 = .ok (.iload_n 1, 1) := by decide +kernel
theorem d_MD_change_6 : decode b_MD_change 6 = .ok (.ifCond .lt 20, 3) := by decide +kernel
theorem d_MD_change_9 : decode b_MD_change 9 = .ok (.iload_n 1, 1) := by decide +kernel
theorem d_MD_change_10 : decode b_MD_change 10 = .ok (.aload_n 0, 1) := by decide +kernel
theorem d_MD_change_11 : decode b_MD_change 11 = .ok (.getfield 329, 3) := by decide +kernel
theorem d_MD_change_14 : decode b_MD_change 14 = .ok (.if_icmp .ge 12, 3) := by decide +kernel
theorem d_MD_change_17 : decode b_MD_change 17 = .ok (.iload_n 2, 1) := by decide +kernel
theorem d_MD_change_18 : decode b_MD_change 18 = .ok (.ifCond .lt 8, 3) := by decide +kernel
theorem d_MD_change_21 : decode b_MD_change 21 = .ok (.iload_n 2, 1) := by decide +kernel
theorem d_MD_change_22 : decode b_MD_change 22 = .ok (.iconst 1, 1) := by decide +kernel
theorem d_MD_change_23 : decode b_MD_change 23 = .ok (.if_icmp .le 5, 3) := by decide +kernel
theorem d_MD_change_26 : decode b_MD_change 26 = .ok (.iconst (-1), 1) := by decide +kernel
theorem d_MD_change_27 : decode b_MD_change 27 = .ok (.ireturn, 1) := by decide +kernel
theorem d_MD_change_28 : decode b_MD_change 28 = .ok (.iload_n 2, 1) := by decide +kernel
theorem d_MD_change_29 : decode b_MD_change 29 = .ok (.ifCond .ne 12, 3) := by decide +kernel
theorem d_MD_change_32 : decode b_MD_change 32 = .ok (.aload_n 0, 1) := by decide +kernel
theorem d_MD_change_33 : decode b_MD_change 33 = .ok (.getfield 121, 3) := by decide +kernel
theorem d_MD_change_36 : decode b_MD_change 36 = .ok (.iload_n 1, 1) := by decide +kernel
theorem d_MD_change_37 : decode b_MD_change 37 = .ok (.iaload, 1) := by decide +kernel
theorem d_MD_change_38 : decode b_MD_change 38 = .ok (.goto 9, 3) := by decide +kernel
theorem d_MD_change_41 : decode b_MD_change 41 = .ok (.aload_n 0, 1) := by decide +kernel
theorem d_MD_change_42 : decode b_MD_change 42 = .ok (.getfield 124, 3) := by decide +kernel
theorem d_MD_change_45 : decode b_MD_change 45 = .ok (.iload_n 1, 1) := by decide +kernel
theorem d_MD_change_46 : decode b_MD_change 46 = .ok (.iaload, 1) := by decide +kernel
theorem d_MD_change_47 : decode b_MD_change 47 = .ok (.ireturn, 1) := by decide +kernel
theorem d_MD_put_0 : decode b_MD_put 0 = .ok (.aload_n 0, 1) := by decide +kernel
theorem d_MD_put_1 : decode b_MD_put 1 = .ok (.getfield 131, 3) := by decide +kernel
theorem d_MD_put_4 : decode b_MD_put 4 = .ok (.aload_n 0, 1) := by decide +kernel
theorem d_MD_put_5 : decode b_MD_put 5 = .ok (.getfield 346, 3) := by decide +kernel
theorem d_MD_put_8 : decode b_MD_put 8 = .ok (.iload_n 1, 1) := by decide +kernel
theorem d_MD_put_9 : decode b_MD_put 9 = .ok (.i2b, 1) := by decide +kernel
theorem d_MD_put_10 : decode b_MD_put 10 = .ok (.bastore, 1) := by decide +kernel
theorem d_MD_put_11 : decode b_MD_put 11 = .ok (.aload_n 0, 1) := by decide +kernel
theorem d_MD_put_12 : decode b_MD_put 12 = .ok (.dup, 1) := by decide +kernel
theorem d_MD_put_13 : decode b_MD_put 13 = .ok (.getfield 346, 3) := by decide +kernel
theorem d_MD_put_16 : decode b_MD_put 16 = .ok (.iconst 1, 1) := by decide +kernel
theorem d_MD_put_17 : decode b_MD_put 17 = .ok (.iadd, 1) := by decide +kernel
theorem d_MD_put_18 : decode b_MD_put 18 = .ok (.putfield 346, 3) := by decide +kernel
theorem d_MD_put_21 : decode b_MD_put 21 = .ok (.return_, 1) := by decide +kernel
theorem d_MD_putName_0 : decode b_MD_putName 0 = .ok (.iconst 0, 1) := by decide +kernel
theorem d_MD_putName_1 : decode b_MD_putName 1 = .ok (.istore 4, 2) := by decide +kernel
theorem d_MD_putName_3 : decode b_MD_putName 3 = .ok (.iload 4, 2) := by decide +kernel
theorem d_MD_putName_5 : decode b_MD_putName 5 = .ok (.iload_n 3, 1) := by decide +kernel
theorem d_MD_putName_6 : decode b_MD_putName 6 = .ok (.if_icmp .ge 19, 3) := by decide +kernel
theorem d_MD_putName_9 : decode b_MD_putName 9 = .ok (.aload_n 0, 1) := by decide +kernel
theorem d_MD_putName_10 : decode b_MD_putName 10 = .ok (.aload_n 1, 1) := by decide +kernel
theorem d_MD_putName_11 : decode b_MD_putName 11 = .ok (.iload_n 2, 1) := by decide +kernel
theorem d_MD_putName_12 : decode b_MD_putName 12 = .ok (.iload 4, 2) := by decide +kernel
theorem d_MD_putName_14 : decode b_MD_putName 14 = .ok (.iadd, 1) := by decide +kernel
theorem d_MD_putName_15 : decode b_MD_putName 15 = .ok (.baload, 1) := by decide +kernel
theorem d_MD_putName_16 : decode b_MD_putName 16 = .ok (.invokevirtual 349, 3) := by decide +kernel
theorem d_MD_putName_19 : decode b_MD_putName 19 = .ok (.iinc 4 1, 3) := by decide +kernel
theorem d_MD_putName_22 : decode b_MD_putName 22 = .ok (.goto (-19), 3) := by decide +kernel
theorem d_MD_putName_25 : decode b_MD_putName 25 = .ok (.return_, 1) := by decide +kernel
theorem d_MD_putKey_0 : decode b_MD_putKey 0 = .ok (.aload_n 0, 1) := by decide +kernel
theorem d_MD_putKey_1 : decode b_MD_putKey 1 = .ok (.bipush 32, 2) := by decide +kernel
theorem d_MD_putKey_3 : decode b_MD_putKey 3 = .ok (.invokevirtual 349, 3) := by decide +kernel
theorem d_MD_putKey_6 : decode b_MD_putKey 6 = .ok (.bipush 56, 2) := by decide +kernel
theorem d_MD_putKey_8 : decode b_MD_putKey 8 = .ok (.istore_n 3, 1) := by decide +kernel
theorem d_MD_putKey_9 : decode b_MD_putKey 9 = .ok (.iload_n 3, 1) := by decide +kernel
theorem d_MD_putKey_10 : decode b_MD_putKey 10 = .ok (.ifCond .lt 30, 3) := by decide +kernel
theorem d_MD_putKey_13 : decode b_MD_putKey 13 = .ok (.lload_n 1, 1) := by decide +kernel
theorem d_MD_putKey_14 : decode b_MD_putKey 14 = .ok (.iload_n 3, 1) := by decide +kernel
theorem d_MD_putKey_15 : decode b_MD_putKey 15 = .ok (.lshr, 1) := by decide +kernel
theorem d_MD_putKey_16 : decode b_MD_putKey 16 = .ok (.ldc2_w 352, 3) := by decide +kernel
theorem d_MD_putKey_19 : decode b_MD_putKey 19 = .ok (.land, 1) := by decide +kernel
theorem d_MD_putKey_20 : decode b_MD_putKey 20 = .ok (.l2i, 1) := by decide +kernel
theorem d_MD_putKey_21 : decode b_MD_putKey 21 = .ok (.istore 4, 2) := by decide +kernel
theorem d_MD_putKey_23 : decode b_MD_putKey 23 = .ok (.iload 4, 2) := by decide +kernel
theorem d_MD_putKey_25 : decode b_MD_putKey 25 = .ok (.ifCond .eq 9, 3) := by decide +kernel
theorem d_MD_putKey_28 : decode b_MD_putKey 28 = .ok (.aload_n 0, 1) := by decide +kernel
theorem d_MD_putKey_29 : decode b_MD_putKey 29 = .ok (.iload 4, 2) := by decide +kernel
theorem d_MD_putKey_31 : decode b_MD_putKey 31 = .ok (.invokevirtual 349, 3) := by decide +kernel
theorem d_MD_putKey_34 : decode b_MD_putKey 34 = .ok (.iinc 3 (-8), 3) := by decide +kernel
theorem d_MD_putKey_37 : decode b_MD_putKey 37 = .ok (.goto (-28), 3) := by decide +kernel
theorem d_MD_putKey_40 : decode b_MD_putKey 40 = .ok (.return_, 1) := by decide +kernel
theorem d_MD_putNumber_0 : decode b_MD_putNumber 0 = .ok (.lconst 1, 1) := by decide +kernel
theorem d_MD_putNumber_1 : decode b_MD_putNumber 1 = .ok (.lstore_n 3, 1) := by decide +kernel
theorem d_MD_putNumber_2 : decode b_MD_putNumber 2 = .ok (.lload_n 3, 1) := by decide +kernel
theorem d_MD_putNumber_3 : decode b_MD_putNumber 3 = .ok (.lload_n 1, 1) := by decide +kernel
theorem d_MD_putNumber_4 : decode b_MD_putNumber 4 = .ok (.ldc2_w 177, 3) := by decide +kernel
theorem d_MD_putNumber_7 : decode b_MD_putNumber 7 = .ok (.ldiv, 1) := by decide +kernel
theorem d_MD_putNumber_8 : decode b_MD_putNumber 8 = .ok (.lcmp, 1) := by decide +kernel
theorem d_MD_putNumber_9 : decode b_MD_putNumber 9 = .ok (.ifCond .gt 12, 3) := by decide +kernel
theorem d_MD_putNumber_12 : decode b_MD_putNumber 12 = .ok (.lload_n 3, 1) := by decide +kernel
theorem d_MD_putNumber_13 : decode b_MD_putNumber 13 = .ok (.ldc2_w 177, 3) := by decide +kernel
theorem d_MD_putNumber_16 : decode b_MD_putNumber 16 = .ok (.lmul, 1) := by decide +kernel
theorem d_MD_putNumber_17 : decode b_MD_putNumber 17 = .ok (.lstore_n 3, 1) := by decide +kernel
theorem d_MD_putNumber_18 : decode b_MD_putNumber 18 = .ok (.goto (-16), 3) := by decide +kernel
theorem d_MD_putNumber_21 : decode b_MD_putNumber 21 = .ok (.lload_n 3, 1) := by decide +kernel
theorem d_MD_putNumber_22 : decode b_MD_putNumber 22 = .ok (.lconst 0, 1) := by decide +kernel
theorem d_MD_putNumber_23 : decode b_MD_putNumber 23 = .ok (.lcmp, 1) := by decide +kernel
theorem d_MD_putNumber_24 : decode b_MD_putNumber 24 = .ok (.ifCond .le 27, 3) := by decide +kernel
theorem d_MD_putNumber_27 : decode b_MD_putNumber 27 = .ok (.aload_n 0, 1) := by decide +kernel
theorem d_MD_putNumber_28 : decode b_MD_putNumber 28 = .ok (.bipush 48, 2) := by decide +kernel
theorem d_MD_putNumber_30 : decode b_MD_putNumber 30 = .ok (.lload_n 1, 1) := by decide +kernel
theorem d_MD_putNumber_31 : decode b_MD_putNumber 31 = .ok (.lload_n 3, 1) := by decide +kernel
theorem d_MD_putNumber_32 : decode b_MD_putNumber 32 = .ok (.ldiv, 1) := by decide +kernel
theorem d_MD_putNumber_33 : decode b_MD_putNumber 33 = .ok (.ldc2_w 177, 3) := by decide +kernel
theorem d_MD_putNumber_36 : decode b_MD_putNumber 36 = .ok (.lrem, 1) := by decide +kernel
theorem d_MD_putNumber_37 : decode b_MD_putNumber 37 = .ok (.l2i, 1) := by decide +kernel
theorem d_MD_putNumber_38 : decode b_MD_putNumber 38 = .ok (.iadd, 1) := by decide +kernel
theorem d_MD_putNumber_39 : decode b_MD_putNumber 39 = .ok (.invokevirtual 349, 3) := by decide +kernel
theorem d_MD_putNumber_42 : decode b_MD_putNumber 42 = .ok (.lload_n 3, 1) := by decide +kernel
theorem d_MD_putNumber_43 : decode b_MD_putNumber 43 = .ok (.ldc2_w 177, 3) := by decide +kernel
theorem d_MD_putNumber_46 : decode b_MD_putNumber 46 = .ok (.ldiv, 1) := by decide +kernel
theorem d_MD_putNumber_47 : decode b_MD_putNumber 47 = .ok (.lstore_n 3, 1) := by decide +kernel
theorem d_MD_putNumber_48 : decode b_MD_putNumber 48 = .ok (.goto (-27), 3) := by decide +kernel
theorem d_MD_putNumber_51 : decode b_MD_putNumber 51 = .ok (.return_, 1) := by decide +kernel
theorem d_MD_putVersion_0 : decode b_MD_putVersion 0 = .ok (.aload_n 0, 1) := by decide +kernel
theorem d_MD_putVersion_1 : decode b_MD_putVersion 1 = .ok (.lload_n 1, 1) := by decide +kernel
theorem d_MD_putVersion_2 : decode b_MD_putVersion 2 = .ok (.ldc2_w 354, 3) := by decide +kernel
theorem d_MD_putVersion_5 : decode b_MD_putVersion 5 = .ok (.ldiv, 1) := by decide +kernel
theorem d_MD_putVersion_6 : decode b_MD_putVersion 6 = .ok (.invokevirtual 356, 3) := by decide +kernel
theorem d_MD_putVersion_9 : decode b_MD_putVersion 9 = .ok (.aload_n 0, 1) := by decide +kernel
theorem d_MD_putVersion_10 : decode b_MD_putVersion 10 = .ok (.bipush 46, 2) := by decide +kernel
theorem d_MD_putVersion_12 : decode b_MD_putVersion 12 = .ok (.invokevirtual 349, 3) := by decide +kernel
theorem d_MD_putVersion_15 : decode b_MD_putVersion 15 = .ok (.aload_n 0, 1) := by decide +kernel
theorem d_MD_putVersion_16 : decode b_MD_putVersion 16 = .ok (.lload_n 1, 1) := by decide +kernel
theorem d_MD_putVersion_17 : decode b_MD_putVersion 17 = .ok (.ldc2_w 187, 3) := by decide +kernel
theorem d_MD_putVersion_20 : decode b_MD_putVersion 20 = .ok (.ldiv, 1) := by decide +kernel
theorem d_MD_putVersion_21 : decode b_MD_putVersion 21 = .ok (.ldc2_w 187, 3) := by decide +kernel
theorem d_MD_putVersion_24 : decode b_MD_putVersion 24 = .ok (.lrem, 1) := by decide +kernel
theorem d_MD_putVersion_25 : decode b_MD_putVersion 25 = .ok (.invokevirtual 356, 3) := by decide +kernel
theorem d_MD_putVersion_28 : decode b_MD_putVersion 28 = .ok (.aload_n 0, 1) := by decide +kernel
theorem d_MD_putVersion_29 : decode b_MD_putVersion 29 = .ok (.bipush 46, 2) := by decide +kernel
theorem d_MD_putVersion_31 : decode b_MD_putVersion 31 = .ok (.invokevirtual 349, 3) := by decide +kernel
theorem d_MD_putVersion_34 : decode b_MD_putVersion 34 = .ok (.aload_n 0, 1) := by decide +kernel
theorem d_MD_putVersion_35 : decode b_MD_putVersion 35 = .ok (.lload_n 1, 1) := by decide +kernel
theorem d_MD_putVersion_36 : decode b_MD_putVersion 36 = .ok (.ldc2_w 187, 3) := by decide +kernel
theorem d_MD_putVersion_39 : decode b_MD_putVersion 39 = .ok (.lrem, 1) := by decide +kernel
theorem d_MD_putVersion_40 : decode b_MD_putVersion 40 = .ok (.invokevirtual 356, 3) := by decide +kernel
theorem d_MD_putVersion_43 : decode b_MD_putVersion 43 = .ok (.return_, 1) := by decide +kernel
theorem d_MD_putBound_0 : decode b_MD_putBound 0 = .ok (.aload_n 0, 1) := by decide +kernel
theorem d_MD_putBound_1 : decode b_MD_putBound 1 = .ok (.bipush 32, 2) := by decide +kernel
theorem d_MD_putBound_3 : decode b_MD_putBound 3 = .ok (.invokevirtual 349, 3) := by decide +kernel
theorem d_MD_putBound_6 : decode b_MD_putBound 6 = .ok (.aload_n 0, 1) := by decide +kernel
theorem d_MD_putBound_7 : decode b_MD_putBound 7 = .ok (.iload_n 1, 1) := by decide +kernel
theorem d_MD_putBound_8 : decode b_MD_putBound 8 = .ok (.invokevirtual 349, 3) := by decide +kernel
theorem d_MD_putBound_11 : decode b_MD_putBound 11 = .ok (.iload_n 2, 1) := by decide +kernel
theorem d_MD_putBound_12 : decode b_MD_putBound 12 = .ok (.ifCond .eq 8, 3) := by decide +kernel
theorem d_MD_putBound_15 : decode b_MD_putBound 15 = .ok (.aload_n 0, 1) := by decide +kernel
theorem d_MD_putBound_16 : decode b_MD_putBound 16 = .ok (.iload_n 2, 1) := by decide +kernel
theorem d_MD_putBound_17 : decode b_MD_putBound 17 = .ok (.invokevirtual 349, 3) := by decide +kernel
theorem d_MD_putBound_20 : decode b_MD_putBound 20 = .ok (.aload_n 0, 1) := by decide +kernel
theorem d_MD_putBound_21 : decode b_MD_putBound 21 = .ok (.bipush 32, 2) := by decide +kernel
theorem d_MD_putBound_23 : decode b_MD_putBound 23 = .ok (.invokevirtual 349, 3) := by decide +kernel
theorem d_MD_putBound_26 : decode b_MD_putBound 26 = .ok (.aload_n 0, 1) := by decide +kernel
theorem d_MD_putBound_27 : decode b_MD_putBound 27 = .ok (.lload_n 3, 1) := by decide +kernel
theorem d_MD_putBound_28 : decode b_MD_putBound 28 = .ok (.invokevirtual 360, 3) := by decide +kernel
theorem d_MD_putBound_31 : decode b_MD_putBound 31 = .ok (.return_, 1) := by decide +kernel
theorem d_MD_putRange_0 : decode b_MD_putRange 0 = .ok (.aload_n 0, 1) := by decide +kernel
theorem d_MD_putRange_1 : decode b_MD_putRange 1 = .ok (.getfield 99, 3) := by decide +kernel
theorem d_MD_putRange_4 : decode b_MD_putRange 4 = .ok (.iload_n 1, 1) := by decide +kernel
theorem d_MD_putRange_5 : decode b_MD_putRange 5 = .ok (.laload, 1) := by decide +kernel
theorem d_MD_putRange_6 : decode b_MD_putRange 6 = .ok (.lconst 0, 1) := by decide +kernel
theorem d_MD_putRange_7 : decode b_MD_putRange 7 = .ok (.lcmp, 1) := by decide +kernel
theorem d_MD_putRange_8 : decode b_MD_putRange 8 = .ok (.ifCond .ne 31, 3) := by decide +kernel
theorem d_MD_putRange_11 : decode b_MD_putRange 11 = .ok (.aload_n 0, 1) := by decide +kernel
theorem d_MD_putRange_12 : decode b_MD_putRange 12 = .ok (.getfield 102, 3) := by decide +kernel
theorem d_MD_putRange_15 : decode b_MD_putRange 15 = .ok (.iload_n 1, 1) := by decide +kernel
theorem d_MD_putRange_16 : decode b_MD_putRange 16 = .ok (.laload, 1) := by decide +kernel
theorem d_MD_putRange_17 : decode b_MD_putRange 17 = .ok (.ldc2_w 203, 3) := by decide +kernel
theorem d_MD_putRange_20 : decode b_MD_putRange 20 = .ok (.lcmp, 1) := by decide +kernel
theorem d_MD_putRange_21 : decode b_MD_putRange 21 = .ok (.ifCond .ne 18, 3) := by decide +kernel
theorem d_MD_putRange_24 : decode b_MD_putRange 24 = .ok (.aload_n 0, 1) := by decide +kernel
theorem d_MD_putRange_25 : decode b_MD_putRange 25 = .ok (.bipush 32, 2) := by decide +kernel
theorem d_MD_putRange_27 : decode b_MD_putRange 27 = .ok (.invokevirtual 349, 3) := by decide +kernel
theorem d_MD_putRange_30 : decode b_MD_putRange 30 = .ok (.aload_n 0, 1) := by decide +kernel
theorem d_MD_putRange_31 : decode b_MD_putRange 31 = .ok (.bipush 42, 2) := by decide +kernel
theorem d_MD_putRange_33 : decode b_MD_putRange 33 = .ok (.invokevirtual 349, 3) := by decide +kernel
theorem d_MD_putRange_36 : decode b_MD_putRange 36 = .ok (.goto 88, 3) := by decide +kernel
theorem d_MD_putRange_39 : decode b_MD_putRange 39 = .ok (.aload_n 0, 1) := by decide +kernel
theorem d_MD_putRange_40 : decode b_MD_putRange 40 = .ok (.getfield 102, 3) := by decide +kernel
theorem d_MD_putRange_43 : decode b_MD_putRange 43 = .ok (.iload_n 1, 1) := by decide +kernel
theorem d_MD_putRange_44 : decode b_MD_putRange 44 = .ok (.laload, 1) := by decide +kernel
theorem d_MD_putRange_45 : decode b_MD_putRange 45 = .ok (.aload_n 0, 1) := by decide +kernel
theorem d_MD_putRange_46 : decode b_MD_putRange 46 = .ok (.getfield 99, 3) := by decide +kernel
theorem d_MD_putRange_49 : decode b_MD_putRange 49 = .ok (.iload_n 1, 1) := by decide +kernel
theorem d_MD_putRange_50 : decode b_MD_putRange 50 = .ok (.laload, 1) := by decide +kernel
theorem d_MD_putRange_51 : decode b_MD_putRange 51 = .ok (.lconst 1, 1) := by decide +kernel
theorem d_MD_putRange_52 : decode b_MD_putRange 52 = .ok (.ladd, 1) := by decide +kernel
theorem d_MD_putRange_53 : decode b_MD_putRange 53 = .ok (.lcmp, 1) := by decide +kernel
theorem d_MD_putRange_54 : decode b_MD_putRange 54 = .ok (.ifCond .ne 19, 3) := by decide +kernel
theorem d_MD_putRange_57 : decode b_MD_putRange 57 = .ok (.aload_n 0, 1) := by decide +kernel
theorem d_MD_putRange_58 : decode b_MD_putRange 58 = .ok (.bipush 61, 2) := by decide +kernel
theorem d_MD_putRange_60 : decode b_MD_putRange 60 = .ok (.iconst 0, 1) := by decide +kernel
theorem d_MD_putRange_61 : decode b_MD_putRange 61 = .ok (.aload_n 0, 1) := by decide +kernel
theorem d_MD_putRange_62 : decode b_MD_putRange 62 = .ok (.getfield 99, 3) := by decide +kernel
theorem d_MD_putRange_65 : decode b_MD_putRange 65 = .ok (.iload_n 1, 1) := by decide +kernel
theorem d_MD_putRange_66 : decode b_MD_putRange 66 = .ok (.laload, 1) := by decide +kernel
theorem d_MD_putRange_67 : decode b_MD_putRange 67 = .ok (.invokevirtual 363, 3) := by decide +kernel
theorem d_MD_putRange_70 : decode b_MD_putRange 70 = .ok (.goto 54, 3) := by decide +kernel
theorem d_MD_putRange_73 : decode b_MD_putRange 73 = .ok (.aload_n 0, 1) := by decide +kernel
theorem d_MD_putRange_74 : decode b_MD_putRange 74 = .ok (.getfield 99, 3) := by decide +kernel
theorem d_MD_putRange_77 : decode b_MD_putRange 77 = .ok (.iload_n 1, 1) := by decide +kernel
theorem d_MD_putRange_78 : decode b_MD_putRange 78 = .ok (.laload, 1) := by decide +kernel
theorem d_MD_putRange_79 : decode b_MD_putRange 79 = .ok (.lconst 0, 1) := by decide +kernel
theorem d_MD_putRange_80 : decode b_MD_putRange 80 = .ok (.lcmp, 1) := by decide +kernel
theorem d_MD_putRange_81 : decode b_MD_putRange 81 = .ok (.ifCond .eq 17, 3) := by decide +kernel
theorem d_MD_putRange_84 : decode b_MD_putRange 84 = .ok (.aload_n 0, 1) := by decide +kernel
theorem d_MD_putRange_85 : decode b_MD_putRange 85 = .ok (.bipush 62, 2) := by decide +kernel
theorem d_MD_putRange_87 : decode b_MD_putRange 87 = .ok (.bipush 61, 2) := by decide +kernel
theorem d_MD_putRange_89 : decode b_MD_putRange 89 = .ok (.aload_n 0, 1) := by decide +kernel
theorem d_MD_putRange_90 : decode b_MD_putRange 90 = .ok (.getfield 99, 3) := by decide +kernel
theorem d_MD_putRange_93 : decode b_MD_putRange 93 = .ok (.iload_n 1, 1) := by decide +kernel
theorem d_MD_putRange_94 : decode b_MD_putRange 94 = .ok (.laload, 1) := by decide +kernel
theorem d_MD_putRange_95 : decode b_MD_putRange 95 = .ok (.invokevirtual 363, 3) := by decide +kernel
theorem d_MD_putRange_98 : decode b_MD_putRange 98 = .ok (.aload_n 0, 1) := by decide +kernel
theorem d_MD_putRange_99 : decode b_MD_putRange 99 = .ok (.getfield 102, 3) := by decide +kernel
theorem d_MD_putRange_102 : decode b_MD_putRange 102 = .ok (.iload_n 1, 1) := by decide +kernel
theorem d_MD_putRange_103 : decode b_MD_putRange 103 = .ok (.laload, 1) := by decide +kernel
theorem d_MD_putRange_104 : decode b_MD_putRange 104 = .ok (.ldc2_w 203, 3) := by decide +kernel
theorem d_MD_putRange_107 : decode b_MD_putRange 107 = .ok (.lcmp, 1) := by decide +kernel
theorem d_MD_putRange_108 : decode b_MD_putRange 108 = .ok (.ifCond .eq 16, 3) := by decide +kernel
theorem d_MD_putRange_111 : decode b_MD_putRange 111 = .ok (.aload_n 0, 1) := by decide +kernel
theorem d_MD_putRange_112 : decode b_MD_putRange 112 = .ok (.bipush 60, 2) := by decide +kernel
theorem d_MD_putRange_114 : decode b_MD_putRange 114 = .ok (.iconst 0, 1) := by decide +kernel
theorem d_MD_putRange_115 : decode b_MD_putRange 115 = .ok (.aload_n 0, 1) := by decide +kernel
theorem d_MD_putRange_116 : decode b_MD_putRange 116 = .ok (.getfield 102, 3) := by decide +kernel
theorem d_MD_putRange_119 : decode b_MD_putRange 119 = .ok (.iload_n 1, 1) := by decide +kernel
theorem d_MD_putRange_120 : decode b_MD_putRange 120 = .ok (.laload, 1) := by decide +kernel
theorem d_MD_putRange_121 : decode b_MD_putRange 121 = .ok (.invokevirtual 363, 3) := by decide +kernel
theorem d_MD_putRange_124 : decode b_MD_putRange 124 = .ok (.return_, 1) := by decide +kernel
theorem d_MD_keyOf_0 : decode b_MD_keyOf 0 = .ok (.iconst 0, 1) := by decide +kernel
theorem d_MD_keyOf_1 : decode b_MD_keyOf 1 = .ok (.istore_n 2, 1) := by decide +kernel
theorem d_MD_keyOf_2 : decode b_MD_keyOf 2 = .ok (.iload_n 2, 1) := by decide +kernel
theorem d_MD_keyOf_3 : decode b_MD_keyOf 3 = .ok (.bipush 12, 2) := by decide +kernel
theorem d_MD_keyOf_5 : decode b_MD_keyOf 5 = .ok (.if_icmp .ge 26, 3) := by decide +kernel
theorem d_MD_keyOf_8 : decode b_MD_keyOf 8 = .ok (.aload_n 0, 1) := by decide +kernel
theorem d_MD_keyOf_9 : decode b_MD_keyOf 9 = .ok (.getfield 54, 3) := by decide +kernel
theorem d_MD_keyOf_12 : decode b_MD_keyOf 12 = .ok (.iload_n 2, 1) := by decide +kernel
theorem d_MD_keyOf_13 : decode b_MD_keyOf 13 = .ok (.iaload, 1) := by decide +kernel
theorem d_MD_keyOf_14 : decode b_MD_keyOf 14 = .ok (.iload_n 1, 1) := by decide +kernel
theorem d_MD_keyOf_15 : decode b_MD_keyOf 15 = .ok (.if_icmp .ne 10, 3) := by decide +kernel
theorem d_MD_keyOf_18 : decode b_MD_keyOf 18 = .ok (.aload_n 0, 1) := by decide +kernel
theorem d_MD_keyOf_19 : decode b_MD_keyOf 19 = .ok (.getfield 51, 3) := by decide +kernel
theorem d_MD_keyOf_22 : decode b_MD_keyOf 22 = .ok (.iload_n 2, 1) := by decide +kernel
theorem d_MD_keyOf_23 : decode b_MD_keyOf 23 = .ok (.laload, 1) := by decide +kernel
theorem d_MD_keyOf_24 : decode b_MD_keyOf 24 = .ok (.lreturn, 1) := by decide +kernel
theorem d_MD_keyOf_25 : decode b_MD_keyOf 25 = .ok (.iinc 2 1, 3) := by decide +kernel
theorem d_MD_keyOf_28 : decode b_MD_keyOf 28 = .ok (.goto (-26), 3) := by decide +kernel
theorem d_MD_keyOf_31 : decode b_MD_keyOf 31 = .ok (.ldc2_w 27, 3) := by decide +kernel
theorem d_MD_keyOf_34 : decode b_MD_keyOf 34 = .ok (.lreturn, 1) := by decide +kernel
theorem d_MD_goesOn_0 : decode b_MD_goesOn 0 = .ok (.iload_n 2, 1) := by decide +kernel
theorem d_MD_goesOn_1 : decode b_MD_goesOn 1 = .ok (.sipush 200, 3) := by decide +kernel
theorem d_MD_goesOn_4 : decode b_MD_goesOn 4 = .ok (.iload_n 1, 1) := by decide +kernel
theorem d_MD_goesOn_5 : decode b_MD_goesOn 5 = .ok (.imul, 1) := by decide +kernel
theorem d_MD_goesOn_6 : decode b_MD_goesOn 6 = .ok (.if_icmp .eq 20, 3) := by decide +kernel
theorem d_MD_goesOn_9 : decode b_MD_goesOn 9 = .ok (.aload_n 0, 1) := by decide +kernel
theorem d_MD_goesOn_10 : decode b_MD_goesOn 10 = .ok (.getfield 80, 3) := by decide +kernel
theorem d_MD_goesOn_13 : decode b_MD_goesOn 13 = .ok (.iload_n 2, 1) := by decide +kernel
theorem d_MD_goesOn_14 : decode b_MD_goesOn 14 = .ok (.iconst 1, 1) := by decide +kernel
theorem d_MD_goesOn_15 : decode b_MD_goesOn 15 = .ok (.isub, 1) := by decide +kernel
theorem d_MD_goesOn_16 : decode b_MD_goesOn 16 = .ok (.baload, 1) := by decide +kernel
theorem d_MD_goesOn_17 : decode b_MD_goesOn 17 = .ok (.aload_n 0, 1) := by decide +kernel
theorem d_MD_goesOn_18 : decode b_MD_goesOn 18 = .ok (.getfield 80, 3) := by decide +kernel
theorem d_MD_goesOn_21 : decode b_MD_goesOn 21 = .ok (.iload_n 2, 1) := by decide +kernel
theorem d_MD_goesOn_22 : decode b_MD_goesOn 22 = .ok (.baload, 1) := by decide +kernel
theorem d_MD_goesOn_23 : decode b_MD_goesOn 23 = .ok (.if_icmp .eq 5, 3) := by decide +kernel
theorem d_MD_goesOn_26 : decode b_MD_goesOn 26 = .ok (.iconst 0, 1) := by decide +kernel
theorem d_MD_goesOn_27 : decode b_MD_goesOn 27 = .ok (.ireturn, 1) := by decide +kernel
theorem d_MD_goesOn_28 : decode b_MD_goesOn 28 = .ok (.aload_n 0, 1) := by decide +kernel
theorem d_MD_goesOn_29 : decode b_MD_goesOn 29 = .ok (.getfield 80, 3) := by decide +kernel
theorem d_MD_goesOn_32 : decode b_MD_goesOn 32 = .ok (.iload_n 2, 1) := by decide +kernel
theorem d_MD_goesOn_33 : decode b_MD_goesOn 33 = .ok (.baload, 1) := by decide +kernel
theorem d_MD_goesOn_34 : decode b_MD_goesOn 34 = .ok (.istore_n 3, 1) := by decide +kernel
theorem d_MD_goesOn_35 : decode b_MD_goesOn 35 = .ok (.iload_n 3, 1) := by decide +kernel
theorem d_MD_goesOn_36 : decode b_MD_goesOn 36 = .ok (.bipush 9, 2) := by decide +kernel
theorem d_MD_goesOn_38 : decode b_MD_goesOn 38 = .ok (.if_icmp .ne 48, 3) := by decide +kernel
theorem d_MD_goesOn_41 : decode b_MD_goesOn 41 = .ok (.aload_n 0, 1) := by decide +kernel
theorem d_MD_goesOn_42 : decode b_MD_goesOn 42 = .ok (.aload_n 0, 1) := by decide +kernel
theorem d_MD_goesOn_43 : decode b_MD_goesOn 43 = .ok (.getfield 96, 3) := by decide +kernel
theorem d_MD_goesOn_46 : decode b_MD_goesOn 46 = .ok (.bipush 20, 2) := by decide +kernel
theorem d_MD_goesOn_48 : decode b_MD_goesOn 48 = .ok (.iload_n 2, 1) := by decide +kernel
theorem d_MD_goesOn_49 : decode b_MD_goesOn 49 = .ok (.imul, 1) := by decide +kernel
theorem d_MD_goesOn_50 : decode b_MD_goesOn 50 = .ok (.aload_n 0, 1) := by decide +kernel
theorem d_MD_goesOn_51 : decode b_MD_goesOn 51 = .ok (.getfield 89, 3) := by decide +kernel
theorem d_MD_goesOn_54 : decode b_MD_goesOn 54 = .ok (.iload_n 2, 1) := by decide +kernel
theorem d_MD_goesOn_55 : decode b_MD_goesOn 55 = .ok (.iaload, 1) := by decide +kernel
theorem d_MD_goesOn_56 : decode b_MD_goesOn 56 = .ok (.aload_n 0, 1) := by decide +kernel
theorem d_MD_goesOn_57 : decode b_MD_goesOn 57 = .ok (.getfield 96, 3) := by decide +kernel
theorem d_MD_goesOn_60 : decode b_MD_goesOn 60 = .ok (.bipush 20, 2) := by decide +kernel
theorem d_MD_goesOn_62 : decode b_MD_goesOn 62 = .ok (.iload_n 2, 1) := by decide +kernel
theorem d_MD_goesOn_63 : decode b_MD_goesOn 63 = .ok (.iconst 1, 1) := by decide +kernel
theorem d_MD_goesOn_64 : decode b_MD_goesOn 64 = .ok (.isub, 1) := by decide +kernel
theorem d_MD_goesOn_65 : decode b_MD_goesOn 65 = .ok (.imul, 1) := by decide +kernel
theorem d_MD_goesOn_66 : decode b_MD_goesOn 66 = .ok (.aload_n 0, 1) := by decide +kernel
theorem d_MD_goesOn_67 : decode b_MD_goesOn 67 = .ok (.getfield 89, 3) := by decide +kernel
theorem d_MD_goesOn_70 : decode b_MD_goesOn 70 = .ok (.iload_n 2, 1) := by decide +kernel
theorem d_MD_goesOn_71 : decode b_MD_goesOn 71 = .ok (.iconst 1, 1) := by decide +kernel
theorem d_MD_goesOn_72 : decode b_MD_goesOn 72 = .ok (.isub, 1) := by decide +kernel
theorem d_MD_goesOn_73 : decode b_MD_goesOn 73 = .ok (.iaload, 1) := by decide +kernel
theorem d_MD_goesOn_74 : decode b_MD_goesOn 74 = .ok (.invokevirtual 284, 3) := by decide +kernel
theorem d_MD_goesOn_77 : decode b_MD_goesOn 77 = .ok (.ifCond .ne 7, 3) := by decide +kernel
theorem d_MD_goesOn_80 : decode b_MD_goesOn 80 = .ok (.iconst 1, 1) := by decide +kernel
theorem d_MD_goesOn_81 : decode b_MD_goesOn 81 = .ok (.goto 4, 3) := by decide +kernel
theorem d_MD_goesOn_84 : decode b_MD_goesOn 84 = .ok (.iconst 0, 1) := by decide +kernel
theorem d_MD_goesOn_85 : decode b_MD_goesOn 85 = .ok (.ireturn, 1) := by decide +kernel
theorem d_MD_goesOn_86 : decode b_MD_goesOn 86 = .ok (.iload_n 3, 1) := by decide +kernel
theorem d_MD_goesOn_87 : decode b_MD_goesOn 87 = .ok (.bipush 8, 2) := by decide +kernel
theorem d_MD_goesOn_89 : decode b_MD_goesOn 89 = .ok (.if_icmp .ne 28, 3) := by decide +kernel
theorem d_MD_goesOn_92 : decode b_MD_goesOn 92 = .ok (.aload_n 0, 1) := by decide +kernel
theorem d_MD_goesOn_93 : decode b_MD_goesOn 93 = .ok (.getfield 83, 3) := by decide +kernel
theorem d_MD_goesOn_96 : decode b_MD_goesOn 96 = .ok (.iload_n 2, 1) := by decide +kernel
theorem d_MD_goesOn_97 : decode b_MD_goesOn 97 = .ok (.iaload, 1) := by decide +kernel
theorem d_MD_goesOn_98 : decode b_MD_goesOn 98 = .ok (.aload_n 0, 1) := by decide +kernel
theorem d_MD_goesOn_99 : decode b_MD_goesOn 99 = .ok (.getfield 83, 3) := by decide +kernel
theorem d_MD_goesOn_102 : decode b_MD_goesOn 102 = .ok (.iload_n 2, 1) := by decide +kernel
theorem d_MD_goesOn_103 : decode b_MD_goesOn 103 = .ok (.iconst 1, 1) := by decide +kernel
theorem d_MD_goesOn_104 : decode b_MD_goesOn 104 = .ok (.isub, 1) := by decide +kernel
theorem d_MD_goesOn_105 : decode b_MD_goesOn 105 = .ok (.iaload, 1) := by decide +kernel
theorem d_MD_goesOn_106 : decode b_MD_goesOn 106 = .ok (.if_icmp .ne 7, 3) := by decide +kernel
theorem d_MD_goesOn_109 : decode b_MD_goesOn 109 = .ok (.iconst 1, 1) := by decide +kernel
theorem d_MD_goesOn_110 : decode b_MD_goesOn 110 = .ok (.goto 24, 3) := by decide +kernel
theorem d_MD_goesOn_113 : decode b_MD_goesOn 113 = .ok (.iconst 0, 1) := by decide +kernel
theorem d_MD_goesOn_114 : decode b_MD_goesOn 114 = .ok (.goto 20, 3) := by decide +kernel
theorem d_MD_goesOn_117 : decode b_MD_goesOn 117 = .ok (.iload_n 3, 1) := by decide +kernel
theorem d_MD_goesOn_118 : decode b_MD_goesOn 118 = .ok (.bipush 9, 2) := by decide +kernel
theorem d_MD_goesOn_120 : decode b_MD_goesOn 120 = .ok (.if_icmp .le 13, 3) := by decide +kernel
theorem d_MD_goesOn_123 : decode b_MD_goesOn 123 = .ok (.iload_n 3, 1) := by decide +kernel
theorem d_MD_goesOn_124 : decode b_MD_goesOn 124 = .ok (.bipush 14, 2) := by decide +kernel
theorem d_MD_goesOn_126 : decode b_MD_goesOn 126 = .ok (.if_icmp .ge 7, 3) := by decide +kernel
theorem d_MD_goesOn_129 : decode b_MD_goesOn 129 = .ok (.iconst 1, 1) := by decide +kernel
theorem d_MD_goesOn_130 : decode b_MD_goesOn 130 = .ok (.goto 4, 3) := by decide +kernel
theorem d_MD_goesOn_133 : decode b_MD_goesOn 133 = .ok (.iconst 0, 1) := by decide +kernel
theorem d_MD_goesOn_134 : decode b_MD_goesOn 134 = .ok (.ireturn, 1) := by decide +kernel
theorem d_MD_putBegin_0 : decode b_MD_putBegin 0 = .ok (.aload_n 0, 1) := by decide +kernel
theorem d_MD_putBegin_1 : decode b_MD_putBegin 1 = .ok (.getfield 80, 3) := by decide +kernel
theorem d_MD_putBegin_4 : decode b_MD_putBegin 4 = .ok (.iload_n 1, 1) := by decide +kernel
theorem d_MD_putBegin_5 : decode b_MD_putBegin 5 = .ok (.baload, 1) := by decide +kernel
theorem d_MD_putBegin_6 : decode b_MD_putBegin 6 = .ok (.istore_n 2, 1) := by decide +kernel
theorem d_MD_putBegin_7 : decode b_MD_putBegin 7 = .ok (.aload_n 0, 1) := by decide +kernel
theorem d_MD_putBegin_8 : decode b_MD_putBegin 8 = .ok (.aload_n 0, 1) := by decide +kernel
theorem d_MD_putBegin_9 : decode b_MD_putBegin 9 = .ok (.iload_n 2, 1) := by decide +kernel
theorem d_MD_putBegin_10 : decode b_MD_putBegin 10 = .ok (.iconst 5, 1) := by decide +kernel
theorem d_MD_putBegin_11 : decode b_MD_putBegin 11 = .ok (.if_icmp .ge 7, 3) := by decide +kernel
theorem d_MD_putBegin_14 : decode b_MD_putBegin 14 = .ok (.iconst 0, 1) := by decide +kernel
theorem d_MD_putBegin_15 : decode b_MD_putBegin 15 = .ok (.goto 4, 3) := by decide +kernel
theorem d_MD_putBegin_18 : decode b_MD_putBegin 18 = .ok (.iload_n 2, 1) := by decide +kernel
theorem d_MD_putBegin_19 : decode b_MD_putBegin 19 = .ok (.invokevirtual 367, 3) := by decide +kernel
theorem d_MD_putBegin_22 : decode b_MD_putBegin 22 = .ok (.invokevirtual 371, 3) := by decide +kernel
theorem d_MD_putBegin_25 : decode b_MD_putBegin 25 = .ok (.iload_n 2, 1) := by decide +kernel
theorem d_MD_putBegin_26 : decode b_MD_putBegin 26 = .ok (.iconst 5, 1) := by decide +kernel
theorem d_MD_putBegin_27 : decode b_MD_putBegin 27 = .ok (.if_icmp .ge 13, 3) := by decide +kernel
theorem d_MD_putBegin_30 : decode b_MD_putBegin 30 = .ok (.aload_n 0, 1) := by decide +kernel
theorem d_MD_putBegin_31 : decode b_MD_putBegin 31 = .ok (.aload_n 0, 1) := by decide +kernel
theorem d_MD_putBegin_32 : decode b_MD_putBegin 32 = .ok (.getfield 23, 3) := by decide +kernel
theorem d_MD_putBegin_35 : decode b_MD_putBegin 35 = .ok (.iload_n 2, 1) := by decide +kernel
theorem d_MD_putBegin_36 : decode b_MD_putBegin 36 = .ok (.laload, 1) := by decide +kernel
theorem d_MD_putBegin_37 : decode b_MD_putBegin 37 = .ok (.invokevirtual 371, 3) := by decide +kernel
theorem d_MD_putBegin_40 : decode b_MD_putBegin 40 = .ok (.iload_n 2, 1) := by decide +kernel
theorem d_MD_putBegin_41 : decode b_MD_putBegin 41 = .ok (.bipush 9, 2) := by decide +kernel
theorem d_MD_putBegin_43 : decode b_MD_putBegin 43 = .ok (.if_icmp .ne 33, 3) := by decide +kernel
theorem d_MD_putBegin_46 : decode b_MD_putBegin 46 = .ok (.aload_n 0, 1) := by decide +kernel
theorem d_MD_putBegin_47 : decode b_MD_putBegin 47 = .ok (.bipush 32, 2) := by decide +kernel
theorem d_MD_putBegin_49 : decode b_MD_putBegin 49 = .ok (.invokevirtual 349, 3) := by decide +kernel
theorem d_MD_putBegin_52 : decode b_MD_putBegin 52 = .ok (.aload_n 0, 1) := by decide +kernel
theorem d_MD_putBegin_53 : decode b_MD_putBegin 53 = .ok (.aload_n 0, 1) := by decide +kernel
theorem d_MD_putBegin_54 : decode b_MD_putBegin 54 = .ok (.getfield 96, 3) := by decide +kernel
theorem d_MD_putBegin_57 : decode b_MD_putBegin 57 = .ok (.bipush 20, 2) := by decide +kernel
theorem d_MD_putBegin_59 : decode b_MD_putBegin 59 = .ok (.iload_n 1, 1) := by decide +kernel
theorem d_MD_putBegin_60 : decode b_MD_putBegin 60 = .ok (.imul, 1) := by decide +kernel
theorem d_MD_putBegin_61 : decode b_MD_putBegin 61 = .ok (.aload_n 0, 1) := by decide +kernel
theorem d_MD_putBegin_62 : decode b_MD_putBegin 62 = .ok (.getfield 89, 3) := by decide +kernel
theorem d_MD_putBegin_65 : decode b_MD_putBegin 65 = .ok (.iload_n 1, 1) := by decide +kernel
theorem d_MD_putBegin_66 : decode b_MD_putBegin 66 = .ok (.iaload, 1) := by decide +kernel
theorem d_MD_putBegin_67 : decode b_MD_putBegin 67 = .ok (.invokevirtual 374, 3) := by decide +kernel
theorem d_MD_putBegin_70 : decode b_MD_putBegin 70 = .ok (.aload_n 0, 1) := by decide +kernel
theorem d_MD_putBegin_71 : decode b_MD_putBegin 71 = .ok (.bipush 58, 2) := by decide +kernel
theorem d_MD_putBegin_73 : decode b_MD_putBegin 73 = .ok (.invokevirtual 349, 3) := by decide +kernel
theorem d_MD_putBegin_76 : decode b_MD_putBegin 76 = .ok (.return_, 1) := by decide +kernel
