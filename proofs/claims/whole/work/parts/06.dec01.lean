theorem d_Reader_takeScript_0 : decode b_Reader_takeScript 0 = .ok (.aload_n 0, 1) := by decide +kernel
theorem d_Reader_takeScript_1 : decode b_Reader_takeScript 1 = .ok (.getfield 12, 3) := by decide +kernel
theorem d_Reader_takeScript_4 : decode b_Reader_takeScript 4 = .ok (.invokevirtual 77, 3) := by decide +kernel
theorem d_Reader_takeScript_7 : decode b_Reader_takeScript 7 = .ok (.ifCond .ne 5, 3) := by decide +kernel
theorem d_Reader_takeScript_10 : decode b_Reader_takeScript 10 = .ok (.iconst 0, 1) := by decide +kernel
theorem d_Reader_takeScript_11 : decode b_Reader_takeScript 11 = .ok (.ireturn, 1) := by decide +kernel
theorem d_Reader_takeScript_12 : decode b_Reader_takeScript 12 = .ok (.aload_n 0, 1) := by decide +kernel
theorem d_Reader_takeScript_13 : decode b_Reader_takeScript 13 = .ok (.getfield 12, 3) := by decide +kernel
theorem d_Reader_takeScript_16 : decode b_Reader_takeScript 16 = .ok (.invokevirtual 80, 3) := by decide +kernel
theorem d_Reader_takeScript_19 : decode b_Reader_takeScript 19 = .ok (.astore_n 1, 1) := by decide +kernel
theorem d_Reader_takeScript_20 : decode b_Reader_takeScript 20 = .ok (.aload_n 0, 1) := by decide +kernel
theorem d_Reader_takeScript_21 : decode b_Reader_takeScript 21 = .ok (.getfield 12, 3) := by decide +kernel
theorem d_Reader_takeScript_24 : decode b_Reader_takeScript 24 = .ok (.invokevirtual 77, 3) := by decide +kernel
theorem d_Reader_takeScript_27 : decode b_Reader_takeScript 27 = .ok (.ifCond .eq 30, 3) := by decide +kernel
theorem d_Reader_takeScript_30 : decode b_Reader_takeScript 30 = .ok (.aload_n 0, 1) := by decide +kernel
theorem d_Reader_takeScript_31 : decode b_Reader_takeScript 31 = .ok (.bipush 14, 2) := by decide +kernel
theorem d_Reader_takeScript_33 : decode b_Reader_takeScript 33 = .ok (.aload_n 1, 1) := by decide +kernel
theorem d_Reader_takeScript_34 : decode b_Reader_takeScript 34 = .ok (.aload_n 0, 1) := by decide +kernel
theorem d_Reader_takeScript_35 : decode b_Reader_takeScript 35 = .ok (.getfield 12, 3) := by decide +kernel
theorem d_Reader_takeScript_38 : decode b_Reader_takeScript 38 = .ok (.invokevirtual 80, 3) := by decide +kernel
theorem d_Reader_takeScript_41 : decode b_Reader_takeScript 41 = .ok (.ldc2_w 165, 3) := by decide +kernel
theorem d_Reader_takeScript_44 : decode b_Reader_takeScript 44 = .ok (.ldc2_w 165, 3) := by decide +kernel
theorem d_Reader_takeScript_47 : decode b_Reader_takeScript 47 = .ok (.invokevirtual 148, 3) := by decide +kernel
theorem d_Reader_takeScript_50 : decode b_Reader_takeScript 50 = .ok (.ifCond .eq 7, 3) := by decide +kernel
theorem d_Reader_takeScript_53 : decode b_Reader_takeScript 53 = .ok (.iconst 1, 1) := by decide +kernel
theorem d_Reader_takeScript_54 : decode b_Reader_takeScript 54 = .ok (.goto 4, 3) := by decide +kernel
theorem d_Reader_takeScript_57 : decode b_Reader_takeScript 57 = .ok (.iconst 0, 1) := by decide +kernel
theorem d_Reader_takeScript_58 : decode b_Reader_takeScript 58 = .ok (.ireturn, 1) := by decide +kernel
theorem d_Reader_takeFile_0 : decode b_Reader_takeFile 0 = .ok (.aload_n 0, 1) := by decide +kernel
theorem d_Reader_takeFile_1 : decode b_Reader_takeFile 1 = .ok (.getfield 12, 3) := by decide +kernel
theorem d_Reader_takeFile_4 : decode b_Reader_takeFile 4 = .ok (.invokevirtual 77, 3) := by decide +kernel
theorem d_Reader_takeFile_7 : decode b_Reader_takeFile 7 = .ok (.ifCond .ne 5, 3) := by decide +kernel
theorem d_Reader_takeFile_10 : decode b_Reader_takeFile 10 = .ok (.iconst 0, 1) := by decide +kernel
theorem d_Reader_takeFile_11 : decode b_Reader_takeFile 11 = .ok (.ireturn, 1) := by decide +kernel
theorem d_Reader_takeFile_12 : decode b_Reader_takeFile 12 = .ok (.aload_n 0, 1) := by decide +kernel
theorem d_Reader_takeFile_13 : decode b_Reader_takeFile 13 = .ok (.getfield 12, 3) := by decide +kernel
theorem d_Reader_takeFile_16 : decode b_Reader_takeFile 16 = .ok (.invokevirtual 80, 3) := by decide +kernel
theorem d_Reader_takeFile_19 : decode b_Reader_takeFile 19 = .ok (.astore_n 1, 1) := by decide +kernel
theorem d_Reader_takeFile_20 : decode b_Reader_takeFile 20 = .ok (.aload_n 0, 1) := by decide +kernel
theorem d_Reader_takeFile_21 : decode b_Reader_takeFile 21 = .ok (.getfield 12, 3) := by decide +kernel
theorem d_Reader_takeFile_24 : decode b_Reader_takeFile 24 = .ok (.invokevirtual 167, 3) := by decide +kernel
theorem d_Reader_takeFile_27 : decode b_Reader_takeFile 27 = .ok (.aload_n 0, 1) := by decide +kernel
theorem d_Reader_takeFile_28 : decode b_Reader_takeFile 28 = .ok (.getfield 12, 3) := by decide +kernel
theorem d_Reader_takeFile_31 : decode b_Reader_takeFile 31 = .ok (.invokevirtual 170, 3) := by decide +kernel
theorem d_Reader_takeFile_34 : decode b_Reader_takeFile 34 = .ok (.ifCond .eq 28, 3) := by decide +kernel
theorem d_Reader_takeFile_37 : decode b_Reader_takeFile 37 = .ok (.aload_n 0, 1) := by decide +kernel
theorem d_Reader_takeFile_38 : decode b_Reader_takeFile 38 = .ok (.bipush 15, 2) := by decide +kernel
theorem d_Reader_takeFile_40 : decode b_Reader_takeFile 40 = .ok (.aload_n 1, 1) := by decide +kernel
theorem d_Reader_takeFile_41 : decode b_Reader_takeFile 41 = .ok (.aconst_null, 1) := by decide +kernel
theorem d_Reader_takeFile_42 : decode b_Reader_takeFile 42 = .ok (.aload_n 0, 1) := by decide +kernel
theorem d_Reader_takeFile_43 : decode b_Reader_takeFile 43 = .ok (.getfield 12, 3) := by decide +kernel
theorem d_Reader_takeFile_46 : decode b_Reader_takeFile 46 = .ok (.getfield 91, 3) := by decide +kernel
theorem d_Reader_takeFile_49 : decode b_Reader_takeFile 49 = .ok (.ldc2_w 165, 3) := by decide +kernel
theorem d_Reader_takeFile_52 : decode b_Reader_takeFile 52 = .ok (.invokevirtual 148, 3) := by decide +kernel
theorem d_Reader_takeFile_55 : decode b_Reader_takeFile 55 = .ok (.ifCond .eq 7, 3) := by decide +kernel
theorem d_Reader_takeFile_58 : decode b_Reader_takeFile 58 = .ok (.iconst 1, 1) := by decide +kernel
theorem d_Reader_takeFile_59 : decode b_Reader_takeFile 59 = .ok (.goto 4, 3) := by decide +kernel
theorem d_Reader_takeFile_62 : decode b_Reader_takeFile 62 = .ok (.iconst 0, 1) := by decide +kernel
theorem d_Reader_takeFile_63 : decode b_Reader_takeFile 63 = .ok (.ireturn, 1) := by decide +kernel
theorem d_Kind_isList_0 : decode b_Kind_isList 0 = .ok (.iload_n 0, 1) := by decide +kernel
theorem d_Kind_isList_1 : decode b_Kind_isList 1 = .ok (.bipush 10, 2) := by decide +kernel
theorem d_Kind_isList_3 : decode b_Kind_isList 3 = .ok (.if_icmp .lt 13, 3) := by decide +kernel
theorem d_Kind_isList_6 : decode b_Kind_isList 6 = .ok (.iload_n 0, 1) := by decide +kernel
theorem d_Kind_isList_7 : decode b_Kind_isList 7 = .ok (.bipush 13, 2) := by decide +kernel
theorem d_Kind_isList_9 : decode b_Kind_isList 9 = .ok (.if_icmp .gt 7, 3) := by decide +kernel
theorem d_Kind_isList_12 : decode b_Kind_isList 12 = .ok (.iconst 1, 1) := by decide +kernel
theorem d_Kind_isList_13 : decode b_Kind_isList 13 = .ok (.goto 4, 3) := by decide +kernel
theorem d_Kind_isList_16 : decode b_Kind_isList 16 = .ok (.iconst 0, 1) := by decide +kernel
theorem d_Kind_isList_17 : decode b_Kind_isList 17 = .ok (.ireturn, 1) := by decide +kernel
theorem d_Scan_narrow_0 : decode b_Scan_narrow 0 = .ok (.aload_n 0, 1) := by decide +kernel
theorem d_Scan_narrow_1 : decode b_Scan_narrow 1 = .ok (.getfield 77, 3) := by decide +kernel
theorem d_Scan_narrow_4 : decode b_Scan_narrow 4 = .ok (.lconst 1, 1) := by decide +kernel
theorem d_Scan_narrow_5 : decode b_Scan_narrow 5 = .ok (.ladd, 1) := by decide +kernel
theorem d_Scan_narrow_6 : decode b_Scan_narrow 6 = .ok (.lstore_n 3, 1) := by decide +kernel
theorem d_Scan_narrow_7 : decode b_Scan_narrow 7 = .ok (.iload_n 1, 1) := by decide +kernel
theorem d_Scan_narrow_8 : decode b_Scan_narrow 8 = .ok (.bipush 60, 2) := by decide +kernel
theorem d_Scan_narrow_10 : decode b_Scan_narrow 10 = .ok (.if_icmp .eq 26, 3) := by decide +kernel
theorem d_Scan_narrow_13 : decode b_Scan_narrow 13 = .ok (.aload_n 0, 1) := by decide +kernel
theorem d_Scan_narrow_14 : decode b_Scan_narrow 14 = .ok (.aload_n 0, 1) := by decide +kernel
theorem d_Scan_narrow_15 : decode b_Scan_narrow 15 = .ok (.getfield 90, 3) := by decide +kernel
theorem d_Scan_narrow_18 : decode b_Scan_narrow 18 = .ok (.iload_n 2, 1) := by decide +kernel
theorem d_Scan_narrow_19 : decode b_Scan_narrow 19 = .ok (.ifCond .eq 10, 3) := by decide +kernel
theorem d_Scan_narrow_22 : decode b_Scan_narrow 22 = .ok (.aload_n 0, 1) := by decide +kernel
theorem d_Scan_narrow_23 : decode b_Scan_narrow 23 = .ok (.getfield 77, 3) := by decide +kernel
theorem d_Scan_narrow_26 : decode b_Scan_narrow 26 = .ok (.goto 4, 3) := by decide +kernel
theorem d_Scan_narrow_29 : decode b_Scan_narrow 29 = .ok (.lload_n 3, 1) := by decide +kernel
theorem d_Scan_narrow_30 : decode b_Scan_narrow 30 = .ok (.invokestatic 105, 3) := by decide +kernel
theorem d_Scan_narrow_33 : decode b_Scan_narrow 33 = .ok (.putfield 90, 3) := by decide +kernel
theorem d_Scan_narrow_36 : decode b_Scan_narrow 36 = .ok (.iload_n 1, 1) := by decide +kernel
theorem d_Scan_narrow_37 : decode b_Scan_narrow 37 = .ok (.bipush 62, 2) := by decide +kernel
theorem d_Scan_narrow_39 : decode b_Scan_narrow 39 = .ok (.if_icmp .eq 26, 3) := by decide +kernel
theorem d_Scan_narrow_42 : decode b_Scan_narrow 42 = .ok (.aload_n 0, 1) := by decide +kernel
theorem d_Scan_narrow_43 : decode b_Scan_narrow 43 = .ok (.aload_n 0, 1) := by decide +kernel
theorem d_Scan_narrow_44 : decode b_Scan_narrow 44 = .ok (.getfield 95, 3) := by decide +kernel
theorem d_Scan_narrow_47 : decode b_Scan_narrow 47 = .ok (.iload_n 2, 1) := by decide +kernel
theorem d_Scan_narrow_48 : decode b_Scan_narrow 48 = .ok (.ifCond .eq 7, 3) := by decide +kernel
theorem d_Scan_narrow_51 : decode b_Scan_narrow 51 = .ok (.lload_n 3, 1) := by decide +kernel
theorem d_Scan_narrow_52 : decode b_Scan_narrow 52 = .ok (.goto 7, 3) := by decide +kernel
theorem d_Scan_narrow_55 : decode b_Scan_narrow 55 = .ok (.aload_n 0, 1) := by decide +kernel
theorem d_Scan_narrow_56 : decode b_Scan_narrow 56 = .ok (.getfield 77, 3) := by decide +kernel
theorem d_Scan_narrow_59 : decode b_Scan_narrow 59 = .ok (.invokestatic 111, 3) := by decide +kernel
theorem d_Scan_narrow_62 : decode b_Scan_narrow 62 = .ok (.putfield 95, 3) := by decide +kernel
theorem d_Scan_narrow_65 : decode b_Scan_narrow 65 = .ok (.return_, 1) := by decide +kernel
theorem d_Scan_takeRange_0 : decode b_Scan_takeRange 0 = .ok (.aload_n 0, 1) := by decide +kernel
theorem d_Scan_takeRange_1 : decode b_Scan_takeRange 1 = .ok (.lconst 0, 1) := by decide +kernel
theorem d_Scan_takeRange_2 : decode b_Scan_takeRange 2 = .ok (.putfield 90, 3) := by decide +kernel
theorem d_Scan_takeRange_5 : decode b_Scan_takeRange 5 = .ok (.aload_n 0, 1) := by decide +kernel
theorem d_Scan_takeRange_6 : decode b_Scan_takeRange 6 = .ok (.ldc2_w 93, 3) := by decide +kernel
theorem d_Scan_takeRange_9 : decode b_Scan_takeRange 9 = .ok (.putfield 95, 3) := by decide +kernel
theorem d_Scan_takeRange_12 : decode b_Scan_takeRange 12 = .ok (.aload_n 0, 1) := by decide +kernel
theorem d_Scan_takeRange_13 : decode b_Scan_takeRange 13 = .ok (.bipush 42, 2) := by decide +kernel
theorem d_Scan_takeRange_15 : decode b_Scan_takeRange 15 = .ok (.invokevirtual 46, 3) := by decide +kernel
theorem d_Scan_takeRange_18 : decode b_Scan_takeRange 18 = .ok (.ifCond .eq 5, 3) := by decide +kernel
theorem d_Scan_takeRange_21 : decode b_Scan_takeRange 21 = .ok (.iconst 1, 1) := by decide +kernel
theorem d_Scan_takeRange_22 : decode b_Scan_takeRange 22 = .ok (.ireturn, 1) := by decide +kernel
theorem d_Scan_takeRange_23 : decode b_Scan_takeRange 23 = .ok (.iconst 0, 1) := by decide +kernel
theorem d_Scan_takeRange_24 : decode b_Scan_takeRange 24 = .ok (.istore_n 1, 1) := by decide +kernel
theorem d_Scan_takeRange_25 : decode b_Scan_takeRange 25 = .ok (.iload_n 1, 1) := by decide +kernel
theorem d_Scan_takeRange_26 : decode b_Scan_takeRange 26 = .ok (.iconst 2, 1) := by decide +kernel
theorem d_Scan_takeRange_27 : decode b_Scan_takeRange 27 = .ok (.if_icmp .ge 111, 3) := by decide +kernel
theorem d_Scan_takeRange_30 : decode b_Scan_takeRange 30 = .ok (.aload_n 0, 1) := by decide +kernel
theorem d_Scan_takeRange_31 : decode b_Scan_takeRange 31 = .ok (.invokevirtual 31, 3) := by decide +kernel
theorem d_Scan_takeRange_34 : decode b_Scan_takeRange 34 = .ok (.aload_n 0, 1) := by decide +kernel
theorem d_Scan_takeRange_35 : decode b_Scan_takeRange 35 = .ok (.invokevirtual 42, 3) := by decide +kernel
theorem d_Scan_takeRange_38 : decode b_Scan_takeRange 38 = .ok (.istore_n 2, 1) := by decide +kernel
theorem d_Scan_takeRange_39 : decode b_Scan_takeRange 39 = .ok (.iload_n 2, 1) := by decide +kernel
theorem d_Scan_takeRange_40 : decode b_Scan_takeRange 40 = .ok (.bipush 61, 2) := by decide +kernel
theorem d_Scan_takeRange_42 : decode b_Scan_takeRange 42 = .ok (.if_icmp .eq 28, 3) := by decide +kernel
theorem d_Scan_takeRange_45 : decode b_Scan_takeRange 45 = .ok (.iload_n 2, 1) := by decide +kernel
theorem d_Scan_takeRange_46 : decode b_Scan_takeRange 46 = .ok (.bipush 60, 2) := by decide +kernel
theorem d_Scan_takeRange_48 : decode b_Scan_takeRange 48 = .ok (.if_icmp .eq 22, 3) := by decide +kernel
theorem d_Scan_takeRange_51 : decode b_Scan_takeRange 51 = .ok (.iload_n 2, 1) := by decide +kernel
theorem d_Scan_takeRange_52 : decode b_Scan_takeRange 52 = .ok (.bipush 62, 2) := by decide +kernel
theorem d_Scan_takeRange_54 : decode b_Scan_takeRange 54 = .ok (.if_icmp .eq 16, 3) := by decide +kernel
theorem d_Scan_takeRange_57 : decode b_Scan_takeRange 57 = .ok (.iload_n 1, 1) := by decide +kernel
theorem d_Scan_takeRange_58 : decode b_Scan_takeRange 58 = .ok (.ifCond .ne 80, 3) := by decide +kernel
theorem d_Scan_takeRange_61 : decode b_Scan_takeRange 61 = .ok (.aload_n 0, 1) := by decide +kernel
theorem d_Scan_takeRange_62 : decode b_Scan_takeRange 62 = .ok (.aload_n 0, 1) := by decide +kernel
theorem d_Scan_takeRange_63 : decode b_Scan_takeRange 63 = .ok (.getfield 19, 3) := by decide +kernel
theorem d_Scan_takeRange_66 : decode b_Scan_takeRange 66 = .ok (.invokevirtual 38, 3) := by decide +kernel
theorem d_Scan_takeRange_69 : decode b_Scan_takeRange 69 = .ok (.ireturn, 1) := by decide +kernel
theorem d_Scan_takeRange_70 : decode b_Scan_takeRange 70 = .ok (.aload_n 0, 1) := by decide +kernel
theorem d_Scan_takeRange_71 : decode b_Scan_takeRange 71 = .ok (.dup, 1) := by decide +kernel
theorem d_Scan_takeRange_72 : decode b_Scan_takeRange 72 = .ok (.getfield 19, 3) := by decide +kernel
theorem d_Scan_takeRange_75 : decode b_Scan_takeRange 75 = .ok (.iconst 1, 1) := by decide +kernel
theorem d_Scan_takeRange_76 : decode b_Scan_takeRange 76 = .ok (.iadd, 1) := by decide +kernel
theorem d_Scan_takeRange_77 : decode b_Scan_takeRange 77 = .ok (.putfield 19, 3) := by decide +kernel
theorem d_Scan_takeRange_80 : decode b_Scan_takeRange 80 = .ok (.iload_n 2, 1) := by decide +kernel
theorem d_Scan_takeRange_81 : decode b_Scan_takeRange 81 = .ok (.bipush 61, 2) := by decide +kernel
theorem d_Scan_takeRange_83 : decode b_Scan_takeRange 83 = .ok (.if_icmp .ne 7, 3) := by decide +kernel
theorem d_Scan_takeRange_86 : decode b_Scan_takeRange 86 = .ok (.iconst 1, 1) := by decide +kernel
theorem d_Scan_takeRange_87 : decode b_Scan_takeRange 87 = .ok (.goto 4, 3) := by decide +kernel
theorem d_Scan_takeRange_90 : decode b_Scan_takeRange 90 = .ok (.iconst 0, 1) := by decide +kernel
theorem d_Scan_takeRange_91 : decode b_Scan_takeRange 91 = .ok (.istore_n 3, 1) := by decide +kernel
theorem d_Scan_takeRange_92 : decode b_Scan_takeRange 92 = .ok (.iload_n 3, 1) := by decide +kernel
theorem d_Scan_takeRange_93 : decode b_Scan_takeRange 93 = .ok (.ifCond .ne 24, 3) := by decide +kernel
theorem d_Scan_takeRange_96 : decode b_Scan_takeRange 96 = .ok (.aload_n 0, 1) := by decide +kernel
theorem d_Scan_takeRange_97 : decode b_Scan_takeRange 97 = .ok (.invokevirtual 42, 3) := by decide +kernel
theorem d_Scan_takeRange_100 : decode b_Scan_takeRange 100 = .ok (.bipush 61, 2) := by decide +kernel
theorem d_Scan_takeRange_102 : decode b_Scan_takeRange 102 = .ok (.if_icmp .ne 15, 3) := by decide +kernel
theorem d_Scan_takeRange_105 : decode b_Scan_takeRange 105 = .ok (.iconst 1, 1) := by decide +kernel
theorem d_Scan_takeRange_106 : decode b_Scan_takeRange 106 = .ok (.istore_n 3, 1) := by decide +kernel
theorem d_Scan_takeRange_107 : decode b_Scan_takeRange 107 = .ok (.aload_n 0, 1) := by decide +kernel
theorem d_Scan_takeRange_108 : decode b_Scan_takeRange 108 = .ok (.dup, 1) := by decide +kernel
theorem d_Scan_takeRange_109 : decode b_Scan_takeRange 109 = .ok (.getfield 19, 3) := by decide +kernel
theorem d_Scan_takeRange_112 : decode b_Scan_takeRange 112 = .ok (.iconst 1, 1) := by decide +kernel
theorem d_Scan_takeRange_113 : decode b_Scan_takeRange 113 = .ok (.iadd, 1) := by decide +kernel
theorem d_Scan_takeRange_114 : decode b_Scan_takeRange 114 = .ok (.putfield 19, 3) := by decide +kernel
theorem d_Scan_takeRange_117 : decode b_Scan_takeRange 117 = .ok (.aload_n 0, 1) := by decide +kernel
theorem d_Scan_takeRange_118 : decode b_Scan_takeRange 118 = .ok (.invokevirtual 98, 3) := by decide +kernel
theorem d_Scan_takeRange_121 : decode b_Scan_takeRange 121 = .ok (.ifCond .ne 5, 3) := by decide +kernel
theorem d_Scan_takeRange_124 : decode b_Scan_takeRange 124 = .ok (.iconst 0, 1) := by decide +kernel
theorem d_Scan_takeRange_125 : decode b_Scan_takeRange 125 = .ok (.ireturn, 1) := by decide +kernel
theorem d_Scan_takeRange_126 : decode b_Scan_takeRange 126 = .ok (.aload_n 0, 1) := by decide +kernel
theorem d_Scan_takeRange_127 : decode b_Scan_takeRange 127 = .ok (.iload_n 2, 1) := by decide +kernel
theorem d_Scan_takeRange_128 : decode b_Scan_takeRange 128 = .ok (.iload_n 3, 1) := by decide +kernel
theorem d_Scan_takeRange_129 : decode b_Scan_takeRange 129 = .ok (.invokevirtual 101, 3) := by decide +kernel
theorem d_Scan_takeRange_132 : decode b_Scan_takeRange 132 = .ok (.iinc 1 1, 3) := by decide +kernel
theorem d_Scan_takeRange_135 : decode b_Scan_takeRange 135 = .ok (.goto (-110), 3) := by decide +kernel
theorem d_Scan_takeRange_138 : decode b_Scan_takeRange 138 = .ok (.aload_n 0, 1) := by decide +kernel
theorem d_Scan_takeRange_139 : decode b_Scan_takeRange 139 = .ok (.getfield 90, 3) := by decide +kernel
theorem d_Scan_takeRange_142 : decode b_Scan_takeRange 142 = .ok (.aload_n 0, 1) := by decide +kernel
theorem d_Scan_takeRange_143 : decode b_Scan_takeRange 143 = .ok (.getfield 95, 3) := by decide +kernel
theorem d_Scan_takeRange_146 : decode b_Scan_takeRange 146 = .ok (.lcmp, 1) := by decide +kernel
theorem d_Scan_takeRange_147 : decode b_Scan_takeRange 147 = .ok (.ifCond .lt 13, 3) := by decide +kernel
theorem d_Scan_takeRange_150 : decode b_Scan_takeRange 150 = .ok (.aload_n 0, 1) := by decide +kernel
theorem d_Scan_takeRange_151 : decode b_Scan_takeRange 151 = .ok (.lconst 0, 1) := by decide +kernel
theorem d_Scan_takeRange_152 : decode b_Scan_takeRange 152 = .ok (.putfield 90, 3) := by decide +kernel
theorem d_Scan_takeRange_155 : decode b_Scan_takeRange 155 = .ok (.aload_n 0, 1) := by decide +kernel
theorem d_Scan_takeRange_156 : decode b_Scan_takeRange 156 = .ok (.lconst 0, 1) := by decide +kernel
theorem d_Scan_takeRange_157 : decode b_Scan_takeRange 157 = .ok (.putfield 95, 3) := by decide +kernel
theorem d_Scan_takeRange_160 : decode b_Scan_takeRange 160 = .ok (.iconst 1, 1) := by decide +kernel
theorem d_Scan_takeRange_161 : decode b_Scan_takeRange 161 = .ok (.ireturn, 1) := by decide +kernel
theorem d_Reader_takeRanged_0 : decode b_Reader_takeRanged 0 = .ok (.iload_n 1, 1) := by decide +kernel
theorem d_Reader_takeRanged_1 : decode b_Reader_takeRanged 1 = .ok (.bipush 8, 2) := by decide +kernel
theorem d_Reader_takeRanged_3 : decode b_Reader_takeRanged 3 = .ok (.if_icmp .ne 7, 3) := by decide +kernel
theorem d_Reader_takeRanged_6 : decode b_Reader_takeRanged 6 = .ok (.iconst 1, 1) := by decide +kernel
theorem d_Reader_takeRanged_7 : decode b_Reader_takeRanged 7 = .ok (.goto 4, 3) := by decide +kernel
theorem d_Reader_takeRanged_10 : decode b_Reader_takeRanged 10 = .ok (.iconst 0, 1) := by decide +kernel
theorem d_Reader_takeRanged_11 : decode b_Reader_takeRanged 11 = .ok (.istore_n 2, 1) := by decide +kernel
theorem d_Reader_takeRanged_12 : decode b_Reader_takeRanged 12 = .ok (.iload_n 2, 1) := by decide +kernel
theorem d_Reader_takeRanged_13 : decode b_Reader_takeRanged 13 = .ok (.ifCond .eq 13, 3) := by decide +kernel
theorem d_Reader_takeRanged_16 : decode b_Reader_takeRanged 16 = .ok (.aload_n 0, 1) := by decide +kernel
theorem d_Reader_takeRanged_17 : decode b_Reader_takeRanged 17 = .ok (.dup, 1) := by decide +kernel
theorem d_Reader_takeRanged_18 : decode b_Reader_takeRanged 18 = .ok (.getfield 41, 3) := by decide +kernel
theorem d_Reader_takeRanged_21 : decode b_Reader_takeRanged 21 = .ok (.iconst 1, 1) := by decide +kernel
theorem d_Reader_takeRanged_22 : decode b_Reader_takeRanged 22 = .ok (.iadd, 1) := by decide +kernel
theorem d_Reader_takeRanged_23 : decode b_Reader_takeRanged 23 = .ok (.putfield 41, 3) := by decide +kernel
theorem d_Reader_takeRanged_26 : decode b_Reader_takeRanged 26 = .ok (.iconst 0, 1) := by decide +kernel
theorem d_Reader_takeRanged_27 : decode b_Reader_takeRanged 27 = .ok (.istore_n 3, 1) := by decide +kernel
theorem d_Reader_takeRanged_28 : decode b_Reader_takeRanged 28 = .ok (.iload_n 3, 1) := by decide +kernel
theorem d_Reader_takeRanged_29 : decode b_Reader_takeRanged 29 = .ok (.sipush 200, 3) := by decide +kernel
theorem d_Reader_takeRanged_32 : decode b_Reader_takeRanged 32 = .ok (.if_icmp .gt 112, 3) := by decide +kernel
theorem d_Reader_takeRanged_35 : decode b_Reader_takeRanged 35 = .ok (.aload_n 0, 1) := by decide +kernel
theorem d_Reader_takeRanged_36 : decode b_Reader_takeRanged 36 = .ok (.getfield 12, 3) := by decide +kernel
theorem d_Reader_takeRanged_39 : decode b_Reader_takeRanged 39 = .ok (.invokevirtual 77, 3) := by decide +kernel
theorem d_Reader_takeRanged_42 : decode b_Reader_takeRanged 42 = .ok (.ifCond .ne 5, 3) := by decide +kernel
theorem d_Reader_takeRanged_45 : decode b_Reader_takeRanged 45 = .ok (.iconst 0, 1) := by decide +kernel
theorem d_Reader_takeRanged_46 : decode b_Reader_takeRanged 46 = .ok (.ireturn, 1) := by decide +kernel
theorem d_Reader_takeRanged_47 : decode b_Reader_takeRanged 47 = .ok (.aload_n 0, 1) := by decide +kernel
theorem d_Reader_takeRanged_48 : decode b_Reader_takeRanged 48 = .ok (.getfield 12, 3) := by decide +kernel
theorem d_Reader_takeRanged_51 : decode b_Reader_takeRanged 51 = .ok (.invokevirtual 80, 3) := by decide +kernel
theorem d_Reader_takeRanged_54 : decode b_Reader_takeRanged 54 = .ok (.astore 4, 2) := by decide +kernel
theorem d_Reader_takeRanged_56 : decode b_Reader_takeRanged 56 = .ok (.aload_n 0, 1) := by decide +kernel
theorem d_Reader_takeRanged_57 : decode b_Reader_takeRanged 57 = .ok (.getfield 12, 3) := by decide +kernel
theorem d_Reader_takeRanged_60 : decode b_Reader_takeRanged 60 = .ok (.invokevirtual 139, 3) := by decide +kernel
theorem d_Reader_takeRanged_63 : decode b_Reader_takeRanged 63 = .ok (.ifCond .eq 28, 3) := by decide +kernel
theorem d_Reader_takeRanged_66 : decode b_Reader_takeRanged 66 = .ok (.aload_n 0, 1) := by decide +kernel
theorem d_Reader_takeRanged_67 : decode b_Reader_takeRanged 67 = .ok (.iload_n 1, 1) := by decide +kernel
theorem d_Reader_takeRanged_68 : decode b_Reader_takeRanged 68 = .ok (.aload 4, 2) := by decide +kernel
theorem d_Reader_takeRanged_70 : decode b_Reader_takeRanged 70 = .ok (.aconst_null, 1) := by decide +kernel
theorem d_Reader_takeRanged_71 : decode b_Reader_takeRanged 71 = .ok (.aload_n 0, 1) := by decide +kernel
theorem d_Reader_takeRanged_72 : decode b_Reader_takeRanged 72 = .ok (.getfield 12, 3) := by decide +kernel
theorem d_Reader_takeRanged_75 : decode b_Reader_takeRanged 75 = .ok (.getfield 142, 3) := by decide +kernel
theorem d_Reader_takeRanged_78 : decode b_Reader_takeRanged 78 = .ok (.aload_n 0, 1) := by decide +kernel
theorem d_Reader_takeRanged_79 : decode b_Reader_takeRanged 79 = .ok (.getfield 12, 3) := by decide +kernel
theorem d_Reader_takeRanged_82 : decode b_Reader_takeRanged 82 = .ok (.getfield 145, 3) := by decide +kernel
theorem d_Reader_takeRanged_85 : decode b_Reader_takeRanged 85 = .ok (.invokevirtual 148, 3) := by decide +kernel
theorem d_Reader_takeRanged_88 : decode b_Reader_takeRanged 88 = .ok (.ifCond .ne 5, 3) := by decide +kernel
theorem d_Reader_takeRanged_91 : decode b_Reader_takeRanged 91 = .ok (.iconst 0, 1) := by decide +kernel
theorem d_Reader_takeRanged_92 : decode b_Reader_takeRanged 92 = .ok (.ireturn, 1) := by decide +kernel
theorem d_Reader_takeRanged_93 : decode b_Reader_takeRanged 93 = .ok (.iload_n 2, 1) := by decide +kernel
theorem d_Reader_takeRanged_94 : decode b_Reader_takeRanged 94 = .ok (.ifCond .ne 5, 3) := by decide +kernel
theorem d_Reader_takeRanged_97 : decode b_Reader_takeRanged 97 = .ok (.iconst 1, 1) := by decide +kernel
theorem d_Reader_takeRanged_98 : decode b_Reader_takeRanged 98 = .ok (.ireturn, 1) := by decide +kernel
theorem d_Reader_takeRanged_99 : decode b_Reader_takeRanged 99 = .ok (.aload_n 0, 1) := by decide +kernel
theorem d_Reader_takeRanged_100 : decode b_Reader_takeRanged 100 = .ok (.getfield 12, 3) := by decide +kernel
theorem d_Reader_takeRanged_103 : decode b_Reader_takeRanged 103 = .ok (.bipush 124, 2) := by decide +kernel
theorem d_Reader_takeRanged_105 : decode b_Reader_takeRanged 105 = .ok (.invokevirtual 152, 3) := by decide +kernel
theorem d_Reader_takeRanged_108 : decode b_Reader_takeRanged 108 = .ok (.ifCond .ne 30, 3) := by decide +kernel
theorem d_Reader_takeRanged_111 : decode b_Reader_takeRanged 111 = .ok (.iload_n 3, 1) := by decide +kernel
theorem d_Reader_takeRanged_112 : decode b_Reader_takeRanged 112 = .ok (.ifCond .gt 20, 3) := by decide +kernel
theorem d_Reader_takeRanged_115 : decode b_Reader_takeRanged 115 = .ok (.aload_n 0, 1) := by decide +kernel
theorem d_Reader_takeRanged_116 : decode b_Reader_takeRanged 116 = .ok (.getfield 12, 3) := by decide +kernel
theorem d_Reader_takeRanged_119 : decode b_Reader_takeRanged 119 = .ok (.aload_n 0, 1) := by decide +kernel
theorem d_Reader_takeRanged_120 : decode b_Reader_takeRanged 120 = .ok (.getfield 12, 3) := by decide +kernel
theorem d_Reader_takeRanged_123 : decode b_Reader_takeRanged 123 = .ok (.getfield 155, 3) := by decide +kernel
theorem d_Reader_takeRanged_126 : decode b_Reader_takeRanged 126 = .ok (.invokevirtual 73, 3) := by decide +kernel
theorem d_Reader_takeRanged_129 : decode b_Reader_takeRanged 129 = .ok (.ifCond .eq 7, 3) := by decide +kernel
theorem d_Reader_takeRanged_132 : decode b_Reader_takeRanged 132 = .ok (.iconst 1, 1) := by decide +kernel
theorem d_Reader_takeRanged_133 : decode b_Reader_takeRanged 133 = .ok (.goto 4, 3) := by decide +kernel
theorem d_Reader_takeRanged_136 : decode b_Reader_takeRanged 136 = .ok (.iconst 0, 1) := by decide +kernel
theorem d_Reader_takeRanged_137 : decode b_Reader_takeRanged 137 = .ok (.ireturn, 1) := by decide +kernel
theorem d_Reader_takeRanged_138 : decode b_Reader_takeRanged 138 = .ok (.iinc 3 1, 3) := by decide +kernel
theorem d_Reader_takeRanged_141 : decode b_Reader_takeRanged 141 = .ok (.goto (-113), 3) := by decide +kernel
theorem d_Reader_takeRanged_144 : decode b_Reader_takeRanged 144 = .ok (.iconst 0, 1) := by decide +kernel
theorem d_Reader_takeRanged_145 : decode b_Reader_takeRanged 145 = .ok (.ireturn, 1) := by decide +kernel
theorem d_Kind_firstWord_0 : decode b_Kind_firstWord 0 = .ok (.iload_n 0, 1) := by decide +kernel
theorem d_Kind_firstWord_1 : decode b_Kind_firstWord 1 = .ok (.tableswitch 92 5 15 #[59, 62, 65, 68, 71, 74, 77, 80, 83, 86, 89], 59) := by decide +kernel
theorem d_Kind_firstWord_60 : decode b_Kind_firstWord 60 = .ok (.ldc 13, 2) := by decide +kernel
theorem d_Kind_firstWord_62 : decode b_Kind_firstWord 62 = .ok (.areturn, 1) := by decide +kernel
theorem d_Kind_firstWord_63 : decode b_Kind_firstWord 63 = .ok (.ldc 15, 2) := by decide +kernel
theorem d_Kind_firstWord_65 : decode b_Kind_firstWord 65 = .ok (.areturn, 1) := by decide +kernel
theorem d_Kind_firstWord_66 : decode b_Kind_firstWord 66 = .ok (.ldc 17, 2) := by decide +kernel
theorem d_Kind_firstWord_68 : decode b_Kind_firstWord 68 = .ok (.areturn, 1) := by decide +kernel
theorem d_Kind_firstWord_69 : decode b_Kind_firstWord 69 = .ok (.ldc 19, 2) := by decide +kernel
theorem d_Kind_firstWord_71 : decode b_Kind_firstWord 71 = .ok (.areturn, 1) := by decide +kernel
theorem d_Kind_firstWord_72 : decode b_Kind_firstWord 72 = .ok (.ldc 21, 2) := by decide +kernel
theorem d_Kind_firstWord_74 : decode b_Kind_firstWord 74 = .ok (.areturn, 1) := by decide +kernel
theorem d_Kind_firstWord_75 : decode b_Kind_firstWord 75 = .ok (.ldc 23, 2) := by decide +kernel
theorem d_Kind_firstWord_77 : decode b_Kind_firstWord 77 = .ok (.areturn, 1) := by decide +kernel
theorem d_Kind_firstWord_78 : decode b_Kind_firstWord 78 = .ok (.ldc 25, 2) := by decide +kernel
theorem d_Kind_firstWord_80 : decode b_Kind_firstWord 80 = .ok (.areturn, 1) := by decide +kernel
theorem d_Kind_firstWord_81 : decode b_Kind_firstWord 81 = .ok (.ldc 27, 2) := by decide +kernel
theorem d_Kind_firstWord_83 : decode b_Kind_firstWord 83 = .ok (.areturn, 1) := by decide +kernel
theorem d_Kind_firstWord_84 : decode b_Kind_firstWord 84 = .ok (.ldc 29, 2) := by decide +kernel
theorem d_Kind_firstWord_86 : decode b_Kind_firstWord 86 = .ok (.areturn, 1) := by decide +kernel
theorem d_Kind_firstWord_87 : decode b_Kind_firstWord 87 = .ok (.ldc 31, 2) := by decide +kernel
theorem d_Kind_firstWord_89 : decode b_Kind_firstWord 89 = .ok (.areturn, 1) := by decide +kernel
theorem d_Kind_firstWord_90 : decode b_Kind_firstWord 90 = .ok (.ldc 33, 2) := by decide +kernel
theorem d_Kind_firstWord_92 : decode b_Kind_firstWord 92 = .ok (.areturn, 1) := by decide +kernel
theorem d_Kind_firstWord_93 : decode b_Kind_firstWord 93 = .ok (.ldc 35, 2) := by decide +kernel
theorem d_Kind_firstWord_95 : decode b_Kind_firstWord 95 = .ok (.areturn, 1) := by decide +kernel
theorem d_Scan_isWord_0 : decode b_Scan_isWord 0 = .ok (.aload_n 0, 1) := by decide +kernel
theorem d_Scan_isWord_1 : decode b_Scan_isWord 1 = .ok (.getfield 28, 3) := by decide +kernel
theorem d_Scan_isWord_4 : decode b_Scan_isWord 4 = .ok (.aload_n 0, 1) := by decide +kernel
theorem d_Scan_isWord_5 : decode b_Scan_isWord 5 = .ok (.getfield 25, 3) := by decide +kernel
theorem d_Scan_isWord_8 : decode b_Scan_isWord 8 = .ok (.isub, 1) := by decide +kernel
theorem d_Scan_isWord_9 : decode b_Scan_isWord 9 = .ok (.aload_n 1, 1) := by decide +kernel
theorem d_Scan_isWord_10 : decode b_Scan_isWord 10 = .ok (.invokevirtual 61, 3) := by decide +kernel
theorem d_Scan_isWord_13 : decode b_Scan_isWord 13 = .ok (.if_icmp .eq 5, 3) := by decide +kernel
theorem d_Scan_isWord_16 : decode b_Scan_isWord 16 = .ok (.iconst 0, 1) := by decide +kernel
theorem d_Scan_isWord_17 : decode b_Scan_isWord 17 = .ok (.ireturn, 1) := by decide +kernel
theorem d_Scan_isWord_18 : decode b_Scan_isWord 18 = .ok (.iconst 0, 1) := by decide +kernel
theorem d_Scan_isWord_19 : decode b_Scan_isWord 19 = .ok (.istore_n 2, 1) := by decide +kernel
theorem d_Scan_isWord_20 : decode b_Scan_isWord 20 = .ok (.iload_n 2, 1) := by decide +kernel
theorem d_Scan_isWord_21 : decode b_Scan_isWord 21 = .ok (.aload_n 1, 1) := by decide +kernel
theorem d_Scan_isWord_22 : decode b_Scan_isWord 22 = .ok (.invokevirtual 61, 3) := by decide +kernel
theorem d_Scan_isWord_25 : decode b_Scan_isWord 25 = .ok (.if_icmp .ge 30, 3) := by decide +kernel
theorem d_Scan_isWord_28 : decode b_Scan_isWord 28 = .ok (.aload_n 0, 1) := by decide +kernel
theorem d_Scan_isWord_29 : decode b_Scan_isWord 29 = .ok (.getfield 9, 3) := by decide +kernel
theorem d_Scan_isWord_32 : decode b_Scan_isWord 32 = .ok (.aload_n 0, 1) := by decide +kernel
theorem d_Scan_isWord_33 : decode b_Scan_isWord 33 = .ok (.getfield 25, 3) := by decide +kernel
theorem d_Scan_isWord_36 : decode b_Scan_isWord 36 = .ok (.iload_n 2, 1) := by decide +kernel
theorem d_Scan_isWord_37 : decode b_Scan_isWord 37 = .ok (.iadd, 1) := by decide +kernel
theorem d_Scan_isWord_38 : decode b_Scan_isWord 38 = .ok (.caload, 1) := by decide +kernel
theorem d_Scan_isWord_39 : decode b_Scan_isWord 39 = .ok (.aload_n 1, 1) := by decide +kernel
theorem d_Scan_isWord_40 : decode b_Scan_isWord 40 = .ok (.iload_n 2, 1) := by decide +kernel
theorem d_Scan_isWord_41 : decode b_Scan_isWord 41 = .ok (.invokevirtual 67, 3) := by decide +kernel
theorem d_Scan_isWord_44 : decode b_Scan_isWord 44 = .ok (.if_icmp .eq 5, 3) := by decide +kernel
theorem d_Scan_isWord_47 : decode b_Scan_isWord 47 = .ok (.iconst 0, 1) := by decide +kernel
theorem d_Scan_isWord_48 : decode b_Scan_isWord 48 = .ok (.ireturn, 1) := by decide +kernel
theorem d_Scan_isWord_49 : decode b_Scan_isWord 49 = .ok (.iinc 2 1, 3) := by decide +kernel
theorem d_Scan_isWord_52 : decode b_Scan_isWord 52 = .ok (.goto (-32), 3) := by decide +kernel
theorem d_Scan_isWord_55 : decode b_Scan_isWord 55 = .ok (.iconst 1, 1) := by decide +kernel
theorem d_Scan_isWord_56 : decode b_Scan_isWord 56 = .ok (.ireturn, 1) := by decide +kernel
theorem d_Reader_kindOfFirstWord_0 : decode b_Reader_kindOfFirstWord 0 = .ok (.iconst 4, 1) := by decide +kernel
theorem d_Reader_kindOfFirstWord_1 : decode b_Reader_kindOfFirstWord 1 = .ok (.istore_n 1, 1) := by decide +kernel
theorem d_Reader_kindOfFirstWord_2 : decode b_Reader_kindOfFirstWord 2 = .ok (.iload_n 1, 1) := by decide +kernel
theorem d_Reader_kindOfFirstWord_3 : decode b_Reader_kindOfFirstWord 3 = .ok (.bipush 15, 2) := by decide +kernel
theorem d_Reader_kindOfFirstWord_5 : decode b_Reader_kindOfFirstWord 5 = .ok (.if_icmp .gt 25, 3) := by decide +kernel
theorem d_Reader_kindOfFirstWord_8 : decode b_Reader_kindOfFirstWord 8 = .ok (.aload_n 0, 1) := by decide +kernel
theorem d_Reader_kindOfFirstWord_9 : decode b_Reader_kindOfFirstWord 9 = .ok (.getfield 12, 3) := by decide +kernel
theorem d_Reader_kindOfFirstWord_12 : decode b_Reader_kindOfFirstWord 12 = .ok (.iload_n 1, 1) := by decide +kernel
theorem d_Reader_kindOfFirstWord_13 : decode b_Reader_kindOfFirstWord 13 = .ok (.invokestatic 132, 3) := by decide +kernel
theorem d_Reader_kindOfFirstWord_16 : decode b_Reader_kindOfFirstWord 16 = .ok (.invokevirtual 66, 3) := by decide +kernel
theorem d_Reader_kindOfFirstWord_19 : decode b_Reader_kindOfFirstWord 19 = .ok (.ifCond .eq 5, 3) := by decide +kernel
theorem d_Reader_kindOfFirstWord_22 : decode b_Reader_kindOfFirstWord 22 = .ok (.iload_n 1, 1) := by decide +kernel
theorem d_Reader_kindOfFirstWord_23 : decode b_Reader_kindOfFirstWord 23 = .ok (.ireturn, 1) := by decide +kernel
theorem d_Reader_kindOfFirstWord_24 : decode b_Reader_kindOfFirstWord 24 = .ok (.iinc 1 1, 3) := by decide +kernel
theorem d_Reader_kindOfFirstWord_27 : decode b_Reader_kindOfFirstWord 27 = .ok (.goto (-25), 3) := by decide +kernel
theorem d_Reader_kindOfFirstWord_30 : decode b_Reader_kindOfFirstWord 30 = .ok (.iconst (-1), 1) := by decide +kernel
theorem d_Reader_kindOfFirstWord_31 : decode b_Reader_kindOfFirstWord 31 = .ok (.ireturn, 1) := by decide +kernel
theorem d_Kind_needWord_0 : decode b_Kind_needWord 0 = .ok (.iload_n 0, 1) := by decide +kernel
theorem d_Kind_needWord_1 : decode b_Kind_needWord 1 = .ok (.tableswitch 43 1 4 #[31, 34, 37, 40], 31) := by decide +kernel
theorem d_Kind_needWord_32 : decode b_Kind_needWord 32 = .ok (.ldc 37, 2) := by decide +kernel
theorem d_Kind_needWord_34 : decode b_Kind_needWord 34 = .ok (.areturn, 1) := by decide +kernel
theorem d_Kind_needWord_35 : decode b_Kind_needWord 35 = .ok (.ldc 39, 2) := by decide +kernel
theorem d_Kind_needWord_37 : decode b_Kind_needWord 37 = .ok (.areturn, 1) := by decide +kernel
theorem d_Kind_needWord_38 : decode b_Kind_needWord 38 = .ok (.ldc 41, 2) := by decide +kernel
theorem d_Kind_needWord_40 : decode b_Kind_needWord 40 = .ok (.areturn, 1) := by decide +kernel
theorem d_Kind_needWord_41 : decode b_Kind_needWord 41 = .ok (.ldc 43, 2) := by decide +kernel
theorem d_Kind_needWord_43 : decode b_Kind_needWord 43 = .ok (.areturn, 1) := by decide +kernel
theorem d_Kind_needWord_44 : decode b_Kind_needWord 44 = .ok (.ldc 45, 2) := by decide +kernel
theorem d_Kind_needWord_46 : decode b_Kind_needWord 46 = .ok (.areturn, 1) := by decide +kernel
theorem d_Reader_kindOfNeedWord_0 : decode b_Reader_kindOfNeedWord 0 = .ok (.iconst 0, 1) := by decide +kernel
theorem d_Reader_kindOfNeedWord_1 : decode b_Reader_kindOfNeedWord 1 = .ok (.istore_n 1, 1) := by decide +kernel
theorem d_Reader_kindOfNeedWord_2 : decode b_Reader_kindOfNeedWord 2 = .ok (.iload_n 1, 1) := by decide +kernel
theorem d_Reader_kindOfNeedWord_3 : decode b_Reader_kindOfNeedWord 3 = .ok (.iconst 4, 1) := by decide +kernel
theorem d_Reader_kindOfNeedWord_4 : decode b_Reader_kindOfNeedWord 4 = .ok (.if_icmp .gt 25, 3) := by decide +kernel
theorem d_Reader_kindOfNeedWord_7 : decode b_Reader_kindOfNeedWord 7 = .ok (.aload_n 0, 1) := by decide +kernel
theorem d_Reader_kindOfNeedWord_8 : decode b_Reader_kindOfNeedWord 8 = .ok (.getfield 12, 3) := by decide +kernel
theorem d_Reader_kindOfNeedWord_11 : decode b_Reader_kindOfNeedWord 11 = .ok (.iload_n 1, 1) := by decide +kernel
theorem d_Reader_kindOfNeedWord_12 : decode b_Reader_kindOfNeedWord 12 = .ok (.invokestatic 136, 3) := by decide +kernel
theorem d_Reader_kindOfNeedWord_15 : decode b_Reader_kindOfNeedWord 15 = .ok (.invokevirtual 66, 3) := by decide +kernel
theorem d_Reader_kindOfNeedWord_18 : decode b_Reader_kindOfNeedWord 18 = .ok (.ifCond .eq 5, 3) := by decide +kernel
theorem d_Reader_kindOfNeedWord_21 : decode b_Reader_kindOfNeedWord 21 = .ok (.iload_n 1, 1) := by decide +kernel
theorem d_Reader_kindOfNeedWord_22 : decode b_Reader_kindOfNeedWord 22 = .ok (.ireturn, 1) := by decide +kernel
theorem d_Reader_kindOfNeedWord_23 : decode b_Reader_kindOfNeedWord 23 = .ok (.iinc 1 1, 3) := by decide +kernel
theorem d_Reader_kindOfNeedWord_26 : decode b_Reader_kindOfNeedWord 26 = .ok (.goto (-24), 3) := by decide +kernel
theorem d_Reader_kindOfNeedWord_29 : decode b_Reader_kindOfNeedWord 29 = .ok (.iconst (-1), 1) := by decide +kernel
theorem d_Reader_kindOfNeedWord_30 : decode b_Reader_kindOfNeedWord 30 = .ok (.ireturn, 1) := by decide +kernel
theorem d_Reader_takeTextRow_0 : decode b_Reader_takeTextRow 0 = .ok (.aload_n 0, 1) := by decide +kernel
theorem d_Reader_takeTextRow_1 : decode b_Reader_takeTextRow 1 = .ok (.getfield 12, 3) := by decide +kernel
theorem d_Reader_takeTextRow_4 : decode b_Reader_takeTextRow 4 = .ok (.invokevirtual 61, 3) := by decide +kernel
theorem d_Reader_takeTextRow_7 : decode b_Reader_takeTextRow 7 = .ok (.ifCond .ne 5, 3) := by decide +kernel
theorem d_Reader_takeTextRow_10 : decode b_Reader_takeTextRow 10 = .ok (.iconst 0, 1) := by decide +kernel
theorem d_Reader_takeTextRow_11 : decode b_Reader_takeTextRow 11 = .ok (.ireturn, 1) := by decide +kernel
theorem d_Reader_takeTextRow_12 : decode b_Reader_takeTextRow 12 = .ok (.aload_n 0, 1) := by decide +kernel
theorem d_Reader_takeTextRow_13 : decode b_Reader_takeTextRow 13 = .ok (.aload_n 0, 1) := by decide +kernel
theorem d_Reader_takeTextRow_14 : decode b_Reader_takeTextRow 14 = .ok (.getfield 12, 3) := by decide +kernel
theorem d_Reader_takeTextRow_17 : decode b_Reader_takeTextRow 17 = .ok (.getfield 70, 3) := by decide +kernel
theorem d_Reader_takeTextRow_20 : decode b_Reader_takeTextRow 20 = .ok (.putfield 98, 3) := by decide +kernel
theorem d_Reader_takeTextRow_23 : decode b_Reader_takeTextRow 23 = .ok (.aload_n 0, 1) := by decide +kernel
theorem d_Reader_takeTextRow_24 : decode b_Reader_takeTextRow 24 = .ok (.invokevirtual 101, 3) := by decide +kernel
theorem d_Reader_takeTextRow_27 : decode b_Reader_takeTextRow 27 = .ok (.istore_n 1, 1) := by decide +kernel
theorem d_Reader_takeTextRow_28 : decode b_Reader_takeTextRow 28 = .ok (.iload_n 1, 1) := by decide +kernel
theorem d_Reader_takeTextRow_29 : decode b_Reader_takeTextRow 29 = .ok (.iconst 4, 1) := by decide +kernel
theorem d_Reader_takeTextRow_30 : decode b_Reader_takeTextRow 30 = .ok (.if_icmp .ne 20, 3) := by decide +kernel
theorem d_Reader_takeTextRow_33 : decode b_Reader_takeTextRow 33 = .ok (.aload_n 0, 1) := by decide +kernel
theorem d_Reader_takeTextRow_34 : decode b_Reader_takeTextRow 34 = .ok (.getfield 12, 3) := by decide +kernel
theorem d_Reader_takeTextRow_37 : decode b_Reader_takeTextRow 37 = .ok (.invokevirtual 61, 3) := by decide +kernel
theorem d_Reader_takeTextRow_40 : decode b_Reader_takeTextRow 40 = .ok (.ifCond .ne 5, 3) := by decide +kernel
theorem d_Reader_takeTextRow_43 : decode b_Reader_takeTextRow 43 = .ok (.iconst 0, 1) := by decide +kernel
theorem d_Reader_takeTextRow_44 : decode b_Reader_takeTextRow 44 = .ok (.ireturn, 1) := by decide +kernel
theorem d_Reader_takeTextRow_45 : decode b_Reader_takeTextRow 45 = .ok (.aload_n 0, 1) := by decide +kernel
theorem d_Reader_takeTextRow_46 : decode b_Reader_takeTextRow 46 = .ok (.invokevirtual 107, 3) := by decide +kernel
theorem d_Reader_takeTextRow_49 : decode b_Reader_takeTextRow 49 = .ok (.istore_n 1, 1) := by decide +kernel
theorem d_Reader_takeTextRow_50 : decode b_Reader_takeTextRow 50 = .ok (.iload_n 1, 1) := by decide +kernel
theorem d_Reader_takeTextRow_51 : decode b_Reader_takeTextRow 51 = .ok (.lookupswitch 84 #[(-1, 49), (7, 64), (9, 69), (14, 74), (15, 79)], 49) := by decide +kernel
theorem d_Reader_takeTextRow_100 : decode b_Reader_takeTextRow 100 = .ok (.aload_n 0, 1) := by decide +kernel
theorem d_Reader_takeTextRow_101 : decode b_Reader_takeTextRow 101 = .ok (.getfield 12, 3) := by decide +kernel
theorem d_Reader_takeTextRow_104 : decode b_Reader_takeTextRow 104 = .ok (.aload_n 0, 1) := by decide +kernel
theorem d_Reader_takeTextRow_105 : decode b_Reader_takeTextRow 105 = .ok (.getfield 12, 3) := by decide +kernel
theorem d_Reader_takeTextRow_108 : decode b_Reader_takeTextRow 108 = .ok (.getfield 70, 3) := by decide +kernel
theorem d_Reader_takeTextRow_111 : decode b_Reader_takeTextRow 111 = .ok (.invokevirtual 73, 3) := by decide +kernel
theorem d_Reader_takeTextRow_114 : decode b_Reader_takeTextRow 114 = .ok (.ireturn, 1) := by decide +kernel
theorem d_Reader_takeTextRow_115 : decode b_Reader_takeTextRow 115 = .ok (.aload_n 0, 1) := by decide +kernel
theorem d_Reader_takeTextRow_116 : decode b_Reader_takeTextRow 116 = .ok (.invokevirtual 110, 3) := by decide +kernel
theorem d_Reader_takeTextRow_119 : decode b_Reader_takeTextRow 119 = .ok (.ireturn, 1) := by decide +kernel
theorem d_Reader_takeTextRow_120 : decode b_Reader_takeTextRow 120 = .ok (.aload_n 0, 1) := by decide +kernel
theorem d_Reader_takeTextRow_121 : decode b_Reader_takeTextRow 121 = .ok (.invokevirtual 113, 3) := by decide +kernel
theorem d_Reader_takeTextRow_124 : decode b_Reader_takeTextRow 124 = .ok (.ireturn, 1) := by decide +kernel
theorem d_Reader_takeTextRow_125 : decode b_Reader_takeTextRow 125 = .ok (.aload_n 0, 1) := by decide +kernel
theorem d_Reader_takeTextRow_126 : decode b_Reader_takeTextRow 126 = .ok (.invokevirtual 116, 3) := by decide +kernel
theorem d_Reader_takeTextRow_129 : decode b_Reader_takeTextRow 129 = .ok (.ireturn, 1) := by decide +kernel
theorem d_Reader_takeTextRow_130 : decode b_Reader_takeTextRow 130 = .ok (.aload_n 0, 1) := by decide +kernel
theorem d_Reader_takeTextRow_131 : decode b_Reader_takeTextRow 131 = .ok (.invokevirtual 119, 3) := by decide +kernel
theorem d_Reader_takeTextRow_134 : decode b_Reader_takeTextRow 134 = .ok (.ireturn, 1) := by decide +kernel
theorem d_Reader_takeTextRow_135 : decode b_Reader_takeTextRow 135 = .ok (.iload_n 1, 1) := by decide +kernel
theorem d_Reader_takeTextRow_136 : decode b_Reader_takeTextRow 136 = .ok (.invokestatic 122, 3) := by decide +kernel
theorem d_Reader_takeTextRow_139 : decode b_Reader_takeTextRow 139 = .ok (.ifCond .eq 12, 3) := by decide +kernel
theorem d_Reader_takeTextRow_142 : decode b_Reader_takeTextRow 142 = .ok (.aload_n 0, 1) := by decide +kernel
theorem d_Reader_takeTextRow_143 : decode b_Reader_takeTextRow 143 = .ok (.iload_n 1, 1) := by decide +kernel
theorem d_Reader_takeTextRow_144 : decode b_Reader_takeTextRow 144 = .ok (.aconst_null, 1) := by decide +kernel
theorem d_Reader_takeTextRow_145 : decode b_Reader_takeTextRow 145 = .ok (.invokevirtual 125, 3) := by decide +kernel
theorem d_Reader_takeTextRow_148 : decode b_Reader_takeTextRow 148 = .ok (.goto 8, 3) := by decide +kernel
theorem d_Reader_takeTextRow_151 : decode b_Reader_takeTextRow 151 = .ok (.aload_n 0, 1) := by decide +kernel
theorem d_Reader_takeTextRow_152 : decode b_Reader_takeTextRow 152 = .ok (.iload_n 1, 1) := by decide +kernel
theorem d_Reader_takeTextRow_153 : decode b_Reader_takeTextRow 153 = .ok (.invokevirtual 129, 3) := by decide +kernel
theorem d_Reader_takeTextRow_156 : decode b_Reader_takeTextRow 156 = .ok (.ireturn, 1) := by decide +kernel
theorem d_Reader_takeHead_0 : decode b_Reader_takeHead 0 = .ok (.aload_n 0, 1) := by decide +kernel
theorem d_Reader_takeHead_1 : decode b_Reader_takeHead 1 = .ok (.getfield 12, 3) := by decide +kernel
theorem d_Reader_takeHead_4 : decode b_Reader_takeHead 4 = .ok (.invokevirtual 61, 3) := by decide +kernel
theorem d_Reader_takeHead_7 : decode b_Reader_takeHead 7 = .ok (.ifCond .ne 5, 3) := by decide +kernel
theorem d_Reader_takeHead_10 : decode b_Reader_takeHead 10 = .ok (.iconst 0, 1) := by decide +kernel
theorem d_Reader_takeHead_11 : decode b_Reader_takeHead 11 = .ok (.ireturn, 1) := by decide +kernel
theorem d_Reader_takeHead_12 : decode b_Reader_takeHead 12 = .ok (.aload_n 0, 1) := by decide +kernel
theorem d_Reader_takeHead_13 : decode b_Reader_takeHead 13 = .ok (.getfield 12, 3) := by decide +kernel
theorem d_Reader_takeHead_16 : decode b_Reader_takeHead 16 = .ok (.ldc 64, 2) := by decide +kernel
theorem d_Reader_takeHead_18 : decode b_Reader_takeHead 18 = .ok (.invokevirtual 66, 3) := by decide +kernel
theorem d_Reader_takeHead_21 : decode b_Reader_takeHead 21 = .ok (.ifCond .ne 18, 3) := by decide +kernel
theorem d_Reader_takeHead_24 : decode b_Reader_takeHead 24 = .ok (.aload_n 0, 1) := by decide +kernel
theorem d_Reader_takeHead_25 : decode b_Reader_takeHead 25 = .ok (.getfield 12, 3) := by decide +kernel
theorem d_Reader_takeHead_28 : decode b_Reader_takeHead 28 = .ok (.aload_n 0, 1) := by decide +kernel
theorem d_Reader_takeHead_29 : decode b_Reader_takeHead 29 = .ok (.getfield 12, 3) := by decide +kernel
theorem d_Reader_takeHead_32 : decode b_Reader_takeHead 32 = .ok (.getfield 70, 3) := by decide +kernel
theorem d_Reader_takeHead_35 : decode b_Reader_takeHead 35 = .ok (.invokevirtual 73, 3) := by decide +kernel
theorem d_Reader_takeHead_38 : decode b_Reader_takeHead 38 = .ok (.ireturn, 1) := by decide +kernel
theorem d_Reader_takeHead_39 : decode b_Reader_takeHead 39 = .ok (.aload_n 0, 1) := by decide +kernel
theorem d_Reader_takeHead_40 : decode b_Reader_takeHead 40 = .ok (.getfield 12, 3) := by decide +kernel
theorem d_Reader_takeHead_43 : decode b_Reader_takeHead 43 = .ok (.invokevirtual 77, 3) := by decide +kernel
theorem d_Reader_takeHead_46 : decode b_Reader_takeHead 46 = .ok (.ifCond .ne 5, 3) := by decide +kernel
theorem d_Reader_takeHead_49 : decode b_Reader_takeHead 49 = .ok (.iconst 0, 1) := by decide +kernel
theorem d_Reader_takeHead_50 : decode b_Reader_takeHead 50 = .ok (.ireturn, 1) := by decide +kernel
theorem d_Reader_takeHead_51 : decode b_Reader_takeHead 51 = .ok (.aload_n 0, 1) := by decide +kernel
theorem d_Reader_takeHead_52 : decode b_Reader_takeHead 52 = .ok (.aload_n 0, 1) := by decide +kernel
theorem d_Reader_takeHead_53 : decode b_Reader_takeHead 53 = .ok (.getfield 12, 3) := by decide +kernel
theorem d_Reader_takeHead_56 : decode b_Reader_takeHead 56 = .ok (.invokevirtual 80, 3) := by decide +kernel
theorem d_Reader_takeHead_59 : decode b_Reader_takeHead 59 = .ok (.putfield 84, 3) := by decide +kernel
theorem d_Reader_takeHead_62 : decode b_Reader_takeHead 62 = .ok (.aload_n 0, 1) := by decide +kernel
theorem d_Reader_takeHead_63 : decode b_Reader_takeHead 63 = .ok (.getfield 12, 3) := by decide +kernel
theorem d_Reader_takeHead_66 : decode b_Reader_takeHead 66 = .ok (.invokevirtual 88, 3) := by decide +kernel
theorem d_Reader_takeHead_69 : decode b_Reader_takeHead 69 = .ok (.ifCond .ne 5, 3) := by decide +kernel
theorem d_Reader_takeHead_72 : decode b_Reader_takeHead 72 = .ok (.iconst 0, 1) := by decide +kernel
theorem d_Reader_takeHead_73 : decode b_Reader_takeHead 73 = .ok (.ireturn, 1) := by decide +kernel
theorem d_Reader_takeHead_74 : decode b_Reader_takeHead 74 = .ok (.aload_n 0, 1) := by decide +kernel
theorem d_Reader_takeHead_75 : decode b_Reader_takeHead 75 = .ok (.aload_n 0, 1) := by decide +kernel
theorem d_Reader_takeHead_76 : decode b_Reader_takeHead 76 = .ok (.getfield 12, 3) := by decide +kernel
theorem d_Reader_takeHead_79 : decode b_Reader_takeHead 79 = .ok (.getfield 91, 3) := by decide +kernel
theorem d_Reader_takeHead_82 : decode b_Reader_takeHead 82 = .ok (.putfield 95, 3) := by decide +kernel
theorem d_Reader_takeHead_85 : decode b_Reader_takeHead 85 = .ok (.aload_n 0, 1) := by decide +kernel
theorem d_Reader_takeHead_86 : decode b_Reader_takeHead 86 = .ok (.getfield 12, 3) := by decide +kernel
theorem d_Reader_takeHead_89 : decode b_Reader_takeHead 89 = .ok (.bipush 59, 2) := by decide +kernel
theorem d_Reader_takeHead_91 : decode b_Reader_takeHead 91 = .ok (.invokevirtual 54, 3) := by decide +kernel
theorem d_Reader_takeHead_94 : decode b_Reader_takeHead 94 = .ok (.ireturn, 1) := by decide +kernel
theorem d_Reader_takeText_0 : decode b_Reader_takeText 0 = .ok (.aload_n 0, 1) := by decide +kernel
theorem d_Reader_takeText_1 : decode b_Reader_takeText 1 = .ok (.iconst 0, 1) := by decide +kernel
theorem d_Reader_takeText_2 : decode b_Reader_takeText 2 = .ok (.putfield 34, 3) := by decide +kernel
theorem d_Reader_takeText_5 : decode b_Reader_takeText 5 = .ok (.aload_n 0, 1) := by decide +kernel
theorem d_Reader_takeText_6 : decode b_Reader_takeText 6 = .ok (.iconst 0, 1) := by decide +kernel
theorem d_Reader_takeText_7 : decode b_Reader_takeText 7 = .ok (.putfield 38, 3) := by decide +kernel
theorem d_Reader_takeText_10 : decode b_Reader_takeText 10 = .ok (.aload_n 0, 1) := by decide +kernel
theorem d_Reader_takeText_11 : decode b_Reader_takeText 11 = .ok (.iconst (-1), 1) := by decide +kernel
theorem d_Reader_takeText_12 : decode b_Reader_takeText 12 = .ok (.putfield 41, 3) := by decide +kernel
theorem d_Reader_takeText_15 : decode b_Reader_takeText 15 = .ok (.aload_n 0, 1) := by decide +kernel
theorem d_Reader_takeText_16 : decode b_Reader_takeText 16 = .ok (.invokevirtual 44, 3) := by decide +kernel
theorem d_Reader_takeText_19 : decode b_Reader_takeText 19 = .ok (.ifCond .ne 5, 3) := by decide +kernel
theorem d_Reader_takeText_22 : decode b_Reader_takeText 22 = .ok (.iconst 0, 1) := by decide +kernel
theorem d_Reader_takeText_23 : decode b_Reader_takeText 23 = .ok (.ireturn, 1) := by decide +kernel
theorem d_Reader_takeText_24 : decode b_Reader_takeText 24 = .ok (.iconst 0, 1) := by decide +kernel
theorem d_Reader_takeText_25 : decode b_Reader_takeText 25 = .ok (.istore_n 1, 1) := by decide +kernel
theorem d_Reader_takeText_26 : decode b_Reader_takeText 26 = .ok (.iload_n 1, 1) := by decide +kernel
theorem d_Reader_takeText_27 : decode b_Reader_takeText 27 = .ok (.sipush 2000, 3) := by decide +kernel
theorem d_Reader_takeText_30 : decode b_Reader_takeText 30 = .ok (.if_icmp .ge 40, 3) := by decide +kernel
theorem d_Reader_takeText_33 : decode b_Reader_takeText 33 = .ok (.aload_n 0, 1) := by decide +kernel
theorem d_Reader_takeText_34 : decode b_Reader_takeText 34 = .ok (.getfield 12, 3) := by decide +kernel
theorem d_Reader_takeText_37 : decode b_Reader_takeText 37 = .ok (.invokevirtual 48, 3) := by decide +kernel
theorem d_Reader_takeText_40 : decode b_Reader_takeText 40 = .ok (.ifCond .ne 30, 3) := by decide +kernel
theorem d_Reader_takeText_43 : decode b_Reader_takeText 43 = .ok (.aload_n 0, 1) := by decide +kernel
theorem d_Reader_takeText_44 : decode b_Reader_takeText 44 = .ok (.invokevirtual 51, 3) := by decide +kernel
theorem d_Reader_takeText_47 : decode b_Reader_takeText 47 = .ok (.ifCond .eq 15, 3) := by decide +kernel
theorem d_Reader_takeText_50 : decode b_Reader_takeText 50 = .ok (.aload_n 0, 1) := by decide +kernel
theorem d_Reader_takeText_51 : decode b_Reader_takeText 51 = .ok (.getfield 12, 3) := by decide +kernel
theorem d_Reader_takeText_54 : decode b_Reader_takeText 54 = .ok (.bipush 59, 2) := by decide +kernel
theorem d_Reader_takeText_56 : decode b_Reader_takeText 56 = .ok (.invokevirtual 54, 3) := by decide +kernel
theorem d_Reader_takeText_59 : decode b_Reader_takeText 59 = .ok (.ifCond .ne 5, 3) := by decide +kernel
theorem d_Reader_takeText_62 : decode b_Reader_takeText 62 = .ok (.iconst 0, 1) := by decide +kernel
theorem d_Reader_takeText_63 : decode b_Reader_takeText 63 = .ok (.ireturn, 1) := by decide +kernel
theorem d_Reader_takeText_64 : decode b_Reader_takeText 64 = .ok (.iinc 1 1, 3) := by decide +kernel
theorem d_Reader_takeText_67 : decode b_Reader_takeText 67 = .ok (.goto (-41), 3) := by decide +kernel
theorem d_Reader_takeText_70 : decode b_Reader_takeText 70 = .ok (.aload_n 0, 1) := by decide +kernel
theorem d_Reader_takeText_71 : decode b_Reader_takeText 71 = .ok (.invokevirtual 58, 3) := by decide +kernel
theorem d_Reader_takeText_74 : decode b_Reader_takeText 74 = .ok (.ireturn, 1) := by decide +kernel
theorem d_Scan_useUp_0 : decode b_Scan_useUp 0 = .ok (.aload_n 0, 1) := by decide +kernel
theorem d_Scan_useUp_1 : decode b_Scan_useUp 1 = .ok (.iconst 0, 1) := by decide +kernel
theorem d_Scan_useUp_2 : decode b_Scan_useUp 2 = .ok (.putfield 15, 3) := by decide +kernel
theorem d_Scan_useUp_5 : decode b_Scan_useUp 5 = .ok (.return_, 1) := by decide +kernel
theorem d_Pack_init_0 : decode b_Pack_init 0 = .ok (.aload_n 0, 1) := by decide +kernel
theorem d_Pack_init_1 : decode b_Pack_init 1 = .ok (.invokespecial 1, 3) := by decide +kernel
theorem d_Pack_init_4 : decode b_Pack_init 4 = .ok (.aload_n 0, 1) := by decide +kernel
theorem d_Pack_init_5 : decode b_Pack_init 5 = .ok (.aload_n 1, 1) := by decide +kernel
theorem d_Pack_init_6 : decode b_Pack_init 6 = .ok (.putfield 7, 3) := by decide +kernel
theorem d_Pack_init_9 : decode b_Pack_init 9 = .ok (.aload_n 0, 1) := by decide +kernel
theorem d_Pack_init_10 : decode b_Pack_init 10 = .ok (.lload_n 2, 1) := by decide +kernel
theorem d_Pack_init_11 : decode b_Pack_init 11 = .ok (.putfield 13, 3) := by decide +kernel
theorem d_Pack_init_14 : decode b_Pack_init 14 = .ok (.aload_n 0, 1) := by decide +kernel
theorem d_Pack_init_15 : decode b_Pack_init 15 = .ok (.aload 4, 2) := by decide +kernel
theorem d_Pack_init_17 : decode b_Pack_init 17 = .ok (.putfield 17, 3) := by decide +kernel
theorem d_Pack_init_20 : decode b_Pack_init 20 = .ok (.aload_n 0, 1) := by decide +kernel
theorem d_Pack_init_21 : decode b_Pack_init 21 = .ok (.aload 5, 2) := by decide +kernel
theorem d_Pack_init_23 : decode b_Pack_init 23 = .ok (.putfield 21, 3) := by decide +kernel
theorem d_Pack_init_26 : decode b_Pack_init 26 = .ok (.return_, 1) := by decide +kernel
theorem d_Kind_hasRange_0 : decode b_Kind_hasRange 0 = .ok (.iload_n 0, 1) := by decide +kernel
theorem d_Kind_hasRange_1 : decode b_Kind_hasRange 1 = .ok (.bipush 6, 2) := by decide +kernel
theorem d_Kind_hasRange_3 : decode b_Kind_hasRange 3 = .ok (.if_icmp .le 9, 3) := by decide +kernel
theorem d_Kind_hasRange_6 : decode b_Kind_hasRange 6 = .ok (.iload_n 0, 1) := by decide +kernel
theorem d_Kind_hasRange_7 : decode b_Kind_hasRange 7 = .ok (.bipush 8, 2) := by decide +kernel
theorem d_Kind_hasRange_9 : decode b_Kind_hasRange 9 = .ok (.if_icmp .ne 7, 3) := by decide +kernel
theorem d_Kind_hasRange_12 : decode b_Kind_hasRange 12 = .ok (.iconst 1, 1) := by decide +kernel
theorem d_Kind_hasRange_13 : decode b_Kind_hasRange 13 = .ok (.goto 4, 3) := by decide +kernel
theorem d_Kind_hasRange_16 : decode b_Kind_hasRange 16 = .ok (.iconst 0, 1) := by decide +kernel
theorem d_Kind_hasRange_17 : decode b_Kind_hasRange 17 = .ok (.ireturn, 1) := by decide +kernel
theorem d_Row_hasEmptyRange_0 : decode b_Row_hasEmptyRange 0 = .ok (.aload_n 0, 1) := by decide +kernel
theorem d_Row_hasEmptyRange_1 : decode b_Row_hasEmptyRange 1 = .ok (.getfield 7, 3) := by decide +kernel
theorem d_Row_hasEmptyRange_4 : decode b_Row_hasEmptyRange 4 = .ok (.invokestatic 38, 3) := by decide +kernel
theorem d_Row_hasEmptyRange_7 : decode b_Row_hasEmptyRange 7 = .ok (.ifCond .eq 19, 3) := by decide +kernel
theorem d_Row_hasEmptyRange_10 : decode b_Row_hasEmptyRange 10 = .ok (.aload_n 0, 1) := by decide +kernel
theorem d_Row_hasEmptyRange_11 : decode b_Row_hasEmptyRange 11 = .ok (.getfield 23, 3) := by decide +kernel
theorem d_Row_hasEmptyRange_14 : decode b_Row_hasEmptyRange 14 = .ok (.aload_n 0, 1) := by decide +kernel
theorem d_Row_hasEmptyRange_15 : decode b_Row_hasEmptyRange 15 = .ok (.getfield 27, 3) := by decide +kernel
theorem d_Row_hasEmptyRange_18 : decode b_Row_hasEmptyRange 18 = .ok (.lcmp, 1) := by decide +kernel
theorem d_Row_hasEmptyRange_19 : decode b_Row_hasEmptyRange 19 = .ok (.ifCond .lt 7, 3) := by decide +kernel
theorem d_Row_hasEmptyRange_22 : decode b_Row_hasEmptyRange 22 = .ok (.iconst 1, 1) := by decide +kernel
theorem d_Row_hasEmptyRange_23 : decode b_Row_hasEmptyRange 23 = .ok (.goto 4, 3) := by decide +kernel
theorem d_Row_hasEmptyRange_26 : decode b_Row_hasEmptyRange 26 = .ok (.iconst 0, 1) := by decide +kernel
theorem d_Row_hasEmptyRange_27 : decode b_Row_hasEmptyRange 27 = .ok (.ireturn, 1) := by decide +kernel
theorem d_Pack_hasFeature_0 : decode b_Pack_hasFeature 0 = .ok (.aload_n 1, 1) := by decide +kernel
theorem d_Pack_hasFeature_1 : decode b_Pack_hasFeature 1 = .ok (.aload_n 0, 1) := by decide +kernel
theorem d_Pack_hasFeature_2 : decode b_Pack_hasFeature 2 = .ok (.getfield 17, 3) := by decide +kernel
theorem d_Pack_hasFeature_5 : decode b_Pack_hasFeature 5 = .ok (.aload_n 0, 1) := by decide +kernel
theorem d_Pack_hasFeature_6 : decode b_Pack_hasFeature 6 = .ok (.getfield 17, 3) := by decide +kernel
theorem d_Pack_hasFeature_9 : decode b_Pack_hasFeature 9 = .ok (.arraylength, 1) := by decide +kernel
theorem d_Pack_hasFeature_10 : decode b_Pack_hasFeature 10 = .ok (.invokevirtual 25, 3) := by decide +kernel
theorem d_Pack_hasFeature_13 : decode b_Pack_hasFeature 13 = .ok (.ireturn, 1) := by decide +kernel
theorem d_Name_foldsLike_0 : decode b_Name_foldsLike 0 = .ok (.aload_n 0, 1) := by decide +kernel
theorem d_Name_foldsLike_1 : decode b_Name_foldsLike 1 = .ok (.aload_n 1, 1) := by decide +kernel
theorem d_Name_foldsLike_2 : decode b_Name_foldsLike 2 = .ok (.invokevirtual 36, 3) := by decide +kernel
theorem d_Name_foldsLike_5 : decode b_Name_foldsLike 5 = .ok (.ifCond .ne 7, 3) := by decide +kernel
theorem d_Name_foldsLike_8 : decode b_Name_foldsLike 8 = .ok (.iconst 1, 1) := by decide +kernel
theorem d_Name_foldsLike_9 : decode b_Name_foldsLike 9 = .ok (.goto 4, 3) := by decide +kernel
theorem d_Name_foldsLike_12 : decode b_Name_foldsLike 12 = .ok (.iconst 0, 1) := by decide +kernel
theorem d_Name_foldsLike_13 : decode b_Name_foldsLike 13 = .ok (.ireturn, 1) := by decide +kernel
theorem d_Pack_hasOptionalNeed_0 : decode b_Pack_hasOptionalNeed 0 = .ok (.iconst 0, 1) := by decide +kernel
theorem d_Pack_hasOptionalNeed_1 : decode b_Pack_hasOptionalNeed 1 = .ok (.istore_n 2, 1) := by decide +kernel
theorem d_Pack_hasOptionalNeed_2 : decode b_Pack_hasOptionalNeed 2 = .ok (.iload_n 2, 1) := by decide +kernel
theorem d_Pack_hasOptionalNeed_3 : decode b_Pack_hasOptionalNeed 3 = .ok (.aload_n 0, 1) := by decide +kernel
theorem d_Pack_hasOptionalNeed_4 : decode b_Pack_hasOptionalNeed 4 = .ok (.getfield 21, 3) := by decide +kernel
theorem d_Pack_hasOptionalNeed_7 : decode b_Pack_hasOptionalNeed 7 = .ok (.arraylength, 1) := by decide +kernel
theorem d_Pack_hasOptionalNeed_8 : decode b_Pack_hasOptionalNeed 8 = .ok (.if_icmp .ge 40, 3) := by decide +kernel
theorem d_Pack_hasOptionalNeed_11 : decode b_Pack_hasOptionalNeed 11 = .ok (.aload_n 0, 1) := by decide +kernel
theorem d_Pack_hasOptionalNeed_12 : decode b_Pack_hasOptionalNeed 12 = .ok (.getfield 21, 3) := by decide +kernel
theorem d_Pack_hasOptionalNeed_15 : decode b_Pack_hasOptionalNeed 15 = .ok (.iload_n 2, 1) := by decide +kernel
theorem d_Pack_hasOptionalNeed_16 : decode b_Pack_hasOptionalNeed 16 = .ok (.aaload, 1) := by decide +kernel
theorem d_Pack_hasOptionalNeed_17 : decode b_Pack_hasOptionalNeed 17 = .ok (.getfield 31, 3) := by decide +kernel
theorem d_Pack_hasOptionalNeed_20 : decode b_Pack_hasOptionalNeed 20 = .ok (.iconst 3, 1) := by decide +kernel
theorem d_Pack_hasOptionalNeed_21 : decode b_Pack_hasOptionalNeed 21 = .ok (.if_icmp .ne 21, 3) := by decide +kernel
theorem d_Pack_hasOptionalNeed_24 : decode b_Pack_hasOptionalNeed 24 = .ok (.aload_n 0, 1) := by decide +kernel
theorem d_Pack_hasOptionalNeed_25 : decode b_Pack_hasOptionalNeed 25 = .ok (.getfield 21, 3) := by decide +kernel
theorem d_Pack_hasOptionalNeed_28 : decode b_Pack_hasOptionalNeed 28 = .ok (.iload_n 2, 1) := by decide +kernel
theorem d_Pack_hasOptionalNeed_29 : decode b_Pack_hasOptionalNeed 29 = .ok (.aaload, 1) := by decide +kernel
theorem d_Pack_hasOptionalNeed_30 : decode b_Pack_hasOptionalNeed 30 = .ok (.getfield 39, 3) := by decide +kernel
theorem d_Pack_hasOptionalNeed_33 : decode b_Pack_hasOptionalNeed 33 = .ok (.aload_n 1, 1) := by decide +kernel
theorem d_Pack_hasOptionalNeed_34 : decode b_Pack_hasOptionalNeed 34 = .ok (.invokevirtual 40, 3) := by decide +kernel
theorem d_Pack_hasOptionalNeed_37 : decode b_Pack_hasOptionalNeed 37 = .ok (.ifCond .eq 5, 3) := by decide +kernel
theorem d_Pack_hasOptionalNeed_40 : decode b_Pack_hasOptionalNeed 40 = .ok (.iconst 1, 1) := by decide +kernel
theorem d_Pack_hasOptionalNeed_41 : decode b_Pack_hasOptionalNeed 41 = .ok (.ireturn, 1) := by decide +kernel
theorem d_Pack_hasOptionalNeed_42 : decode b_Pack_hasOptionalNeed 42 = .ok (.iinc 2 1, 3) := by decide +kernel
theorem d_Pack_hasOptionalNeed_45 : decode b_Pack_hasOptionalNeed 45 = .ok (.goto (-43), 3) := by decide +kernel
theorem d_Pack_hasOptionalNeed_48 : decode b_Pack_hasOptionalNeed 48 = .ok (.iconst 0, 1) := by decide +kernel
theorem d_Pack_hasOptionalNeed_49 : decode b_Pack_hasOptionalNeed 49 = .ok (.ireturn, 1) := by decide +kernel
theorem d_Kind_isNeed_0 : decode b_Kind_isNeed 0 = .ok (.iload_n 0, 1) := by decide +kernel
theorem d_Kind_isNeed_1 : decode b_Kind_isNeed 1 = .ok (.iconst 4, 1) := by decide +kernel
theorem d_Kind_isNeed_2 : decode b_Kind_isNeed 2 = .ok (.if_icmp .gt 7, 3) := by decide +kernel
theorem d_Kind_isNeed_5 : decode b_Kind_isNeed 5 = .ok (.iconst 1, 1) := by decide +kernel
theorem d_Kind_isNeed_6 : decode b_Kind_isNeed 6 = .ok (.goto 4, 3) := by decide +kernel
theorem d_Kind_isNeed_9 : decode b_Kind_isNeed 9 = .ok (.iconst 0, 1) := by decide +kernel
theorem d_Kind_isNeed_10 : decode b_Kind_isNeed 10 = .ok (.ireturn, 1) := by decide +kernel
theorem d_Pack_whyBroken_0 : decode b_Pack_whyBroken 0 = .ok (.aload_n 1, 1) := by decide +kernel
theorem d_Pack_whyBroken_1 : decode b_Pack_whyBroken 1 = .ok (.getfield 31, 3) := by decide +kernel
theorem d_Pack_whyBroken_4 : decode b_Pack_whyBroken 4 = .ok (.invokestatic 57, 3) := by decide +kernel
theorem d_Pack_whyBroken_7 : decode b_Pack_whyBroken 7 = .ok (.ifCond .ne 12, 3) := by decide +kernel
theorem d_Pack_whyBroken_10 : decode b_Pack_whyBroken 10 = .ok (.aload_n 1, 1) := by decide +kernel
theorem d_Pack_whyBroken_11 : decode b_Pack_whyBroken 11 = .ok (.getfield 31, 3) := by decide +kernel
theorem d_Pack_whyBroken_14 : decode b_Pack_whyBroken 14 = .ok (.bipush 8, 2) := by decide +kernel
theorem d_Pack_whyBroken_16 : decode b_Pack_whyBroken 16 = .ok (.if_icmp .ne 7, 3) := by decide +kernel
theorem d_Pack_whyBroken_19 : decode b_Pack_whyBroken 19 = .ok (.iconst 1, 1) := by decide +kernel
theorem d_Pack_whyBroken_20 : decode b_Pack_whyBroken 20 = .ok (.goto 4, 3) := by decide +kernel
theorem d_Pack_whyBroken_23 : decode b_Pack_whyBroken 23 = .ok (.iconst 0, 1) := by decide +kernel
theorem d_Pack_whyBroken_24 : decode b_Pack_whyBroken 24 = .ok (.istore_n 2, 1) := by decide +kernel
theorem d_Pack_whyBroken_25 : decode b_Pack_whyBroken 25 = .ok (.iload_n 2, 1) := by decide +kernel
theorem d_Pack_whyBroken_26 : decode b_Pack_whyBroken 26 = .ok (.ifCond .eq 19, 3) := by decide +kernel
theorem d_Pack_whyBroken_29 : decode b_Pack_whyBroken 29 = .ok (.aload_n 1, 1) := by decide +kernel
theorem d_Pack_whyBroken_30 : decode b_Pack_whyBroken 30 = .ok (.getfield 39, 3) := by decide +kernel
theorem d_Pack_whyBroken_33 : decode b_Pack_whyBroken 33 = .ok (.aload_n 0, 1) := by decide +kernel
theorem d_Pack_whyBroken_34 : decode b_Pack_whyBroken 34 = .ok (.getfield 7, 3) := by decide +kernel
theorem d_Pack_whyBroken_37 : decode b_Pack_whyBroken 37 = .ok (.invokevirtual 40, 3) := by decide +kernel
theorem d_Pack_whyBroken_40 : decode b_Pack_whyBroken 40 = .ok (.ifCond .eq 5, 3) := by decide +kernel
theorem d_Pack_whyBroken_43 : decode b_Pack_whyBroken 43 = .ok (.iconst 1, 1) := by decide +kernel
theorem d_Pack_whyBroken_44 : decode b_Pack_whyBroken 44 = .ok (.ireturn, 1) := by decide +kernel
theorem d_Pack_whyBroken_45 : decode b_Pack_whyBroken 45 = .ok (.aload_n 1, 1) := by decide +kernel
theorem d_Pack_whyBroken_46 : decode b_Pack_whyBroken 46 = .ok (.invokevirtual 61, 3) := by decide +kernel
theorem d_Pack_whyBroken_49 : decode b_Pack_whyBroken 49 = .ok (.ifCond .eq 5, 3) := by decide +kernel
theorem d_Pack_whyBroken_52 : decode b_Pack_whyBroken 52 = .ok (.iconst 2, 1) := by decide +kernel
theorem d_Pack_whyBroken_53 : decode b_Pack_whyBroken 53 = .ok (.ireturn, 1) := by decide +kernel
theorem d_Pack_whyBroken_54 : decode b_Pack_whyBroken 54 = .ok (.aload_n 1, 1) := by decide +kernel
theorem d_Pack_whyBroken_55 : decode b_Pack_whyBroken 55 = .ok (.getfield 31, 3) := by decide +kernel
theorem d_Pack_whyBroken_58 : decode b_Pack_whyBroken 58 = .ok (.bipush 9, 2) := by decide +kernel
theorem d_Pack_whyBroken_60 : decode b_Pack_whyBroken 60 = .ok (.if_icmp .ne 27, 3) := by decide +kernel
theorem d_Pack_whyBroken_63 : decode b_Pack_whyBroken 63 = .ok (.aload_n 0, 1) := by decide +kernel
theorem d_Pack_whyBroken_64 : decode b_Pack_whyBroken 64 = .ok (.aload_n 1, 1) := by decide +kernel
theorem d_Pack_whyBroken_65 : decode b_Pack_whyBroken 65 = .ok (.getfield 39, 3) := by decide +kernel
theorem d_Pack_whyBroken_68 : decode b_Pack_whyBroken 68 = .ok (.invokevirtual 47, 3) := by decide +kernel
theorem d_Pack_whyBroken_71 : decode b_Pack_whyBroken 71 = .ok (.ifCond .ne 16, 3) := by decide +kernel
theorem d_Pack_whyBroken_74 : decode b_Pack_whyBroken 74 = .ok (.aload_n 0, 1) := by decide +kernel
theorem d_Pack_whyBroken_75 : decode b_Pack_whyBroken 75 = .ok (.aload_n 1, 1) := by decide +kernel
theorem d_Pack_whyBroken_76 : decode b_Pack_whyBroken 76 = .ok (.getfield 39, 3) := by decide +kernel
theorem d_Pack_whyBroken_79 : decode b_Pack_whyBroken 79 = .ok (.invokevirtual 65, 3) := by decide +kernel
theorem d_Pack_whyBroken_82 : decode b_Pack_whyBroken 82 = .ok (.ifCond .ne 5, 3) := by decide +kernel
theorem d_Pack_whyBroken_85 : decode b_Pack_whyBroken 85 = .ok (.iconst 3, 1) := by decide +kernel
theorem d_Pack_whyBroken_86 : decode b_Pack_whyBroken 86 = .ok (.ireturn, 1) := by decide +kernel
theorem d_Pack_whyBroken_87 : decode b_Pack_whyBroken 87 = .ok (.aload_n 1, 1) := by decide +kernel
theorem d_Pack_whyBroken_88 : decode b_Pack_whyBroken 88 = .ok (.getfield 68, 3) := by decide +kernel
theorem d_Pack_whyBroken_91 : decode b_Pack_whyBroken 91 = .ok (.ifCond .eq 7, 3) := by decide +kernel
theorem d_Pack_whyBroken_94 : decode b_Pack_whyBroken 94 = .ok (.iconst 4, 1) := by decide +kernel
theorem d_Pack_whyBroken_95 : decode b_Pack_whyBroken 95 = .ok (.goto 4, 3) := by decide +kernel
theorem d_Pack_whyBroken_98 : decode b_Pack_whyBroken 98 = .ok (.iconst 0, 1) := by decide +kernel
theorem d_Pack_whyBroken_99 : decode b_Pack_whyBroken 99 = .ok (.ireturn, 1) := by decide +kernel
theorem d_Pack_markBroken_0 : decode b_Pack_markBroken 0 = .ok (.iconst 0, 1) := by decide +kernel
theorem d_Pack_markBroken_1 : decode b_Pack_markBroken 1 = .ok (.istore_n 1, 1) := by decide +kernel
theorem d_Pack_markBroken_2 : decode b_Pack_markBroken 2 = .ok (.iload_n 1, 1) := by decide +kernel
theorem d_Pack_markBroken_3 : decode b_Pack_markBroken 3 = .ok (.aload_n 0, 1) := by decide +kernel
theorem d_Pack_markBroken_4 : decode b_Pack_markBroken 4 = .ok (.getfield 21, 3) := by decide +kernel
theorem d_Pack_markBroken_7 : decode b_Pack_markBroken 7 = .ok (.arraylength, 1) := by decide +kernel
theorem d_Pack_markBroken_8 : decode b_Pack_markBroken 8 = .ok (.if_icmp .ge 28, 3) := by decide +kernel
theorem d_Pack_markBroken_11 : decode b_Pack_markBroken 11 = .ok (.aload_n 0, 1) := by decide +kernel
theorem d_Pack_markBroken_12 : decode b_Pack_markBroken 12 = .ok (.getfield 21, 3) := by decide +kernel
theorem d_Pack_markBroken_15 : decode b_Pack_markBroken 15 = .ok (.iload_n 1, 1) := by decide +kernel
theorem d_Pack_markBroken_16 : decode b_Pack_markBroken 16 = .ok (.aaload, 1) := by decide +kernel
theorem d_Pack_markBroken_17 : decode b_Pack_markBroken 17 = .ok (.aload_n 0, 1) := by decide +kernel
theorem d_Pack_markBroken_18 : decode b_Pack_markBroken 18 = .ok (.aload_n 0, 1) := by decide +kernel
theorem d_Pack_markBroken_19 : decode b_Pack_markBroken 19 = .ok (.getfield 21, 3) := by decide +kernel
theorem d_Pack_markBroken_22 : decode b_Pack_markBroken 22 = .ok (.iload_n 1, 1) := by decide +kernel
theorem d_Pack_markBroken_23 : decode b_Pack_markBroken 23 = .ok (.aaload, 1) := by decide +kernel
theorem d_Pack_markBroken_24 : decode b_Pack_markBroken 24 = .ok (.invokevirtual 50, 3) := by decide +kernel
theorem d_Pack_markBroken_27 : decode b_Pack_markBroken 27 = .ok (.putfield 54, 3) := by decide +kernel
theorem d_Pack_markBroken_30 : decode b_Pack_markBroken 30 = .ok (.iinc 1 1, 3) := by decide +kernel
theorem d_Pack_markBroken_33 : decode b_Pack_markBroken 33 = .ok (.goto (-31), 3) := by decide +kernel
theorem d_Pack_markBroken_36 : decode b_Pack_markBroken 36 = .ok (.return_, 1) := by decide +kernel
theorem d_Row_order_0 : decode b_Row_order 0 = .ok (.aload_n 0, 1) := by decide +kernel
theorem d_Row_order_1 : decode b_Row_order 1 = .ok (.getfield 7, 3) := by decide +kernel
theorem d_Row_order_4 : decode b_Row_order 4 = .ok (.aload_n 1, 1) := by decide +kernel
theorem d_Row_order_5 : decode b_Row_order 5 = .ok (.getfield 7, 3) := by decide +kernel
theorem d_Row_order_8 : decode b_Row_order 8 = .ok (.if_icmp .eq 13, 3) := by decide +kernel
theorem d_Row_order_11 : decode b_Row_order 11 = .ok (.aload_n 0, 1) := by decide +kernel
theorem d_Row_order_12 : decode b_Row_order 12 = .ok (.getfield 7, 3) := by decide +kernel
theorem d_Row_order_15 : decode b_Row_order 15 = .ok (.aload_n 1, 1) := by decide +kernel
theorem d_Row_order_16 : decode b_Row_order 16 = .ok (.getfield 7, 3) := by decide +kernel
theorem d_Row_order_19 : decode b_Row_order 19 = .ok (.isub, 1) := by decide +kernel
theorem d_Row_order_20 : decode b_Row_order 20 = .ok (.ireturn, 1) := by decide +kernel
theorem d_Row_order_21 : decode b_Row_order 21 = .ok (.aload_n 0, 1) := by decide +kernel
theorem d_Row_order_22 : decode b_Row_order 22 = .ok (.getfield 13, 3) := by decide +kernel
theorem d_Row_order_25 : decode b_Row_order 25 = .ok (.aload_n 1, 1) := by decide +kernel
theorem d_Row_order_26 : decode b_Row_order 26 = .ok (.getfield 13, 3) := by decide +kernel
theorem d_Row_order_29 : decode b_Row_order 29 = .ok (.if_icmp .eq 13, 3) := by decide +kernel
theorem d_Row_order_32 : decode b_Row_order 32 = .ok (.aload_n 0, 1) := by decide +kernel
theorem d_Row_order_33 : decode b_Row_order 33 = .ok (.getfield 13, 3) := by decide +kernel
theorem d_Row_order_36 : decode b_Row_order 36 = .ok (.aload_n 1, 1) := by decide +kernel
theorem d_Row_order_37 : decode b_Row_order 37 = .ok (.getfield 13, 3) := by decide +kernel
theorem d_Row_order_40 : decode b_Row_order 40 = .ok (.isub, 1) := by decide +kernel
theorem d_Row_order_41 : decode b_Row_order 41 = .ok (.ireturn, 1) := by decide +kernel
theorem d_Row_order_42 : decode b_Row_order 42 = .ok (.aload_n 0, 1) := by decide +kernel
theorem d_Row_order_43 : decode b_Row_order 43 = .ok (.getfield 7, 3) := by decide +kernel
theorem d_Row_order_46 : decode b_Row_order 46 = .ok (.bipush 9, 2) := by decide +kernel
theorem d_Row_order_48 : decode b_Row_order 48 = .ok (.if_icmp .ne 35, 3) := by decide +kernel
theorem d_Row_order_51 : decode b_Row_order 51 = .ok (.aload_n 0, 1) := by decide +kernel
theorem d_Row_order_52 : decode b_Row_order 52 = .ok (.getfield 20, 3) := by decide +kernel
theorem d_Row_order_55 : decode b_Row_order 55 = .ok (.ifnull 28, 3) := by decide +kernel
theorem d_Row_order_58 : decode b_Row_order 58 = .ok (.aload_n 1, 1) := by decide +kernel
theorem d_Row_order_59 : decode b_Row_order 59 = .ok (.getfield 20, 3) := by decide +kernel
theorem d_Row_order_62 : decode b_Row_order 62 = .ok (.ifnull 21, 3) := by decide +kernel
theorem d_Row_order_65 : decode b_Row_order 65 = .ok (.aload_n 0, 1) := by decide +kernel
theorem d_Row_order_66 : decode b_Row_order 66 = .ok (.getfield 20, 3) := by decide +kernel
theorem d_Row_order_69 : decode b_Row_order 69 = .ok (.aload_n 1, 1) := by decide +kernel
theorem d_Row_order_70 : decode b_Row_order 70 = .ok (.getfield 20, 3) := by decide +kernel
theorem d_Row_order_73 : decode b_Row_order 73 = .ok (.invokevirtual 42, 3) := by decide +kernel
theorem d_Row_order_76 : decode b_Row_order 76 = .ok (.istore_n 2, 1) := by decide +kernel
theorem d_Row_order_77 : decode b_Row_order 77 = .ok (.iload_n 2, 1) := by decide +kernel
theorem d_Row_order_78 : decode b_Row_order 78 = .ok (.ifCond .eq 5, 3) := by decide +kernel
theorem d_Row_order_81 : decode b_Row_order 81 = .ok (.iload_n 2, 1) := by decide +kernel
theorem d_Row_order_82 : decode b_Row_order 82 = .ok (.ireturn, 1) := by decide +kernel
theorem d_Row_order_83 : decode b_Row_order 83 = .ok (.aload_n 0, 1) := by decide +kernel
theorem d_Row_order_84 : decode b_Row_order 84 = .ok (.getfield 16, 3) := by decide +kernel
theorem d_Row_order_87 : decode b_Row_order 87 = .ok (.aload_n 1, 1) := by decide +kernel
theorem d_Row_order_88 : decode b_Row_order 88 = .ok (.getfield 16, 3) := by decide +kernel
theorem d_Row_order_91 : decode b_Row_order 91 = .ok (.invokevirtual 42, 3) := by decide +kernel
theorem d_Row_order_94 : decode b_Row_order 94 = .ok (.ireturn, 1) := by decide +kernel
theorem d_Reader_sortRows_0 : decode b_Reader_sortRows 0 = .ok (.iconst 1, 1) := by decide +kernel
theorem d_Reader_sortRows_1 : decode b_Reader_sortRows 1 = .ok (.istore_n 1, 1) := by decide +kernel
theorem d_Reader_sortRows_2 : decode b_Reader_sortRows 2 = .ok (.iload_n 1, 1) := by decide +kernel
theorem d_Reader_sortRows_3 : decode b_Reader_sortRows 3 = .ok (.aload_n 0, 1) := by decide +kernel
theorem d_Reader_sortRows_4 : decode b_Reader_sortRows 4 = .ok (.getfield 34, 3) := by decide +kernel
theorem d_Reader_sortRows_7 : decode b_Reader_sortRows 7 = .ok (.if_icmp .ge 64, 3) := by decide +kernel
theorem d_Reader_sortRows_10 : decode b_Reader_sortRows 10 = .ok (.aload_n 0, 1) := by decide +kernel
theorem d_Reader_sortRows_11 : decode b_Reader_sortRows 11 = .ok (.getfield 20, 3) := by decide +kernel
theorem d_Reader_sortRows_14 : decode b_Reader_sortRows 14 = .ok (.iload_n 1, 1) := by decide +kernel
theorem d_Reader_sortRows_15 : decode b_Reader_sortRows 15 = .ok (.aaload, 1) := by decide +kernel
theorem d_Reader_sortRows_16 : decode b_Reader_sortRows 16 = .ok (.astore_n 2, 1) := by decide +kernel
theorem d_Reader_sortRows_17 : decode b_Reader_sortRows 17 = .ok (.iload_n 1, 1) := by decide +kernel
theorem d_Reader_sortRows_18 : decode b_Reader_sortRows 18 = .ok (.istore_n 3, 1) := by decide +kernel
theorem d_Reader_sortRows_19 : decode b_Reader_sortRows 19 = .ok (.iload_n 3, 1) := by decide +kernel
theorem d_Reader_sortRows_20 : decode b_Reader_sortRows 20 = .ok (.ifCond .le 38, 3) := by decide +kernel
theorem d_Reader_sortRows_23 : decode b_Reader_sortRows 23 = .ok (.aload_n 0, 1) := by decide +kernel
theorem d_Reader_sortRows_24 : decode b_Reader_sortRows 24 = .ok (.getfield 20, 3) := by decide +kernel
theorem d_Reader_sortRows_27 : decode b_Reader_sortRows 27 = .ok (.iload_n 3, 1) := by decide +kernel
theorem d_Reader_sortRows_28 : decode b_Reader_sortRows 28 = .ok (.iconst 1, 1) := by decide +kernel
theorem d_Reader_sortRows_29 : decode b_Reader_sortRows 29 = .ok (.isub, 1) := by decide +kernel
theorem d_Reader_sortRows_30 : decode b_Reader_sortRows 30 = .ok (.aaload, 1) := by decide +kernel
theorem d_Reader_sortRows_31 : decode b_Reader_sortRows 31 = .ok (.aload_n 2, 1) := by decide +kernel
theorem d_Reader_sortRows_32 : decode b_Reader_sortRows 32 = .ok (.invokevirtual 194, 3) := by decide +kernel
theorem d_Reader_sortRows_35 : decode b_Reader_sortRows 35 = .ok (.ifCond .le 23, 3) := by decide +kernel
theorem d_Reader_sortRows_38 : decode b_Reader_sortRows 38 = .ok (.aload_n 0, 1) := by decide +kernel
theorem d_Reader_sortRows_39 : decode b_Reader_sortRows 39 = .ok (.getfield 20, 3) := by decide +kernel
theorem d_Reader_sortRows_42 : decode b_Reader_sortRows 42 = .ok (.iload_n 3, 1) := by decide +kernel
theorem d_Reader_sortRows_43 : decode b_Reader_sortRows 43 = .ok (.aload_n 0, 1) := by decide +kernel
theorem d_Reader_sortRows_44 : decode b_Reader_sortRows 44 = .ok (.getfield 20, 3) := by decide +kernel
theorem d_Reader_sortRows_47 : decode b_Reader_sortRows 47 = .ok (.iload_n 3, 1) := by decide +kernel
theorem d_Reader_sortRows_48 : decode b_Reader_sortRows 48 = .ok (.iconst 1, 1) := by decide +kernel
theorem d_Reader_sortRows_49 : decode b_Reader_sortRows 49 = .ok (.isub, 1) := by decide +kernel
theorem d_Reader_sortRows_50 : decode b_Reader_sortRows 50 = .ok (.aaload, 1) := by decide +kernel
theorem d_Reader_sortRows_51 : decode b_Reader_sortRows 51 = .ok (.aastore, 1) := by decide +kernel
theorem d_Reader_sortRows_52 : decode b_Reader_sortRows 52 = .ok (.iinc 3 (-1), 3) := by decide +kernel
theorem d_Reader_sortRows_55 : decode b_Reader_sortRows 55 = .ok (.goto (-36), 3) := by decide +kernel
theorem d_Reader_sortRows_58 : decode b_Reader_sortRows 58 = .ok (.aload_n 0, 1) := by decide +kernel
theorem d_Reader_sortRows_59 : decode b_Reader_sortRows 59 = .ok (.getfield 20, 3) := by decide +kernel
theorem d_Reader_sortRows_62 : decode b_Reader_sortRows 62 = .ok (.iload_n 3, 1) := by decide +kernel
theorem d_Reader_sortRows_63 : decode b_Reader_sortRows 63 = .ok (.aload_n 2, 1) := by decide +kernel
theorem d_Reader_sortRows_64 : decode b_Reader_sortRows 64 = .ok (.aastore, 1) := by decide +kernel
theorem d_Reader_sortRows_65 : decode b_Reader_sortRows 65 = .ok (.iinc 1 1, 3) := by decide +kernel
theorem d_Reader_sortRows_68 : decode b_Reader_sortRows 68 = .ok (.goto (-66), 3) := by decide +kernel
theorem d_Reader_sortRows_71 : decode b_Reader_sortRows 71 = .ok (.return_, 1) := by decide +kernel
theorem d_Kind_joins_0 : decode b_Kind_joins 0 = .ok (.iload_n 0, 1) := by decide +kernel
theorem d_Kind_joins_1 : decode b_Kind_joins 1 = .ok (.bipush 6, 2) := by decide +kernel
theorem d_Kind_joins_3 : decode b_Kind_joins 3 = .ok (.if_icmp .le 10, 3) := by decide +kernel
theorem d_Kind_joins_6 : decode b_Kind_joins 6 = .ok (.iload_n 0, 1) := by decide +kernel
theorem d_Kind_joins_7 : decode b_Kind_joins 7 = .ok (.invokestatic 9, 3) := by decide +kernel
theorem d_Kind_joins_10 : decode b_Kind_joins 10 = .ok (.ifCond .eq 7, 3) := by decide +kernel
theorem d_Kind_joins_13 : decode b_Kind_joins 13 = .ok (.iconst 1, 1) := by decide +kernel
theorem d_Kind_joins_14 : decode b_Kind_joins 14 = .ok (.goto 4, 3) := by decide +kernel
theorem d_Kind_joins_17 : decode b_Kind_joins 17 = .ok (.iconst 0, 1) := by decide +kernel
theorem d_Kind_joins_18 : decode b_Kind_joins 18 = .ok (.ireturn, 1) := by decide +kernel
theorem d_Row_joins_0 : decode b_Row_joins 0 = .ok (.aload_n 0, 1) := by decide +kernel
theorem d_Row_joins_1 : decode b_Row_joins 1 = .ok (.getfield 7, 3) := by decide +kernel
theorem d_Row_joins_4 : decode b_Row_joins 4 = .ok (.invokestatic 46, 3) := by decide +kernel
theorem d_Row_joins_7 : decode b_Row_joins 7 = .ok (.ifCond .eq 15, 3) := by decide +kernel
theorem d_Row_joins_10 : decode b_Row_joins 10 = .ok (.aload_n 0, 1) := by decide +kernel
theorem d_Row_joins_11 : decode b_Row_joins 11 = .ok (.aload_n 1, 1) := by decide +kernel
theorem d_Row_joins_12 : decode b_Row_joins 12 = .ok (.invokevirtual 49, 3) := by decide +kernel
theorem d_Row_joins_15 : decode b_Row_joins 15 = .ok (.ifCond .ne 7, 3) := by decide +kernel
theorem d_Row_joins_18 : decode b_Row_joins 18 = .ok (.iconst 1, 1) := by decide +kernel
theorem d_Row_joins_19 : decode b_Row_joins 19 = .ok (.goto 4, 3) := by decide +kernel
theorem d_Row_joins_22 : decode b_Row_joins 22 = .ok (.iconst 0, 1) := by decide +kernel
theorem d_Row_joins_23 : decode b_Row_joins 23 = .ok (.ireturn, 1) := by decide +kernel
theorem d_Name_isWrittenLike_0 : decode b_Name_isWrittenLike 0 = .ok (.aload_n 0, 1) := by decide +kernel
theorem d_Name_isWrittenLike_1 : decode b_Name_isWrittenLike 1 = .ok (.getfield 9, 3) := by decide +kernel
theorem d_Name_isWrittenLike_4 : decode b_Name_isWrittenLike 4 = .ok (.arraylength, 1) := by decide +kernel
theorem d_Name_isWrittenLike_5 : decode b_Name_isWrittenLike 5 = .ok (.aload_n 1, 1) := by decide +kernel
theorem d_Name_isWrittenLike_6 : decode b_Name_isWrittenLike 6 = .ok (.getfield 9, 3) := by decide +kernel
theorem d_Name_isWrittenLike_9 : decode b_Name_isWrittenLike 9 = .ok (.arraylength, 1) := by decide +kernel
theorem d_Name_isWrittenLike_10 : decode b_Name_isWrittenLike 10 = .ok (.if_icmp .eq 5, 3) := by decide +kernel
theorem d_Name_isWrittenLike_13 : decode b_Name_isWrittenLike 13 = .ok (.iconst 0, 1) := by decide +kernel
theorem d_Name_isWrittenLike_14 : decode b_Name_isWrittenLike 14 = .ok (.ireturn, 1) := by decide +kernel
theorem d_Name_isWrittenLike_15 : decode b_Name_isWrittenLike 15 = .ok (.iconst 0, 1) := by decide +kernel
theorem d_Name_isWrittenLike_16 : decode b_Name_isWrittenLike 16 = .ok (.istore_n 2, 1) := by decide +kernel
theorem d_Name_isWrittenLike_17 : decode b_Name_isWrittenLike 17 = .ok (.iload_n 2, 1) := by decide +kernel
theorem d_Name_isWrittenLike_18 : decode b_Name_isWrittenLike 18 = .ok (.aload_n 0, 1) := by decide +kernel
theorem d_Name_isWrittenLike_19 : decode b_Name_isWrittenLike 19 = .ok (.getfield 9, 3) := by decide +kernel
theorem d_Name_isWrittenLike_22 : decode b_Name_isWrittenLike 22 = .ok (.arraylength, 1) := by decide +kernel
theorem d_Name_isWrittenLike_23 : decode b_Name_isWrittenLike 23 = .ok (.if_icmp .ge 26, 3) := by decide +kernel
theorem d_Name_isWrittenLike_26 : decode b_Name_isWrittenLike 26 = .ok (.aload_n 0, 1) := by decide +kernel
theorem d_Name_isWrittenLike_27 : decode b_Name_isWrittenLike 27 = .ok (.getfield 9, 3) := by decide +kernel
theorem d_Name_isWrittenLike_30 : decode b_Name_isWrittenLike 30 = .ok (.iload_n 2, 1) := by decide +kernel
theorem d_Name_isWrittenLike_31 : decode b_Name_isWrittenLike 31 = .ok (.caload, 1) := by decide +kernel
theorem d_Name_isWrittenLike_32 : decode b_Name_isWrittenLike 32 = .ok (.aload_n 1, 1) := by decide +kernel
theorem d_Name_isWrittenLike_33 : decode b_Name_isWrittenLike 33 = .ok (.getfield 9, 3) := by decide +kernel
theorem d_Name_isWrittenLike_36 : decode b_Name_isWrittenLike 36 = .ok (.iload_n 2, 1) := by decide +kernel
theorem d_Name_isWrittenLike_37 : decode b_Name_isWrittenLike 37 = .ok (.caload, 1) := by decide +kernel
theorem d_Name_isWrittenLike_38 : decode b_Name_isWrittenLike 38 = .ok (.if_icmp .eq 5, 3) := by decide +kernel
theorem d_Name_isWrittenLike_41 : decode b_Name_isWrittenLike 41 = .ok (.iconst 0, 1) := by decide +kernel
theorem d_Name_isWrittenLike_42 : decode b_Name_isWrittenLike 42 = .ok (.ireturn, 1) := by decide +kernel
theorem d_Name_isWrittenLike_43 : decode b_Name_isWrittenLike 43 = .ok (.iinc 2 1, 3) := by decide +kernel
theorem d_Name_isWrittenLike_46 : decode b_Name_isWrittenLike 46 = .ok (.goto (-29), 3) := by decide +kernel
theorem d_Name_isWrittenLike_49 : decode b_Name_isWrittenLike 49 = .ok (.iconst 1, 1) := by decide +kernel
theorem d_Name_isWrittenLike_50 : decode b_Name_isWrittenLike 50 = .ok (.ireturn, 1) := by decide +kernel
theorem d_Row_join_0 : decode b_Row_join 0 = .ok (.aload_n 0, 1) := by decide +kernel
theorem d_Row_join_1 : decode b_Row_join 1 = .ok (.getfield 16, 3) := by decide +kernel
theorem d_Row_join_4 : decode b_Row_join 4 = .ok (.aload_n 1, 1) := by decide +kernel
theorem d_Row_join_5 : decode b_Row_join 5 = .ok (.getfield 16, 3) := by decide +kernel
theorem d_Row_join_8 : decode b_Row_join 8 = .ok (.invokevirtual 52, 3) := by decide +kernel
theorem d_Row_join_11 : decode b_Row_join 11 = .ok (.ifCond .ne 8, 3) := by decide +kernel
theorem d_Row_join_14 : decode b_Row_join 14 = .ok (.aload_n 0, 1) := by decide +kernel
theorem d_Row_join_15 : decode b_Row_join 15 = .ok (.iconst 1, 1) := by decide +kernel
theorem d_Row_join_16 : decode b_Row_join 16 = .ok (.putfield 55, 3) := by decide +kernel
theorem d_Row_join_19 : decode b_Row_join 19 = .ok (.aload_n 0, 1) := by decide +kernel
theorem d_Row_join_20 : decode b_Row_join 20 = .ok (.aload_n 0, 1) := by decide +kernel
theorem d_Row_join_21 : decode b_Row_join 21 = .ok (.getfield 23, 3) := by decide +kernel
theorem d_Row_join_24 : decode b_Row_join 24 = .ok (.aload_n 1, 1) := by decide +kernel
theorem d_Row_join_25 : decode b_Row_join 25 = .ok (.getfield 23, 3) := by decide +kernel
theorem d_Row_join_28 : decode b_Row_join 28 = .ok (.invokestatic 59, 3) := by decide +kernel
theorem d_Row_join_31 : decode b_Row_join 31 = .ok (.putfield 23, 3) := by decide +kernel
theorem d_Row_join_34 : decode b_Row_join 34 = .ok (.aload_n 0, 1) := by decide +kernel
theorem d_Row_join_35 : decode b_Row_join 35 = .ok (.aload_n 0, 1) := by decide +kernel
theorem d_Row_join_36 : decode b_Row_join 36 = .ok (.getfield 27, 3) := by decide +kernel
theorem d_Row_join_39 : decode b_Row_join 39 = .ok (.aload_n 1, 1) := by decide +kernel
theorem d_Row_join_40 : decode b_Row_join 40 = .ok (.getfield 27, 3) := by decide +kernel
theorem d_Row_join_43 : decode b_Row_join 43 = .ok (.invokestatic 65, 3) := by decide +kernel
theorem d_Row_join_46 : decode b_Row_join 46 = .ok (.putfield 27, 3) := by decide +kernel
theorem d_Row_join_49 : decode b_Row_join 49 = .ok (.aload_n 0, 1) := by decide +kernel
theorem d_Row_join_50 : decode b_Row_join 50 = .ok (.invokevirtual 68, 3) := by decide +kernel
theorem d_Row_join_53 : decode b_Row_join 53 = .ok (.ifCond .eq 13, 3) := by decide +kernel
theorem d_Row_join_56 : decode b_Row_join 56 = .ok (.aload_n 0, 1) := by decide +kernel
theorem d_Row_join_57 : decode b_Row_join 57 = .ok (.lconst 0, 1) := by decide +kernel
theorem d_Row_join_58 : decode b_Row_join 58 = .ok (.putfield 23, 3) := by decide +kernel
theorem d_Row_join_61 : decode b_Row_join 61 = .ok (.aload_n 0, 1) := by decide +kernel
theorem d_Row_join_62 : decode b_Row_join 62 = .ok (.lconst 0, 1) := by decide +kernel
theorem d_Row_join_63 : decode b_Row_join 63 = .ok (.putfield 27, 3) := by decide +kernel
theorem d_Row_join_66 : decode b_Row_join 66 = .ok (.return_, 1) := by decide +kernel
