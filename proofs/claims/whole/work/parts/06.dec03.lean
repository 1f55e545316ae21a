theorem d_Printer_putBeginning_0 : decode b_Printer_putBeginning 0 = .ok (.aload_n 0, 1) := by decide +kernel
theorem d_Printer_putBeginning_1 : decode b_Printer_putBeginning 1 = .ok (.aload_n 1, 1) := by decide +kernel
theorem d_Printer_putBeginning_2 : decode b_Printer_putBeginning 2 = .ok (.getfield 65, 3) := by decide +kernel
theorem d_Printer_putBeginning_5 : decode b_Printer_putBeginning 5 = .ok (.invokestatic 88, 3) := by decide +kernel
theorem d_Printer_putBeginning_8 : decode b_Printer_putBeginning 8 = .ok (.invokevirtual 33, 3) := by decide +kernel
theorem d_Printer_putBeginning_11 : decode b_Printer_putBeginning 11 = .ok (.aload_n 0, 1) := by decide +kernel
theorem d_Printer_putBeginning_12 : decode b_Printer_putBeginning 12 = .ok (.bipush 32, 2) := by decide +kernel
theorem d_Printer_putBeginning_14 : decode b_Printer_putBeginning 14 = .ok (.invokevirtual 27, 3) := by decide +kernel
theorem d_Printer_putBeginning_17 : decode b_Printer_putBeginning 17 = .ok (.aload_n 1, 1) := by decide +kernel
theorem d_Printer_putBeginning_18 : decode b_Printer_putBeginning 18 = .ok (.getfield 65, 3) := by decide +kernel
theorem d_Printer_putBeginning_21 : decode b_Printer_putBeginning 21 = .ok (.invokestatic 92, 3) := by decide +kernel
theorem d_Printer_putBeginning_24 : decode b_Printer_putBeginning 24 = .ok (.ifCond .eq 20, 3) := by decide +kernel
theorem d_Printer_putBeginning_27 : decode b_Printer_putBeginning 27 = .ok (.aload_n 0, 1) := by decide +kernel
theorem d_Printer_putBeginning_28 : decode b_Printer_putBeginning 28 = .ok (.aload_n 1, 1) := by decide +kernel
theorem d_Printer_putBeginning_29 : decode b_Printer_putBeginning 29 = .ok (.getfield 65, 3) := by decide +kernel
theorem d_Printer_putBeginning_32 : decode b_Printer_putBeginning 32 = .ok (.invokestatic 96, 3) := by decide +kernel
theorem d_Printer_putBeginning_35 : decode b_Printer_putBeginning 35 = .ok (.invokevirtual 33, 3) := by decide +kernel
theorem d_Printer_putBeginning_38 : decode b_Printer_putBeginning 38 = .ok (.aload_n 0, 1) := by decide +kernel
theorem d_Printer_putBeginning_39 : decode b_Printer_putBeginning 39 = .ok (.bipush 32, 2) := by decide +kernel
theorem d_Printer_putBeginning_41 : decode b_Printer_putBeginning 41 = .ok (.invokevirtual 27, 3) := by decide +kernel
theorem d_Printer_putBeginning_44 : decode b_Printer_putBeginning 44 = .ok (.aload_n 1, 1) := by decide +kernel
theorem d_Printer_putBeginning_45 : decode b_Printer_putBeginning 45 = .ok (.getfield 65, 3) := by decide +kernel
theorem d_Printer_putBeginning_48 : decode b_Printer_putBeginning 48 = .ok (.bipush 9, 2) := by decide +kernel
theorem d_Printer_putBeginning_50 : decode b_Printer_putBeginning 50 = .ok (.if_icmp .ne 24, 3) := by decide +kernel
theorem d_Printer_putBeginning_53 : decode b_Printer_putBeginning 53 = .ok (.aload_n 1, 1) := by decide +kernel
theorem d_Printer_putBeginning_54 : decode b_Printer_putBeginning 54 = .ok (.getfield 99, 3) := by decide +kernel
theorem d_Printer_putBeginning_57 : decode b_Printer_putBeginning 57 = .ok (.ifnull 17, 3) := by decide +kernel
theorem d_Printer_putBeginning_60 : decode b_Printer_putBeginning 60 = .ok (.aload_n 0, 1) := by decide +kernel
theorem d_Printer_putBeginning_61 : decode b_Printer_putBeginning 61 = .ok (.aload_n 1, 1) := by decide +kernel
theorem d_Printer_putBeginning_62 : decode b_Printer_putBeginning 62 = .ok (.getfield 99, 3) := by decide +kernel
theorem d_Printer_putBeginning_65 : decode b_Printer_putBeginning 65 = .ok (.invokevirtual 43, 3) := by decide +kernel
theorem d_Printer_putBeginning_68 : decode b_Printer_putBeginning 68 = .ok (.aload_n 0, 1) := by decide +kernel
theorem d_Printer_putBeginning_69 : decode b_Printer_putBeginning 69 = .ok (.ldc 102, 2) := by decide +kernel
theorem d_Printer_putBeginning_71 : decode b_Printer_putBeginning 71 = .ok (.invokevirtual 33, 3) := by decide +kernel
theorem d_Printer_putBeginning_74 : decode b_Printer_putBeginning 74 = .ok (.return_, 1) := by decide +kernel
theorem d_Row_isOfFeature_0 : decode b_Row_isOfFeature 0 = .ok (.aload_n 0, 1) := by decide +kernel
theorem d_Row_isOfFeature_1 : decode b_Row_isOfFeature 1 = .ok (.getfield 7, 3) := by decide +kernel
theorem d_Row_isOfFeature_4 : decode b_Row_isOfFeature 4 = .ok (.bipush 9, 2) := by decide +kernel
theorem d_Row_isOfFeature_6 : decode b_Row_isOfFeature 6 = .ok (.if_icmp .ne 25, 3) := by decide +kernel
theorem d_Row_isOfFeature_9 : decode b_Row_isOfFeature 9 = .ok (.aload_n 0, 1) := by decide +kernel
theorem d_Row_isOfFeature_10 : decode b_Row_isOfFeature 10 = .ok (.getfield 20, 3) := by decide +kernel
theorem d_Row_isOfFeature_13 : decode b_Row_isOfFeature 13 = .ok (.ifnull 18, 3) := by decide +kernel
theorem d_Row_isOfFeature_16 : decode b_Row_isOfFeature 16 = .ok (.aload_n 0, 1) := by decide +kernel
theorem d_Row_isOfFeature_17 : decode b_Row_isOfFeature 17 = .ok (.getfield 20, 3) := by decide +kernel
theorem d_Row_isOfFeature_20 : decode b_Row_isOfFeature 20 = .ok (.aload_n 1, 1) := by decide +kernel
theorem d_Row_isOfFeature_21 : decode b_Row_isOfFeature 21 = .ok (.invokevirtual 32, 3) := by decide +kernel
theorem d_Row_isOfFeature_24 : decode b_Row_isOfFeature 24 = .ok (.ifCond .eq 7, 3) := by decide +kernel
theorem d_Row_isOfFeature_27 : decode b_Row_isOfFeature 27 = .ok (.iconst 1, 1) := by decide +kernel
theorem d_Row_isOfFeature_28 : decode b_Row_isOfFeature 28 = .ok (.goto 4, 3) := by decide +kernel
theorem d_Row_isOfFeature_31 : decode b_Row_isOfFeature 31 = .ok (.iconst 0, 1) := by decide +kernel
theorem d_Row_isOfFeature_32 : decode b_Row_isOfFeature 32 = .ok (.ireturn, 1) := by decide +kernel
theorem d_Pack_hasNamesOf_0 : decode b_Pack_hasNamesOf 0 = .ok (.iconst 0, 1) := by decide +kernel
theorem d_Pack_hasNamesOf_1 : decode b_Pack_hasNamesOf 1 = .ok (.istore_n 2, 1) := by decide +kernel
theorem d_Pack_hasNamesOf_2 : decode b_Pack_hasNamesOf 2 = .ok (.iload_n 2, 1) := by decide +kernel
theorem d_Pack_hasNamesOf_3 : decode b_Pack_hasNamesOf 3 = .ok (.aload_n 0, 1) := by decide +kernel
theorem d_Pack_hasNamesOf_4 : decode b_Pack_hasNamesOf 4 = .ok (.getfield 21, 3) := by decide +kernel
theorem d_Pack_hasNamesOf_7 : decode b_Pack_hasNamesOf 7 = .ok (.arraylength, 1) := by decide +kernel
theorem d_Pack_hasNamesOf_8 : decode b_Pack_hasNamesOf 8 = .ok (.if_icmp .ge 24, 3) := by decide +kernel
theorem d_Pack_hasNamesOf_11 : decode b_Pack_hasNamesOf 11 = .ok (.aload_n 0, 1) := by decide +kernel
theorem d_Pack_hasNamesOf_12 : decode b_Pack_hasNamesOf 12 = .ok (.getfield 21, 3) := by decide +kernel
theorem d_Pack_hasNamesOf_15 : decode b_Pack_hasNamesOf 15 = .ok (.iload_n 2, 1) := by decide +kernel
theorem d_Pack_hasNamesOf_16 : decode b_Pack_hasNamesOf 16 = .ok (.aaload, 1) := by decide +kernel
theorem d_Pack_hasNamesOf_17 : decode b_Pack_hasNamesOf 17 = .ok (.aload_n 1, 1) := by decide +kernel
theorem d_Pack_hasNamesOf_18 : decode b_Pack_hasNamesOf 18 = .ok (.invokevirtual 44, 3) := by decide +kernel
theorem d_Pack_hasNamesOf_21 : decode b_Pack_hasNamesOf 21 = .ok (.ifCond .eq 5, 3) := by decide +kernel
theorem d_Pack_hasNamesOf_24 : decode b_Pack_hasNamesOf 24 = .ok (.iconst 1, 1) := by decide +kernel
theorem d_Pack_hasNamesOf_25 : decode b_Pack_hasNamesOf 25 = .ok (.ireturn, 1) := by decide +kernel
theorem d_Pack_hasNamesOf_26 : decode b_Pack_hasNamesOf 26 = .ok (.iinc 2 1, 3) := by decide +kernel
theorem d_Pack_hasNamesOf_29 : decode b_Pack_hasNamesOf 29 = .ok (.goto (-27), 3) := by decide +kernel
theorem d_Pack_hasNamesOf_32 : decode b_Pack_hasNamesOf 32 = .ok (.iconst 0, 1) := by decide +kernel
theorem d_Pack_hasNamesOf_33 : decode b_Pack_hasNamesOf 33 = .ok (.ireturn, 1) := by decide +kernel
theorem d_Printer_putBareFeatures_0 : decode b_Printer_putBareFeatures 0 = .ok (.iconst 0, 1) := by decide +kernel
theorem d_Printer_putBareFeatures_1 : decode b_Printer_putBareFeatures 1 = .ok (.istore_n 2, 1) := by decide +kernel
theorem d_Printer_putBareFeatures_2 : decode b_Printer_putBareFeatures 2 = .ok (.iload_n 2, 1) := by decide +kernel
theorem d_Printer_putBareFeatures_3 : decode b_Printer_putBareFeatures 3 = .ok (.aload_n 1, 1) := by decide +kernel
theorem d_Printer_putBareFeatures_4 : decode b_Printer_putBareFeatures 4 = .ok (.getfield 120, 3) := by decide +kernel
theorem d_Printer_putBareFeatures_7 : decode b_Printer_putBareFeatures 7 = .ok (.arraylength, 1) := by decide +kernel
theorem d_Printer_putBareFeatures_8 : decode b_Printer_putBareFeatures 8 = .ok (.if_icmp .ge 44, 3) := by decide +kernel
theorem d_Printer_putBareFeatures_11 : decode b_Printer_putBareFeatures 11 = .ok (.aload_n 1, 1) := by decide +kernel
theorem d_Printer_putBareFeatures_12 : decode b_Printer_putBareFeatures 12 = .ok (.aload_n 1, 1) := by decide +kernel
theorem d_Printer_putBareFeatures_13 : decode b_Printer_putBareFeatures 13 = .ok (.getfield 120, 3) := by decide +kernel
theorem d_Printer_putBareFeatures_16 : decode b_Printer_putBareFeatures 16 = .ok (.iload_n 2, 1) := by decide +kernel
theorem d_Printer_putBareFeatures_17 : decode b_Printer_putBareFeatures 17 = .ok (.aaload, 1) := by decide +kernel
theorem d_Printer_putBareFeatures_18 : decode b_Printer_putBareFeatures 18 = .ok (.invokevirtual 124, 3) := by decide +kernel
theorem d_Printer_putBareFeatures_21 : decode b_Printer_putBareFeatures 21 = .ok (.ifCond .ne 25, 3) := by decide +kernel
theorem d_Printer_putBareFeatures_24 : decode b_Printer_putBareFeatures 24 = .ok (.aload_n 0, 1) := by decide +kernel
theorem d_Printer_putBareFeatures_25 : decode b_Printer_putBareFeatures 25 = .ok (.ldc 128, 2) := by decide +kernel
theorem d_Printer_putBareFeatures_27 : decode b_Printer_putBareFeatures 27 = .ok (.invokevirtual 33, 3) := by decide +kernel
theorem d_Printer_putBareFeatures_30 : decode b_Printer_putBareFeatures 30 = .ok (.aload_n 0, 1) := by decide +kernel
theorem d_Printer_putBareFeatures_31 : decode b_Printer_putBareFeatures 31 = .ok (.aload_n 1, 1) := by decide +kernel
theorem d_Printer_putBareFeatures_32 : decode b_Printer_putBareFeatures 32 = .ok (.getfield 120, 3) := by decide +kernel
theorem d_Printer_putBareFeatures_35 : decode b_Printer_putBareFeatures 35 = .ok (.iload_n 2, 1) := by decide +kernel
theorem d_Printer_putBareFeatures_36 : decode b_Printer_putBareFeatures 36 = .ok (.aaload, 1) := by decide +kernel
theorem d_Printer_putBareFeatures_37 : decode b_Printer_putBareFeatures 37 = .ok (.invokevirtual 43, 3) := by decide +kernel
theorem d_Printer_putBareFeatures_40 : decode b_Printer_putBareFeatures 40 = .ok (.aload_n 0, 1) := by decide +kernel
theorem d_Printer_putBareFeatures_41 : decode b_Printer_putBareFeatures 41 = .ok (.bipush 58, 2) := by decide +kernel
theorem d_Printer_putBareFeatures_43 : decode b_Printer_putBareFeatures 43 = .ok (.invokevirtual 27, 3) := by decide +kernel
theorem d_Printer_putBareFeatures_46 : decode b_Printer_putBareFeatures 46 = .ok (.iinc 2 1, 3) := by decide +kernel
theorem d_Printer_putBareFeatures_49 : decode b_Printer_putBareFeatures 49 = .ok (.goto (-47), 3) := by decide +kernel
theorem d_Printer_putBareFeatures_52 : decode b_Printer_putBareFeatures 52 = .ok (.return_, 1) := by decide +kernel
theorem d_Row_sharesTextRow_0 : decode b_Row_sharesTextRow 0 = .ok (.aload_n 0, 1) := by decide +kernel
theorem d_Row_sharesTextRow_1 : decode b_Row_sharesTextRow 1 = .ok (.getfield 7, 3) := by decide +kernel
theorem d_Row_sharesTextRow_4 : decode b_Row_sharesTextRow 4 = .ok (.aload_n 1, 1) := by decide +kernel
theorem d_Row_sharesTextRow_5 : decode b_Row_sharesTextRow 5 = .ok (.getfield 7, 3) := by decide +kernel
theorem d_Row_sharesTextRow_8 : decode b_Row_sharesTextRow 8 = .ok (.if_icmp .eq 5, 3) := by decide +kernel
theorem d_Row_sharesTextRow_11 : decode b_Row_sharesTextRow 11 = .ok (.iconst 0, 1) := by decide +kernel
theorem d_Row_sharesTextRow_12 : decode b_Row_sharesTextRow 12 = .ok (.ireturn, 1) := by decide +kernel
theorem d_Row_sharesTextRow_13 : decode b_Row_sharesTextRow 13 = .ok (.aload_n 0, 1) := by decide +kernel
theorem d_Row_sharesTextRow_14 : decode b_Row_sharesTextRow 14 = .ok (.getfield 7, 3) := by decide +kernel
theorem d_Row_sharesTextRow_17 : decode b_Row_sharesTextRow 17 = .ok (.bipush 8, 2) := by decide +kernel
theorem d_Row_sharesTextRow_19 : decode b_Row_sharesTextRow 19 = .ok (.if_icmp .ne 20, 3) := by decide +kernel
theorem d_Row_sharesTextRow_22 : decode b_Row_sharesTextRow 22 = .ok (.aload_n 0, 1) := by decide +kernel
theorem d_Row_sharesTextRow_23 : decode b_Row_sharesTextRow 23 = .ok (.getfield 13, 3) := by decide +kernel
theorem d_Row_sharesTextRow_26 : decode b_Row_sharesTextRow 26 = .ok (.aload_n 1, 1) := by decide +kernel
theorem d_Row_sharesTextRow_27 : decode b_Row_sharesTextRow 27 = .ok (.getfield 13, 3) := by decide +kernel
theorem d_Row_sharesTextRow_30 : decode b_Row_sharesTextRow 30 = .ok (.if_icmp .ne 7, 3) := by decide +kernel
theorem d_Row_sharesTextRow_33 : decode b_Row_sharesTextRow 33 = .ok (.iconst 1, 1) := by decide +kernel
theorem d_Row_sharesTextRow_34 : decode b_Row_sharesTextRow 34 = .ok (.goto 4, 3) := by decide +kernel
theorem d_Row_sharesTextRow_37 : decode b_Row_sharesTextRow 37 = .ok (.iconst 0, 1) := by decide +kernel
theorem d_Row_sharesTextRow_38 : decode b_Row_sharesTextRow 38 = .ok (.ireturn, 1) := by decide +kernel
theorem d_Row_sharesTextRow_39 : decode b_Row_sharesTextRow 39 = .ok (.aload_n 0, 1) := by decide +kernel
theorem d_Row_sharesTextRow_40 : decode b_Row_sharesTextRow 40 = .ok (.getfield 7, 3) := by decide +kernel
theorem d_Row_sharesTextRow_43 : decode b_Row_sharesTextRow 43 = .ok (.invokestatic 72, 3) := by decide +kernel
theorem d_Row_sharesTextRow_46 : decode b_Row_sharesTextRow 46 = .ok (.ifCond .ne 21, 3) := by decide +kernel
theorem d_Row_sharesTextRow_49 : decode b_Row_sharesTextRow 49 = .ok (.aload_n 0, 1) := by decide +kernel
theorem d_Row_sharesTextRow_50 : decode b_Row_sharesTextRow 50 = .ok (.getfield 20, 3) := by decide +kernel
theorem d_Row_sharesTextRow_53 : decode b_Row_sharesTextRow 53 = .ok (.ifnull 18, 3) := by decide +kernel
theorem d_Row_sharesTextRow_56 : decode b_Row_sharesTextRow 56 = .ok (.aload_n 1, 1) := by decide +kernel
theorem d_Row_sharesTextRow_57 : decode b_Row_sharesTextRow 57 = .ok (.aload_n 0, 1) := by decide +kernel
theorem d_Row_sharesTextRow_58 : decode b_Row_sharesTextRow 58 = .ok (.getfield 20, 3) := by decide +kernel
theorem d_Row_sharesTextRow_61 : decode b_Row_sharesTextRow 61 = .ok (.invokevirtual 75, 3) := by decide +kernel
theorem d_Row_sharesTextRow_64 : decode b_Row_sharesTextRow 64 = .ok (.ifCond .eq 7, 3) := by decide +kernel
theorem d_Row_sharesTextRow_67 : decode b_Row_sharesTextRow 67 = .ok (.iconst 1, 1) := by decide +kernel
theorem d_Row_sharesTextRow_68 : decode b_Row_sharesTextRow 68 = .ok (.goto 4, 3) := by decide +kernel
theorem d_Row_sharesTextRow_71 : decode b_Row_sharesTextRow 71 = .ok (.iconst 0, 1) := by decide +kernel
theorem d_Row_sharesTextRow_72 : decode b_Row_sharesTextRow 72 = .ok (.ireturn, 1) := by decide +kernel
theorem d_Printer_printPack_0 : decode b_Printer_printPack 0 = .ok (.aload_n 0, 1) := by decide +kernel
theorem d_Printer_printPack_1 : decode b_Printer_printPack 1 = .ok (.iconst 0, 1) := by decide +kernel
theorem d_Printer_printPack_2 : decode b_Printer_printPack 2 = .ok (.putfield 15, 3) := by decide +kernel
theorem d_Printer_printPack_5 : decode b_Printer_printPack 5 = .ok (.aload_n 0, 1) := by decide +kernel
theorem d_Printer_printPack_6 : decode b_Printer_printPack 6 = .ok (.ldc 31, 2) := by decide +kernel
theorem d_Printer_printPack_8 : decode b_Printer_printPack 8 = .ok (.invokevirtual 33, 3) := by decide +kernel
theorem d_Printer_printPack_11 : decode b_Printer_printPack 11 = .ok (.aload_n 0, 1) := by decide +kernel
theorem d_Printer_printPack_12 : decode b_Printer_printPack 12 = .ok (.aload_n 1, 1) := by decide +kernel
theorem d_Printer_printPack_13 : decode b_Printer_printPack 13 = .ok (.getfield 37, 3) := by decide +kernel
theorem d_Printer_printPack_16 : decode b_Printer_printPack 16 = .ok (.invokevirtual 43, 3) := by decide +kernel
theorem d_Printer_printPack_19 : decode b_Printer_printPack 19 = .ok (.aload_n 0, 1) := by decide +kernel
theorem d_Printer_printPack_20 : decode b_Printer_printPack 20 = .ok (.bipush 32, 2) := by decide +kernel
theorem d_Printer_printPack_22 : decode b_Printer_printPack 22 = .ok (.invokevirtual 27, 3) := by decide +kernel
theorem d_Printer_printPack_25 : decode b_Printer_printPack 25 = .ok (.aload_n 0, 1) := by decide +kernel
theorem d_Printer_printPack_26 : decode b_Printer_printPack 26 = .ok (.aload_n 1, 1) := by decide +kernel
theorem d_Printer_printPack_27 : decode b_Printer_printPack 27 = .ok (.getfield 47, 3) := by decide +kernel
theorem d_Printer_printPack_30 : decode b_Printer_printPack 30 = .ok (.invokevirtual 51, 3) := by decide +kernel
theorem d_Printer_printPack_33 : decode b_Printer_printPack 33 = .ok (.iconst 0, 1) := by decide +kernel
theorem d_Printer_printPack_34 : decode b_Printer_printPack 34 = .ok (.istore_n 2, 1) := by decide +kernel
theorem d_Printer_printPack_35 : decode b_Printer_printPack 35 = .ok (.iload_n 2, 1) := by decide +kernel
theorem d_Printer_printPack_36 : decode b_Printer_printPack 36 = .ok (.aload_n 1, 1) := by decide +kernel
theorem d_Printer_printPack_37 : decode b_Printer_printPack 37 = .ok (.getfield 55, 3) := by decide +kernel
theorem d_Printer_printPack_40 : decode b_Printer_printPack 40 = .ok (.arraylength, 1) := by decide +kernel
theorem d_Printer_printPack_41 : decode b_Printer_printPack 41 = .ok (.if_icmp .ge 82, 3) := by decide +kernel
theorem d_Printer_printPack_44 : decode b_Printer_printPack 44 = .ok (.aload_n 1, 1) := by decide +kernel
theorem d_Printer_printPack_45 : decode b_Printer_printPack 45 = .ok (.getfield 55, 3) := by decide +kernel
theorem d_Printer_printPack_48 : decode b_Printer_printPack 48 = .ok (.iload_n 2, 1) := by decide +kernel
theorem d_Printer_printPack_49 : decode b_Printer_printPack 49 = .ok (.aaload, 1) := by decide +kernel
theorem d_Printer_printPack_50 : decode b_Printer_printPack 50 = .ok (.astore_n 3, 1) := by decide +kernel
theorem d_Printer_printPack_51 : decode b_Printer_printPack 51 = .ok (.iload_n 2, 1) := by decide +kernel
theorem d_Printer_printPack_52 : decode b_Printer_printPack 52 = .ok (.ifCond .le 41, 3) := by decide +kernel
theorem d_Printer_printPack_55 : decode b_Printer_printPack 55 = .ok (.aload_n 1, 1) := by decide +kernel
theorem d_Printer_printPack_56 : decode b_Printer_printPack 56 = .ok (.getfield 55, 3) := by decide +kernel
theorem d_Printer_printPack_59 : decode b_Printer_printPack 59 = .ok (.iload_n 2, 1) := by decide +kernel
theorem d_Printer_printPack_60 : decode b_Printer_printPack 60 = .ok (.iconst 1, 1) := by decide +kernel
theorem d_Printer_printPack_61 : decode b_Printer_printPack 61 = .ok (.isub, 1) := by decide +kernel
theorem d_Printer_printPack_62 : decode b_Printer_printPack 62 = .ok (.aaload, 1) := by decide +kernel
theorem d_Printer_printPack_63 : decode b_Printer_printPack 63 = .ok (.aload_n 3, 1) := by decide +kernel
theorem d_Printer_printPack_64 : decode b_Printer_printPack 64 = .ok (.invokevirtual 59, 3) := by decide +kernel
theorem d_Printer_printPack_67 : decode b_Printer_printPack 67 = .ok (.ifCond .eq 26, 3) := by decide +kernel
theorem d_Printer_printPack_70 : decode b_Printer_printPack 70 = .ok (.aload_n 0, 1) := by decide +kernel
theorem d_Printer_printPack_71 : decode b_Printer_printPack 71 = .ok (.aload_n 3, 1) := by decide +kernel
theorem d_Printer_printPack_72 : decode b_Printer_printPack 72 = .ok (.getfield 65, 3) := by decide +kernel
theorem d_Printer_printPack_75 : decode b_Printer_printPack 75 = .ok (.bipush 8, 2) := by decide +kernel
theorem d_Printer_printPack_77 : decode b_Printer_printPack 77 = .ok (.if_icmp .ne 8, 3) := by decide +kernel
theorem d_Printer_printPack_80 : decode b_Printer_printPack 80 = .ok (.ldc 70, 2) := by decide +kernel
theorem d_Printer_printPack_82 : decode b_Printer_printPack 82 = .ok (.goto 5, 3) := by decide +kernel
theorem d_Printer_printPack_85 : decode b_Printer_printPack 85 = .ok (.ldc 72, 2) := by decide +kernel
theorem d_Printer_printPack_87 : decode b_Printer_printPack 87 = .ok (.invokevirtual 33, 3) := by decide +kernel
theorem d_Printer_printPack_90 : decode b_Printer_printPack 90 = .ok (.goto 14, 3) := by decide +kernel
theorem d_Printer_printPack_93 : decode b_Printer_printPack 93 = .ok (.aload_n 0, 1) := by decide +kernel
theorem d_Printer_printPack_94 : decode b_Printer_printPack 94 = .ok (.ldc 74, 2) := by decide +kernel
theorem d_Printer_printPack_96 : decode b_Printer_printPack 96 = .ok (.invokevirtual 33, 3) := by decide +kernel
theorem d_Printer_printPack_99 : decode b_Printer_printPack 99 = .ok (.aload_n 0, 1) := by decide +kernel
theorem d_Printer_printPack_100 : decode b_Printer_printPack 100 = .ok (.aload_n 3, 1) := by decide +kernel
theorem d_Printer_printPack_101 : decode b_Printer_printPack 101 = .ok (.invokevirtual 76, 3) := by decide +kernel
theorem d_Printer_printPack_104 : decode b_Printer_printPack 104 = .ok (.aload_n 0, 1) := by decide +kernel
theorem d_Printer_printPack_105 : decode b_Printer_printPack 105 = .ok (.aload_n 3, 1) := by decide +kernel
theorem d_Printer_printPack_106 : decode b_Printer_printPack 106 = .ok (.getfield 80, 3) := by decide +kernel
theorem d_Printer_printPack_109 : decode b_Printer_printPack 109 = .ok (.invokevirtual 43, 3) := by decide +kernel
theorem d_Printer_printPack_112 : decode b_Printer_printPack 112 = .ok (.aload_n 0, 1) := by decide +kernel
theorem d_Printer_printPack_113 : decode b_Printer_printPack 113 = .ok (.aload_n 3, 1) := by decide +kernel
theorem d_Printer_printPack_114 : decode b_Printer_printPack 114 = .ok (.invokevirtual 81, 3) := by decide +kernel
theorem d_Printer_printPack_117 : decode b_Printer_printPack 117 = .ok (.iinc 2 1, 3) := by decide +kernel
theorem d_Printer_printPack_120 : decode b_Printer_printPack 120 = .ok (.goto (-85), 3) := by decide +kernel
theorem d_Printer_printPack_123 : decode b_Printer_printPack 123 = .ok (.aload_n 0, 1) := by decide +kernel
theorem d_Printer_printPack_124 : decode b_Printer_printPack 124 = .ok (.aload_n 1, 1) := by decide +kernel
theorem d_Printer_printPack_125 : decode b_Printer_printPack 125 = .ok (.invokevirtual 84, 3) := by decide +kernel
theorem d_Printer_printPack_128 : decode b_Printer_printPack 128 = .ok (.aload_n 0, 1) := by decide +kernel
theorem d_Printer_printPack_129 : decode b_Printer_printPack 129 = .ok (.bipush 59, 2) := by decide +kernel
theorem d_Printer_printPack_131 : decode b_Printer_printPack 131 = .ok (.invokevirtual 27, 3) := by decide +kernel
theorem d_Printer_printPack_134 : decode b_Printer_printPack 134 = .ok (.return_, 1) := by decide +kernel
theorem d_PR_print_0 : decode b_PR_print 0 = .ok (.aload_n 0, 1) := by decide +kernel
theorem d_PR_print_1 : decode b_PR_print 1 = .ok (.iload_n 1, 1) := by decide +kernel
theorem d_PR_print_2 : decode b_PR_print 2 = .ok (.invokevirtual 75, 3) := by decide +kernel
theorem d_PR_print_5 : decode b_PR_print 5 = .ok (.astore_n 2, 1) := by decide +kernel
theorem d_PR_print_6 : decode b_PR_print 6 = .ok (.aload_n 2, 1) := by decide +kernel
theorem d_PR_print_7 : decode b_PR_print 7 = .ok (.ifnonnull 5, 3) := by decide +kernel
theorem d_PR_print_10 : decode b_PR_print 10 = .ok (.iconst (-1), 1) := by decide +kernel
theorem d_PR_print_11 : decode b_PR_print 11 = .ok (.ireturn, 1) := by decide +kernel
theorem d_PR_print_12 : decode b_PR_print 12 = .ok (.aload_n 0, 1) := by decide +kernel
theorem d_PR_print_13 : decode b_PR_print 13 = .ok (.getfield 30, 3) := by decide +kernel
theorem d_PR_print_16 : decode b_PR_print 16 = .ok (.aload_n 2, 1) := by decide +kernel
theorem d_PR_print_17 : decode b_PR_print 17 = .ok (.invokevirtual 155, 3) := by decide +kernel
theorem d_PR_print_20 : decode b_PR_print 20 = .ok (.aload_n 0, 1) := by decide +kernel
theorem d_PR_print_21 : decode b_PR_print 21 = .ok (.getfield 30, 3) := by decide +kernel
theorem d_PR_print_24 : decode b_PR_print 24 = .ok (.getfield 159, 3) := by decide +kernel
theorem d_PR_print_27 : decode b_PR_print 27 = .ok (.ireturn, 1) := by decide +kernel
theorem d_Printer_printFolded_0 : decode b_Printer_printFolded 0 = .ok (.aload_n 0, 1) := by decide +kernel
theorem d_Printer_printFolded_1 : decode b_Printer_printFolded 1 = .ok (.iconst 0, 1) := by decide +kernel
theorem d_Printer_printFolded_2 : decode b_Printer_printFolded 2 = .ok (.putfield 15, 3) := by decide +kernel
theorem d_Printer_printFolded_5 : decode b_Printer_printFolded 5 = .ok (.iconst 0, 1) := by decide +kernel
theorem d_Printer_printFolded_6 : decode b_Printer_printFolded 6 = .ok (.istore_n 2, 1) := by decide +kernel
theorem d_Printer_printFolded_7 : decode b_Printer_printFolded 7 = .ok (.iload_n 2, 1) := by decide +kernel
theorem d_Printer_printFolded_8 : decode b_Printer_printFolded 8 = .ok (.aload_n 1, 1) := by decide +kernel
theorem d_Printer_printFolded_9 : decode b_Printer_printFolded 9 = .ok (.getfield 19, 3) := by decide +kernel
theorem d_Printer_printFolded_12 : decode b_Printer_printFolded 12 = .ok (.if_icmp .ge 19, 3) := by decide +kernel
theorem d_Printer_printFolded_15 : decode b_Printer_printFolded 15 = .ok (.aload_n 0, 1) := by decide +kernel
theorem d_Printer_printFolded_16 : decode b_Printer_printFolded 16 = .ok (.aload_n 1, 1) := by decide +kernel
theorem d_Printer_printFolded_17 : decode b_Printer_printFolded 17 = .ok (.getfield 24, 3) := by decide +kernel
theorem d_Printer_printFolded_20 : decode b_Printer_printFolded 20 = .ok (.iload_n 2, 1) := by decide +kernel
theorem d_Printer_printFolded_21 : decode b_Printer_printFolded 21 = .ok (.caload, 1) := by decide +kernel
theorem d_Printer_printFolded_22 : decode b_Printer_printFolded 22 = .ok (.invokevirtual 27, 3) := by decide +kernel
theorem d_Printer_printFolded_25 : decode b_Printer_printFolded 25 = .ok (.iinc 2 1, 3) := by decide +kernel
theorem d_Printer_printFolded_28 : decode b_Printer_printFolded 28 = .ok (.goto (-21), 3) := by decide +kernel
theorem d_Printer_printFolded_31 : decode b_Printer_printFolded 31 = .ok (.return_, 1) := by decide +kernel
theorem d_Scan_takeEnd_0 : decode b_Scan_takeEnd 0 = .ok (.aload_n 0, 1) := by decide +kernel
theorem d_Scan_takeEnd_1 : decode b_Scan_takeEnd 1 = .ok (.invokevirtual 34, 3) := by decide +kernel
theorem d_Scan_takeEnd_4 : decode b_Scan_takeEnd 4 = .ok (.ifCond .ne 14, 3) := by decide +kernel
theorem d_Scan_takeEnd_7 : decode b_Scan_takeEnd 7 = .ok (.aload_n 0, 1) := by decide +kernel
theorem d_Scan_takeEnd_8 : decode b_Scan_takeEnd 8 = .ok (.aload_n 0, 1) := by decide +kernel
theorem d_Scan_takeEnd_9 : decode b_Scan_takeEnd 9 = .ok (.getfield 19, 3) := by decide +kernel
theorem d_Scan_takeEnd_12 : decode b_Scan_takeEnd 12 = .ok (.invokevirtual 38, 3) := by decide +kernel
theorem d_Scan_takeEnd_15 : decode b_Scan_takeEnd 15 = .ok (.ifCond .eq 7, 3) := by decide +kernel
theorem d_Scan_takeEnd_18 : decode b_Scan_takeEnd 18 = .ok (.iconst 1, 1) := by decide +kernel
theorem d_Scan_takeEnd_19 : decode b_Scan_takeEnd 19 = .ok (.goto 4, 3) := by decide +kernel
theorem d_Scan_takeEnd_22 : decode b_Scan_takeEnd 22 = .ok (.iconst 0, 1) := by decide +kernel
theorem d_Scan_takeEnd_23 : decode b_Scan_takeEnd 23 = .ok (.ireturn, 1) := by decide +kernel
theorem d_PR_fold_0 : decode b_PR_fold 0 = .ok (.aload_n 0, 1) := by decide +kernel
theorem d_PR_fold_1 : decode b_PR_fold 1 = .ok (.getfield 20, 3) := by decide +kernel
theorem d_PR_fold_4 : decode b_PR_fold 4 = .ok (.invokevirtual 53, 3) := by decide +kernel
theorem d_PR_fold_7 : decode b_PR_fold 7 = .ok (.aload_n 0, 1) := by decide +kernel
theorem d_PR_fold_8 : decode b_PR_fold 8 = .ok (.getfield 20, 3) := by decide +kernel
theorem d_PR_fold_11 : decode b_PR_fold 11 = .ok (.invokevirtual 162, 3) := by decide +kernel
theorem d_PR_fold_14 : decode b_PR_fold 14 = .ok (.ifCond .eq 17, 3) := by decide +kernel
theorem d_PR_fold_17 : decode b_PR_fold 17 = .ok (.aload_n 0, 1) := by decide +kernel
theorem d_PR_fold_18 : decode b_PR_fold 18 = .ok (.getfield 20, 3) := by decide +kernel
theorem d_PR_fold_21 : decode b_PR_fold 21 = .ok (.invokevirtual 165, 3) := by decide +kernel
theorem d_PR_fold_24 : decode b_PR_fold 24 = .ok (.ifCond .eq 7, 3) := by decide +kernel
theorem d_PR_fold_27 : decode b_PR_fold 27 = .ok (.iconst 1, 1) := by decide +kernel
theorem d_PR_fold_28 : decode b_PR_fold 28 = .ok (.goto 4, 3) := by decide +kernel
theorem d_PR_fold_31 : decode b_PR_fold 31 = .ok (.iconst 0, 1) := by decide +kernel
theorem d_PR_fold_32 : decode b_PR_fold 32 = .ok (.istore_n 1, 1) := by decide +kernel
theorem d_PR_fold_33 : decode b_PR_fold 33 = .ok (.aload_n 0, 1) := by decide +kernel
theorem d_PR_fold_34 : decode b_PR_fold 34 = .ok (.getfield 20, 3) := by decide +kernel
theorem d_PR_fold_37 : decode b_PR_fold 37 = .ok (.invokevirtual 60, 3) := by decide +kernel
theorem d_PR_fold_40 : decode b_PR_fold 40 = .ok (.iload_n 1, 1) := by decide +kernel
theorem d_PR_fold_41 : decode b_PR_fold 41 = .ok (.ifCond .ne 11, 3) := by decide +kernel
theorem d_PR_fold_44 : decode b_PR_fold 44 = .ok (.aload_n 0, 1) := by decide +kernel
theorem d_PR_fold_45 : decode b_PR_fold 45 = .ok (.getfield 20, 3) := by decide +kernel
theorem d_PR_fold_48 : decode b_PR_fold 48 = .ok (.invokevirtual 63, 3) := by decide +kernel
theorem d_PR_fold_51 : decode b_PR_fold 51 = .ok (.ireturn, 1) := by decide +kernel
theorem d_PR_fold_52 : decode b_PR_fold 52 = .ok (.aload_n 0, 1) := by decide +kernel
theorem d_PR_fold_53 : decode b_PR_fold 53 = .ok (.getfield 30, 3) := by decide +kernel
theorem d_PR_fold_56 : decode b_PR_fold 56 = .ok (.aload_n 0, 1) := by decide +kernel
theorem d_PR_fold_57 : decode b_PR_fold 57 = .ok (.getfield 20, 3) := by decide +kernel
theorem d_PR_fold_60 : decode b_PR_fold 60 = .ok (.invokevirtual 168, 3) := by decide +kernel
theorem d_PR_fold_63 : decode b_PR_fold 63 = .ok (.invokevirtual 172, 3) := by decide +kernel
theorem d_PR_fold_66 : decode b_PR_fold 66 = .ok (.aload_n 0, 1) := by decide +kernel
theorem d_PR_fold_67 : decode b_PR_fold 67 = .ok (.getfield 30, 3) := by decide +kernel
theorem d_PR_fold_70 : decode b_PR_fold 70 = .ok (.getfield 159, 3) := by decide +kernel
theorem d_PR_fold_73 : decode b_PR_fold 73 = .ok (.ireturn, 1) := by decide +kernel
theorem d_PR_at_0 : decode b_PR_at 0 = .ok (.iload_n 1, 1) := by decide +kernel
theorem d_PR_at_1 : decode b_PR_at 1 = .ok (.ifCond .lt 14, 3) := by decide +kernel
theorem d_PR_at_4 : decode b_PR_at 4 = .ok (.iload_n 1, 1) := by decide +kernel
theorem d_PR_at_5 : decode b_PR_at 5 = .ok (.aload_n 0, 1) := by decide +kernel
theorem d_PR_at_6 : decode b_PR_at 6 = .ok (.getfield 30, 3) := by decide +kernel
theorem d_PR_at_9 : decode b_PR_at 9 = .ok (.getfield 159, 3) := by decide +kernel
theorem d_PR_at_12 : decode b_PR_at 12 = .ok (.if_icmp .lt 7, 3) := by decide +kernel
theorem d_PR_at_15 : decode b_PR_at 15 = .ok (.iconst (-1), 1) := by decide +kernel
theorem d_PR_at_16 : decode b_PR_at 16 = .ok (.goto 12, 3) := by decide +kernel
theorem d_PR_at_19 : decode b_PR_at 19 = .ok (.aload_n 0, 1) := by decide +kernel
theorem d_PR_at_20 : decode b_PR_at 20 = .ok (.getfield 30, 3) := by decide +kernel
theorem d_PR_at_23 : decode b_PR_at 23 = .ok (.getfield 176, 3) := by decide +kernel
theorem d_PR_at_26 : decode b_PR_at 26 = .ok (.iload_n 1, 1) := by decide +kernel
theorem d_PR_at_27 : decode b_PR_at 27 = .ok (.caload, 1) := by decide +kernel
theorem d_PR_at_28 : decode b_PR_at 28 = .ok (.ireturn, 1) := by decide +kernel
theorem d_MD_init_0 : decode b_MD_init 0 = .ok (.aload_n 0, 1) := by decide +kernel
theorem d_MD_init_1 : decode b_MD_init 1 = .ok (.invokespecial 1, 3) := by decide +kernel
theorem d_MD_init_4 : decode b_MD_init 4 = .ok (.aload_n 0, 1) := by decide +kernel
theorem d_MD_init_5 : decode b_MD_init 5 = .ok (.sipush 2000, 3) := by decide +kernel
theorem d_MD_init_8 : decode b_MD_init 8 = .ok (.newarray .byte, 2) := by decide +kernel
theorem d_MD_init_10 : decode b_MD_init 10 = .ok (.putfield 7, 3) := by decide +kernel
theorem d_MD_init_13 : decode b_MD_init 13 = .ok (.aload_n 0, 1) := by decide +kernel
theorem d_MD_init_14 : decode b_MD_init 14 = .ok (.iconst 5, 1) := by decide +kernel
theorem d_MD_init_15 : decode b_MD_init 15 = .ok (.newarray .long, 2) := by decide +kernel
theorem d_MD_init_17 : decode b_MD_init 17 = .ok (.dup, 1) := by decide +kernel
theorem d_MD_init_18 : decode b_MD_init 18 = .ok (.iconst 0, 1) := by decide +kernel
theorem d_MD_init_19 : decode b_MD_init 19 = .ok (.ldc2_w 13, 3) := by decide +kernel
theorem d_MD_init_22 : decode b_MD_init 22 = .ok (.lastore, 1) := by decide +kernel
theorem d_MD_init_23 : decode b_MD_init 23 = .ok (.dup, 1) := by decide +kernel
theorem d_MD_init_24 : decode b_MD_init 24 = .ok (.iconst 1, 1) := by decide +kernel
theorem d_MD_init_25 : decode b_MD_init 25 = .ok (.ldc2_w 15, 3) := by decide +kernel
theorem d_MD_init_28 : decode b_MD_init 28 = .ok (.lastore, 1) := by decide +kernel
theorem d_MD_init_29 : decode b_MD_init 29 = .ok (.dup, 1) := by decide +kernel
theorem d_MD_init_30 : decode b_MD_init 30 = .ok (.iconst 2, 1) := by decide +kernel
theorem d_MD_init_31 : decode b_MD_init 31 = .ok (.ldc2_w 17, 3) := by decide +kernel
theorem d_MD_init_34 : decode b_MD_init 34 = .ok (.lastore, 1) := by decide +kernel
theorem d_MD_init_35 : decode b_MD_init 35 = .ok (.dup, 1) := by decide +kernel
theorem d_MD_init_36 : decode b_MD_init 36 = .ok (.iconst 3, 1) := by decide +kernel
theorem d_MD_init_37 : decode b_MD_init 37 = .ok (.ldc2_w 19, 3) := by decide +kernel
theorem d_MD_init_40 : decode b_MD_init 40 = .ok (.lastore, 1) := by decide +kernel
theorem d_MD_init_41 : decode b_MD_init 41 = .ok (.dup, 1) := by decide +kernel
theorem d_MD_init_42 : decode b_MD_init 42 = .ok (.iconst 4, 1) := by decide +kernel
theorem d_MD_init_43 : decode b_MD_init 43 = .ok (.ldc2_w 21, 3) := by decide +kernel
theorem d_MD_init_46 : decode b_MD_init 46 = .ok (.lastore, 1) := by decide +kernel
theorem d_MD_init_47 : decode b_MD_init 47 = .ok (.putfield 23, 3) := by decide +kernel
theorem d_MD_init_50 : decode b_MD_init 50 = .ok (.aload_n 0, 1) := by decide +kernel
theorem d_MD_init_51 : decode b_MD_init 51 = .ok (.bipush 12, 2) := by decide +kernel
theorem d_MD_init_53 : decode b_MD_init 53 = .ok (.newarray .long, 2) := by decide +kernel
theorem d_MD_init_55 : decode b_MD_init 55 = .ok (.dup, 1) := by decide +kernel
theorem d_MD_init_56 : decode b_MD_init 56 = .ok (.iconst 0, 1) := by decide +kernel
theorem d_MD_init_57 : decode b_MD_init 57 = .ok (.ldc2_w 27, 3) := by decide +kernel
theorem d_MD_init_60 : decode b_MD_init 60 = .ok (.lastore, 1) := by decide +kernel
theorem d_MD_init_61 : decode b_MD_init 61 = .ok (.dup, 1) := by decide +kernel
theorem d_MD_init_62 : decode b_MD_init 62 = .ok (.iconst 1, 1) := by decide +kernel
theorem d_MD_init_63 : decode b_MD_init 63 = .ok (.ldc2_w 29, 3) := by decide +kernel
theorem d_MD_init_66 : decode b_MD_init 66 = .ok (.lastore, 1) := by decide +kernel
theorem d_MD_init_67 : decode b_MD_init 67 = .ok (.dup, 1) := by decide +kernel
theorem d_MD_init_68 : decode b_MD_init 68 = .ok (.iconst 2, 1) := by decide +kernel
theorem d_MD_init_69 : decode b_MD_init 69 = .ok (.ldc2_w 31, 3) := by decide +kernel
theorem d_MD_init_72 : decode b_MD_init 72 = .ok (.lastore, 1) := by decide +kernel
theorem d_MD_init_73 : decode b_MD_init 73 = .ok (.dup, 1) := by decide +kernel
theorem d_MD_init_74 : decode b_MD_init 74 = .ok (.iconst 3, 1) := by decide +kernel
theorem d_MD_init_75 : decode b_MD_init 75 = .ok (.ldc2_w 33, 3) := by decide +kernel
theorem d_MD_init_78 : decode b_MD_init 78 = .ok (.lastore, 1) := by decide +kernel
theorem d_MD_init_79 : decode b_MD_init 79 = .ok (.dup, 1) := by decide +kernel
theorem d_MD_init_80 : decode b_MD_init 80 = .ok (.iconst 4, 1) := by decide +kernel
theorem d_MD_init_81 : decode b_MD_init 81 = .ok (.ldc2_w 35, 3) := by decide +kernel
theorem d_MD_init_84 : decode b_MD_init 84 = .ok (.lastore, 1) := by decide +kernel
theorem d_MD_init_85 : decode b_MD_init 85 = .ok (.dup, 1) := by decide +kernel
theorem d_MD_init_86 : decode b_MD_init 86 = .ok (.iconst 5, 1) := by decide +kernel
theorem d_MD_init_87 : decode b_MD_init 87 = .ok (.ldc2_w 37, 3) := by decide +kernel
theorem d_MD_init_90 : decode b_MD_init 90 = .ok (.lastore, 1) := by decide +kernel
theorem d_MD_init_91 : decode b_MD_init 91 = .ok (.dup, 1) := by decide +kernel
theorem d_MD_init_92 : decode b_MD_init 92 = .ok (.bipush 6, 2) := by decide +kernel
theorem d_MD_init_94 : decode b_MD_init 94 = .ok (.ldc2_w 39, 3) := by decide +kernel
theorem d_MD_init_97 : decode b_MD_init 97 = .ok (.lastore, 1) := by decide +kernel
theorem d_MD_init_98 : decode b_MD_init 98 = .ok (.dup, 1) := by decide +kernel
theorem d_MD_init_99 : decode b_MD_init 99 = .ok (.bipush 7, 2) := by decide +kernel
theorem d_MD_init_101 : decode b_MD_init 101 = .ok (.ldc2_w 41, 3) := by decide +kernel
theorem d_MD_init_104 : decode b_MD_init 104 = .ok (.lastore, 1) := by decide +kernel
theorem d_MD_init_105 : decode b_MD_init 105 = .ok (.dup, 1) := by decide +kernel
theorem d_MD_init_106 : decode b_MD_init 106 = .ok (.bipush 8, 2) := by decide +kernel
theorem d_MD_init_108 : decode b_MD_init 108 = .ok (.ldc2_w 43, 3) := by decide +kernel
theorem d_MD_init_111 : decode b_MD_init 111 = .ok (.lastore, 1) := by decide +kernel
theorem d_MD_init_112 : decode b_MD_init 112 = .ok (.dup, 1) := by decide +kernel
theorem d_MD_init_113 : decode b_MD_init 113 = .ok (.bipush 9, 2) := by decide +kernel
theorem d_MD_init_115 : decode b_MD_init 115 = .ok (.ldc2_w 45, 3) := by decide +kernel
theorem d_MD_init_118 : decode b_MD_init 118 = .ok (.lastore, 1) := by decide +kernel
theorem d_MD_init_119 : decode b_MD_init 119 = .ok (.dup, 1) := by decide +kernel
theorem d_MD_init_120 : decode b_MD_init 120 = .ok (.bipush 10, 2) := by decide +kernel
theorem d_MD_init_122 : decode b_MD_init 122 = .ok (.ldc2_w 47, 3) := by decide +kernel
theorem d_MD_init_125 : decode b_MD_init 125 = .ok (.lastore, 1) := by decide +kernel
theorem d_MD_init_126 : decode b_MD_init 126 = .ok (.dup, 1) := by decide +kernel
theorem d_MD_init_127 : decode b_MD_init 127 = .ok (.bipush 11, 2) := by decide +kernel
theorem d_MD_init_129 : decode b_MD_init 129 = .ok (.ldc2_w 49, 3) := by decide +kernel
theorem d_MD_init_132 : decode b_MD_init 132 = .ok (.lastore, 1) := by decide +kernel
theorem d_MD_init_133 : decode b_MD_init 133 = .ok (.putfield 51, 3) := by decide +kernel
theorem d_MD_init_136 : decode b_MD_init 136 = .ok (.aload_n 0, 1) := by decide +kernel
theorem d_MD_init_137 : decode b_MD_init 137 = .ok (.bipush 12, 2) := by decide +kernel
theorem d_MD_init_139 : decode b_MD_init 139 = .ok (.newarray .int, 2) := by decide +kernel
theorem d_MD_init_141 : decode b_MD_init 141 = .ok (.dup, 1) := by decide +kernel
theorem d_MD_init_142 : decode b_MD_init 142 = .ok (.iconst 0, 1) := by decide +kernel
theorem d_MD_init_143 : decode b_MD_init 143 = .ok (.iconst 0, 1) := by decide +kernel
theorem d_MD_init_144 : decode b_MD_init 144 = .ok (.iastore, 1) := by decide +kernel
theorem d_MD_init_145 : decode b_MD_init 145 = .ok (.dup, 1) := by decide +kernel
theorem d_MD_init_146 : decode b_MD_init 146 = .ok (.iconst 1, 1) := by decide +kernel
theorem d_MD_init_147 : decode b_MD_init 147 = .ok (.iconst 5, 1) := by decide +kernel
theorem d_MD_init_148 : decode b_MD_init 148 = .ok (.iastore, 1) := by decide +kernel
theorem d_MD_init_149 : decode b_MD_init 149 = .ok (.dup, 1) := by decide +kernel
theorem d_MD_init_150 : decode b_MD_init 150 = .ok (.iconst 2, 1) := by decide +kernel
theorem d_MD_init_151 : decode b_MD_init 151 = .ok (.bipush 6, 2) := by decide +kernel
theorem d_MD_init_153 : decode b_MD_init 153 = .ok (.iastore, 1) := by decide +kernel
theorem d_MD_init_154 : decode b_MD_init 154 = .ok (.dup, 1) := by decide +kernel
theorem d_MD_init_155 : decode b_MD_init 155 = .ok (.iconst 3, 1) := by decide +kernel
theorem d_MD_init_156 : decode b_MD_init 156 = .ok (.bipush 7, 2) := by decide +kernel
theorem d_MD_init_158 : decode b_MD_init 158 = .ok (.iastore, 1) := by decide +kernel
theorem d_MD_init_159 : decode b_MD_init 159 = .ok (.dup, 1) := by decide +kernel
theorem d_MD_init_160 : decode b_MD_init 160 = .ok (.iconst 4, 1) := by decide +kernel
theorem d_MD_init_161 : decode b_MD_init 161 = .ok (.bipush 8, 2) := by decide +kernel
theorem d_MD_init_163 : decode b_MD_init 163 = .ok (.iastore, 1) := by decide +kernel
theorem d_MD_init_164 : decode b_MD_init 164 = .ok (.dup, 1) := by decide +kernel
theorem d_MD_init_165 : decode b_MD_init 165 = .ok (.iconst 5, 1) := by decide +kernel
theorem d_MD_init_166 : decode b_MD_init 166 = .ok (.bipush 9, 2) := by decide +kernel
theorem d_MD_init_168 : decode b_MD_init 168 = .ok (.iastore, 1) := by decide +kernel
theorem d_MD_init_169 : decode b_MD_init 169 = .ok (.dup, 1) := by decide +kernel
theorem d_MD_init_170 : decode b_MD_init 170 = .ok (.bipush 6, 2) := by decide +kernel
theorem d_MD_init_172 : decode b_MD_init 172 = .ok (.bipush 10, 2) := by decide +kernel
theorem d_MD_init_174 : decode b_MD_init 174 = .ok (.iastore, 1) := by decide +kernel
theorem d_MD_init_175 : decode b_MD_init 175 = .ok (.dup, 1) := by decide +kernel
theorem d_MD_init_176 : decode b_MD_init 176 = .ok (.bipush 7, 2) := by decide +kernel
theorem d_MD_init_178 : decode b_MD_init 178 = .ok (.bipush 11, 2) := by decide +kernel
theorem d_MD_init_180 : decode b_MD_init 180 = .ok (.iastore, 1) := by decide +kernel
theorem d_MD_init_181 : decode b_MD_init 181 = .ok (.dup, 1) := by decide +kernel
theorem d_MD_init_182 : decode b_MD_init 182 = .ok (.bipush 8, 2) := by decide +kernel
theorem d_MD_init_184 : decode b_MD_init 184 = .ok (.bipush 12, 2) := by decide +kernel
theorem d_MD_init_186 : decode b_MD_init 186 = .ok (.iastore, 1) := by decide +kernel
theorem d_MD_init_187 : decode b_MD_init 187 = .ok (.dup, 1) := by decide +kernel
theorem d_MD_init_188 : decode b_MD_init 188 = .ok (.bipush 9, 2) := by decide +kernel
theorem d_MD_init_190 : decode b_MD_init 190 = .ok (.bipush 13, 2) := by decide +kernel
theorem d_MD_init_192 : decode b_MD_init 192 = .ok (.iastore, 1) := by decide +kernel
theorem d_MD_init_193 : decode b_MD_init 193 = .ok (.dup, 1) := by decide +kernel
theorem d_MD_init_194 : decode b_MD_init 194 = .ok (.bipush 10, 2) := by decide +kernel
theorem d_MD_init_196 : decode b_MD_init 196 = .ok (.bipush 14, 2) := by decide +kernel
theorem d_MD_init_198 : decode b_MD_init 198 = .ok (.iastore, 1) := by decide +kernel
theorem d_MD_init_199 : decode b_MD_init 199 = .ok (.dup, 1) := by decide +kernel
theorem d_MD_init_200 : decode b_MD_init 200 = .ok (.bipush 11, 2) := by decide +kernel
theorem d_MD_init_202 : decode b_MD_init 202 = .ok (.bipush 15, 2) := by decide +kernel
theorem d_MD_init_204 : decode b_MD_init 204 = .ok (.iastore, 1) := by decide +kernel
theorem d_MD_init_205 : decode b_MD_init 205 = .ok (.putfield 54, 3) := by decide +kernel
theorem d_MD_init_208 : decode b_MD_init 208 = .ok (.aload_n 0, 1) := by decide +kernel
theorem d_MD_init_209 : decode b_MD_init 209 = .ok (.bipush 41, 2) := by decide +kernel
theorem d_MD_init_211 : decode b_MD_init 211 = .ok (.newarray .int, 2) := by decide +kernel
theorem d_MD_init_213 : decode b_MD_init 213 = .ok (.putfield 58, 3) := by decide +kernel
theorem d_MD_init_216 : decode b_MD_init 216 = .ok (.aload_n 0, 1) := by decide +kernel
theorem d_MD_init_217 : decode b_MD_init 217 = .ok (.bipush 41, 2) := by decide +kernel
theorem d_MD_init_219 : decode b_MD_init 219 = .ok (.newarray .int, 2) := by decide +kernel
theorem d_MD_init_221 : decode b_MD_init 221 = .ok (.putfield 61, 3) := by decide +kernel
theorem d_MD_init_224 : decode b_MD_init 224 = .ok (.aload_n 0, 1) := by decide +kernel
theorem d_MD_init_225 : decode b_MD_init 225 = .ok (.bipush 41, 2) := by decide +kernel
theorem d_MD_init_227 : decode b_MD_init 227 = .ok (.newarray .int, 2) := by decide +kernel
theorem d_MD_init_229 : decode b_MD_init 229 = .ok (.putfield 64, 3) := by decide +kernel
theorem d_MD_init_232 : decode b_MD_init 232 = .ok (.aload_n 0, 1) := by decide +kernel
theorem d_MD_init_233 : decode b_MD_init 233 = .ok (.sipush 820, 3) := by decide +kernel
theorem d_MD_init_236 : decode b_MD_init 236 = .ok (.newarray .byte, 2) := by decide +kernel
theorem d_MD_init_238 : decode b_MD_init 238 = .ok (.putfield 67, 3) := by decide +kernel
theorem d_MD_init_241 : decode b_MD_init 241 = .ok (.aload_n 0, 1) := by decide +kernel
theorem d_MD_init_242 : decode b_MD_init 242 = .ok (.bipush 41, 2) := by decide +kernel
theorem d_MD_init_244 : decode b_MD_init 244 = .ok (.newarray .long, 2) := by decide +kernel
theorem d_MD_init_246 : decode b_MD_init 246 = .ok (.putfield 70, 3) := by decide +kernel
theorem d_MD_init_249 : decode b_MD_init 249 = .ok (.aload_n 0, 1) := by decide +kernel
theorem d_MD_init_250 : decode b_MD_init 250 = .ok (.ldc 73, 2) := by decide +kernel
theorem d_MD_init_252 : decode b_MD_init 252 = .ok (.newarray .byte, 2) := by decide +kernel
theorem d_MD_init_254 : decode b_MD_init 254 = .ok (.putfield 74, 3) := by decide +kernel
theorem d_MD_init_257 : decode b_MD_init 257 = .ok (.aload_n 0, 1) := by decide +kernel
theorem d_MD_init_258 : decode b_MD_init 258 = .ok (.sipush 10250, 3) := by decide +kernel
theorem d_MD_init_261 : decode b_MD_init 261 = .ok (.newarray .int, 2) := by decide +kernel
theorem d_MD_init_263 : decode b_MD_init 263 = .ok (.putfield 77, 3) := by decide +kernel
theorem d_MD_init_266 : decode b_MD_init 266 = .ok (.aload_n 0, 1) := by decide +kernel
theorem d_MD_init_267 : decode b_MD_init 267 = .ok (.sipush 8200, 3) := by decide +kernel
theorem d_MD_init_270 : decode b_MD_init 270 = .ok (.newarray .byte, 2) := by decide +kernel
theorem d_MD_init_272 : decode b_MD_init 272 = .ok (.putfield 80, 3) := by decide +kernel
theorem d_MD_init_275 : decode b_MD_init 275 = .ok (.aload_n 0, 1) := by decide +kernel
theorem d_MD_init_276 : decode b_MD_init 276 = .ok (.sipush 8200, 3) := by decide +kernel
theorem d_MD_init_279 : decode b_MD_init 279 = .ok (.newarray .int, 2) := by decide +kernel
theorem d_MD_init_281 : decode b_MD_init 281 = .ok (.putfield 83, 3) := by decide +kernel
theorem d_MD_init_284 : decode b_MD_init 284 = .ok (.aload_n 0, 1) := by decide +kernel
theorem d_MD_init_285 : decode b_MD_init 285 = .ok (.sipush 8200, 3) := by decide +kernel
theorem d_MD_init_288 : decode b_MD_init 288 = .ok (.newarray .int, 2) := by decide +kernel
theorem d_MD_init_290 : decode b_MD_init 290 = .ok (.putfield 86, 3) := by decide +kernel
theorem d_MD_init_293 : decode b_MD_init 293 = .ok (.aload_n 0, 1) := by decide +kernel
theorem d_MD_init_294 : decode b_MD_init 294 = .ok (.sipush 8200, 3) := by decide +kernel
theorem d_MD_init_297 : decode b_MD_init 297 = .ok (.newarray .int, 2) := by decide +kernel
theorem d_MD_init_299 : decode b_MD_init 299 = .ok (.putfield 89, 3) := by decide +kernel
theorem d_MD_init_302 : decode b_MD_init 302 = .ok (.aload_n 0, 1) := by decide +kernel
theorem d_MD_init_303 : decode b_MD_init 303 = .ok (.ldc 92, 2) := by decide +kernel
theorem d_MD_init_305 : decode b_MD_init 305 = .ok (.newarray .byte, 2) := by decide +kernel
theorem d_MD_init_307 : decode b_MD_init 307 = .ok (.putfield 93, 3) := by decide +kernel
theorem d_MD_init_310 : decode b_MD_init 310 = .ok (.aload_n 0, 1) := by decide +kernel
theorem d_MD_init_311 : decode b_MD_init 311 = .ok (.ldc 92, 2) := by decide +kernel
theorem d_MD_init_313 : decode b_MD_init 313 = .ok (.newarray .byte, 2) := by decide +kernel
theorem d_MD_init_315 : decode b_MD_init 315 = .ok (.putfield 96, 3) := by decide +kernel
theorem d_MD_init_318 : decode b_MD_init 318 = .ok (.aload_n 0, 1) := by decide +kernel
theorem d_MD_init_319 : decode b_MD_init 319 = .ok (.sipush 8200, 3) := by decide +kernel
theorem d_MD_init_322 : decode b_MD_init 322 = .ok (.newarray .long, 2) := by decide +kernel
theorem d_MD_init_324 : decode b_MD_init 324 = .ok (.putfield 99, 3) := by decide +kernel
theorem d_MD_init_327 : decode b_MD_init 327 = .ok (.aload_n 0, 1) := by decide +kernel
theorem d_MD_init_328 : decode b_MD_init 328 = .ok (.sipush 8200, 3) := by decide +kernel
theorem d_MD_init_331 : decode b_MD_init 331 = .ok (.newarray .long, 2) := by decide +kernel
theorem d_MD_init_333 : decode b_MD_init 333 = .ok (.putfield 102, 3) := by decide +kernel
theorem d_MD_init_336 : decode b_MD_init 336 = .ok (.aload_n 0, 1) := by decide +kernel
theorem d_MD_init_337 : decode b_MD_init 337 = .ok (.sipush 8200, 3) := by decide +kernel
theorem d_MD_init_340 : decode b_MD_init 340 = .ok (.newarray .boolean, 2) := by decide +kernel
theorem d_MD_init_342 : decode b_MD_init 342 = .ok (.putfield 105, 3) := by decide +kernel
theorem d_MD_init_345 : decode b_MD_init 345 = .ok (.aload_n 0, 1) := by decide +kernel
theorem d_MD_init_346 : decode b_MD_init 346 = .ok (.sipush 201, 3) := by decide +kernel
theorem d_MD_init_349 : decode b_MD_init 349 = .ok (.newarray .int, 2) := by decide +kernel
theorem d_MD_init_351 : decode b_MD_init 351 = .ok (.putfield 109, 3) := by decide +kernel
theorem d_MD_init_354 : decode b_MD_init 354 = .ok (.aload_n 0, 1) := by decide +kernel
theorem d_MD_init_355 : decode b_MD_init 355 = .ok (.sipush 201, 3) := by decide +kernel
theorem d_MD_init_358 : decode b_MD_init 358 = .ok (.newarray .int, 2) := by decide +kernel
theorem d_MD_init_360 : decode b_MD_init 360 = .ok (.putfield 112, 3) := by decide +kernel
theorem d_MD_init_363 : decode b_MD_init 363 = .ok (.aload_n 0, 1) := by decide +kernel
theorem d_MD_init_364 : decode b_MD_init 364 = .ok (.bipush 20, 2) := by decide +kernel
theorem d_MD_init_366 : decode b_MD_init 366 = .ok (.newarray .byte, 2) := by decide +kernel
theorem d_MD_init_368 : decode b_MD_init 368 = .ok (.putfield 115, 3) := by decide +kernel
theorem d_MD_init_371 : decode b_MD_init 371 = .ok (.aload_n 0, 1) := by decide +kernel
theorem d_MD_init_372 : decode b_MD_init 372 = .ok (.bipush 20, 2) := by decide +kernel
theorem d_MD_init_374 : decode b_MD_init 374 = .ok (.newarray .byte, 2) := by decide +kernel
theorem d_MD_init_376 : decode b_MD_init 376 = .ok (.putfield 118, 3) := by decide +kernel
theorem d_MD_init_379 : decode b_MD_init 379 = .ok (.aload_n 0, 1) := by decide +kernel
theorem d_MD_init_380 : decode b_MD_init 380 = .ok (.sipush 400, 3) := by decide +kernel
theorem d_MD_init_383 : decode b_MD_init 383 = .ok (.newarray .int, 2) := by decide +kernel
theorem d_MD_init_385 : decode b_MD_init 385 = .ok (.putfield 121, 3) := by decide +kernel
theorem d_MD_init_388 : decode b_MD_init 388 = .ok (.aload_n 0, 1) := by decide +kernel
theorem d_MD_init_389 : decode b_MD_init 389 = .ok (.sipush 400, 3) := by decide +kernel
theorem d_MD_init_392 : decode b_MD_init 392 = .ok (.newarray .int, 2) := by decide +kernel
theorem d_MD_init_394 : decode b_MD_init 394 = .ok (.putfield 124, 3) := by decide +kernel
theorem d_MD_init_397 : decode b_MD_init 397 = .ok (.aload_n 0, 1) := by decide +kernel
theorem d_MD_init_398 : decode b_MD_init 398 = .ok (.sipush 200, 3) := by decide +kernel
theorem d_MD_init_401 : decode b_MD_init 401 = .ok (.newarray .boolean, 2) := by decide +kernel
theorem d_MD_init_403 : decode b_MD_init 403 = .ok (.putfield 127, 3) := by decide +kernel
theorem d_MD_init_406 : decode b_MD_init 406 = .ok (.aload_n 0, 1) := by decide +kernel
theorem d_MD_init_407 : decode b_MD_init 407 = .ok (.ldc 130, 2) := by decide +kernel
theorem d_MD_init_409 : decode b_MD_init 409 = .ok (.newarray .byte, 2) := by decide +kernel
theorem d_MD_init_411 : decode b_MD_init 411 = .ok (.putfield 131, 3) := by decide +kernel
theorem d_MD_init_414 : decode b_MD_init 414 = .ok (.return_, 1) := by decide +kernel
theorem d_MD_type_0 : decode b_MD_type 0 = .ok (.aload_n 0, 1) := by decide +kernel
theorem d_MD_type_1 : decode b_MD_type 1 = .ok (.iconst 0, 1) := by decide +kernel
theorem d_MD_type_2 : decode b_MD_type 2 = .ok (.putfield 134, 3) := by decide +kernel
theorem d_MD_type_5 : decode b_MD_type 5 = .ok (.bipush 56, 2) := by decide +kernel
theorem d_MD_type_7 : decode b_MD_type 7 = .ok (.istore_n 3, 1) := by decide +kernel
theorem d_MD_type_8 : decode b_MD_type 8 = .ok (.iload_n 3, 1) := by decide +kernel
theorem d_MD_type_9 : decode b_MD_type 9 = .ok (.ifCond .lt 52, 3) := by decide +kernel
theorem d_MD_type_12 : decode b_MD_type 12 = .ok (.lload_n 1, 1) := by decide +kernel
theorem d_MD_type_13 : decode b_MD_type 13 = .ok (.iload_n 3, 1) := by decide +kernel
theorem d_MD_type_14 : decode b_MD_type 14 = .ok (.lshr, 1) := by decide +kernel
theorem d_MD_type_15 : decode b_MD_type 15 = .ok (.l2i, 1) := by decide +kernel
theorem d_MD_type_16 : decode b_MD_type 16 = .ok (.i2b, 1) := by decide +kernel
theorem d_MD_type_17 : decode b_MD_type 17 = .ok (.istore 4, 2) := by decide +kernel
theorem d_MD_type_19 : decode b_MD_type 19 = .ok (.iload 4, 2) := by decide +kernel
theorem d_MD_type_21 : decode b_MD_type 21 = .ok (.ifCond .eq 34, 3) := by decide +kernel
theorem d_MD_type_24 : decode b_MD_type 24 = .ok (.aload_n 0, 1) := by decide +kernel
theorem d_MD_type_25 : decode b_MD_type 25 = .ok (.getfield 138, 3) := by decide +kernel
theorem d_MD_type_28 : decode b_MD_type 28 = .ok (.sipush 2000, 3) := by decide +kernel
theorem d_MD_type_31 : decode b_MD_type 31 = .ok (.if_icmp .ge 24, 3) := by decide +kernel
theorem d_MD_type_34 : decode b_MD_type 34 = .ok (.aload_n 0, 1) := by decide +kernel
theorem d_MD_type_35 : decode b_MD_type 35 = .ok (.getfield 7, 3) := by decide +kernel
theorem d_MD_type_38 : decode b_MD_type 38 = .ok (.aload_n 0, 1) := by decide +kernel
theorem d_MD_type_39 : decode b_MD_type 39 = .ok (.getfield 138, 3) := by decide +kernel
theorem d_MD_type_42 : decode b_MD_type 42 = .ok (.iload 4, 2) := by decide +kernel
theorem d_MD_type_44 : decode b_MD_type 44 = .ok (.bastore, 1) := by decide +kernel
theorem d_MD_type_45 : decode b_MD_type 45 = .ok (.aload_n 0, 1) := by decide +kernel
theorem d_MD_type_46 : decode b_MD_type 46 = .ok (.dup, 1) := by decide +kernel
theorem d_MD_type_47 : decode b_MD_type 47 = .ok (.getfield 138, 3) := by decide +kernel
theorem d_MD_type_50 : decode b_MD_type 50 = .ok (.iconst 1, 1) := by decide +kernel
theorem d_MD_type_51 : decode b_MD_type 51 = .ok (.iadd, 1) := by decide +kernel
theorem d_MD_type_52 : decode b_MD_type 52 = .ok (.putfield 138, 3) := by decide +kernel
theorem d_MD_type_55 : decode b_MD_type 55 = .ok (.iinc 3 (-8), 3) := by decide +kernel
theorem d_MD_type_58 : decode b_MD_type 58 = .ok (.goto (-50), 3) := by decide +kernel
theorem d_MD_type_61 : decode b_MD_type 61 = .ok (.return_, 1) := by decide +kernel
theorem d_MD_isLetter_0 : decode b_MD_isLetter 0 = .ok (.iload_n 0, 1) := by decide +kernel
theorem d_MD_isLetter_1 : decode b_MD_isLetter 1 = .ok (.bipush 97, 2) := by decide +kernel
theorem d_MD_isLetter_3 : decode b_MD_isLetter 3 = .ok (.if_icmp .lt 9, 3) := by decide +kernel
theorem d_MD_isLetter_6 : decode b_MD_isLetter 6 = .ok (.iload_n 0, 1) := by decide +kernel
theorem d_MD_isLetter_7 : decode b_MD_isLetter 7 = .ok (.bipush 122, 2) := by decide +kernel
theorem d_MD_isLetter_9 : decode b_MD_isLetter 9 = .ok (.if_icmp .le 15, 3) := by decide +kernel
theorem d_MD_isLetter_12 : decode b_MD_isLetter 12 = .ok (.iload_n 0, 1) := by decide +kernel
theorem d_MD_isLetter_13 : decode b_MD_isLetter 13 = .ok (.bipush 65, 2) := by decide +kernel
theorem d_MD_isLetter_15 : decode b_MD_isLetter 15 = .ok (.if_icmp .lt 13, 3) := by decide +kernel
theorem d_MD_isLetter_18 : decode b_MD_isLetter 18 = .ok (.iload_n 0, 1) := by decide +kernel
theorem d_MD_isLetter_19 : decode b_MD_isLetter 19 = .ok (.bipush 90, 2) := by decide +kernel
theorem d_MD_isLetter_21 : decode b_MD_isLetter 21 = .ok (.if_icmp .gt 7, 3) := by decide +kernel
theorem d_MD_isLetter_24 : decode b_MD_isLetter 24 = .ok (.iconst 1, 1) := by decide +kernel
theorem d_MD_isLetter_25 : decode b_MD_isLetter 25 = .ok (.goto 4, 3) := by decide +kernel
theorem d_MD_isLetter_28 : decode b_MD_isLetter 28 = .ok (.iconst 0, 1) := by decide +kernel
theorem d_MD_isLetter_29 : decode b_MD_isLetter 29 = .ok (.ireturn, 1) := by decide +kernel
theorem d_MD_isDigit_0 : decode b_MD_isDigit 0 = .ok (.iload_n 0, 1) := by decide +kernel
theorem d_MD_isDigit_1 : decode b_MD_isDigit 1 = .ok (.bipush 48, 2) := by decide +kernel
theorem d_MD_isDigit_3 : decode b_MD_isDigit 3 = .ok (.if_icmp .lt 13, 3) := by decide +kernel
theorem d_MD_isDigit_6 : decode b_MD_isDigit 6 = .ok (.iload_n 0, 1) := by decide +kernel
theorem d_MD_isDigit_7 : decode b_MD_isDigit 7 = .ok (.bipush 57, 2) := by decide +kernel
theorem d_MD_isDigit_9 : decode b_MD_isDigit 9 = .ok (.if_icmp .gt 7, 3) := by decide +kernel
theorem d_MD_isDigit_12 : decode b_MD_isDigit 12 = .ok (.iconst 1, 1) := by decide +kernel
theorem d_MD_isDigit_13 : decode b_MD_isDigit 13 = .ok (.goto 4, 3) := by decide +kernel
theorem d_MD_isDigit_16 : decode b_MD_isDigit 16 = .ok (.iconst 0, 1) := by decide +kernel
theorem d_MD_isDigit_17 : decode b_MD_isDigit 17 = .ok (.ireturn, 1) := by decide +kernel
theorem d_MD_isDash_0 : decode b_MD_isDash 0 = .ok (.iload_n 0, 1) := by decide +kernel
theorem d_MD_isDash_1 : decode b_MD_isDash 1 = .ok (.bipush 45, 2) := by decide +kernel
theorem d_MD_isDash_3 : decode b_MD_isDash 3 = .ok (.if_icmp .eq 15, 3) := by decide +kernel
theorem d_MD_isDash_6 : decode b_MD_isDash 6 = .ok (.iload_n 0, 1) := by decide +kernel
theorem d_MD_isDash_7 : decode b_MD_isDash 7 = .ok (.bipush 95, 2) := by decide +kernel
theorem d_MD_isDash_9 : decode b_MD_isDash 9 = .ok (.if_icmp .eq 9, 3) := by decide +kernel
theorem d_MD_isDash_12 : decode b_MD_isDash 12 = .ok (.iload_n 0, 1) := by decide +kernel
theorem d_MD_isDash_13 : decode b_MD_isDash 13 = .ok (.bipush 46, 2) := by decide +kernel
theorem d_MD_isDash_15 : decode b_MD_isDash 15 = .ok (.if_icmp .ne 7, 3) := by decide +kernel
theorem d_MD_isDash_18 : decode b_MD_isDash 18 = .ok (.iconst 1, 1) := by decide +kernel
theorem d_MD_isDash_19 : decode b_MD_isDash 19 = .ok (.goto 4, 3) := by decide +kernel
theorem d_MD_isDash_22 : decode b_MD_isDash 22 = .ok (.iconst 0, 1) := by decide +kernel
theorem d_MD_isDash_23 : decode b_MD_isDash 23 = .ok (.ireturn, 1) := by decide +kernel
theorem d_MD_next_0 : decode b_MD_next 0 = .ok (.aload_n 0, 1) := by decide +kernel
theorem d_MD_next_1 : decode b_MD_next 1 = .ok (.aload_n 0, 1) := by decide +kernel
theorem d_MD_next_2 : decode b_MD_next 2 = .ok (.getfield 141, 3) := by decide +kernel
theorem d_MD_next_5 : decode b_MD_next 5 = .ok (.putfield 144, 3) := by decide +kernel
theorem d_MD_next_8 : decode b_MD_next 8 = .ok (.aload_n 0, 1) := by decide +kernel
theorem d_MD_next_9 : decode b_MD_next 9 = .ok (.aload_n 0, 1) := by decide +kernel
theorem d_MD_next_10 : decode b_MD_next 10 = .ok (.getfield 141, 3) := by decide +kernel
theorem d_MD_next_13 : decode b_MD_next 13 = .ok (.putfield 147, 3) := by decide +kernel
theorem d_MD_next_16 : decode b_MD_next 16 = .ok (.aload_n 0, 1) := by decide +kernel
theorem d_MD_next_17 : decode b_MD_next 17 = .ok (.getfield 147, 3) := by decide +kernel
theorem d_MD_next_20 : decode b_MD_next 20 = .ok (.aload_n 0, 1) := by decide +kernel
theorem d_MD_next_21 : decode b_MD_next 21 = .ok (.getfield 138, 3) := by decide +kernel
theorem d_MD_next_24 : decode b_MD_next 24 = .ok (.if_icmp .ge 44, 3) := by decide +kernel
theorem d_MD_next_27 : decode b_MD_next 27 = .ok (.aload_n 0, 1) := by decide +kernel
theorem d_MD_next_28 : decode b_MD_next 28 = .ok (.getfield 7, 3) := by decide +kernel
theorem d_MD_next_31 : decode b_MD_next 31 = .ok (.aload_n 0, 1) := by decide +kernel
theorem d_MD_next_32 : decode b_MD_next 32 = .ok (.getfield 147, 3) := by decide +kernel
theorem d_MD_next_35 : decode b_MD_next 35 = .ok (.baload, 1) := by decide +kernel
theorem d_MD_next_36 : decode b_MD_next 36 = .ok (.bipush 32, 2) := by decide +kernel
theorem d_MD_next_38 : decode b_MD_next 38 = .ok (.if_icmp .eq 17, 3) := by decide +kernel
theorem d_MD_next_41 : decode b_MD_next 41 = .ok (.aload_n 0, 1) := by decide +kernel
theorem d_MD_next_42 : decode b_MD_next 42 = .ok (.getfield 7, 3) := by decide +kernel
theorem d_MD_next_45 : decode b_MD_next 45 = .ok (.aload_n 0, 1) := by decide +kernel
theorem d_MD_next_46 : decode b_MD_next 46 = .ok (.getfield 147, 3) := by decide +kernel
theorem d_MD_next_49 : decode b_MD_next 49 = .ok (.baload, 1) := by decide +kernel
theorem d_MD_next_50 : decode b_MD_next 50 = .ok (.bipush 10, 2) := by decide +kernel
theorem d_MD_next_52 : decode b_MD_next 52 = .ok (.if_icmp .ne 16, 3) := by decide +kernel
theorem d_MD_next_55 : decode b_MD_next 55 = .ok (.aload_n 0, 1) := by decide +kernel
theorem d_MD_next_56 : decode b_MD_next 56 = .ok (.dup, 1) := by decide +kernel
theorem d_MD_next_57 : decode b_MD_next 57 = .ok (.getfield 147, 3) := by decide +kernel
theorem d_MD_next_60 : decode b_MD_next 60 = .ok (.iconst 1, 1) := by decide +kernel
theorem d_MD_next_61 : decode b_MD_next 61 = .ok (.iadd, 1) := by decide +kernel
theorem d_MD_next_62 : decode b_MD_next 62 = .ok (.putfield 147, 3) := by decide +kernel
theorem d_MD_next_65 : decode b_MD_next 65 = .ok (.goto (-49), 3) := by decide +kernel
theorem d_MD_next_68 : decode b_MD_next 68 = .ok (.aload_n 0, 1) := by decide +kernel
theorem d_MD_next_69 : decode b_MD_next 69 = .ok (.aload_n 0, 1) := by decide +kernel
theorem d_MD_next_70 : decode b_MD_next 70 = .ok (.getfield 147, 3) := by decide +kernel
theorem d_MD_next_73 : decode b_MD_next 73 = .ok (.putfield 141, 3) := by decide +kernel
theorem d_MD_next_76 : decode b_MD_next 76 = .ok (.aload_n 0, 1) := by decide +kernel
theorem d_MD_next_77 : decode b_MD_next 77 = .ok (.getfield 147, 3) := by decide +kernel
theorem d_MD_next_80 : decode b_MD_next 80 = .ok (.aload_n 0, 1) := by decide +kernel
theorem d_MD_next_81 : decode b_MD_next 81 = .ok (.getfield 138, 3) := by decide +kernel
theorem d_MD_next_84 : decode b_MD_next 84 = .ok (.if_icmp .ne 9, 3) := by decide +kernel
theorem d_MD_next_87 : decode b_MD_next 87 = .ok (.aload_n 0, 1) := by decide +kernel
theorem d_MD_next_88 : decode b_MD_next 88 = .ok (.iconst (-1), 1) := by decide +kernel
theorem d_MD_next_89 : decode b_MD_next 89 = .ok (.putfield 150, 3) := by decide +kernel
theorem d_MD_next_92 : decode b_MD_next 92 = .ok (.return_, 1) := by decide +kernel
theorem d_MD_next_93 : decode b_MD_next 93 = .ok (.aload_n 0, 1) := by decide +kernel
theorem d_MD_next_94 : decode b_MD_next 94 = .ok (.getfield 7, 3) := by decide +kernel
theorem d_MD_next_97 : decode b_MD_next 97 = .ok (.aload_n 0, 1) := by decide +kernel
theorem d_MD_next_98 : decode b_MD_next 98 = .ok (.getfield 147, 3) := by decide +kernel
theorem d_MD_next_101 : decode b_MD_next 101 = .ok (.baload, 1) := by decide +kernel
theorem d_MD_next_102 : decode b_MD_next 102 = .ok (.istore_n 1, 1) := by decide +kernel
theorem d_MD_next_103 : decode b_MD_next 103 = .ok (.iload_n 1, 1) := by decide +kernel
theorem d_MD_next_104 : decode b_MD_next 104 = .ok (.invokestatic 153, 3) := by decide +kernel
theorem d_MD_next_107 : decode b_MD_next 107 = .ok (.ifCond .eq 78, 3) := by decide +kernel
theorem d_MD_next_110 : decode b_MD_next 110 = .ok (.aload_n 0, 1) := by decide +kernel
theorem d_MD_next_111 : decode b_MD_next 111 = .ok (.bipush (-2), 2) := by decide +kernel
theorem d_MD_next_113 : decode b_MD_next 113 = .ok (.putfield 150, 3) := by decide +kernel
theorem d_MD_next_116 : decode b_MD_next 116 = .ok (.aload_n 0, 1) := by decide +kernel
theorem d_MD_next_117 : decode b_MD_next 117 = .ok (.getfield 141, 3) := by decide +kernel
theorem d_MD_next_120 : decode b_MD_next 120 = .ok (.aload_n 0, 1) := by decide +kernel
theorem d_MD_next_121 : decode b_MD_next 121 = .ok (.getfield 138, 3) := by decide +kernel
theorem d_MD_next_124 : decode b_MD_next 124 = .ok (.if_icmp .ge 204, 3) := by decide +kernel
theorem d_MD_next_127 : decode b_MD_next 127 = .ok (.aload_n 0, 1) := by decide +kernel
theorem d_MD_next_128 : decode b_MD_next 128 = .ok (.getfield 7, 3) := by decide +kernel
theorem d_MD_next_131 : decode b_MD_next 131 = .ok (.aload_n 0, 1) := by decide +kernel
theorem d_MD_next_132 : decode b_MD_next 132 = .ok (.getfield 141, 3) := by decide +kernel
theorem d_MD_next_135 : decode b_MD_next 135 = .ok (.baload, 1) := by decide +kernel
theorem d_MD_next_136 : decode b_MD_next 136 = .ok (.invokestatic 153, 3) := by decide +kernel
theorem d_MD_next_139 : decode b_MD_next 139 = .ok (.ifCond .ne 33, 3) := by decide +kernel
theorem d_MD_next_142 : decode b_MD_next 142 = .ok (.aload_n 0, 1) := by decide +kernel
theorem d_MD_next_143 : decode b_MD_next 143 = .ok (.getfield 7, 3) := by decide +kernel
theorem d_MD_next_146 : decode b_MD_next 146 = .ok (.aload_n 0, 1) := by decide +kernel
theorem d_MD_next_147 : decode b_MD_next 147 = .ok (.getfield 141, 3) := by decide +kernel
theorem d_MD_next_150 : decode b_MD_next 150 = .ok (.baload, 1) := by decide +kernel
theorem d_MD_next_151 : decode b_MD_next 151 = .ok (.invokestatic 157, 3) := by decide +kernel
theorem d_MD_next_154 : decode b_MD_next 154 = .ok (.ifCond .ne 18, 3) := by decide +kernel
theorem d_MD_next_157 : decode b_MD_next 157 = .ok (.aload_n 0, 1) := by decide +kernel
theorem d_MD_next_158 : decode b_MD_next 158 = .ok (.getfield 7, 3) := by decide +kernel
theorem d_MD_next_161 : decode b_MD_next 161 = .ok (.aload_n 0, 1) := by decide +kernel
theorem d_MD_next_162 : decode b_MD_next 162 = .ok (.getfield 141, 3) := by decide +kernel
theorem d_MD_next_165 : decode b_MD_next 165 = .ok (.baload, 1) := by decide +kernel
theorem d_MD_next_166 : decode b_MD_next 166 = .ok (.invokestatic 160, 3) := by decide +kernel
theorem d_MD_next_169 : decode b_MD_next 169 = .ok (.ifCond .eq 159, 3) := by decide +kernel
theorem d_MD_next_172 : decode b_MD_next 172 = .ok (.aload_n 0, 1) := by decide +kernel
theorem d_MD_next_173 : decode b_MD_next 173 = .ok (.dup, 1) := by decide +kernel
theorem d_MD_next_174 : decode b_MD_next 174 = .ok (.getfield 141, 3) := by decide +kernel
theorem d_MD_next_177 : decode b_MD_next 177 = .ok (.iconst 1, 1) := by decide +kernel
theorem d_MD_next_178 : decode b_MD_next 178 = .ok (.iadd, 1) := by decide +kernel
theorem d_MD_next_179 : decode b_MD_next 179 = .ok (.putfield 141, 3) := by decide +kernel
theorem d_MD_next_182 : decode b_MD_next 182 = .ok (.goto (-66), 3) := by decide +kernel
theorem d_MD_next_185 : decode b_MD_next 185 = .ok (.iload_n 1, 1) := by decide +kernel
theorem d_MD_next_186 : decode b_MD_next 186 = .ok (.invokestatic 157, 3) := by decide +kernel
theorem d_MD_next_189 : decode b_MD_next 189 = .ok (.ifCond .eq 48, 3) := by decide +kernel
theorem d_MD_next_192 : decode b_MD_next 192 = .ok (.aload_n 0, 1) := by decide +kernel
theorem d_MD_next_193 : decode b_MD_next 193 = .ok (.bipush (-3), 2) := by decide +kernel
theorem d_MD_next_195 : decode b_MD_next 195 = .ok (.putfield 150, 3) := by decide +kernel
theorem d_MD_next_198 : decode b_MD_next 198 = .ok (.aload_n 0, 1) := by decide +kernel
theorem d_MD_next_199 : decode b_MD_next 199 = .ok (.getfield 141, 3) := by decide +kernel
theorem d_MD_next_202 : decode b_MD_next 202 = .ok (.aload_n 0, 1) := by decide +kernel
theorem d_MD_next_203 : decode b_MD_next 203 = .ok (.getfield 138, 3) := by decide +kernel
theorem d_MD_next_206 : decode b_MD_next 206 = .ok (.if_icmp .ge 122, 3) := by decide +kernel
theorem d_MD_next_209 : decode b_MD_next 209 = .ok (.aload_n 0, 1) := by decide +kernel
theorem d_MD_next_210 : decode b_MD_next 210 = .ok (.getfield 7, 3) := by decide +kernel
theorem d_MD_next_213 : decode b_MD_next 213 = .ok (.aload_n 0, 1) := by decide +kernel
theorem d_MD_next_214 : decode b_MD_next 214 = .ok (.getfield 141, 3) := by decide +kernel
theorem d_MD_next_217 : decode b_MD_next 217 = .ok (.baload, 1) := by decide +kernel
theorem d_MD_next_218 : decode b_MD_next 218 = .ok (.invokestatic 157, 3) := by decide +kernel
theorem d_MD_next_221 : decode b_MD_next 221 = .ok (.ifCond .eq 107, 3) := by decide +kernel
theorem d_MD_next_224 : decode b_MD_next 224 = .ok (.aload_n 0, 1) := by decide +kernel
theorem d_MD_next_225 : decode b_MD_next 225 = .ok (.dup, 1) := by decide +kernel
theorem d_MD_next_226 : decode b_MD_next 226 = .ok (.getfield 141, 3) := by decide +kernel
theorem d_MD_next_229 : decode b_MD_next 229 = .ok (.iconst 1, 1) := by decide +kernel
theorem d_MD_next_230 : decode b_MD_next 230 = .ok (.iadd, 1) := by decide +kernel
theorem d_MD_next_231 : decode b_MD_next 231 = .ok (.putfield 141, 3) := by decide +kernel
theorem d_MD_next_234 : decode b_MD_next 234 = .ok (.goto (-36), 3) := by decide +kernel
theorem d_MD_next_237 : decode b_MD_next 237 = .ok (.iload_n 1, 1) := by decide +kernel
theorem d_MD_next_238 : decode b_MD_next 238 = .ok (.bipush 60, 2) := by decide +kernel
theorem d_MD_next_240 : decode b_MD_next 240 = .ok (.if_icmp .eq 9, 3) := by decide +kernel
theorem d_MD_next_243 : decode b_MD_next 243 = .ok (.iload_n 1, 1) := by decide +kernel
theorem d_MD_next_244 : decode b_MD_next 244 = .ok (.bipush 62, 2) := by decide +kernel
theorem d_MD_next_246 : decode b_MD_next 246 = .ok (.if_icmp .ne 36, 3) := by decide +kernel
theorem d_MD_next_249 : decode b_MD_next 249 = .ok (.aload_n 0, 1) := by decide +kernel
theorem d_MD_next_250 : decode b_MD_next 250 = .ok (.getfield 147, 3) := by decide +kernel
theorem d_MD_next_253 : decode b_MD_next 253 = .ok (.iconst 1, 1) := by decide +kernel
theorem d_MD_next_254 : decode b_MD_next 254 = .ok (.iadd, 1) := by decide +kernel
theorem d_MD_next_255 : decode b_MD_next 255 = .ok (.aload_n 0, 1) := by decide +kernel
theorem d_MD_next_256 : decode b_MD_next 256 = .ok (.getfield 138, 3) := by decide +kernel
theorem d_MD_next_259 : decode b_MD_next 259 = .ok (.if_icmp .ge 23, 3) := by decide +kernel
theorem d_MD_next_262 : decode b_MD_next 262 = .ok (.aload_n 0, 1) := by decide +kernel
theorem d_MD_next_263 : decode b_MD_next 263 = .ok (.getfield 7, 3) := by decide +kernel
theorem d_MD_next_266 : decode b_MD_next 266 = .ok (.aload_n 0, 1) := by decide +kernel
theorem d_MD_next_267 : decode b_MD_next 267 = .ok (.getfield 147, 3) := by decide +kernel
theorem d_MD_next_270 : decode b_MD_next 270 = .ok (.iconst 1, 1) := by decide +kernel
theorem d_MD_next_271 : decode b_MD_next 271 = .ok (.iadd, 1) := by decide +kernel
theorem d_MD_next_272 : decode b_MD_next 272 = .ok (.baload, 1) := by decide +kernel
theorem d_MD_next_273 : decode b_MD_next 273 = .ok (.bipush 61, 2) := by decide +kernel
theorem d_MD_next_275 : decode b_MD_next 275 = .ok (.if_icmp .ne 7, 3) := by decide +kernel
theorem d_MD_next_278 : decode b_MD_next 278 = .ok (.iconst 1, 1) := by decide +kernel
theorem d_MD_next_279 : decode b_MD_next 279 = .ok (.goto 4, 3) := by decide +kernel
theorem d_MD_next_282 : decode b_MD_next 282 = .ok (.iconst 0, 1) := by decide +kernel
theorem d_MD_next_283 : decode b_MD_next 283 = .ok (.istore_n 2, 1) := by decide +kernel
theorem d_MD_next_284 : decode b_MD_next 284 = .ok (.aload_n 0, 1) := by decide +kernel
theorem d_MD_next_285 : decode b_MD_next 285 = .ok (.iload_n 2, 1) := by decide +kernel
theorem d_MD_next_286 : decode b_MD_next 286 = .ok (.ifCond .eq 11, 3) := by decide +kernel
theorem d_MD_next_289 : decode b_MD_next 289 = .ok (.sipush 300, 3) := by decide +kernel
theorem d_MD_next_292 : decode b_MD_next 292 = .ok (.iload_n 1, 1) := by decide +kernel
theorem d_MD_next_293 : decode b_MD_next 293 = .ok (.iadd, 1) := by decide +kernel
theorem d_MD_next_294 : decode b_MD_next 294 = .ok (.goto 8, 3) := by decide +kernel
theorem d_MD_next_297 : decode b_MD_next 297 = .ok (.iload_n 1, 1) := by decide +kernel
theorem d_MD_next_298 : decode b_MD_next 298 = .ok (.sipush 255, 3) := by decide +kernel
theorem d_MD_next_301 : decode b_MD_next 301 = .ok (.iand, 1) := by decide +kernel
theorem d_MD_next_302 : decode b_MD_next 302 = .ok (.putfield 150, 3) := by decide +kernel
theorem d_MD_next_305 : decode b_MD_next 305 = .ok (.aload_n 0, 1) := by decide +kernel
theorem d_MD_next_306 : decode b_MD_next 306 = .ok (.iload_n 2, 1) := by decide +kernel
theorem d_MD_next_307 : decode b_MD_next 307 = .ok (.ifCond .eq 12, 3) := by decide +kernel
theorem d_MD_next_310 : decode b_MD_next 310 = .ok (.aload_n 0, 1) := by decide +kernel
theorem d_MD_next_311 : decode b_MD_next 311 = .ok (.getfield 147, 3) := by decide +kernel
theorem d_MD_next_314 : decode b_MD_next 314 = .ok (.iconst 2, 1) := by decide +kernel
theorem d_MD_next_315 : decode b_MD_next 315 = .ok (.iadd, 1) := by decide +kernel
theorem d_MD_next_316 : decode b_MD_next 316 = .ok (.goto 9, 3) := by decide +kernel
theorem d_MD_next_319 : decode b_MD_next 319 = .ok (.aload_n 0, 1) := by decide +kernel
theorem d_MD_next_320 : decode b_MD_next 320 = .ok (.getfield 147, 3) := by decide +kernel
theorem d_MD_next_323 : decode b_MD_next 323 = .ok (.iconst 1, 1) := by decide +kernel
theorem d_MD_next_324 : decode b_MD_next 324 = .ok (.iadd, 1) := by decide +kernel
theorem d_MD_next_325 : decode b_MD_next 325 = .ok (.putfield 141, 3) := by decide +kernel
theorem d_MD_next_328 : decode b_MD_next 328 = .ok (.return_, 1) := by decide +kernel
theorem d_MD_fail_0 : decode b_MD_fail 0 = .ok (.aload_n 0, 1) := by decide +kernel
theorem d_MD_fail_1 : decode b_MD_fail 1 = .ok (.getfield 163, 3) := by decide +kernel
theorem d_MD_fail_4 : decode b_MD_fail 4 = .ok (.ifCond .ne 10, 3) := by decide +kernel
theorem d_MD_fail_7 : decode b_MD_fail 7 = .ok (.aload_n 0, 1) := by decide +kernel
theorem d_MD_fail_8 : decode b_MD_fail 8 = .ok (.iconst (-1), 1) := by decide +kernel
theorem d_MD_fail_9 : decode b_MD_fail 9 = .ok (.iload_n 1, 1) := by decide +kernel
theorem d_MD_fail_10 : decode b_MD_fail 10 = .ok (.isub, 1) := by decide +kernel
theorem d_MD_fail_11 : decode b_MD_fail 11 = .ok (.putfield 163, 3) := by decide +kernel
theorem d_MD_fail_14 : decode b_MD_fail 14 = .ok (.return_, 1) := by decide +kernel
theorem d_MD_isWrong_0 : decode b_MD_isWrong 0 = .ok (.aload_n 0, 1) := by decide +kernel
theorem d_MD_isWrong_1 : decode b_MD_isWrong 1 = .ok (.getfield 163, 3) := by decide +kernel
theorem d_MD_isWrong_4 : decode b_MD_isWrong 4 = .ok (.ifCond .eq 7, 3) := by decide +kernel
theorem d_MD_isWrong_7 : decode b_MD_isWrong 7 = .ok (.iconst 1, 1) := by decide +kernel
theorem d_MD_isWrong_8 : decode b_MD_isWrong 8 = .ok (.goto 4, 3) := by decide +kernel
theorem d_MD_isWrong_11 : decode b_MD_isWrong 11 = .ok (.iconst 0, 1) := by decide +kernel
theorem d_MD_isWrong_12 : decode b_MD_isWrong 12 = .ok (.ireturn, 1) := by decide +kernel
theorem d_MD_sign_0 : decode b_MD_sign 0 = .ok (.aload_n 0, 1) := by decide +kernel
theorem d_MD_sign_1 : decode b_MD_sign 1 = .ok (.invokevirtual 166, 3) := by decide +kernel
theorem d_MD_sign_4 : decode b_MD_sign 4 = .ok (.ifCond .eq 4, 3) := by decide +kernel
theorem d_MD_sign_7 : decode b_MD_sign 7 = .ok (.return_, 1) := by decide +kernel
theorem d_MD_sign_8 : decode b_MD_sign 8 = .ok (.aload_n 0, 1) := by decide +kernel
theorem d_MD_sign_9 : decode b_MD_sign 9 = .ok (.getfield 150, 3) := by decide +kernel
theorem d_MD_sign_12 : decode b_MD_sign 12 = .ok (.iload_n 1, 1) := by decide +kernel
theorem d_MD_sign_13 : decode b_MD_sign 13 = .ok (.if_icmp .ne 10, 3) := by decide +kernel
theorem d_MD_sign_16 : decode b_MD_sign 16 = .ok (.aload_n 0, 1) := by decide +kernel
theorem d_MD_sign_17 : decode b_MD_sign 17 = .ok (.invokevirtual 170, 3) := by decide +kernel
theorem d_MD_sign_20 : decode b_MD_sign 20 = .ok (.goto 11, 3) := by decide +kernel
theorem d_MD_sign_23 : decode b_MD_sign 23 = .ok (.aload_n 0, 1) := by decide +kernel
theorem d_MD_sign_24 : decode b_MD_sign 24 = .ok (.aload_n 0, 1) := by decide +kernel
theorem d_MD_sign_25 : decode b_MD_sign 25 = .ok (.getfield 147, 3) := by decide +kernel
theorem d_MD_sign_28 : decode b_MD_sign 28 = .ok (.invokevirtual 173, 3) := by decide +kernel
theorem d_MD_sign_31 : decode b_MD_sign 31 = .ok (.return_, 1) := by decide +kernel
theorem d_MD_key_0 : decode b_MD_key 0 = .ok (.aload_n 0, 1) := by decide +kernel
theorem d_MD_key_1 : decode b_MD_key 1 = .ok (.getfield 150, 3) := by decide +kernel
theorem d_MD_key_4 : decode b_MD_key 4 = .ok (.bipush (-2), 2) := by decide +kernel
theorem d_MD_key_6 : decode b_MD_key 6 = .ok (.if_icmp .ne 17, 3) := by decide +kernel
theorem d_MD_key_9 : decode b_MD_key 9 = .ok (.aload_n 0, 1) := by decide +kernel
theorem d_MD_key_10 : decode b_MD_key 10 = .ok (.getfield 141, 3) := by decide +kernel
theorem d_MD_key_13 : decode b_MD_key 13 = .ok (.aload_n 0, 1) := by decide +kernel
theorem d_MD_key_14 : decode b_MD_key 14 = .ok (.getfield 147, 3) := by decide +kernel
theorem d_MD_key_17 : decode b_MD_key 17 = .ok (.isub, 1) := by decide +kernel
theorem d_MD_key_18 : decode b_MD_key 18 = .ok (.bipush 8, 2) := by decide +kernel
theorem d_MD_key_20 : decode b_MD_key 20 = .ok (.if_icmp .le 5, 3) := by decide +kernel
theorem d_MD_key_23 : decode b_MD_key 23 = .ok (.lconst 0, 1) := by decide +kernel
theorem d_MD_key_24 : decode b_MD_key 24 = .ok (.lreturn, 1) := by decide +kernel
theorem d_MD_key_25 : decode b_MD_key 25 = .ok (.lconst 0, 1) := by decide +kernel
theorem d_MD_key_26 : decode b_MD_key 26 = .ok (.lstore_n 1, 1) := by decide +kernel
theorem d_MD_key_27 : decode b_MD_key 27 = .ok (.aload_n 0, 1) := by decide +kernel
theorem d_MD_key_28 : decode b_MD_key 28 = .ok (.getfield 147, 3) := by decide +kernel
theorem d_MD_key_31 : decode b_MD_key 31 = .ok (.istore_n 3, 1) := by decide +kernel
theorem d_MD_key_32 : decode b_MD_key 32 = .ok (.iload_n 3, 1) := by decide +kernel
theorem d_MD_key_33 : decode b_MD_key 33 = .ok (.aload_n 0, 1) := by decide +kernel
theorem d_MD_key_34 : decode b_MD_key 34 = .ok (.getfield 141, 3) := by decide +kernel
theorem d_MD_key_37 : decode b_MD_key 37 = .ok (.if_icmp .ge 22, 3) := by decide +kernel
theorem d_MD_key_40 : decode b_MD_key 40 = .ok (.lload_n 1, 1) := by decide +kernel
theorem d_MD_key_41 : decode b_MD_key 41 = .ok (.bipush 8, 2) := by decide +kernel
theorem d_MD_key_43 : decode b_MD_key 43 = .ok (.lshl, 1) := by decide +kernel
theorem d_MD_key_44 : decode b_MD_key 44 = .ok (.aload_n 0, 1) := by decide +kernel
theorem d_MD_key_45 : decode b_MD_key 45 = .ok (.getfield 7, 3) := by decide +kernel
theorem d_MD_key_48 : decode b_MD_key 48 = .ok (.iload_n 3, 1) := by decide +kernel
theorem d_MD_key_49 : decode b_MD_key 49 = .ok (.baload, 1) := by decide +kernel
theorem d_MD_key_50 : decode b_MD_key 50 = .ok (.i2l, 1) := by decide +kernel
theorem d_MD_key_51 : decode b_MD_key 51 = .ok (.lor, 1) := by decide +kernel
theorem d_MD_key_52 : decode b_MD_key 52 = .ok (.lstore_n 1, 1) := by decide +kernel
theorem d_MD_key_53 : decode b_MD_key 53 = .ok (.iinc 3 1, 3) := by decide +kernel
theorem d_MD_key_56 : decode b_MD_key 56 = .ok (.goto (-24), 3) := by decide +kernel
theorem d_MD_key_59 : decode b_MD_key 59 = .ok (.lload_n 1, 1) := by decide +kernel
theorem d_MD_key_60 : decode b_MD_key 60 = .ok (.lreturn, 1) := by decide +kernel
theorem d_MD_isName_0 : decode b_MD_isName 0 = .ok (.aload_n 0, 1) := by decide +kernel
theorem d_MD_isName_1 : decode b_MD_isName 1 = .ok (.getfield 150, 3) := by decide +kernel
theorem d_MD_isName_4 : decode b_MD_isName 4 = .ok (.bipush (-2), 2) := by decide +kernel
theorem d_MD_isName_6 : decode b_MD_isName 6 = .ok (.if_icmp .ne 38, 3) := by decide +kernel
theorem d_MD_isName_9 : decode b_MD_isName 9 = .ok (.aload_n 0, 1) := by decide +kernel
theorem d_MD_isName_10 : decode b_MD_isName 10 = .ok (.getfield 141, 3) := by decide +kernel
theorem d_MD_isName_13 : decode b_MD_isName 13 = .ok (.aload_n 0, 1) := by decide +kernel
theorem d_MD_isName_14 : decode b_MD_isName 14 = .ok (.getfield 147, 3) := by decide +kernel
theorem d_MD_isName_17 : decode b_MD_isName 17 = .ok (.isub, 1) := by decide +kernel
theorem d_MD_isName_18 : decode b_MD_isName 18 = .ok (.bipush 20, 2) := by decide +kernel
theorem d_MD_isName_20 : decode b_MD_isName 20 = .ok (.if_icmp .gt 24, 3) := by decide +kernel
theorem d_MD_isName_23 : decode b_MD_isName 23 = .ok (.aload_n 0, 1) := by decide +kernel
theorem d_MD_isName_24 : decode b_MD_isName 24 = .ok (.getfield 7, 3) := by decide +kernel
theorem d_MD_isName_27 : decode b_MD_isName 27 = .ok (.aload_n 0, 1) := by decide +kernel
theorem d_MD_isName_28 : decode b_MD_isName 28 = .ok (.getfield 141, 3) := by decide +kernel
theorem d_MD_isName_31 : decode b_MD_isName 31 = .ok (.iconst 1, 1) := by decide +kernel
theorem d_MD_isName_32 : decode b_MD_isName 32 = .ok (.isub, 1) := by decide +kernel
theorem d_MD_isName_33 : decode b_MD_isName 33 = .ok (.baload, 1) := by decide +kernel
theorem d_MD_isName_34 : decode b_MD_isName 34 = .ok (.invokestatic 160, 3) := by decide +kernel
theorem d_MD_isName_37 : decode b_MD_isName 37 = .ok (.ifCond .ne 7, 3) := by decide +kernel
theorem d_MD_isName_40 : decode b_MD_isName 40 = .ok (.iconst 1, 1) := by decide +kernel
theorem d_MD_isName_41 : decode b_MD_isName 41 = .ok (.goto 4, 3) := by decide +kernel
theorem d_MD_isName_44 : decode b_MD_isName 44 = .ok (.iconst 0, 1) := by decide +kernel
theorem d_MD_isName_45 : decode b_MD_isName 45 = .ok (.ireturn, 1) := by decide +kernel
