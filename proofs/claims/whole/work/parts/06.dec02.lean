theorem d_Reader_joinRows_0 : decode b_Reader_joinRows 0 = .ok (.iconst 0, 1) := by decide +kernel
theorem d_Reader_joinRows_1 : decode b_Reader_joinRows 1 = .ok (.istore_n 1, 1) := by decide +kernel
theorem d_Reader_joinRows_2 : decode b_Reader_joinRows 2 = .ok (.iconst 0, 1) := by decide +kernel
theorem d_Reader_joinRows_3 : decode b_Reader_joinRows 3 = .ok (.istore_n 2, 1) := by decide +kernel
theorem d_Reader_joinRows_4 : decode b_Reader_joinRows 4 = .ok (.iload_n 2, 1) := by decide +kernel
theorem d_Reader_joinRows_5 : decode b_Reader_joinRows 5 = .ok (.aload_n 0, 1) := by decide +kernel
theorem d_Reader_joinRows_6 : decode b_Reader_joinRows 6 = .ok (.getfield 34, 3) := by decide +kernel
theorem d_Reader_joinRows_9 : decode b_Reader_joinRows 9 = .ok (.if_icmp .ge 68, 3) := by decide +kernel
theorem d_Reader_joinRows_12 : decode b_Reader_joinRows 12 = .ok (.iload_n 1, 1) := by decide +kernel
theorem d_Reader_joinRows_13 : decode b_Reader_joinRows 13 = .ok (.ifCond .le 43, 3) := by decide +kernel
theorem d_Reader_joinRows_16 : decode b_Reader_joinRows 16 = .ok (.aload_n 0, 1) := by decide +kernel
theorem d_Reader_joinRows_17 : decode b_Reader_joinRows 17 = .ok (.getfield 20, 3) := by decide +kernel
theorem d_Reader_joinRows_20 : decode b_Reader_joinRows 20 = .ok (.iload_n 1, 1) := by decide +kernel
theorem d_Reader_joinRows_21 : decode b_Reader_joinRows 21 = .ok (.iconst 1, 1) := by decide +kernel
theorem d_Reader_joinRows_22 : decode b_Reader_joinRows 22 = .ok (.isub, 1) := by decide +kernel
theorem d_Reader_joinRows_23 : decode b_Reader_joinRows 23 = .ok (.aaload, 1) := by decide +kernel
theorem d_Reader_joinRows_24 : decode b_Reader_joinRows 24 = .ok (.aload_n 0, 1) := by decide +kernel
theorem d_Reader_joinRows_25 : decode b_Reader_joinRows 25 = .ok (.getfield 20, 3) := by decide +kernel
theorem d_Reader_joinRows_28 : decode b_Reader_joinRows 28 = .ok (.iload_n 2, 1) := by decide +kernel
theorem d_Reader_joinRows_29 : decode b_Reader_joinRows 29 = .ok (.aaload, 1) := by decide +kernel
theorem d_Reader_joinRows_30 : decode b_Reader_joinRows 30 = .ok (.invokevirtual 198, 3) := by decide +kernel
theorem d_Reader_joinRows_33 : decode b_Reader_joinRows 33 = .ok (.ifCond .eq 23, 3) := by decide +kernel
theorem d_Reader_joinRows_36 : decode b_Reader_joinRows 36 = .ok (.aload_n 0, 1) := by decide +kernel
theorem d_Reader_joinRows_37 : decode b_Reader_joinRows 37 = .ok (.getfield 20, 3) := by decide +kernel
theorem d_Reader_joinRows_40 : decode b_Reader_joinRows 40 = .ok (.iload_n 1, 1) := by decide +kernel
theorem d_Reader_joinRows_41 : decode b_Reader_joinRows 41 = .ok (.iconst 1, 1) := by decide +kernel
theorem d_Reader_joinRows_42 : decode b_Reader_joinRows 42 = .ok (.isub, 1) := by decide +kernel
theorem d_Reader_joinRows_43 : decode b_Reader_joinRows 43 = .ok (.aaload, 1) := by decide +kernel
theorem d_Reader_joinRows_44 : decode b_Reader_joinRows 44 = .ok (.aload_n 0, 1) := by decide +kernel
theorem d_Reader_joinRows_45 : decode b_Reader_joinRows 45 = .ok (.getfield 20, 3) := by decide +kernel
theorem d_Reader_joinRows_48 : decode b_Reader_joinRows 48 = .ok (.iload_n 2, 1) := by decide +kernel
theorem d_Reader_joinRows_49 : decode b_Reader_joinRows 49 = .ok (.aaload, 1) := by decide +kernel
theorem d_Reader_joinRows_50 : decode b_Reader_joinRows 50 = .ok (.invokevirtual 202, 3) := by decide +kernel
theorem d_Reader_joinRows_53 : decode b_Reader_joinRows 53 = .ok (.goto 18, 3) := by decide +kernel
theorem d_Reader_joinRows_56 : decode b_Reader_joinRows 56 = .ok (.aload_n 0, 1) := by decide +kernel
theorem d_Reader_joinRows_57 : decode b_Reader_joinRows 57 = .ok (.getfield 20, 3) := by decide +kernel
theorem d_Reader_joinRows_60 : decode b_Reader_joinRows 60 = .ok (.iload_n 1, 1) := by decide +kernel
theorem d_Reader_joinRows_61 : decode b_Reader_joinRows 61 = .ok (.aload_n 0, 1) := by decide +kernel
theorem d_Reader_joinRows_62 : decode b_Reader_joinRows 62 = .ok (.getfield 20, 3) := by decide +kernel
theorem d_Reader_joinRows_65 : decode b_Reader_joinRows 65 = .ok (.iload_n 2, 1) := by decide +kernel
theorem d_Reader_joinRows_66 : decode b_Reader_joinRows 66 = .ok (.aaload, 1) := by decide +kernel
theorem d_Reader_joinRows_67 : decode b_Reader_joinRows 67 = .ok (.aastore, 1) := by decide +kernel
theorem d_Reader_joinRows_68 : decode b_Reader_joinRows 68 = .ok (.iinc 1 1, 3) := by decide +kernel
theorem d_Reader_joinRows_71 : decode b_Reader_joinRows 71 = .ok (.iinc 2 1, 3) := by decide +kernel
theorem d_Reader_joinRows_74 : decode b_Reader_joinRows 74 = .ok (.goto (-70), 3) := by decide +kernel
theorem d_Reader_joinRows_77 : decode b_Reader_joinRows 77 = .ok (.aload_n 0, 1) := by decide +kernel
theorem d_Reader_joinRows_78 : decode b_Reader_joinRows 78 = .ok (.iload_n 1, 1) := by decide +kernel
theorem d_Reader_joinRows_79 : decode b_Reader_joinRows 79 = .ok (.putfield 34, 3) := by decide +kernel
theorem d_Reader_joinRows_82 : decode b_Reader_joinRows 82 = .ok (.return_, 1) := by decide +kernel
theorem d_Reader_makePack_0 : decode b_Reader_makePack 0 = .ok (.aload_n 0, 1) := by decide +kernel
theorem d_Reader_makePack_1 : decode b_Reader_makePack 1 = .ok (.invokevirtual 180, 3) := by decide +kernel
theorem d_Reader_makePack_4 : decode b_Reader_makePack 4 = .ok (.aload_n 0, 1) := by decide +kernel
theorem d_Reader_makePack_5 : decode b_Reader_makePack 5 = .ok (.invokevirtual 183, 3) := by decide +kernel
theorem d_Reader_makePack_8 : decode b_Reader_makePack 8 = .ok (.aload_n 0, 1) := by decide +kernel
theorem d_Reader_makePack_9 : decode b_Reader_makePack 9 = .ok (.getfield 38, 3) := by decide +kernel
theorem d_Reader_makePack_12 : decode b_Reader_makePack 12 = .ok (.anewarray 28, 3) := by decide +kernel
theorem d_Reader_makePack_15 : decode b_Reader_makePack 15 = .ok (.astore_n 1, 1) := by decide +kernel
theorem d_Reader_makePack_16 : decode b_Reader_makePack 16 = .ok (.iconst 0, 1) := by decide +kernel
theorem d_Reader_makePack_17 : decode b_Reader_makePack 17 = .ok (.istore_n 2, 1) := by decide +kernel
theorem d_Reader_makePack_18 : decode b_Reader_makePack 18 = .ok (.iload_n 2, 1) := by decide +kernel
theorem d_Reader_makePack_19 : decode b_Reader_makePack 19 = .ok (.aload_n 0, 1) := by decide +kernel
theorem d_Reader_makePack_20 : decode b_Reader_makePack 20 = .ok (.getfield 38, 3) := by decide +kernel
theorem d_Reader_makePack_23 : decode b_Reader_makePack 23 = .ok (.if_icmp .ge 18, 3) := by decide +kernel
theorem d_Reader_makePack_26 : decode b_Reader_makePack 26 = .ok (.aload_n 1, 1) := by decide +kernel
theorem d_Reader_makePack_27 : decode b_Reader_makePack 27 = .ok (.iload_n 2, 1) := by decide +kernel
theorem d_Reader_makePack_28 : decode b_Reader_makePack 28 = .ok (.aload_n 0, 1) := by decide +kernel
theorem d_Reader_makePack_29 : decode b_Reader_makePack 29 = .ok (.getfield 30, 3) := by decide +kernel
theorem d_Reader_makePack_32 : decode b_Reader_makePack 32 = .ok (.iload_n 2, 1) := by decide +kernel
theorem d_Reader_makePack_33 : decode b_Reader_makePack 33 = .ok (.aaload, 1) := by decide +kernel
theorem d_Reader_makePack_34 : decode b_Reader_makePack 34 = .ok (.aastore, 1) := by decide +kernel
theorem d_Reader_makePack_35 : decode b_Reader_makePack 35 = .ok (.iinc 2 1, 3) := by decide +kernel
theorem d_Reader_makePack_38 : decode b_Reader_makePack 38 = .ok (.goto (-20), 3) := by decide +kernel
theorem d_Reader_makePack_41 : decode b_Reader_makePack 41 = .ok (.aload_n 0, 1) := by decide +kernel
theorem d_Reader_makePack_42 : decode b_Reader_makePack 42 = .ok (.getfield 34, 3) := by decide +kernel
theorem d_Reader_makePack_45 : decode b_Reader_makePack 45 = .ok (.anewarray 18, 3) := by decide +kernel
theorem d_Reader_makePack_48 : decode b_Reader_makePack 48 = .ok (.astore_n 2, 1) := by decide +kernel
theorem d_Reader_makePack_49 : decode b_Reader_makePack 49 = .ok (.iconst 0, 1) := by decide +kernel
theorem d_Reader_makePack_50 : decode b_Reader_makePack 50 = .ok (.istore_n 3, 1) := by decide +kernel
theorem d_Reader_makePack_51 : decode b_Reader_makePack 51 = .ok (.iload_n 3, 1) := by decide +kernel
theorem d_Reader_makePack_52 : decode b_Reader_makePack 52 = .ok (.aload_n 0, 1) := by decide +kernel
theorem d_Reader_makePack_53 : decode b_Reader_makePack 53 = .ok (.getfield 34, 3) := by decide +kernel
theorem d_Reader_makePack_56 : decode b_Reader_makePack 56 = .ok (.if_icmp .ge 18, 3) := by decide +kernel
theorem d_Reader_makePack_59 : decode b_Reader_makePack 59 = .ok (.aload_n 2, 1) := by decide +kernel
theorem d_Reader_makePack_60 : decode b_Reader_makePack 60 = .ok (.iload_n 3, 1) := by decide +kernel
theorem d_Reader_makePack_61 : decode b_Reader_makePack 61 = .ok (.aload_n 0, 1) := by decide +kernel
theorem d_Reader_makePack_62 : decode b_Reader_makePack 62 = .ok (.getfield 20, 3) := by decide +kernel
theorem d_Reader_makePack_65 : decode b_Reader_makePack 65 = .ok (.iload_n 3, 1) := by decide +kernel
theorem d_Reader_makePack_66 : decode b_Reader_makePack 66 = .ok (.aaload, 1) := by decide +kernel
theorem d_Reader_makePack_67 : decode b_Reader_makePack 67 = .ok (.aastore, 1) := by decide +kernel
theorem d_Reader_makePack_68 : decode b_Reader_makePack 68 = .ok (.iinc 3 1, 3) := by decide +kernel
theorem d_Reader_makePack_71 : decode b_Reader_makePack 71 = .ok (.goto (-20), 3) := by decide +kernel
theorem d_Reader_makePack_74 : decode b_Reader_makePack 74 = .ok (.new 186, 3) := by decide +kernel
theorem d_Reader_makePack_77 : decode b_Reader_makePack 77 = .ok (.dup, 1) := by decide +kernel
theorem d_Reader_makePack_78 : decode b_Reader_makePack 78 = .ok (.aload_n 0, 1) := by decide +kernel
theorem d_Reader_makePack_79 : decode b_Reader_makePack 79 = .ok (.getfield 84, 3) := by decide +kernel
theorem d_Reader_makePack_82 : decode b_Reader_makePack 82 = .ok (.aload_n 0, 1) := by decide +kernel
theorem d_Reader_makePack_83 : decode b_Reader_makePack 83 = .ok (.getfield 95, 3) := by decide +kernel
theorem d_Reader_makePack_86 : decode b_Reader_makePack 86 = .ok (.aload_n 1, 1) := by decide +kernel
theorem d_Reader_makePack_87 : decode b_Reader_makePack 87 = .ok (.aload_n 2, 1) := by decide +kernel
theorem d_Reader_makePack_88 : decode b_Reader_makePack 88 = .ok (.invokespecial 188, 3) := by decide +kernel
theorem d_Reader_makePack_91 : decode b_Reader_makePack 91 = .ok (.astore_n 3, 1) := by decide +kernel
theorem d_Reader_makePack_92 : decode b_Reader_makePack 92 = .ok (.aload_n 3, 1) := by decide +kernel
theorem d_Reader_makePack_93 : decode b_Reader_makePack 93 = .ok (.invokevirtual 191, 3) := by decide +kernel
theorem d_Reader_makePack_96 : decode b_Reader_makePack 96 = .ok (.aload_n 3, 1) := by decide +kernel
theorem d_Reader_makePack_97 : decode b_Reader_makePack 97 = .ok (.areturn, 1) := by decide +kernel
theorem d_Scan_refusal_0 : decode b_Scan_refusal 0 = .ok (.iconst (-1), 1) := by decide +kernel
theorem d_Scan_refusal_1 : decode b_Scan_refusal 1 = .ok (.aload_n 0, 1) := by decide +kernel
theorem d_Scan_refusal_2 : decode b_Scan_refusal 2 = .ok (.getfield 22, 3) := by decide +kernel
theorem d_Scan_refusal_5 : decode b_Scan_refusal 5 = .ok (.isub, 1) := by decide +kernel
theorem d_Scan_refusal_6 : decode b_Scan_refusal 6 = .ok (.ireturn, 1) := by decide +kernel
theorem d_PR_read_0 : decode b_PR_read 0 = .ok (.aload_n 0, 1) := by decide +kernel
theorem d_PR_read_1 : decode b_PR_read 1 = .ok (.getfield 20, 3) := by decide +kernel
theorem d_PR_read_4 : decode b_PR_read 4 = .ok (.invokevirtual 53, 3) := by decide +kernel
theorem d_PR_read_7 : decode b_PR_read 7 = .ok (.aload_n 0, 1) := by decide +kernel
theorem d_PR_read_8 : decode b_PR_read 8 = .ok (.getfield 12, 3) := by decide +kernel
theorem d_PR_read_11 : decode b_PR_read 11 = .ok (.invokevirtual 56, 3) := by decide +kernel
theorem d_PR_read_14 : decode b_PR_read 14 = .ok (.istore_n 1, 1) := by decide +kernel
theorem d_PR_read_15 : decode b_PR_read 15 = .ok (.aload_n 0, 1) := by decide +kernel
theorem d_PR_read_16 : decode b_PR_read 16 = .ok (.getfield 20, 3) := by decide +kernel
theorem d_PR_read_19 : decode b_PR_read 19 = .ok (.invokevirtual 60, 3) := by decide +kernel
theorem d_PR_read_22 : decode b_PR_read 22 = .ok (.iload_n 1, 1) := by decide +kernel
theorem d_PR_read_23 : decode b_PR_read 23 = .ok (.ifCond .ne 11, 3) := by decide +kernel
theorem d_PR_read_26 : decode b_PR_read 26 = .ok (.aload_n 0, 1) := by decide +kernel
theorem d_PR_read_27 : decode b_PR_read 27 = .ok (.getfield 20, 3) := by decide +kernel
theorem d_PR_read_30 : decode b_PR_read 30 = .ok (.invokevirtual 63, 3) := by decide +kernel
theorem d_PR_read_33 : decode b_PR_read 33 = .ok (.ireturn, 1) := by decide +kernel
theorem d_PR_read_34 : decode b_PR_read 34 = .ok (.aload_n 0, 1) := by decide +kernel
theorem d_PR_read_35 : decode b_PR_read 35 = .ok (.getfield 67, 3) := by decide +kernel
theorem d_PR_read_38 : decode b_PR_read 38 = .ok (.aload_n 0, 1) := by decide +kernel
theorem d_PR_read_39 : decode b_PR_read 39 = .ok (.getfield 23, 3) := by decide +kernel
theorem d_PR_read_42 : decode b_PR_read 42 = .ok (.arraylength, 1) := by decide +kernel
theorem d_PR_read_43 : decode b_PR_read 43 = .ok (.if_icmp .lt 7, 3) := by decide +kernel
theorem d_PR_read_46 : decode b_PR_read 46 = .ok (.sipush (-10000), 3) := by decide +kernel
theorem d_PR_read_49 : decode b_PR_read 49 = .ok (.ireturn, 1) := by decide +kernel
theorem d_PR_read_50 : decode b_PR_read 50 = .ok (.aload_n 0, 1) := by decide +kernel
theorem d_PR_read_51 : decode b_PR_read 51 = .ok (.getfield 23, 3) := by decide +kernel
theorem d_PR_read_54 : decode b_PR_read 54 = .ok (.aload_n 0, 1) := by decide +kernel
theorem d_PR_read_55 : decode b_PR_read 55 = .ok (.getfield 67, 3) := by decide +kernel
theorem d_PR_read_58 : decode b_PR_read 58 = .ok (.aload_n 0, 1) := by decide +kernel
theorem d_PR_read_59 : decode b_PR_read 59 = .ok (.getfield 12, 3) := by decide +kernel
theorem d_PR_read_62 : decode b_PR_read 62 = .ok (.invokevirtual 71, 3) := by decide +kernel
theorem d_PR_read_65 : decode b_PR_read 65 = .ok (.aastore, 1) := by decide +kernel
theorem d_PR_read_66 : decode b_PR_read 66 = .ok (.aload_n 0, 1) := by decide +kernel
theorem d_PR_read_67 : decode b_PR_read 67 = .ok (.dup, 1) := by decide +kernel
theorem d_PR_read_68 : decode b_PR_read 68 = .ok (.getfield 67, 3) := by decide +kernel
theorem d_PR_read_71 : decode b_PR_read 71 = .ok (.iconst 1, 1) := by decide +kernel
theorem d_PR_read_72 : decode b_PR_read 72 = .ok (.iadd, 1) := by decide +kernel
theorem d_PR_read_73 : decode b_PR_read 73 = .ok (.putfield 67, 3) := by decide +kernel
theorem d_PR_read_76 : decode b_PR_read 76 = .ok (.aload_n 0, 1) := by decide +kernel
theorem d_PR_read_77 : decode b_PR_read 77 = .ok (.getfield 67, 3) := by decide +kernel
theorem d_PR_read_80 : decode b_PR_read 80 = .ok (.iconst 1, 1) := by decide +kernel
theorem d_PR_read_81 : decode b_PR_read 81 = .ok (.isub, 1) := by decide +kernel
theorem d_PR_read_82 : decode b_PR_read 82 = .ok (.ireturn, 1) := by decide +kernel
theorem d_PR_packOf_0 : decode b_PR_packOf 0 = .ok (.iload_n 1, 1) := by decide +kernel
theorem d_PR_packOf_1 : decode b_PR_packOf 1 = .ok (.ifCond .lt 11, 3) := by decide +kernel
theorem d_PR_packOf_4 : decode b_PR_packOf 4 = .ok (.iload_n 1, 1) := by decide +kernel
theorem d_PR_packOf_5 : decode b_PR_packOf 5 = .ok (.aload_n 0, 1) := by decide +kernel
theorem d_PR_packOf_6 : decode b_PR_packOf 6 = .ok (.getfield 67, 3) := by decide +kernel
theorem d_PR_packOf_9 : decode b_PR_packOf 9 = .ok (.if_icmp .lt 7, 3) := by decide +kernel
theorem d_PR_packOf_12 : decode b_PR_packOf 12 = .ok (.aconst_null, 1) := by decide +kernel
theorem d_PR_packOf_13 : decode b_PR_packOf 13 = .ok (.goto 9, 3) := by decide +kernel
theorem d_PR_packOf_16 : decode b_PR_packOf 16 = .ok (.aload_n 0, 1) := by decide +kernel
theorem d_PR_packOf_17 : decode b_PR_packOf 17 = .ok (.getfield 23, 3) := by decide +kernel
theorem d_PR_packOf_20 : decode b_PR_packOf 20 = .ok (.iload_n 1, 1) := by decide +kernel
theorem d_PR_packOf_21 : decode b_PR_packOf 21 = .ok (.aaload, 1) := by decide +kernel
theorem d_PR_packOf_22 : decode b_PR_packOf 22 = .ok (.areturn, 1) := by decide +kernel
theorem d_PR_rows_0 : decode b_PR_rows 0 = .ok (.aload_n 0, 1) := by decide +kernel
theorem d_PR_rows_1 : decode b_PR_rows 1 = .ok (.iload_n 1, 1) := by decide +kernel
theorem d_PR_rows_2 : decode b_PR_rows 2 = .ok (.invokevirtual 75, 3) := by decide +kernel
theorem d_PR_rows_5 : decode b_PR_rows 5 = .ok (.astore_n 2, 1) := by decide +kernel
theorem d_PR_rows_6 : decode b_PR_rows 6 = .ok (.aload_n 2, 1) := by decide +kernel
theorem d_PR_rows_7 : decode b_PR_rows 7 = .ok (.ifnonnull 7, 3) := by decide +kernel
theorem d_PR_rows_10 : decode b_PR_rows 10 = .ok (.iconst (-1), 1) := by decide +kernel
theorem d_PR_rows_11 : decode b_PR_rows 11 = .ok (.goto 8, 3) := by decide +kernel
theorem d_PR_rows_14 : decode b_PR_rows 14 = .ok (.aload_n 2, 1) := by decide +kernel
theorem d_PR_rows_15 : decode b_PR_rows 15 = .ok (.getfield 79, 3) := by decide +kernel
theorem d_PR_rows_18 : decode b_PR_rows 18 = .ok (.arraylength, 1) := by decide +kernel
theorem d_PR_rows_19 : decode b_PR_rows 19 = .ok (.ireturn, 1) := by decide +kernel
theorem d_PR_rowOf_0 : decode b_PR_rowOf 0 = .ok (.aload_n 0, 1) := by decide +kernel
theorem d_PR_rowOf_1 : decode b_PR_rowOf 1 = .ok (.iload_n 1, 1) := by decide +kernel
theorem d_PR_rowOf_2 : decode b_PR_rowOf 2 = .ok (.invokevirtual 75, 3) := by decide +kernel
theorem d_PR_rowOf_5 : decode b_PR_rowOf 5 = .ok (.astore_n 3, 1) := by decide +kernel
theorem d_PR_rowOf_6 : decode b_PR_rowOf 6 = .ok (.aload_n 3, 1) := by decide +kernel
theorem d_PR_rowOf_7 : decode b_PR_rowOf 7 = .ok (.ifnull 16, 3) := by decide +kernel
theorem d_PR_rowOf_10 : decode b_PR_rowOf 10 = .ok (.iload_n 2, 1) := by decide +kernel
theorem d_PR_rowOf_11 : decode b_PR_rowOf 11 = .ok (.ifCond .lt 12, 3) := by decide +kernel
theorem d_PR_rowOf_14 : decode b_PR_rowOf 14 = .ok (.iload_n 2, 1) := by decide +kernel
theorem d_PR_rowOf_15 : decode b_PR_rowOf 15 = .ok (.aload_n 3, 1) := by decide +kernel
theorem d_PR_rowOf_16 : decode b_PR_rowOf 16 = .ok (.getfield 79, 3) := by decide +kernel
theorem d_PR_rowOf_19 : decode b_PR_rowOf 19 = .ok (.arraylength, 1) := by decide +kernel
theorem d_PR_rowOf_20 : decode b_PR_rowOf 20 = .ok (.if_icmp .lt 7, 3) := by decide +kernel
theorem d_PR_rowOf_23 : decode b_PR_rowOf 23 = .ok (.aconst_null, 1) := by decide +kernel
theorem d_PR_rowOf_24 : decode b_PR_rowOf 24 = .ok (.goto 9, 3) := by decide +kernel
theorem d_PR_rowOf_27 : decode b_PR_rowOf 27 = .ok (.aload_n 3, 1) := by decide +kernel
theorem d_PR_rowOf_28 : decode b_PR_rowOf 28 = .ok (.getfield 79, 3) := by decide +kernel
theorem d_PR_rowOf_31 : decode b_PR_rowOf 31 = .ok (.iload_n 2, 1) := by decide +kernel
theorem d_PR_rowOf_32 : decode b_PR_rowOf 32 = .ok (.aaload, 1) := by decide +kernel
theorem d_PR_rowOf_33 : decode b_PR_rowOf 33 = .ok (.areturn, 1) := by decide +kernel
theorem d_PR_row_0 : decode b_PR_row 0 = .ok (.aload_n 0, 1) := by decide +kernel
theorem d_PR_row_1 : decode b_PR_row 1 = .ok (.iload_n 1, 1) := by decide +kernel
theorem d_PR_row_2 : decode b_PR_row 2 = .ok (.iload_n 2, 1) := by decide +kernel
theorem d_PR_row_3 : decode b_PR_row 3 = .ok (.invokevirtual 83, 3) := by decide +kernel
theorem d_PR_row_6 : decode b_PR_row 6 = .ok (.astore 4, 2) := by decide +kernel
theorem d_PR_row_8 : decode b_PR_row 8 = .ok (.aload 4, 2) := by decide +kernel
theorem d_PR_row_10 : decode b_PR_row 10 = .ok (.ifnonnull 5, 3) := by decide +kernel
theorem d_PR_row_13 : decode b_PR_row 13 = .ok (.iconst (-1), 1) := by decide +kernel
theorem d_PR_row_14 : decode b_PR_row 14 = .ok (.ireturn, 1) := by decide +kernel
theorem d_PR_row_15 : decode b_PR_row 15 = .ok (.iload_n 3, 1) := by decide +kernel
theorem d_PR_row_16 : decode b_PR_row 16 = .ok (.tableswitch 73 0 4 #[36, 42, 48, 58, 67], 36) := by decide +kernel
theorem d_PR_row_52 : decode b_PR_row 52 = .ok (.aload 4, 2) := by decide +kernel
theorem d_PR_row_54 : decode b_PR_row 54 = .ok (.getfield 87, 3) := by decide +kernel
theorem d_PR_row_57 : decode b_PR_row 57 = .ok (.ireturn, 1) := by decide +kernel
theorem d_PR_row_58 : decode b_PR_row 58 = .ok (.aload 4, 2) := by decide +kernel
theorem d_PR_row_60 : decode b_PR_row 60 = .ok (.getfield 92, 3) := by decide +kernel
theorem d_PR_row_63 : decode b_PR_row 63 = .ok (.ireturn, 1) := by decide +kernel
theorem d_PR_row_64 : decode b_PR_row 64 = .ok (.aload 4, 2) := by decide +kernel
theorem d_PR_row_66 : decode b_PR_row 66 = .ok (.getfield 95, 3) := by decide +kernel
theorem d_PR_row_69 : decode b_PR_row 69 = .ok (.getfield 99, 3) := by decide +kernel
theorem d_PR_row_72 : decode b_PR_row 72 = .ok (.arraylength, 1) := by decide +kernel
theorem d_PR_row_73 : decode b_PR_row 73 = .ok (.ireturn, 1) := by decide +kernel
theorem d_PR_row_74 : decode b_PR_row 74 = .ok (.aload 4, 2) := by decide +kernel
theorem d_PR_row_76 : decode b_PR_row 76 = .ok (.getfield 95, 3) := by decide +kernel
theorem d_PR_row_79 : decode b_PR_row 79 = .ok (.getfield 105, 3) := by decide +kernel
theorem d_PR_row_82 : decode b_PR_row 82 = .ok (.ireturn, 1) := by decide +kernel
theorem d_PR_row_83 : decode b_PR_row 83 = .ok (.aload 4, 2) := by decide +kernel
theorem d_PR_row_85 : decode b_PR_row 85 = .ok (.getfield 108, 3) := by decide +kernel
theorem d_PR_row_88 : decode b_PR_row 88 = .ok (.ireturn, 1) := by decide +kernel
theorem d_PR_row_89 : decode b_PR_row 89 = .ok (.iconst (-1), 1) := by decide +kernel
theorem d_PR_row_90 : decode b_PR_row 90 = .ok (.ireturn, 1) := by decide +kernel
theorem d_Name_writtenAt_0 : decode b_Name_writtenAt 0 = .ok (.iload_n 1, 1) := by decide +kernel
theorem d_Name_writtenAt_1 : decode b_Name_writtenAt 1 = .ok (.ifCond .lt 12, 3) := by decide +kernel
theorem d_Name_writtenAt_4 : decode b_Name_writtenAt 4 = .ok (.iload_n 1, 1) := by decide +kernel
theorem d_Name_writtenAt_5 : decode b_Name_writtenAt 5 = .ok (.aload_n 0, 1) := by decide +kernel
theorem d_Name_writtenAt_6 : decode b_Name_writtenAt 6 = .ok (.getfield 9, 3) := by decide +kernel
theorem d_Name_writtenAt_9 : decode b_Name_writtenAt 9 = .ok (.arraylength, 1) := by decide +kernel
theorem d_Name_writtenAt_10 : decode b_Name_writtenAt 10 = .ok (.if_icmp .lt 7, 3) := by decide +kernel
theorem d_Name_writtenAt_13 : decode b_Name_writtenAt 13 = .ok (.iconst (-1), 1) := by decide +kernel
theorem d_Name_writtenAt_14 : decode b_Name_writtenAt 14 = .ok (.goto 9, 3) := by decide +kernel
theorem d_Name_writtenAt_17 : decode b_Name_writtenAt 17 = .ok (.aload_n 0, 1) := by decide +kernel
theorem d_Name_writtenAt_18 : decode b_Name_writtenAt 18 = .ok (.getfield 9, 3) := by decide +kernel
theorem d_Name_writtenAt_21 : decode b_Name_writtenAt 21 = .ok (.iload_n 1, 1) := by decide +kernel
theorem d_Name_writtenAt_22 : decode b_Name_writtenAt 22 = .ok (.caload, 1) := by decide +kernel
theorem d_Name_writtenAt_23 : decode b_Name_writtenAt 23 = .ok (.ireturn, 1) := by decide +kernel
theorem d_Name_foldedAt_0 : decode b_Name_foldedAt 0 = .ok (.iload_n 1, 1) := by decide +kernel
theorem d_Name_foldedAt_1 : decode b_Name_foldedAt 1 = .ok (.ifCond .lt 11, 3) := by decide +kernel
theorem d_Name_foldedAt_4 : decode b_Name_foldedAt 4 = .ok (.iload_n 1, 1) := by decide +kernel
theorem d_Name_foldedAt_5 : decode b_Name_foldedAt 5 = .ok (.aload_n 0, 1) := by decide +kernel
theorem d_Name_foldedAt_6 : decode b_Name_foldedAt 6 = .ok (.getfield 26, 3) := by decide +kernel
theorem d_Name_foldedAt_9 : decode b_Name_foldedAt 9 = .ok (.if_icmp .lt 7, 3) := by decide +kernel
theorem d_Name_foldedAt_12 : decode b_Name_foldedAt 12 = .ok (.iconst (-1), 1) := by decide +kernel
theorem d_Name_foldedAt_13 : decode b_Name_foldedAt 13 = .ok (.goto 9, 3) := by decide +kernel
theorem d_Name_foldedAt_16 : decode b_Name_foldedAt 16 = .ok (.aload_n 0, 1) := by decide +kernel
theorem d_Name_foldedAt_17 : decode b_Name_foldedAt 17 = .ok (.getfield 15, 3) := by decide +kernel
theorem d_Name_foldedAt_20 : decode b_Name_foldedAt 20 = .ok (.iload_n 1, 1) := by decide +kernel
theorem d_Name_foldedAt_21 : decode b_Name_foldedAt 21 = .ok (.caload, 1) := by decide +kernel
theorem d_Name_foldedAt_22 : decode b_Name_foldedAt 22 = .ok (.ireturn, 1) := by decide +kernel
theorem d_PR_letter_0 : decode b_PR_letter 0 = .ok (.aload_n 0, 1) := by decide +kernel
theorem d_PR_letter_1 : decode b_PR_letter 1 = .ok (.iload_n 1, 1) := by decide +kernel
theorem d_PR_letter_2 : decode b_PR_letter 2 = .ok (.iload_n 2, 1) := by decide +kernel
theorem d_PR_letter_3 : decode b_PR_letter 3 = .ok (.invokevirtual 83, 3) := by decide +kernel
theorem d_PR_letter_6 : decode b_PR_letter 6 = .ok (.astore 5, 2) := by decide +kernel
theorem d_PR_letter_8 : decode b_PR_letter 8 = .ok (.aload 5, 2) := by decide +kernel
theorem d_PR_letter_10 : decode b_PR_letter 10 = .ok (.ifnonnull 5, 3) := by decide +kernel
theorem d_PR_letter_13 : decode b_PR_letter 13 = .ok (.iconst (-1), 1) := by decide +kernel
theorem d_PR_letter_14 : decode b_PR_letter 14 = .ok (.ireturn, 1) := by decide +kernel
theorem d_PR_letter_15 : decode b_PR_letter 15 = .ok (.iload_n 3, 1) := by decide +kernel
theorem d_PR_letter_16 : decode b_PR_letter 16 = .ok (.tableswitch 73 0 2 #[28, 39, 50], 28) := by decide +kernel
theorem d_PR_letter_44 : decode b_PR_letter 44 = .ok (.aload 5, 2) := by decide +kernel
theorem d_PR_letter_46 : decode b_PR_letter 46 = .ok (.getfield 95, 3) := by decide +kernel
theorem d_PR_letter_49 : decode b_PR_letter 49 = .ok (.iload 4, 2) := by decide +kernel
theorem d_PR_letter_51 : decode b_PR_letter 51 = .ok (.invokevirtual 111, 3) := by decide +kernel
theorem d_PR_letter_54 : decode b_PR_letter 54 = .ok (.ireturn, 1) := by decide +kernel
theorem d_PR_letter_55 : decode b_PR_letter 55 = .ok (.aload 5, 2) := by decide +kernel
theorem d_PR_letter_57 : decode b_PR_letter 57 = .ok (.getfield 95, 3) := by decide +kernel
theorem d_PR_letter_60 : decode b_PR_letter 60 = .ok (.iload 4, 2) := by decide +kernel
theorem d_PR_letter_62 : decode b_PR_letter 62 = .ok (.invokevirtual 115, 3) := by decide +kernel
theorem d_PR_letter_65 : decode b_PR_letter 65 = .ok (.ireturn, 1) := by decide +kernel
theorem d_PR_letter_66 : decode b_PR_letter 66 = .ok (.aload 5, 2) := by decide +kernel
theorem d_PR_letter_68 : decode b_PR_letter 68 = .ok (.getfield 118, 3) := by decide +kernel
theorem d_PR_letter_71 : decode b_PR_letter 71 = .ok (.ifnonnull 7, 3) := by decide +kernel
theorem d_PR_letter_74 : decode b_PR_letter 74 = .ok (.iconst (-1), 1) := by decide +kernel
theorem d_PR_letter_75 : decode b_PR_letter 75 = .ok (.goto 13, 3) := by decide +kernel
theorem d_PR_letter_78 : decode b_PR_letter 78 = .ok (.aload 5, 2) := by decide +kernel
theorem d_PR_letter_80 : decode b_PR_letter 80 = .ok (.getfield 118, 3) := by decide +kernel
theorem d_PR_letter_83 : decode b_PR_letter 83 = .ok (.iload 4, 2) := by decide +kernel
theorem d_PR_letter_85 : decode b_PR_letter 85 = .ok (.invokevirtual 111, 3) := by decide +kernel
theorem d_PR_letter_88 : decode b_PR_letter 88 = .ok (.ireturn, 1) := by decide +kernel
theorem d_PR_letter_89 : decode b_PR_letter 89 = .ok (.iconst (-1), 1) := by decide +kernel
theorem d_PR_letter_90 : decode b_PR_letter 90 = .ok (.ireturn, 1) := by decide +kernel
theorem d_PR_low_0 : decode b_PR_low 0 = .ok (.aload_n 0, 1) := by decide +kernel
theorem d_PR_low_1 : decode b_PR_low 1 = .ok (.iload_n 1, 1) := by decide +kernel
theorem d_PR_low_2 : decode b_PR_low 2 = .ok (.iload_n 2, 1) := by decide +kernel
theorem d_PR_low_3 : decode b_PR_low 3 = .ok (.invokevirtual 83, 3) := by decide +kernel
theorem d_PR_low_6 : decode b_PR_low 6 = .ok (.astore_n 3, 1) := by decide +kernel
theorem d_PR_low_7 : decode b_PR_low 7 = .ok (.aload_n 3, 1) := by decide +kernel
theorem d_PR_low_8 : decode b_PR_low 8 = .ok (.ifnonnull 9, 3) := by decide +kernel
theorem d_PR_low_11 : decode b_PR_low 11 = .ok (.ldc2_w 121, 3) := by decide +kernel
theorem d_PR_low_14 : decode b_PR_low 14 = .ok (.goto 7, 3) := by decide +kernel
theorem d_PR_low_17 : decode b_PR_low 17 = .ok (.aload_n 3, 1) := by decide +kernel
theorem d_PR_low_18 : decode b_PR_low 18 = .ok (.getfield 123, 3) := by decide +kernel
theorem d_PR_low_21 : decode b_PR_low 21 = .ok (.lreturn, 1) := by decide +kernel
theorem d_PR_high_0 : decode b_PR_high 0 = .ok (.aload_n 0, 1) := by decide +kernel
theorem d_PR_high_1 : decode b_PR_high 1 = .ok (.iload_n 1, 1) := by decide +kernel
theorem d_PR_high_2 : decode b_PR_high 2 = .ok (.iload_n 2, 1) := by decide +kernel
theorem d_PR_high_3 : decode b_PR_high 3 = .ok (.invokevirtual 83, 3) := by decide +kernel
theorem d_PR_high_6 : decode b_PR_high 6 = .ok (.astore_n 3, 1) := by decide +kernel
theorem d_PR_high_7 : decode b_PR_high 7 = .ok (.aload_n 3, 1) := by decide +kernel
theorem d_PR_high_8 : decode b_PR_high 8 = .ok (.ifnonnull 9, 3) := by decide +kernel
theorem d_PR_high_11 : decode b_PR_high 11 = .ok (.ldc2_w 121, 3) := by decide +kernel
theorem d_PR_high_14 : decode b_PR_high 14 = .ok (.goto 7, 3) := by decide +kernel
theorem d_PR_high_17 : decode b_PR_high 17 = .ok (.aload_n 3, 1) := by decide +kernel
theorem d_PR_high_18 : decode b_PR_high 18 = .ok (.getfield 127, 3) := by decide +kernel
theorem d_PR_high_21 : decode b_PR_high 21 = .ok (.lreturn, 1) := by decide +kernel
theorem d_PR_check_0 : decode b_PR_check 0 = .ok (.aload_n 0, 1) := by decide +kernel
theorem d_PR_check_1 : decode b_PR_check 1 = .ok (.iload_n 1, 1) := by decide +kernel
theorem d_PR_check_2 : decode b_PR_check 2 = .ok (.invokevirtual 75, 3) := by decide +kernel
theorem d_PR_check_5 : decode b_PR_check 5 = .ok (.astore_n 2, 1) := by decide +kernel
theorem d_PR_check_6 : decode b_PR_check 6 = .ok (.aload_n 2, 1) := by decide +kernel
theorem d_PR_check_7 : decode b_PR_check 7 = .ok (.ifnonnull 5, 3) := by decide +kernel
theorem d_PR_check_10 : decode b_PR_check 10 = .ok (.iconst (-1), 1) := by decide +kernel
theorem d_PR_check_11 : decode b_PR_check 11 = .ok (.ireturn, 1) := by decide +kernel
theorem d_PR_check_12 : decode b_PR_check 12 = .ok (.iconst 0, 1) := by decide +kernel
theorem d_PR_check_13 : decode b_PR_check 13 = .ok (.istore_n 3, 1) := by decide +kernel
theorem d_PR_check_14 : decode b_PR_check 14 = .ok (.iload_n 3, 1) := by decide +kernel
theorem d_PR_check_15 : decode b_PR_check 15 = .ok (.aload_n 2, 1) := by decide +kernel
theorem d_PR_check_16 : decode b_PR_check 16 = .ok (.getfield 79, 3) := by decide +kernel
theorem d_PR_check_19 : decode b_PR_check 19 = .ok (.arraylength, 1) := by decide +kernel
theorem d_PR_check_20 : decode b_PR_check 20 = .ok (.if_icmp .ge 25, 3) := by decide +kernel
theorem d_PR_check_23 : decode b_PR_check 23 = .ok (.aload_n 2, 1) := by decide +kernel
theorem d_PR_check_24 : decode b_PR_check 24 = .ok (.getfield 79, 3) := by decide +kernel
theorem d_PR_check_27 : decode b_PR_check 27 = .ok (.iload_n 3, 1) := by decide +kernel
theorem d_PR_check_28 : decode b_PR_check 28 = .ok (.aaload, 1) := by decide +kernel
theorem d_PR_check_29 : decode b_PR_check 29 = .ok (.getfield 108, 3) := by decide +kernel
theorem d_PR_check_32 : decode b_PR_check 32 = .ok (.ifCond .eq 7, 3) := by decide +kernel
theorem d_PR_check_35 : decode b_PR_check 35 = .ok (.iload_n 3, 1) := by decide +kernel
theorem d_PR_check_36 : decode b_PR_check 36 = .ok (.iconst 1, 1) := by decide +kernel
theorem d_PR_check_37 : decode b_PR_check 37 = .ok (.iadd, 1) := by decide +kernel
theorem d_PR_check_38 : decode b_PR_check 38 = .ok (.ireturn, 1) := by decide +kernel
theorem d_PR_check_39 : decode b_PR_check 39 = .ok (.iinc 3 1, 3) := by decide +kernel
theorem d_PR_check_42 : decode b_PR_check 42 = .ok (.goto (-28), 3) := by decide +kernel
theorem d_PR_check_45 : decode b_PR_check 45 = .ok (.iconst 0, 1) := by decide +kernel
theorem d_PR_check_46 : decode b_PR_check 46 = .ok (.ireturn, 1) := by decide +kernel
theorem d_Pack_headsAlike_0 : decode b_Pack_headsAlike 0 = .ok (.aload_n 0, 1) := by decide +kernel
theorem d_Pack_headsAlike_1 : decode b_Pack_headsAlike 1 = .ok (.getfield 7, 3) := by decide +kernel
theorem d_Pack_headsAlike_4 : decode b_Pack_headsAlike 4 = .ok (.aload_n 1, 1) := by decide +kernel
theorem d_Pack_headsAlike_5 : decode b_Pack_headsAlike 5 = .ok (.getfield 7, 3) := by decide +kernel
theorem d_Pack_headsAlike_8 : decode b_Pack_headsAlike 8 = .ok (.invokevirtual 40, 3) := by decide +kernel
theorem d_Pack_headsAlike_11 : decode b_Pack_headsAlike 11 = .ok (.ifCond .eq 28, 3) := by decide +kernel
theorem d_Pack_headsAlike_14 : decode b_Pack_headsAlike 14 = .ok (.aload_n 0, 1) := by decide +kernel
theorem d_Pack_headsAlike_15 : decode b_Pack_headsAlike 15 = .ok (.getfield 13, 3) := by decide +kernel
theorem d_Pack_headsAlike_18 : decode b_Pack_headsAlike 18 = .ok (.aload_n 1, 1) := by decide +kernel
theorem d_Pack_headsAlike_19 : decode b_Pack_headsAlike 19 = .ok (.getfield 13, 3) := by decide +kernel
theorem d_Pack_headsAlike_22 : decode b_Pack_headsAlike 22 = .ok (.lcmp, 1) := by decide +kernel
theorem d_Pack_headsAlike_23 : decode b_Pack_headsAlike 23 = .ok (.ifCond .ne 16, 3) := by decide +kernel
theorem d_Pack_headsAlike_26 : decode b_Pack_headsAlike 26 = .ok (.aload_n 0, 1) := by decide +kernel
theorem d_Pack_headsAlike_27 : decode b_Pack_headsAlike 27 = .ok (.getfield 17, 3) := by decide +kernel
theorem d_Pack_headsAlike_30 : decode b_Pack_headsAlike 30 = .ok (.arraylength, 1) := by decide +kernel
theorem d_Pack_headsAlike_31 : decode b_Pack_headsAlike 31 = .ok (.aload_n 1, 1) := by decide +kernel
theorem d_Pack_headsAlike_32 : decode b_Pack_headsAlike 32 = .ok (.getfield 17, 3) := by decide +kernel
theorem d_Pack_headsAlike_35 : decode b_Pack_headsAlike 35 = .ok (.arraylength, 1) := by decide +kernel
theorem d_Pack_headsAlike_36 : decode b_Pack_headsAlike 36 = .ok (.if_icmp .eq 5, 3) := by decide +kernel
theorem d_Pack_headsAlike_39 : decode b_Pack_headsAlike 39 = .ok (.iconst 0, 1) := by decide +kernel
theorem d_Pack_headsAlike_40 : decode b_Pack_headsAlike 40 = .ok (.ireturn, 1) := by decide +kernel
theorem d_Pack_headsAlike_41 : decode b_Pack_headsAlike 41 = .ok (.iconst 0, 1) := by decide +kernel
theorem d_Pack_headsAlike_42 : decode b_Pack_headsAlike 42 = .ok (.istore_n 2, 1) := by decide +kernel
theorem d_Pack_headsAlike_43 : decode b_Pack_headsAlike 43 = .ok (.iload_n 2, 1) := by decide +kernel
theorem d_Pack_headsAlike_44 : decode b_Pack_headsAlike 44 = .ok (.aload_n 0, 1) := by decide +kernel
theorem d_Pack_headsAlike_45 : decode b_Pack_headsAlike 45 = .ok (.getfield 17, 3) := by decide +kernel
theorem d_Pack_headsAlike_48 : decode b_Pack_headsAlike 48 = .ok (.arraylength, 1) := by decide +kernel
theorem d_Pack_headsAlike_49 : decode b_Pack_headsAlike 49 = .ok (.if_icmp .ge 24, 3) := by decide +kernel
theorem d_Pack_headsAlike_52 : decode b_Pack_headsAlike 52 = .ok (.aload_n 1, 1) := by decide +kernel
theorem d_Pack_headsAlike_53 : decode b_Pack_headsAlike 53 = .ok (.aload_n 0, 1) := by decide +kernel
theorem d_Pack_headsAlike_54 : decode b_Pack_headsAlike 54 = .ok (.getfield 17, 3) := by decide +kernel
theorem d_Pack_headsAlike_57 : decode b_Pack_headsAlike 57 = .ok (.iload_n 2, 1) := by decide +kernel
theorem d_Pack_headsAlike_58 : decode b_Pack_headsAlike 58 = .ok (.aaload, 1) := by decide +kernel
theorem d_Pack_headsAlike_59 : decode b_Pack_headsAlike 59 = .ok (.invokevirtual 47, 3) := by decide +kernel
theorem d_Pack_headsAlike_62 : decode b_Pack_headsAlike 62 = .ok (.ifCond .ne 5, 3) := by decide +kernel
theorem d_Pack_headsAlike_65 : decode b_Pack_headsAlike 65 = .ok (.iconst 0, 1) := by decide +kernel
theorem d_Pack_headsAlike_66 : decode b_Pack_headsAlike 66 = .ok (.ireturn, 1) := by decide +kernel
theorem d_Pack_headsAlike_67 : decode b_Pack_headsAlike 67 = .ok (.iinc 2 1, 3) := by decide +kernel
theorem d_Pack_headsAlike_70 : decode b_Pack_headsAlike 70 = .ok (.goto (-27), 3) := by decide +kernel
theorem d_Pack_headsAlike_73 : decode b_Pack_headsAlike 73 = .ok (.iconst 1, 1) := by decide +kernel
theorem d_Pack_headsAlike_74 : decode b_Pack_headsAlike 74 = .ok (.ireturn, 1) := by decide +kernel
theorem d_Row_holdsLike_0 : decode b_Row_holdsLike 0 = .ok (.aload_n 0, 1) := by decide +kernel
theorem d_Row_holdsLike_1 : decode b_Row_holdsLike 1 = .ok (.getfield 23, 3) := by decide +kernel
theorem d_Row_holdsLike_4 : decode b_Row_holdsLike 4 = .ok (.aload_n 1, 1) := by decide +kernel
theorem d_Row_holdsLike_5 : decode b_Row_holdsLike 5 = .ok (.getfield 23, 3) := by decide +kernel
theorem d_Row_holdsLike_8 : decode b_Row_holdsLike 8 = .ok (.lcmp, 1) := by decide +kernel
theorem d_Row_holdsLike_9 : decode b_Row_holdsLike 9 = .ok (.ifCond .ne 15, 3) := by decide +kernel
theorem d_Row_holdsLike_12 : decode b_Row_holdsLike 12 = .ok (.aload_n 0, 1) := by decide +kernel
theorem d_Row_holdsLike_13 : decode b_Row_holdsLike 13 = .ok (.getfield 27, 3) := by decide +kernel
theorem d_Row_holdsLike_16 : decode b_Row_holdsLike 16 = .ok (.aload_n 1, 1) := by decide +kernel
theorem d_Row_holdsLike_17 : decode b_Row_holdsLike 17 = .ok (.getfield 27, 3) := by decide +kernel
theorem d_Row_holdsLike_20 : decode b_Row_holdsLike 20 = .ok (.lcmp, 1) := by decide +kernel
theorem d_Row_holdsLike_21 : decode b_Row_holdsLike 21 = .ok (.ifCond .eq 5, 3) := by decide +kernel
theorem d_Row_holdsLike_24 : decode b_Row_holdsLike 24 = .ok (.iconst 0, 1) := by decide +kernel
theorem d_Row_holdsLike_25 : decode b_Row_holdsLike 25 = .ok (.ireturn, 1) := by decide +kernel
theorem d_Row_holdsLike_26 : decode b_Row_holdsLike 26 = .ok (.aload_n 0, 1) := by decide +kernel
theorem d_Row_holdsLike_27 : decode b_Row_holdsLike 27 = .ok (.getfield 20, 3) := by decide +kernel
theorem d_Row_holdsLike_30 : decode b_Row_holdsLike 30 = .ok (.ifnull 24, 3) := by decide +kernel
theorem d_Row_holdsLike_33 : decode b_Row_holdsLike 33 = .ok (.aload_n 1, 1) := by decide +kernel
theorem d_Row_holdsLike_34 : decode b_Row_holdsLike 34 = .ok (.getfield 20, 3) := by decide +kernel
theorem d_Row_holdsLike_37 : decode b_Row_holdsLike 37 = .ok (.ifnull 17, 3) := by decide +kernel
theorem d_Row_holdsLike_40 : decode b_Row_holdsLike 40 = .ok (.aload_n 0, 1) := by decide +kernel
theorem d_Row_holdsLike_41 : decode b_Row_holdsLike 41 = .ok (.getfield 20, 3) := by decide +kernel
theorem d_Row_holdsLike_44 : decode b_Row_holdsLike 44 = .ok (.aload_n 1, 1) := by decide +kernel
theorem d_Row_holdsLike_45 : decode b_Row_holdsLike 45 = .ok (.getfield 20, 3) := by decide +kernel
theorem d_Row_holdsLike_48 : decode b_Row_holdsLike 48 = .ok (.invokevirtual 32, 3) := by decide +kernel
theorem d_Row_holdsLike_51 : decode b_Row_holdsLike 51 = .ok (.ifCond .eq 7, 3) := by decide +kernel
theorem d_Row_holdsLike_54 : decode b_Row_holdsLike 54 = .ok (.iconst 1, 1) := by decide +kernel
theorem d_Row_holdsLike_55 : decode b_Row_holdsLike 55 = .ok (.goto 4, 3) := by decide +kernel
theorem d_Row_holdsLike_58 : decode b_Row_holdsLike 58 = .ok (.iconst 0, 1) := by decide +kernel
theorem d_Row_holdsLike_59 : decode b_Row_holdsLike 59 = .ok (.ireturn, 1) := by decide +kernel
theorem d_Pairing_pairFrom_0 : decode b_Pairing_pairFrom 0 = .ok (.iload_n 1, 1) := by decide +kernel
theorem d_Pairing_pairFrom_1 : decode b_Pairing_pairFrom 1 = .ok (.istore 4, 2) := by decide +kernel
theorem d_Pairing_pairFrom_3 : decode b_Pairing_pairFrom 3 = .ok (.iload 4, 2) := by decide +kernel
theorem d_Pairing_pairFrom_5 : decode b_Pairing_pairFrom 5 = .ok (.aload_n 3, 1) := by decide +kernel
theorem d_Pairing_pairFrom_6 : decode b_Pairing_pairFrom 6 = .ok (.arraylength, 1) := by decide +kernel
theorem d_Pairing_pairFrom_7 : decode b_Pairing_pairFrom 7 = .ok (.if_icmp .ge 61, 3) := by decide +kernel
theorem d_Pairing_pairFrom_10 : decode b_Pairing_pairFrom 10 = .ok (.iload 4, 2) := by decide +kernel
theorem d_Pairing_pairFrom_12 : decode b_Pairing_pairFrom 12 = .ok (.aload_n 0, 1) := by decide +kernel
theorem d_Pairing_pairFrom_13 : decode b_Pairing_pairFrom 13 = .ok (.getfield 15, 3) := by decide +kernel
theorem d_Pairing_pairFrom_16 : decode b_Pairing_pairFrom 16 = .ok (.arraylength, 1) := by decide +kernel
theorem d_Pairing_pairFrom_17 : decode b_Pairing_pairFrom 17 = .ok (.if_icmp .ge 51, 3) := by decide +kernel
theorem d_Pairing_pairFrom_20 : decode b_Pairing_pairFrom 20 = .ok (.aload_n 3, 1) := by decide +kernel
theorem d_Pairing_pairFrom_21 : decode b_Pairing_pairFrom 21 = .ok (.iload 4, 2) := by decide +kernel
theorem d_Pairing_pairFrom_23 : decode b_Pairing_pairFrom 23 = .ok (.aaload, 1) := by decide +kernel
theorem d_Pairing_pairFrom_24 : decode b_Pairing_pairFrom 24 = .ok (.aload_n 2, 1) := by decide +kernel
theorem d_Pairing_pairFrom_25 : decode b_Pairing_pairFrom 25 = .ok (.invokevirtual 28, 3) := by decide +kernel
theorem d_Pairing_pairFrom_28 : decode b_Pairing_pairFrom 28 = .ok (.ifCond .ne 40, 3) := by decide +kernel
theorem d_Pairing_pairFrom_31 : decode b_Pairing_pairFrom 31 = .ok (.aload_n 0, 1) := by decide +kernel
theorem d_Pairing_pairFrom_32 : decode b_Pairing_pairFrom 32 = .ok (.getfield 15, 3) := by decide +kernel
theorem d_Pairing_pairFrom_35 : decode b_Pairing_pairFrom 35 = .ok (.iload 4, 2) := by decide +kernel
theorem d_Pairing_pairFrom_37 : decode b_Pairing_pairFrom 37 = .ok (.baload, 1) := by decide +kernel
theorem d_Pairing_pairFrom_38 : decode b_Pairing_pairFrom 38 = .ok (.ifCond .ne 24, 3) := by decide +kernel
theorem d_Pairing_pairFrom_41 : decode b_Pairing_pairFrom 41 = .ok (.aload_n 3, 1) := by decide +kernel
theorem d_Pairing_pairFrom_42 : decode b_Pairing_pairFrom 42 = .ok (.iload 4, 2) := by decide +kernel
theorem d_Pairing_pairFrom_44 : decode b_Pairing_pairFrom 44 = .ok (.aaload, 1) := by decide +kernel
theorem d_Pairing_pairFrom_45 : decode b_Pairing_pairFrom 45 = .ok (.aload_n 2, 1) := by decide +kernel
theorem d_Pairing_pairFrom_46 : decode b_Pairing_pairFrom 46 = .ok (.invokevirtual 38, 3) := by decide +kernel
theorem d_Pairing_pairFrom_49 : decode b_Pairing_pairFrom 49 = .ok (.ifCond .eq 13, 3) := by decide +kernel
theorem d_Pairing_pairFrom_52 : decode b_Pairing_pairFrom 52 = .ok (.aload_n 0, 1) := by decide +kernel
theorem d_Pairing_pairFrom_53 : decode b_Pairing_pairFrom 53 = .ok (.getfield 15, 3) := by decide +kernel
theorem d_Pairing_pairFrom_56 : decode b_Pairing_pairFrom 56 = .ok (.iload 4, 2) := by decide +kernel
theorem d_Pairing_pairFrom_58 : decode b_Pairing_pairFrom 58 = .ok (.iconst 1, 1) := by decide +kernel
theorem d_Pairing_pairFrom_59 : decode b_Pairing_pairFrom 59 = .ok (.bastore, 1) := by decide +kernel
theorem d_Pairing_pairFrom_60 : decode b_Pairing_pairFrom 60 = .ok (.iconst 1, 1) := by decide +kernel
theorem d_Pairing_pairFrom_61 : decode b_Pairing_pairFrom 61 = .ok (.ireturn, 1) := by decide +kernel
theorem d_Pairing_pairFrom_62 : decode b_Pairing_pairFrom 62 = .ok (.iinc 4 1, 3) := by decide +kernel
theorem d_Pairing_pairFrom_65 : decode b_Pairing_pairFrom 65 = .ok (.goto (-62), 3) := by decide +kernel
theorem d_Pairing_pairFrom_68 : decode b_Pairing_pairFrom 68 = .ok (.iconst 0, 1) := by decide +kernel
theorem d_Pairing_pairFrom_69 : decode b_Pairing_pairFrom 69 = .ok (.ireturn, 1) := by decide +kernel
theorem d_Pairing_clear_0 : decode b_Pairing_clear 0 = .ok (.iconst 0, 1) := by decide +kernel
theorem d_Pairing_clear_1 : decode b_Pairing_clear 1 = .ok (.istore_n 1, 1) := by decide +kernel
theorem d_Pairing_clear_2 : decode b_Pairing_clear 2 = .ok (.iload_n 1, 1) := by decide +kernel
theorem d_Pairing_clear_3 : decode b_Pairing_clear 3 = .ok (.aload_n 0, 1) := by decide +kernel
theorem d_Pairing_clear_4 : decode b_Pairing_clear 4 = .ok (.arraylength, 1) := by decide +kernel
theorem d_Pairing_clear_5 : decode b_Pairing_clear 5 = .ok (.if_icmp .ge 13, 3) := by decide +kernel
theorem d_Pairing_clear_8 : decode b_Pairing_clear 8 = .ok (.aload_n 0, 1) := by decide +kernel
theorem d_Pairing_clear_9 : decode b_Pairing_clear 9 = .ok (.iload_n 1, 1) := by decide +kernel
theorem d_Pairing_clear_10 : decode b_Pairing_clear 10 = .ok (.iconst 0, 1) := by decide +kernel
theorem d_Pairing_clear_11 : decode b_Pairing_clear 11 = .ok (.bastore, 1) := by decide +kernel
theorem d_Pairing_clear_12 : decode b_Pairing_clear 12 = .ok (.iinc 1 1, 3) := by decide +kernel
theorem d_Pairing_clear_15 : decode b_Pairing_clear 15 = .ok (.goto (-13), 3) := by decide +kernel
theorem d_Pairing_clear_18 : decode b_Pairing_clear 18 = .ok (.return_, 1) := by decide +kernel
theorem d_Pairing_countAlone_0 : decode b_Pairing_countAlone 0 = .ok (.aload_n 0, 1) := by decide +kernel
theorem d_Pairing_countAlone_1 : decode b_Pairing_countAlone 1 = .ok (.getfield 9, 3) := by decide +kernel
theorem d_Pairing_countAlone_4 : decode b_Pairing_countAlone 4 = .ok (.invokestatic 18, 3) := by decide +kernel
theorem d_Pairing_countAlone_7 : decode b_Pairing_countAlone 7 = .ok (.aload_n 0, 1) := by decide +kernel
theorem d_Pairing_countAlone_8 : decode b_Pairing_countAlone 8 = .ok (.getfield 15, 3) := by decide +kernel
theorem d_Pairing_countAlone_11 : decode b_Pairing_countAlone 11 = .ok (.invokestatic 18, 3) := by decide +kernel
theorem d_Pairing_countAlone_14 : decode b_Pairing_countAlone 14 = .ok (.iconst 0, 1) := by decide +kernel
theorem d_Pairing_countAlone_15 : decode b_Pairing_countAlone 15 = .ok (.istore_n 3, 1) := by decide +kernel
theorem d_Pairing_countAlone_16 : decode b_Pairing_countAlone 16 = .ok (.iconst 0, 1) := by decide +kernel
theorem d_Pairing_countAlone_17 : decode b_Pairing_countAlone 17 = .ok (.istore 4, 2) := by decide +kernel
theorem d_Pairing_countAlone_19 : decode b_Pairing_countAlone 19 = .ok (.iconst 0, 1) := by decide +kernel
theorem d_Pairing_countAlone_20 : decode b_Pairing_countAlone 20 = .ok (.istore 5, 2) := by decide +kernel
theorem d_Pairing_countAlone_22 : decode b_Pairing_countAlone 22 = .ok (.iload 5, 2) := by decide +kernel
theorem d_Pairing_countAlone_24 : decode b_Pairing_countAlone 24 = .ok (.aload_n 1, 1) := by decide +kernel
theorem d_Pairing_countAlone_25 : decode b_Pairing_countAlone 25 = .ok (.getfield 22, 3) := by decide +kernel
theorem d_Pairing_countAlone_28 : decode b_Pairing_countAlone 28 = .ok (.arraylength, 1) := by decide +kernel
theorem d_Pairing_countAlone_29 : decode b_Pairing_countAlone 29 = .ok (.if_icmp .ge 85, 3) := by decide +kernel
theorem d_Pairing_countAlone_32 : decode b_Pairing_countAlone 32 = .ok (.iload 5, 2) := by decide +kernel
theorem d_Pairing_countAlone_34 : decode b_Pairing_countAlone 34 = .ok (.aload_n 0, 1) := by decide +kernel
theorem d_Pairing_countAlone_35 : decode b_Pairing_countAlone 35 = .ok (.getfield 9, 3) := by decide +kernel
theorem d_Pairing_countAlone_38 : decode b_Pairing_countAlone 38 = .ok (.arraylength, 1) := by decide +kernel
theorem d_Pairing_countAlone_39 : decode b_Pairing_countAlone 39 = .ok (.if_icmp .ge 75, 3) := by decide +kernel
theorem d_Pairing_countAlone_42 : decode b_Pairing_countAlone 42 = .ok (.aload_n 1, 1) := by decide +kernel
theorem d_Pairing_countAlone_43 : decode b_Pairing_countAlone 43 = .ok (.getfield 22, 3) := by decide +kernel
theorem d_Pairing_countAlone_46 : decode b_Pairing_countAlone 46 = .ok (.iload 5, 2) := by decide +kernel
theorem d_Pairing_countAlone_48 : decode b_Pairing_countAlone 48 = .ok (.aaload, 1) := by decide +kernel
theorem d_Pairing_countAlone_49 : decode b_Pairing_countAlone 49 = .ok (.astore 6, 2) := by decide +kernel
theorem d_Pairing_countAlone_51 : decode b_Pairing_countAlone 51 = .ok (.iload 4, 2) := by decide +kernel
theorem d_Pairing_countAlone_53 : decode b_Pairing_countAlone 53 = .ok (.aload_n 2, 1) := by decide +kernel
theorem d_Pairing_countAlone_54 : decode b_Pairing_countAlone 54 = .ok (.getfield 22, 3) := by decide +kernel
theorem d_Pairing_countAlone_57 : decode b_Pairing_countAlone 57 = .ok (.arraylength, 1) := by decide +kernel
theorem d_Pairing_countAlone_58 : decode b_Pairing_countAlone 58 = .ok (.if_icmp .ge 24, 3) := by decide +kernel
theorem d_Pairing_countAlone_61 : decode b_Pairing_countAlone 61 = .ok (.aload_n 2, 1) := by decide +kernel
theorem d_Pairing_countAlone_62 : decode b_Pairing_countAlone 62 = .ok (.getfield 22, 3) := by decide +kernel
theorem d_Pairing_countAlone_65 : decode b_Pairing_countAlone 65 = .ok (.iload 4, 2) := by decide +kernel
theorem d_Pairing_countAlone_67 : decode b_Pairing_countAlone 67 = .ok (.aaload, 1) := by decide +kernel
theorem d_Pairing_countAlone_68 : decode b_Pairing_countAlone 68 = .ok (.aload 6, 2) := by decide +kernel
theorem d_Pairing_countAlone_70 : decode b_Pairing_countAlone 70 = .ok (.invokevirtual 28, 3) := by decide +kernel
theorem d_Pairing_countAlone_73 : decode b_Pairing_countAlone 73 = .ok (.ifCond .ge 9, 3) := by decide +kernel
theorem d_Pairing_countAlone_76 : decode b_Pairing_countAlone 76 = .ok (.iinc 4 1, 3) := by decide +kernel
theorem d_Pairing_countAlone_79 : decode b_Pairing_countAlone 79 = .ok (.goto (-28), 3) := by decide +kernel
theorem d_Pairing_countAlone_82 : decode b_Pairing_countAlone 82 = .ok (.aload_n 0, 1) := by decide +kernel
theorem d_Pairing_countAlone_83 : decode b_Pairing_countAlone 83 = .ok (.iload 4, 2) := by decide +kernel
theorem d_Pairing_countAlone_85 : decode b_Pairing_countAlone 85 = .ok (.aload 6, 2) := by decide +kernel
theorem d_Pairing_countAlone_87 : decode b_Pairing_countAlone 87 = .ok (.aload_n 2, 1) := by decide +kernel
theorem d_Pairing_countAlone_88 : decode b_Pairing_countAlone 88 = .ok (.getfield 22, 3) := by decide +kernel
theorem d_Pairing_countAlone_91 : decode b_Pairing_countAlone 91 = .ok (.invokevirtual 34, 3) := by decide +kernel
theorem d_Pairing_countAlone_94 : decode b_Pairing_countAlone 94 = .ok (.ifCond .eq 14, 3) := by decide +kernel
theorem d_Pairing_countAlone_97 : decode b_Pairing_countAlone 97 = .ok (.aload_n 0, 1) := by decide +kernel
theorem d_Pairing_countAlone_98 : decode b_Pairing_countAlone 98 = .ok (.getfield 9, 3) := by decide +kernel
theorem d_Pairing_countAlone_101 : decode b_Pairing_countAlone 101 = .ok (.iload 5, 2) := by decide +kernel
theorem d_Pairing_countAlone_103 : decode b_Pairing_countAlone 103 = .ok (.iconst 1, 1) := by decide +kernel
theorem d_Pairing_countAlone_104 : decode b_Pairing_countAlone 104 = .ok (.bastore, 1) := by decide +kernel
theorem d_Pairing_countAlone_105 : decode b_Pairing_countAlone 105 = .ok (.iinc 3 1, 3) := by decide +kernel
theorem d_Pairing_countAlone_108 : decode b_Pairing_countAlone 108 = .ok (.iinc 5 1, 3) := by decide +kernel
theorem d_Pairing_countAlone_111 : decode b_Pairing_countAlone 111 = .ok (.goto (-89), 3) := by decide +kernel
theorem d_Pairing_countAlone_114 : decode b_Pairing_countAlone 114 = .ok (.aload_n 1, 1) := by decide +kernel
theorem d_Pairing_countAlone_115 : decode b_Pairing_countAlone 115 = .ok (.getfield 22, 3) := by decide +kernel
theorem d_Pairing_countAlone_118 : decode b_Pairing_countAlone 118 = .ok (.arraylength, 1) := by decide +kernel
theorem d_Pairing_countAlone_119 : decode b_Pairing_countAlone 119 = .ok (.aload_n 2, 1) := by decide +kernel
theorem d_Pairing_countAlone_120 : decode b_Pairing_countAlone 120 = .ok (.getfield 22, 3) := by decide +kernel
theorem d_Pairing_countAlone_123 : decode b_Pairing_countAlone 123 = .ok (.arraylength, 1) := by decide +kernel
theorem d_Pairing_countAlone_124 : decode b_Pairing_countAlone 124 = .ok (.iadd, 1) := by decide +kernel
theorem d_Pairing_countAlone_125 : decode b_Pairing_countAlone 125 = .ok (.iconst 2, 1) := by decide +kernel
theorem d_Pairing_countAlone_126 : decode b_Pairing_countAlone 126 = .ok (.iload_n 3, 1) := by decide +kernel
theorem d_Pairing_countAlone_127 : decode b_Pairing_countAlone 127 = .ok (.imul, 1) := by decide +kernel
theorem d_Pairing_countAlone_128 : decode b_Pairing_countAlone 128 = .ok (.isub, 1) := by decide +kernel
theorem d_Pairing_countAlone_129 : decode b_Pairing_countAlone 129 = .ok (.ireturn, 1) := by decide +kernel
theorem d_PR_same_0 : decode b_PR_same 0 = .ok (.aload_n 0, 1) := by decide +kernel
theorem d_PR_same_1 : decode b_PR_same 1 = .ok (.iload_n 1, 1) := by decide +kernel
theorem d_PR_same_2 : decode b_PR_same 2 = .ok (.invokevirtual 75, 3) := by decide +kernel
theorem d_PR_same_5 : decode b_PR_same 5 = .ok (.astore_n 3, 1) := by decide +kernel
theorem d_PR_same_6 : decode b_PR_same 6 = .ok (.aload_n 0, 1) := by decide +kernel
theorem d_PR_same_7 : decode b_PR_same 7 = .ok (.iload_n 2, 1) := by decide +kernel
theorem d_PR_same_8 : decode b_PR_same 8 = .ok (.invokevirtual 75, 3) := by decide +kernel
theorem d_PR_same_11 : decode b_PR_same 11 = .ok (.astore 4, 2) := by decide +kernel
theorem d_PR_same_13 : decode b_PR_same 13 = .ok (.aload_n 3, 1) := by decide +kernel
theorem d_PR_same_14 : decode b_PR_same 14 = .ok (.ifnull 17, 3) := by decide +kernel
theorem d_PR_same_17 : decode b_PR_same 17 = .ok (.aload 4, 2) := by decide +kernel
theorem d_PR_same_19 : decode b_PR_same 19 = .ok (.ifnull 12, 3) := by decide +kernel
theorem d_PR_same_22 : decode b_PR_same 22 = .ok (.aload_n 3, 1) := by decide +kernel
theorem d_PR_same_23 : decode b_PR_same 23 = .ok (.aload 4, 2) := by decide +kernel
theorem d_PR_same_25 : decode b_PR_same 25 = .ok (.invokevirtual 130, 3) := by decide +kernel
theorem d_PR_same_28 : decode b_PR_same 28 = .ok (.ifCond .ne 5, 3) := by decide +kernel
theorem d_PR_same_31 : decode b_PR_same 31 = .ok (.iconst 0, 1) := by decide +kernel
theorem d_PR_same_32 : decode b_PR_same 32 = .ok (.ireturn, 1) := by decide +kernel
theorem d_PR_same_33 : decode b_PR_same 33 = .ok (.aload_n 0, 1) := by decide +kernel
theorem d_PR_same_34 : decode b_PR_same 34 = .ok (.getfield 37, 3) := by decide +kernel
theorem d_PR_same_37 : decode b_PR_same 37 = .ok (.aload_n 3, 1) := by decide +kernel
theorem d_PR_same_38 : decode b_PR_same 38 = .ok (.aload 4, 2) := by decide +kernel
theorem d_PR_same_40 : decode b_PR_same 40 = .ok (.invokevirtual 134, 3) := by decide +kernel
theorem d_PR_same_43 : decode b_PR_same 43 = .ok (.ifCond .ne 7, 3) := by decide +kernel
theorem d_PR_same_46 : decode b_PR_same 46 = .ok (.iconst 1, 1) := by decide +kernel
theorem d_PR_same_47 : decode b_PR_same 47 = .ok (.goto 4, 3) := by decide +kernel
theorem d_PR_same_50 : decode b_PR_same 50 = .ok (.iconst 0, 1) := by decide +kernel
theorem d_PR_same_51 : decode b_PR_same 51 = .ok (.ireturn, 1) := by decide +kernel
theorem d_PR_tellAlone_0 : decode b_PR_tellAlone 0 = .ok (.iconst 0, 1) := by decide +kernel
theorem d_PR_tellAlone_1 : decode b_PR_tellAlone 1 = .ok (.istore_n 3, 1) := by decide +kernel
theorem d_PR_tellAlone_2 : decode b_PR_tellAlone 2 = .ok (.iload_n 3, 1) := by decide +kernel
theorem d_PR_tellAlone_3 : decode b_PR_tellAlone 3 = .ok (.iload_n 2, 1) := by decide +kernel
theorem d_PR_tellAlone_4 : decode b_PR_tellAlone 4 = .ok (.if_icmp .ge 53, 3) := by decide +kernel
theorem d_PR_tellAlone_7 : decode b_PR_tellAlone 7 = .ok (.iload_n 3, 1) := by decide +kernel
theorem d_PR_tellAlone_8 : decode b_PR_tellAlone 8 = .ok (.aload_n 1, 1) := by decide +kernel
theorem d_PR_tellAlone_9 : decode b_PR_tellAlone 9 = .ok (.arraylength, 1) := by decide +kernel
theorem d_PR_tellAlone_10 : decode b_PR_tellAlone 10 = .ok (.if_icmp .ge 47, 3) := by decide +kernel
theorem d_PR_tellAlone_13 : decode b_PR_tellAlone 13 = .ok (.aload_n 0, 1) := by decide +kernel
theorem d_PR_tellAlone_14 : decode b_PR_tellAlone 14 = .ok (.getfield 138, 3) := by decide +kernel
theorem d_PR_tellAlone_17 : decode b_PR_tellAlone 17 = .ok (.aload_n 0, 1) := by decide +kernel
theorem d_PR_tellAlone_18 : decode b_PR_tellAlone 18 = .ok (.getfield 41, 3) := by decide +kernel
theorem d_PR_tellAlone_21 : decode b_PR_tellAlone 21 = .ok (.arraylength, 1) := by decide +kernel
theorem d_PR_tellAlone_22 : decode b_PR_tellAlone 22 = .ok (.if_icmp .ge 35, 3) := by decide +kernel
theorem d_PR_tellAlone_25 : decode b_PR_tellAlone 25 = .ok (.aload_n 1, 1) := by decide +kernel
theorem d_PR_tellAlone_26 : decode b_PR_tellAlone 26 = .ok (.iload_n 3, 1) := by decide +kernel
theorem d_PR_tellAlone_27 : decode b_PR_tellAlone 27 = .ok (.baload, 1) := by decide +kernel
theorem d_PR_tellAlone_28 : decode b_PR_tellAlone 28 = .ok (.ifCond .ne 23, 3) := by decide +kernel
theorem d_PR_tellAlone_31 : decode b_PR_tellAlone 31 = .ok (.aload_n 0, 1) := by decide +kernel
theorem d_PR_tellAlone_32 : decode b_PR_tellAlone 32 = .ok (.getfield 41, 3) := by decide +kernel
theorem d_PR_tellAlone_35 : decode b_PR_tellAlone 35 = .ok (.aload_n 0, 1) := by decide +kernel
theorem d_PR_tellAlone_36 : decode b_PR_tellAlone 36 = .ok (.getfield 138, 3) := by decide +kernel
theorem d_PR_tellAlone_39 : decode b_PR_tellAlone 39 = .ok (.iload_n 3, 1) := by decide +kernel
theorem d_PR_tellAlone_40 : decode b_PR_tellAlone 40 = .ok (.iastore, 1) := by decide +kernel
theorem d_PR_tellAlone_41 : decode b_PR_tellAlone 41 = .ok (.aload_n 0, 1) := by decide +kernel
theorem d_PR_tellAlone_42 : decode b_PR_tellAlone 42 = .ok (.dup, 1) := by decide +kernel
theorem d_PR_tellAlone_43 : decode b_PR_tellAlone 43 = .ok (.getfield 138, 3) := by decide +kernel
theorem d_PR_tellAlone_46 : decode b_PR_tellAlone 46 = .ok (.iconst 1, 1) := by decide +kernel
theorem d_PR_tellAlone_47 : decode b_PR_tellAlone 47 = .ok (.iadd, 1) := by decide +kernel
theorem d_PR_tellAlone_48 : decode b_PR_tellAlone 48 = .ok (.putfield 138, 3) := by decide +kernel
theorem d_PR_tellAlone_51 : decode b_PR_tellAlone 51 = .ok (.iinc 3 1, 3) := by decide +kernel
theorem d_PR_tellAlone_54 : decode b_PR_tellAlone 54 = .ok (.goto (-52), 3) := by decide +kernel
theorem d_PR_tellAlone_57 : decode b_PR_tellAlone 57 = .ok (.return_, 1) := by decide +kernel
theorem d_PR_differ_0 : decode b_PR_differ 0 = .ok (.aload_n 0, 1) := by decide +kernel
theorem d_PR_differ_1 : decode b_PR_differ 1 = .ok (.iload_n 1, 1) := by decide +kernel
theorem d_PR_differ_2 : decode b_PR_differ 2 = .ok (.invokevirtual 75, 3) := by decide +kernel
theorem d_PR_differ_5 : decode b_PR_differ 5 = .ok (.astore_n 3, 1) := by decide +kernel
theorem d_PR_differ_6 : decode b_PR_differ 6 = .ok (.aload_n 0, 1) := by decide +kernel
theorem d_PR_differ_7 : decode b_PR_differ 7 = .ok (.iload_n 2, 1) := by decide +kernel
theorem d_PR_differ_8 : decode b_PR_differ 8 = .ok (.invokevirtual 75, 3) := by decide +kernel
theorem d_PR_differ_11 : decode b_PR_differ 11 = .ok (.astore 4, 2) := by decide +kernel
theorem d_PR_differ_13 : decode b_PR_differ 13 = .ok (.aload_n 3, 1) := by decide +kernel
theorem d_PR_differ_14 : decode b_PR_differ 14 = .ok (.ifnull 8, 3) := by decide +kernel
theorem d_PR_differ_17 : decode b_PR_differ 17 = .ok (.aload 4, 2) := by decide +kernel
theorem d_PR_differ_19 : decode b_PR_differ 19 = .ok (.ifnonnull 5, 3) := by decide +kernel
theorem d_PR_differ_22 : decode b_PR_differ 22 = .ok (.iconst (-1), 1) := by decide +kernel
theorem d_PR_differ_23 : decode b_PR_differ 23 = .ok (.ireturn, 1) := by decide +kernel
theorem d_PR_differ_24 : decode b_PR_differ 24 = .ok (.aload_n 0, 1) := by decide +kernel
theorem d_PR_differ_25 : decode b_PR_differ 25 = .ok (.getfield 37, 3) := by decide +kernel
theorem d_PR_differ_28 : decode b_PR_differ 28 = .ok (.aload_n 3, 1) := by decide +kernel
theorem d_PR_differ_29 : decode b_PR_differ 29 = .ok (.aload 4, 2) := by decide +kernel
theorem d_PR_differ_31 : decode b_PR_differ 31 = .ok (.invokevirtual 134, 3) := by decide +kernel
theorem d_PR_differ_34 : decode b_PR_differ 34 = .ok (.pop, 1) := by decide +kernel
theorem d_PR_differ_35 : decode b_PR_differ 35 = .ok (.aload_n 0, 1) := by decide +kernel
theorem d_PR_differ_36 : decode b_PR_differ 36 = .ok (.iconst 0, 1) := by decide +kernel
theorem d_PR_differ_37 : decode b_PR_differ 37 = .ok (.putfield 138, 3) := by decide +kernel
theorem d_PR_differ_40 : decode b_PR_differ 40 = .ok (.aload_n 0, 1) := by decide +kernel
theorem d_PR_differ_41 : decode b_PR_differ 41 = .ok (.aload_n 0, 1) := by decide +kernel
theorem d_PR_differ_42 : decode b_PR_differ 42 = .ok (.getfield 37, 3) := by decide +kernel
theorem d_PR_differ_45 : decode b_PR_differ 45 = .ok (.getfield 141, 3) := by decide +kernel
theorem d_PR_differ_48 : decode b_PR_differ 48 = .ok (.aload_n 3, 1) := by decide +kernel
theorem d_PR_differ_49 : decode b_PR_differ 49 = .ok (.getfield 79, 3) := by decide +kernel
theorem d_PR_differ_52 : decode b_PR_differ 52 = .ok (.arraylength, 1) := by decide +kernel
theorem d_PR_differ_53 : decode b_PR_differ 53 = .ok (.invokevirtual 145, 3) := by decide +kernel
theorem d_PR_differ_56 : decode b_PR_differ 56 = .ok (.aload_n 0, 1) := by decide +kernel
theorem d_PR_differ_57 : decode b_PR_differ 57 = .ok (.aload_n 0, 1) := by decide +kernel
theorem d_PR_differ_58 : decode b_PR_differ 58 = .ok (.getfield 138, 3) := by decide +kernel
theorem d_PR_differ_61 : decode b_PR_differ 61 = .ok (.putfield 149, 3) := by decide +kernel
theorem d_PR_differ_64 : decode b_PR_differ 64 = .ok (.aload_n 0, 1) := by decide +kernel
theorem d_PR_differ_65 : decode b_PR_differ 65 = .ok (.aload_n 0, 1) := by decide +kernel
theorem d_PR_differ_66 : decode b_PR_differ 66 = .ok (.getfield 37, 3) := by decide +kernel
theorem d_PR_differ_69 : decode b_PR_differ 69 = .ok (.getfield 152, 3) := by decide +kernel
theorem d_PR_differ_72 : decode b_PR_differ 72 = .ok (.aload 4, 2) := by decide +kernel
theorem d_PR_differ_74 : decode b_PR_differ 74 = .ok (.getfield 79, 3) := by decide +kernel
theorem d_PR_differ_77 : decode b_PR_differ 77 = .ok (.arraylength, 1) := by decide +kernel
theorem d_PR_differ_78 : decode b_PR_differ 78 = .ok (.invokevirtual 145, 3) := by decide +kernel
theorem d_PR_differ_81 : decode b_PR_differ 81 = .ok (.aload_n 0, 1) := by decide +kernel
theorem d_PR_differ_82 : decode b_PR_differ 82 = .ok (.getfield 138, 3) := by decide +kernel
theorem d_PR_differ_85 : decode b_PR_differ 85 = .ok (.ireturn, 1) := by decide +kernel
theorem d_PR_change_0 : decode b_PR_change 0 = .ok (.iload_n 1, 1) := by decide +kernel
theorem d_PR_change_1 : decode b_PR_change 1 = .ok (.ifCond .lt 11, 3) := by decide +kernel
theorem d_PR_change_4 : decode b_PR_change 4 = .ok (.iload_n 1, 1) := by decide +kernel
theorem d_PR_change_5 : decode b_PR_change 5 = .ok (.aload_n 0, 1) := by decide +kernel
theorem d_PR_change_6 : decode b_PR_change 6 = .ok (.getfield 138, 3) := by decide +kernel
theorem d_PR_change_9 : decode b_PR_change 9 = .ok (.if_icmp .lt 5, 3) := by decide +kernel
theorem d_PR_change_12 : decode b_PR_change 12 = .ok (.iconst (-1), 1) := by decide +kernel
theorem d_PR_change_13 : decode b_PR_change 13 = .ok (.ireturn, 1) := by decide +kernel
theorem d_PR_change_14 : decode b_PR_change 14 = .ok (.iload_n 2, 1) := by decide +kernel
theorem d_PR_change_15 : decode b_PR_change 15 = .ok (.lookupswitch 46 #[(0, 25), (1, 39)], 25) := by decide +kernel
theorem d_PR_change_40 : decode b_PR_change 40 = .ok (.iload_n 1, 1) := by decide +kernel
theorem d_PR_change_41 : decode b_PR_change 41 = .ok (.aload_n 0, 1) := by decide +kernel
theorem d_PR_change_42 : decode b_PR_change 42 = .ok (.getfield 149, 3) := by decide +kernel
theorem d_PR_change_45 : decode b_PR_change 45 = .ok (.if_icmp .ge 7, 3) := by decide +kernel
theorem d_PR_change_48 : decode b_PR_change 48 = .ok (.iconst 0, 1) := by decide +kernel
theorem d_PR_change_49 : decode b_PR_change 49 = .ok (.goto 4, 3) := by decide +kernel
theorem d_PR_change_52 : decode b_PR_change 52 = .ok (.iconst 1, 1) := by decide +kernel
theorem d_PR_change_53 : decode b_PR_change 53 = .ok (.ireturn, 1) := by decide +kernel
theorem d_PR_change_54 : decode b_PR_change 54 = .ok (.aload_n 0, 1) := by decide +kernel
theorem d_PR_change_55 : decode b_PR_change 55 = .ok (.getfield 41, 3) := by decide +kernel
theorem d_PR_change_58 : decode b_PR_change 58 = .ok (.iload_n 1, 1) := by decide +kernel
theorem d_PR_change_59 : decode b_PR_change 59 = .ok (.iaload, 1) := by decide +kernel
theorem d_PR_change_60 : decode b_PR_change 60 = .ok (.ireturn, 1) := by decide +kernel
theorem d_PR_change_61 : decode b_PR_change 61 = .ok (.iconst (-1), 1) := by decide +kernel
theorem d_PR_change_62 : decode b_PR_change 62 = .ok (.ireturn, 1) := by decide +kernel
theorem d_Printer_put_0 : decode b_Printer_put 0 = .ok (.aload_n 0, 1) := by decide +kernel
theorem d_Printer_put_1 : decode b_Printer_put 1 = .ok (.getfield 15, 3) := by decide +kernel
theorem d_Printer_put_4 : decode b_Printer_put 4 = .ok (.aload_n 0, 1) := by decide +kernel
theorem d_Printer_put_5 : decode b_Printer_put 5 = .ok (.getfield 9, 3) := by decide +kernel
theorem d_Printer_put_8 : decode b_Printer_put 8 = .ok (.arraylength, 1) := by decide +kernel
theorem d_Printer_put_9 : decode b_Printer_put 9 = .ok (.if_icmp .ge 23, 3) := by decide +kernel
theorem d_Printer_put_12 : decode b_Printer_put 12 = .ok (.aload_n 0, 1) := by decide +kernel
theorem d_Printer_put_13 : decode b_Printer_put 13 = .ok (.getfield 9, 3) := by decide +kernel
theorem d_Printer_put_16 : decode b_Printer_put 16 = .ok (.aload_n 0, 1) := by decide +kernel
theorem d_Printer_put_17 : decode b_Printer_put 17 = .ok (.getfield 15, 3) := by decide +kernel
theorem d_Printer_put_20 : decode b_Printer_put 20 = .ok (.iload_n 1, 1) := by decide +kernel
theorem d_Printer_put_21 : decode b_Printer_put 21 = .ok (.castore, 1) := by decide +kernel
theorem d_Printer_put_22 : decode b_Printer_put 22 = .ok (.aload_n 0, 1) := by decide +kernel
theorem d_Printer_put_23 : decode b_Printer_put 23 = .ok (.dup, 1) := by decide +kernel
theorem d_Printer_put_24 : decode b_Printer_put 24 = .ok (.getfield 15, 3) := by decide +kernel
theorem d_Printer_put_27 : decode b_Printer_put 27 = .ok (.iconst 1, 1) := by decide +kernel
theorem d_Printer_put_28 : decode b_Printer_put 28 = .ok (.iadd, 1) := by decide +kernel
theorem d_Printer_put_29 : decode b_Printer_put 29 = .ok (.putfield 15, 3) := by decide +kernel
theorem d_Printer_put_32 : decode b_Printer_put 32 = .ok (.return_, 1) := by decide +kernel
theorem d_Printer_putName_0 : decode b_Printer_putName 0 = .ok (.iconst 0, 1) := by decide +kernel
theorem d_Printer_putName_1 : decode b_Printer_putName 1 = .ok (.istore_n 2, 1) := by decide +kernel
theorem d_Printer_putName_2 : decode b_Printer_putName 2 = .ok (.iload_n 2, 1) := by decide +kernel
theorem d_Printer_putName_3 : decode b_Printer_putName 3 = .ok (.aload_n 1, 1) := by decide +kernel
theorem d_Printer_putName_4 : decode b_Printer_putName 4 = .ok (.getfield 144, 3) := by decide +kernel
theorem d_Printer_putName_7 : decode b_Printer_putName 7 = .ok (.arraylength, 1) := by decide +kernel
theorem d_Printer_putName_8 : decode b_Printer_putName 8 = .ok (.if_icmp .ge 19, 3) := by decide +kernel
theorem d_Printer_putName_11 : decode b_Printer_putName 11 = .ok (.aload_n 0, 1) := by decide +kernel
theorem d_Printer_putName_12 : decode b_Printer_putName 12 = .ok (.aload_n 1, 1) := by decide +kernel
theorem d_Printer_putName_13 : decode b_Printer_putName 13 = .ok (.getfield 144, 3) := by decide +kernel
theorem d_Printer_putName_16 : decode b_Printer_putName 16 = .ok (.iload_n 2, 1) := by decide +kernel
theorem d_Printer_putName_17 : decode b_Printer_putName 17 = .ok (.caload, 1) := by decide +kernel
theorem d_Printer_putName_18 : decode b_Printer_putName 18 = .ok (.invokevirtual 27, 3) := by decide +kernel
theorem d_Printer_putName_21 : decode b_Printer_putName 21 = .ok (.iinc 2 1, 3) := by decide +kernel
theorem d_Printer_putName_24 : decode b_Printer_putName 24 = .ok (.goto (-22), 3) := by decide +kernel
theorem d_Printer_putName_27 : decode b_Printer_putName 27 = .ok (.return_, 1) := by decide +kernel
theorem d_Printer_putNumber_0 : decode b_Printer_putNumber 0 = .ok (.lconst 1, 1) := by decide +kernel
theorem d_Printer_putNumber_1 : decode b_Printer_putNumber 1 = .ok (.lstore_n 3, 1) := by decide +kernel
theorem d_Printer_putNumber_2 : decode b_Printer_putNumber 2 = .ok (.iconst 1, 1) := by decide +kernel
theorem d_Printer_putNumber_3 : decode b_Printer_putNumber 3 = .ok (.istore 5, 2) := by decide +kernel
theorem d_Printer_putNumber_5 : decode b_Printer_putNumber 5 = .ok (.iload 5, 2) := by decide +kernel
theorem d_Printer_putNumber_7 : decode b_Printer_putNumber 7 = .ok (.bipush 6, 2) := by decide +kernel
theorem d_Printer_putNumber_9 : decode b_Printer_putNumber 9 = .ok (.if_icmp .ge 25, 3) := by decide +kernel
theorem d_Printer_putNumber_12 : decode b_Printer_putNumber 12 = .ok (.lload_n 1, 1) := by decide +kernel
theorem d_Printer_putNumber_13 : decode b_Printer_putNumber 13 = .ok (.lload_n 3, 1) := by decide +kernel
theorem d_Printer_putNumber_14 : decode b_Printer_putNumber 14 = .ok (.ldiv, 1) := by decide +kernel
theorem d_Printer_putNumber_15 : decode b_Printer_putNumber 15 = .ok (.ldc2_w 140, 3) := by decide +kernel
theorem d_Printer_putNumber_18 : decode b_Printer_putNumber 18 = .ok (.lcmp, 1) := by decide +kernel
theorem d_Printer_putNumber_19 : decode b_Printer_putNumber 19 = .ok (.ifCond .lt 15, 3) := by decide +kernel
theorem d_Printer_putNumber_22 : decode b_Printer_putNumber 22 = .ok (.lload_n 3, 1) := by decide +kernel
theorem d_Printer_putNumber_23 : decode b_Printer_putNumber 23 = .ok (.ldc2_w 140, 3) := by decide +kernel
theorem d_Printer_putNumber_26 : decode b_Printer_putNumber 26 = .ok (.lmul, 1) := by decide +kernel
theorem d_Printer_putNumber_27 : decode b_Printer_putNumber 27 = .ok (.lstore_n 3, 1) := by decide +kernel
theorem d_Printer_putNumber_28 : decode b_Printer_putNumber 28 = .ok (.iinc 5 1, 3) := by decide +kernel
theorem d_Printer_putNumber_31 : decode b_Printer_putNumber 31 = .ok (.goto (-26), 3) := by decide +kernel
theorem d_Printer_putNumber_34 : decode b_Printer_putNumber 34 = .ok (.lload_n 3, 1) := by decide +kernel
theorem d_Printer_putNumber_35 : decode b_Printer_putNumber 35 = .ok (.lconst 0, 1) := by decide +kernel
theorem d_Printer_putNumber_36 : decode b_Printer_putNumber 36 = .ok (.lcmp, 1) := by decide +kernel
theorem d_Printer_putNumber_37 : decode b_Printer_putNumber 37 = .ok (.ifCond .le 29, 3) := by decide +kernel
theorem d_Printer_putNumber_40 : decode b_Printer_putNumber 40 = .ok (.aload_n 0, 1) := by decide +kernel
theorem d_Printer_putNumber_41 : decode b_Printer_putNumber 41 = .ok (.ldc2_w 142, 3) := by decide +kernel
theorem d_Printer_putNumber_44 : decode b_Printer_putNumber 44 = .ok (.lload_n 1, 1) := by decide +kernel
theorem d_Printer_putNumber_45 : decode b_Printer_putNumber 45 = .ok (.lload_n 3, 1) := by decide +kernel
theorem d_Printer_putNumber_46 : decode b_Printer_putNumber 46 = .ok (.ldiv, 1) := by decide +kernel
theorem d_Printer_putNumber_47 : decode b_Printer_putNumber 47 = .ok (.ldc2_w 140, 3) := by decide +kernel
theorem d_Printer_putNumber_50 : decode b_Printer_putNumber 50 = .ok (.lrem, 1) := by decide +kernel
theorem d_Printer_putNumber_51 : decode b_Printer_putNumber 51 = .ok (.ladd, 1) := by decide +kernel
theorem d_Printer_putNumber_52 : decode b_Printer_putNumber 52 = .ok (.l2i, 1) := by decide +kernel
theorem d_Printer_putNumber_53 : decode b_Printer_putNumber 53 = .ok (.i2c, 1) := by decide +kernel
theorem d_Printer_putNumber_54 : decode b_Printer_putNumber 54 = .ok (.invokevirtual 27, 3) := by decide +kernel
theorem d_Printer_putNumber_57 : decode b_Printer_putNumber 57 = .ok (.lload_n 3, 1) := by decide +kernel
theorem d_Printer_putNumber_58 : decode b_Printer_putNumber 58 = .ok (.ldc2_w 140, 3) := by decide +kernel
theorem d_Printer_putNumber_61 : decode b_Printer_putNumber 61 = .ok (.ldiv, 1) := by decide +kernel
theorem d_Printer_putNumber_62 : decode b_Printer_putNumber 62 = .ok (.lstore_n 3, 1) := by decide +kernel
theorem d_Printer_putNumber_63 : decode b_Printer_putNumber 63 = .ok (.goto (-29), 3) := by decide +kernel
theorem d_Printer_putNumber_66 : decode b_Printer_putNumber 66 = .ok (.return_, 1) := by decide +kernel
theorem d_Printer_putVersion_0 : decode b_Printer_putVersion 0 = .ok (.aload_n 0, 1) := by decide +kernel
theorem d_Printer_putVersion_1 : decode b_Printer_putVersion 1 = .ok (.lload_n 1, 1) := by decide +kernel
theorem d_Printer_putVersion_2 : decode b_Printer_putVersion 2 = .ok (.ldc2_w 138, 3) := by decide +kernel
theorem d_Printer_putVersion_5 : decode b_Printer_putVersion 5 = .ok (.ldiv, 1) := by decide +kernel
theorem d_Printer_putVersion_6 : decode b_Printer_putVersion 6 = .ok (.ldc2_w 138, 3) := by decide +kernel
theorem d_Printer_putVersion_9 : decode b_Printer_putVersion 9 = .ok (.ldiv, 1) := by decide +kernel
theorem d_Printer_putVersion_10 : decode b_Printer_putVersion 10 = .ok (.invokevirtual 117, 3) := by decide +kernel
theorem d_Printer_putVersion_13 : decode b_Printer_putVersion 13 = .ok (.aload_n 0, 1) := by decide +kernel
theorem d_Printer_putVersion_14 : decode b_Printer_putVersion 14 = .ok (.bipush 46, 2) := by decide +kernel
theorem d_Printer_putVersion_16 : decode b_Printer_putVersion 16 = .ok (.invokevirtual 27, 3) := by decide +kernel
theorem d_Printer_putVersion_19 : decode b_Printer_putVersion 19 = .ok (.aload_n 0, 1) := by decide +kernel
theorem d_Printer_putVersion_20 : decode b_Printer_putVersion 20 = .ok (.lload_n 1, 1) := by decide +kernel
theorem d_Printer_putVersion_21 : decode b_Printer_putVersion 21 = .ok (.ldc2_w 138, 3) := by decide +kernel
theorem d_Printer_putVersion_24 : decode b_Printer_putVersion 24 = .ok (.ldiv, 1) := by decide +kernel
theorem d_Printer_putVersion_25 : decode b_Printer_putVersion 25 = .ok (.ldc2_w 138, 3) := by decide +kernel
theorem d_Printer_putVersion_28 : decode b_Printer_putVersion 28 = .ok (.lrem, 1) := by decide +kernel
theorem d_Printer_putVersion_29 : decode b_Printer_putVersion 29 = .ok (.invokevirtual 117, 3) := by decide +kernel
theorem d_Printer_putVersion_32 : decode b_Printer_putVersion 32 = .ok (.aload_n 0, 1) := by decide +kernel
theorem d_Printer_putVersion_33 : decode b_Printer_putVersion 33 = .ok (.bipush 46, 2) := by decide +kernel
theorem d_Printer_putVersion_35 : decode b_Printer_putVersion 35 = .ok (.invokevirtual 27, 3) := by decide +kernel
theorem d_Printer_putVersion_38 : decode b_Printer_putVersion 38 = .ok (.aload_n 0, 1) := by decide +kernel
theorem d_Printer_putVersion_39 : decode b_Printer_putVersion 39 = .ok (.lload_n 1, 1) := by decide +kernel
theorem d_Printer_putVersion_40 : decode b_Printer_putVersion 40 = .ok (.ldc2_w 138, 3) := by decide +kernel
theorem d_Printer_putVersion_43 : decode b_Printer_putVersion 43 = .ok (.lrem, 1) := by decide +kernel
theorem d_Printer_putVersion_44 : decode b_Printer_putVersion 44 = .ok (.invokevirtual 117, 3) := by decide +kernel
theorem d_Printer_putVersion_47 : decode b_Printer_putVersion 47 = .ok (.return_, 1) := by decide +kernel
theorem d_Printer_putText_0 : decode b_Printer_putText 0 = .ok (.iconst 0, 1) := by decide +kernel
theorem d_Printer_putText_1 : decode b_Printer_putText 1 = .ok (.istore_n 2, 1) := by decide +kernel
theorem d_Printer_putText_2 : decode b_Printer_putText 2 = .ok (.iload_n 2, 1) := by decide +kernel
theorem d_Printer_putText_3 : decode b_Printer_putText 3 = .ok (.aload_n 1, 1) := by decide +kernel
theorem d_Printer_putText_4 : decode b_Printer_putText 4 = .ok (.invokevirtual 147, 3) := by decide +kernel
theorem d_Printer_putText_7 : decode b_Printer_putText 7 = .ok (.if_icmp .ge 18, 3) := by decide +kernel
theorem d_Printer_putText_10 : decode b_Printer_putText 10 = .ok (.aload_n 0, 1) := by decide +kernel
theorem d_Printer_putText_11 : decode b_Printer_putText 11 = .ok (.aload_n 1, 1) := by decide +kernel
theorem d_Printer_putText_12 : decode b_Printer_putText 12 = .ok (.iload_n 2, 1) := by decide +kernel
theorem d_Printer_putText_13 : decode b_Printer_putText 13 = .ok (.invokevirtual 153, 3) := by decide +kernel
theorem d_Printer_putText_16 : decode b_Printer_putText 16 = .ok (.invokevirtual 27, 3) := by decide +kernel
theorem d_Printer_putText_19 : decode b_Printer_putText 19 = .ok (.iinc 2 1, 3) := by decide +kernel
theorem d_Printer_putText_22 : decode b_Printer_putText 22 = .ok (.goto (-20), 3) := by decide +kernel
theorem d_Printer_putText_25 : decode b_Printer_putText 25 = .ok (.return_, 1) := by decide +kernel
theorem d_Printer_putRange_0 : decode b_Printer_putRange 0 = .ok (.lload_n 1, 1) := by decide +kernel
theorem d_Printer_putRange_1 : decode b_Printer_putRange 1 = .ok (.lconst 0, 1) := by decide +kernel
theorem d_Printer_putRange_2 : decode b_Printer_putRange 2 = .ok (.lcmp, 1) := by decide +kernel
theorem d_Printer_putRange_3 : decode b_Printer_putRange 3 = .ok (.ifCond .ne 20, 3) := by decide +kernel
theorem d_Printer_putRange_6 : decode b_Printer_putRange 6 = .ok (.lload_n 3, 1) := by decide +kernel
theorem d_Printer_putRange_7 : decode b_Printer_putRange 7 = .ok (.ldc2_w 130, 3) := by decide +kernel
theorem d_Printer_putRange_10 : decode b_Printer_putRange 10 = .ok (.lcmp, 1) := by decide +kernel
theorem d_Printer_putRange_11 : decode b_Printer_putRange 11 = .ok (.ifCond .ne 12, 3) := by decide +kernel
theorem d_Printer_putRange_14 : decode b_Printer_putRange 14 = .ok (.aload_n 0, 1) := by decide +kernel
theorem d_Printer_putRange_15 : decode b_Printer_putRange 15 = .ok (.bipush 42, 2) := by decide +kernel
theorem d_Printer_putRange_17 : decode b_Printer_putRange 17 = .ok (.invokevirtual 27, 3) := by decide +kernel
theorem d_Printer_putRange_20 : decode b_Printer_putRange 20 = .ok (.goto 81, 3) := by decide +kernel
theorem d_Printer_putRange_23 : decode b_Printer_putRange 23 = .ok (.lload_n 3, 1) := by decide +kernel
theorem d_Printer_putRange_24 : decode b_Printer_putRange 24 = .ok (.lload_n 1, 1) := by decide +kernel
theorem d_Printer_putRange_25 : decode b_Printer_putRange 25 = .ok (.lsub, 1) := by decide +kernel
theorem d_Printer_putRange_26 : decode b_Printer_putRange 26 = .ok (.lconst 1, 1) := by decide +kernel
theorem d_Printer_putRange_27 : decode b_Printer_putRange 27 = .ok (.lcmp, 1) := by decide +kernel
theorem d_Printer_putRange_28 : decode b_Printer_putRange 28 = .ok (.ifCond .ne 17, 3) := by decide +kernel
theorem d_Printer_putRange_31 : decode b_Printer_putRange 31 = .ok (.aload_n 0, 1) := by decide +kernel
theorem d_Printer_putRange_32 : decode b_Printer_putRange 32 = .ok (.ldc 132, 2) := by decide +kernel
theorem d_Printer_putRange_34 : decode b_Printer_putRange 34 = .ok (.invokevirtual 33, 3) := by decide +kernel
theorem d_Printer_putRange_37 : decode b_Printer_putRange 37 = .ok (.aload_n 0, 1) := by decide +kernel
theorem d_Printer_putRange_38 : decode b_Printer_putRange 38 = .ok (.lload_n 1, 1) := by decide +kernel
theorem d_Printer_putRange_39 : decode b_Printer_putRange 39 = .ok (.invokevirtual 51, 3) := by decide +kernel
theorem d_Printer_putRange_42 : decode b_Printer_putRange 42 = .ok (.goto 59, 3) := by decide +kernel
theorem d_Printer_putRange_45 : decode b_Printer_putRange 45 = .ok (.lload_n 1, 1) := by decide +kernel
theorem d_Printer_putRange_46 : decode b_Printer_putRange 46 = .ok (.lconst 0, 1) := by decide +kernel
theorem d_Printer_putRange_47 : decode b_Printer_putRange 47 = .ok (.lcmp, 1) := by decide +kernel
theorem d_Printer_putRange_48 : decode b_Printer_putRange 48 = .ok (.ifCond .eq 14, 3) := by decide +kernel
theorem d_Printer_putRange_51 : decode b_Printer_putRange 51 = .ok (.aload_n 0, 1) := by decide +kernel
theorem d_Printer_putRange_52 : decode b_Printer_putRange 52 = .ok (.ldc 134, 2) := by decide +kernel
theorem d_Printer_putRange_54 : decode b_Printer_putRange 54 = .ok (.invokevirtual 33, 3) := by decide +kernel
theorem d_Printer_putRange_57 : decode b_Printer_putRange 57 = .ok (.aload_n 0, 1) := by decide +kernel
theorem d_Printer_putRange_58 : decode b_Printer_putRange 58 = .ok (.lload_n 1, 1) := by decide +kernel
theorem d_Printer_putRange_59 : decode b_Printer_putRange 59 = .ok (.invokevirtual 51, 3) := by decide +kernel
theorem d_Printer_putRange_62 : decode b_Printer_putRange 62 = .ok (.lload_n 1, 1) := by decide +kernel
theorem d_Printer_putRange_63 : decode b_Printer_putRange 63 = .ok (.lconst 0, 1) := by decide +kernel
theorem d_Printer_putRange_64 : decode b_Printer_putRange 64 = .ok (.lcmp, 1) := by decide +kernel
theorem d_Printer_putRange_65 : decode b_Printer_putRange 65 = .ok (.ifCond .eq 17, 3) := by decide +kernel
theorem d_Printer_putRange_68 : decode b_Printer_putRange 68 = .ok (.lload_n 3, 1) := by decide +kernel
theorem d_Printer_putRange_69 : decode b_Printer_putRange 69 = .ok (.ldc2_w 130, 3) := by decide +kernel
theorem d_Printer_putRange_72 : decode b_Printer_putRange 72 = .ok (.lcmp, 1) := by decide +kernel
theorem d_Printer_putRange_73 : decode b_Printer_putRange 73 = .ok (.ifCond .eq 9, 3) := by decide +kernel
theorem d_Printer_putRange_76 : decode b_Printer_putRange 76 = .ok (.aload_n 0, 1) := by decide +kernel
theorem d_Printer_putRange_77 : decode b_Printer_putRange 77 = .ok (.bipush 32, 2) := by decide +kernel
theorem d_Printer_putRange_79 : decode b_Printer_putRange 79 = .ok (.invokevirtual 27, 3) := by decide +kernel
theorem d_Printer_putRange_82 : decode b_Printer_putRange 82 = .ok (.lload_n 3, 1) := by decide +kernel
theorem d_Printer_putRange_83 : decode b_Printer_putRange 83 = .ok (.ldc2_w 130, 3) := by decide +kernel
theorem d_Printer_putRange_86 : decode b_Printer_putRange 86 = .ok (.lcmp, 1) := by decide +kernel
theorem d_Printer_putRange_87 : decode b_Printer_putRange 87 = .ok (.ifCond .eq 14, 3) := by decide +kernel
theorem d_Printer_putRange_90 : decode b_Printer_putRange 90 = .ok (.aload_n 0, 1) := by decide +kernel
theorem d_Printer_putRange_91 : decode b_Printer_putRange 91 = .ok (.ldc 136, 2) := by decide +kernel
theorem d_Printer_putRange_93 : decode b_Printer_putRange 93 = .ok (.invokevirtual 33, 3) := by decide +kernel
theorem d_Printer_putRange_96 : decode b_Printer_putRange 96 = .ok (.aload_n 0, 1) := by decide +kernel
theorem d_Printer_putRange_97 : decode b_Printer_putRange 97 = .ok (.lload_n 3, 1) := by decide +kernel
theorem d_Printer_putRange_98 : decode b_Printer_putRange 98 = .ok (.invokevirtual 51, 3) := by decide +kernel
theorem d_Printer_putRange_101 : decode b_Printer_putRange 101 = .ok (.return_, 1) := by decide +kernel
theorem d_Printer_putRest_0 : decode b_Printer_putRest 0 = .ok (.aload_n 1, 1) := by decide +kernel
theorem d_Printer_putRest_1 : decode b_Printer_putRest 1 = .ok (.getfield 65, 3) := by decide +kernel
theorem d_Printer_putRest_4 : decode b_Printer_putRest 4 = .ok (.invokestatic 104, 3) := by decide +kernel
theorem d_Printer_putRest_7 : decode b_Printer_putRest 7 = .ok (.ifCond .eq 24, 3) := by decide +kernel
theorem d_Printer_putRest_10 : decode b_Printer_putRest 10 = .ok (.aload_n 0, 1) := by decide +kernel
theorem d_Printer_putRest_11 : decode b_Printer_putRest 11 = .ok (.bipush 32, 2) := by decide +kernel
theorem d_Printer_putRest_13 : decode b_Printer_putRest 13 = .ok (.invokevirtual 27, 3) := by decide +kernel
theorem d_Printer_putRest_16 : decode b_Printer_putRest 16 = .ok (.aload_n 0, 1) := by decide +kernel
theorem d_Printer_putRest_17 : decode b_Printer_putRest 17 = .ok (.aload_n 1, 1) := by decide +kernel
theorem d_Printer_putRest_18 : decode b_Printer_putRest 18 = .ok (.getfield 107, 3) := by decide +kernel
theorem d_Printer_putRest_21 : decode b_Printer_putRest 21 = .ok (.aload_n 1, 1) := by decide +kernel
theorem d_Printer_putRest_22 : decode b_Printer_putRest 22 = .ok (.getfield 110, 3) := by decide +kernel
theorem d_Printer_putRest_25 : decode b_Printer_putRest 25 = .ok (.invokevirtual 113, 3) := by decide +kernel
theorem d_Printer_putRest_28 : decode b_Printer_putRest 28 = .ok (.goto 85, 3) := by decide +kernel
theorem d_Printer_putRest_31 : decode b_Printer_putRest 31 = .ok (.aload_n 1, 1) := by decide +kernel
theorem d_Printer_putRest_32 : decode b_Printer_putRest 32 = .ok (.getfield 65, 3) := by decide +kernel
theorem d_Printer_putRest_35 : decode b_Printer_putRest 35 = .ok (.bipush 7, 2) := by decide +kernel
theorem d_Printer_putRest_37 : decode b_Printer_putRest 37 = .ok (.if_icmp .ne 20, 3) := by decide +kernel
theorem d_Printer_putRest_40 : decode b_Printer_putRest 40 = .ok (.aload_n 0, 1) := by decide +kernel
theorem d_Printer_putRest_41 : decode b_Printer_putRest 41 = .ok (.bipush 32, 2) := by decide +kernel
theorem d_Printer_putRest_43 : decode b_Printer_putRest 43 = .ok (.invokevirtual 27, 3) := by decide +kernel
theorem d_Printer_putRest_46 : decode b_Printer_putRest 46 = .ok (.aload_n 0, 1) := by decide +kernel
theorem d_Printer_putRest_47 : decode b_Printer_putRest 47 = .ok (.aload_n 1, 1) := by decide +kernel
theorem d_Printer_putRest_48 : decode b_Printer_putRest 48 = .ok (.getfield 107, 3) := by decide +kernel
theorem d_Printer_putRest_51 : decode b_Printer_putRest 51 = .ok (.invokevirtual 51, 3) := by decide +kernel
theorem d_Printer_putRest_54 : decode b_Printer_putRest 54 = .ok (.goto 59, 3) := by decide +kernel
theorem d_Printer_putRest_57 : decode b_Printer_putRest 57 = .ok (.aload_n 1, 1) := by decide +kernel
theorem d_Printer_putRest_58 : decode b_Printer_putRest 58 = .ok (.getfield 65, 3) := by decide +kernel
theorem d_Printer_putRest_61 : decode b_Printer_putRest 61 = .ok (.bipush 14, 2) := by decide +kernel
theorem d_Printer_putRest_63 : decode b_Printer_putRest 63 = .ok (.if_icmp .ne 27, 3) := by decide +kernel
theorem d_Printer_putRest_66 : decode b_Printer_putRest 66 = .ok (.aload_n 1, 1) := by decide +kernel
theorem d_Printer_putRest_67 : decode b_Printer_putRest 67 = .ok (.getfield 99, 3) := by decide +kernel
theorem d_Printer_putRest_70 : decode b_Printer_putRest 70 = .ok (.ifnull 20, 3) := by decide +kernel
theorem d_Printer_putRest_73 : decode b_Printer_putRest 73 = .ok (.aload_n 0, 1) := by decide +kernel
theorem d_Printer_putRest_74 : decode b_Printer_putRest 74 = .ok (.bipush 32, 2) := by decide +kernel
theorem d_Printer_putRest_76 : decode b_Printer_putRest 76 = .ok (.invokevirtual 27, 3) := by decide +kernel
theorem d_Printer_putRest_79 : decode b_Printer_putRest 79 = .ok (.aload_n 0, 1) := by decide +kernel
theorem d_Printer_putRest_80 : decode b_Printer_putRest 80 = .ok (.aload_n 1, 1) := by decide +kernel
theorem d_Printer_putRest_81 : decode b_Printer_putRest 81 = .ok (.getfield 99, 3) := by decide +kernel
theorem d_Printer_putRest_84 : decode b_Printer_putRest 84 = .ok (.invokevirtual 43, 3) := by decide +kernel
theorem d_Printer_putRest_87 : decode b_Printer_putRest 87 = .ok (.goto 26, 3) := by decide +kernel
theorem d_Printer_putRest_90 : decode b_Printer_putRest 90 = .ok (.aload_n 1, 1) := by decide +kernel
theorem d_Printer_putRest_91 : decode b_Printer_putRest 91 = .ok (.getfield 65, 3) := by decide +kernel
theorem d_Printer_putRest_94 : decode b_Printer_putRest 94 = .ok (.bipush 15, 2) := by decide +kernel
theorem d_Printer_putRest_96 : decode b_Printer_putRest 96 = .ok (.if_icmp .ne 17, 3) := by decide +kernel
theorem d_Printer_putRest_99 : decode b_Printer_putRest 99 = .ok (.aload_n 0, 1) := by decide +kernel
theorem d_Printer_putRest_100 : decode b_Printer_putRest 100 = .ok (.bipush 32, 2) := by decide +kernel
theorem d_Printer_putRest_102 : decode b_Printer_putRest 102 = .ok (.invokevirtual 27, 3) := by decide +kernel
theorem d_Printer_putRest_105 : decode b_Printer_putRest 105 = .ok (.aload_n 0, 1) := by decide +kernel
theorem d_Printer_putRest_106 : decode b_Printer_putRest 106 = .ok (.aload_n 1, 1) := by decide +kernel
theorem d_Printer_putRest_107 : decode b_Printer_putRest 107 = .ok (.getfield 107, 3) := by decide +kernel
theorem d_Printer_putRest_110 : decode b_Printer_putRest 110 = .ok (.invokevirtual 117, 3) := by decide +kernel
theorem d_Printer_putRest_113 : decode b_Printer_putRest 113 = .ok (.return_, 1) := by decide +kernel
