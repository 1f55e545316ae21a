theorem d_Scan_init_0 : decode b_Scan_init 0 = .ok (.aload_n 0, 1) := by decide +kernel
theorem d_Scan_init_1 : decode b_Scan_init 1 = .ok (.invokespecial 3, 3) := by decide +kernel
theorem d_Scan_init_4 : decode b_Scan_init 4 = .ok (.aload_n 0, 1) := by decide +kernel
theorem d_Scan_init_5 : decode b_Scan_init 5 = .ok (.sipush 2000, 3) := by decide +kernel
theorem d_Scan_init_8 : decode b_Scan_init 8 = .ok (.newarray .char, 2) := by decide +kernel
theorem d_Scan_init_10 : decode b_Scan_init 10 = .ok (.putfield 9, 3) := by decide +kernel
theorem d_Scan_init_13 : decode b_Scan_init 13 = .ok (.return_, 1) := by decide +kernel
theorem d_Reader_init_0 : decode b_Reader_init 0 = .ok (.aload_n 0, 1) := by decide +kernel
theorem d_Reader_init_1 : decode b_Reader_init 1 = .ok (.invokespecial 3, 3) := by decide +kernel
theorem d_Reader_init_4 : decode b_Reader_init 4 = .ok (.aload_n 0, 1) := by decide +kernel
theorem d_Reader_init_5 : decode b_Reader_init 5 = .ok (.new 9, 3) := by decide +kernel
theorem d_Reader_init_8 : decode b_Reader_init 8 = .ok (.dup, 1) := by decide +kernel
theorem d_Reader_init_9 : decode b_Reader_init 9 = .ok (.invokespecial 11, 3) := by decide +kernel
theorem d_Reader_init_12 : decode b_Reader_init 12 = .ok (.putfield 12, 3) := by decide +kernel
theorem d_Reader_init_15 : decode b_Reader_init 15 = .ok (.aload_n 0, 1) := by decide +kernel
theorem d_Reader_init_16 : decode b_Reader_init 16 = .ok (.sipush 200, 3) := by decide +kernel
theorem d_Reader_init_19 : decode b_Reader_init 19 = .ok (.anewarray 18, 3) := by decide +kernel
theorem d_Reader_init_22 : decode b_Reader_init 22 = .ok (.putfield 20, 3) := by decide +kernel
theorem d_Reader_init_25 : decode b_Reader_init 25 = .ok (.aload_n 0, 1) := by decide +kernel
theorem d_Reader_init_26 : decode b_Reader_init 26 = .ok (.sipush 200, 3) := by decide +kernel
theorem d_Reader_init_29 : decode b_Reader_init 29 = .ok (.newarray .int, 2) := by decide +kernel
theorem d_Reader_init_31 : decode b_Reader_init 31 = .ok (.putfield 24, 3) := by decide +kernel
theorem d_Reader_init_34 : decode b_Reader_init 34 = .ok (.aload_n 0, 1) := by decide +kernel
theorem d_Reader_init_35 : decode b_Reader_init 35 = .ok (.sipush 181, 3) := by decide +kernel
theorem d_Reader_init_38 : decode b_Reader_init 38 = .ok (.anewarray 28, 3) := by decide +kernel
theorem d_Reader_init_41 : decode b_Reader_init 41 = .ok (.putfield 30, 3) := by decide +kernel
theorem d_Reader_init_44 : decode b_Reader_init 44 = .ok (.return_, 1) := by decide +kernel
theorem d_Printer_init_0 : decode b_Printer_init 0 = .ok (.aload_n 0, 1) := by decide +kernel
theorem d_Printer_init_1 : decode b_Printer_init 1 = .ok (.invokespecial 3, 3) := by decide +kernel
theorem d_Printer_init_4 : decode b_Printer_init 4 = .ok (.aload_n 0, 1) := by decide +kernel
theorem d_Printer_init_5 : decode b_Printer_init 5 = .ok (.sipush 4181, 3) := by decide +kernel
theorem d_Printer_init_8 : decode b_Printer_init 8 = .ok (.newarray .char, 2) := by decide +kernel
theorem d_Printer_init_10 : decode b_Printer_init 10 = .ok (.putfield 9, 3) := by decide +kernel
theorem d_Printer_init_13 : decode b_Printer_init 13 = .ok (.return_, 1) := by decide +kernel
theorem d_Pairing_init_0 : decode b_Pairing_init 0 = .ok (.aload_n 0, 1) := by decide +kernel
theorem d_Pairing_init_1 : decode b_Pairing_init 1 = .ok (.invokespecial 3, 3) := by decide +kernel
theorem d_Pairing_init_4 : decode b_Pairing_init 4 = .ok (.aload_n 0, 1) := by decide +kernel
theorem d_Pairing_init_5 : decode b_Pairing_init 5 = .ok (.sipush 200, 3) := by decide +kernel
theorem d_Pairing_init_8 : decode b_Pairing_init 8 = .ok (.newarray .boolean, 2) := by decide +kernel
theorem d_Pairing_init_10 : decode b_Pairing_init 10 = .ok (.putfield 9, 3) := by decide +kernel
theorem d_Pairing_init_13 : decode b_Pairing_init 13 = .ok (.aload_n 0, 1) := by decide +kernel
theorem d_Pairing_init_14 : decode b_Pairing_init 14 = .ok (.sipush 200, 3) := by decide +kernel
theorem d_Pairing_init_17 : decode b_Pairing_init 17 = .ok (.newarray .boolean, 2) := by decide +kernel
theorem d_Pairing_init_19 : decode b_Pairing_init 19 = .ok (.putfield 15, 3) := by decide +kernel
theorem d_Pairing_init_22 : decode b_Pairing_init 22 = .ok (.return_, 1) := by decide +kernel
theorem d_PR_init_0 : decode b_PR_init 0 = .ok (.aload_n 0, 1) := by decide +kernel
theorem d_PR_init_1 : decode b_PR_init 1 = .ok (.invokespecial 3, 3) := by decide +kernel
theorem d_PR_init_4 : decode b_PR_init 4 = .ok (.aload_n 0, 1) := by decide +kernel
theorem d_PR_init_5 : decode b_PR_init 5 = .ok (.new 9, 3) := by decide +kernel
theorem d_PR_init_8 : decode b_PR_init 8 = .ok (.dup, 1) := by decide +kernel
theorem d_PR_init_9 : decode b_PR_init 9 = .ok (.invokespecial 11, 3) := by decide +kernel
theorem d_PR_init_12 : decode b_PR_init 12 = .ok (.putfield 12, 3) := by decide +kernel
theorem d_PR_init_15 : decode b_PR_init 15 = .ok (.aload_n 0, 1) := by decide +kernel
theorem d_PR_init_16 : decode b_PR_init 16 = .ok (.aload_n 0, 1) := by decide +kernel
theorem d_PR_init_17 : decode b_PR_init 17 = .ok (.getfield 12, 3) := by decide +kernel
theorem d_PR_init_20 : decode b_PR_init 20 = .ok (.getfield 16, 3) := by decide +kernel
theorem d_PR_init_23 : decode b_PR_init 23 = .ok (.putfield 20, 3) := by decide +kernel
theorem d_PR_init_26 : decode b_PR_init 26 = .ok (.aload_n 0, 1) := by decide +kernel
theorem d_PR_init_27 : decode b_PR_init 27 = .ok (.bipush 40, 2) := by decide +kernel
theorem d_PR_init_29 : decode b_PR_init 29 = .ok (.anewarray 21, 3) := by decide +kernel
theorem d_PR_init_32 : decode b_PR_init 32 = .ok (.putfield 23, 3) := by decide +kernel
theorem d_PR_init_35 : decode b_PR_init 35 = .ok (.aload_n 0, 1) := by decide +kernel
theorem d_PR_init_36 : decode b_PR_init 36 = .ok (.new 27, 3) := by decide +kernel
theorem d_PR_init_39 : decode b_PR_init 39 = .ok (.dup, 1) := by decide +kernel
theorem d_PR_init_40 : decode b_PR_init 40 = .ok (.invokespecial 29, 3) := by decide +kernel
theorem d_PR_init_43 : decode b_PR_init 43 = .ok (.putfield 30, 3) := by decide +kernel
theorem d_PR_init_46 : decode b_PR_init 46 = .ok (.aload_n 0, 1) := by decide +kernel
theorem d_PR_init_47 : decode b_PR_init 47 = .ok (.new 34, 3) := by decide +kernel
theorem d_PR_init_50 : decode b_PR_init 50 = .ok (.dup, 1) := by decide +kernel
theorem d_PR_init_51 : decode b_PR_init 51 = .ok (.invokespecial 36, 3) := by decide +kernel
theorem d_PR_init_54 : decode b_PR_init 54 = .ok (.putfield 37, 3) := by decide +kernel
theorem d_PR_init_57 : decode b_PR_init 57 = .ok (.aload_n 0, 1) := by decide +kernel
theorem d_PR_init_58 : decode b_PR_init 58 = .ok (.sipush 400, 3) := by decide +kernel
theorem d_PR_init_61 : decode b_PR_init 61 = .ok (.newarray .int, 2) := by decide +kernel
theorem d_PR_init_63 : decode b_PR_init 63 = .ok (.putfield 41, 3) := by decide +kernel
theorem d_PR_init_66 : decode b_PR_init 66 = .ok (.return_, 1) := by decide +kernel
theorem d_Scan_collect_0 : decode b_Scan_collect 0 = .ok (.iload_n 1, 1) := by decide +kernel
theorem d_Scan_collect_1 : decode b_Scan_collect 1 = .ok (.ifCond .eq 35, 3) := by decide +kernel
theorem d_Scan_collect_4 : decode b_Scan_collect 4 = .ok (.aload_n 0, 1) := by decide +kernel
theorem d_Scan_collect_5 : decode b_Scan_collect 5 = .ok (.getfield 15, 3) := by decide +kernel
theorem d_Scan_collect_8 : decode b_Scan_collect 8 = .ok (.aload_n 0, 1) := by decide +kernel
theorem d_Scan_collect_9 : decode b_Scan_collect 9 = .ok (.getfield 9, 3) := by decide +kernel
theorem d_Scan_collect_12 : decode b_Scan_collect 12 = .ok (.arraylength, 1) := by decide +kernel
theorem d_Scan_collect_13 : decode b_Scan_collect 13 = .ok (.if_icmp .ge 23, 3) := by decide +kernel
theorem d_Scan_collect_16 : decode b_Scan_collect 16 = .ok (.aload_n 0, 1) := by decide +kernel
theorem d_Scan_collect_17 : decode b_Scan_collect 17 = .ok (.getfield 9, 3) := by decide +kernel
theorem d_Scan_collect_20 : decode b_Scan_collect 20 = .ok (.aload_n 0, 1) := by decide +kernel
theorem d_Scan_collect_21 : decode b_Scan_collect 21 = .ok (.getfield 15, 3) := by decide +kernel
theorem d_Scan_collect_24 : decode b_Scan_collect 24 = .ok (.iload_n 1, 1) := by decide +kernel
theorem d_Scan_collect_25 : decode b_Scan_collect 25 = .ok (.castore, 1) := by decide +kernel
theorem d_Scan_collect_26 : decode b_Scan_collect 26 = .ok (.aload_n 0, 1) := by decide +kernel
theorem d_Scan_collect_27 : decode b_Scan_collect 27 = .ok (.dup, 1) := by decide +kernel
theorem d_Scan_collect_28 : decode b_Scan_collect 28 = .ok (.getfield 15, 3) := by decide +kernel
theorem d_Scan_collect_31 : decode b_Scan_collect 31 = .ok (.iconst 1, 1) := by decide +kernel
theorem d_Scan_collect_32 : decode b_Scan_collect 32 = .ok (.iadd, 1) := by decide +kernel
theorem d_Scan_collect_33 : decode b_Scan_collect 33 = .ok (.putfield 15, 3) := by decide +kernel
theorem d_Scan_collect_36 : decode b_Scan_collect 36 = .ok (.return_, 1) := by decide +kernel
theorem d_PR_type_0 : decode b_PR_type 0 = .ok (.bipush 56, 2) := by decide +kernel
theorem d_PR_type_2 : decode b_PR_type 2 = .ok (.istore_n 3, 1) := by decide +kernel
theorem d_PR_type_3 : decode b_PR_type 3 = .ok (.iload_n 3, 1) := by decide +kernel
theorem d_PR_type_4 : decode b_PR_type 4 = .ok (.ifCond .lt 25, 3) := by decide +kernel
theorem d_PR_type_7 : decode b_PR_type 7 = .ok (.aload_n 0, 1) := by decide +kernel
theorem d_PR_type_8 : decode b_PR_type 8 = .ok (.getfield 20, 3) := by decide +kernel
theorem d_PR_type_11 : decode b_PR_type 11 = .ok (.lload_n 1, 1) := by decide +kernel
theorem d_PR_type_12 : decode b_PR_type 12 = .ok (.iload_n 3, 1) := by decide +kernel
theorem d_PR_type_13 : decode b_PR_type 13 = .ok (.lushr, 1) := by decide +kernel
theorem d_PR_type_14 : decode b_PR_type 14 = .ok (.ldc2_w 45, 3) := by decide +kernel
theorem d_PR_type_17 : decode b_PR_type 17 = .ok (.land, 1) := by decide +kernel
theorem d_PR_type_18 : decode b_PR_type 18 = .ok (.l2i, 1) := by decide +kernel
theorem d_PR_type_19 : decode b_PR_type 19 = .ok (.i2c, 1) := by decide +kernel
theorem d_PR_type_20 : decode b_PR_type 20 = .ok (.invokevirtual 47, 3) := by decide +kernel
theorem d_PR_type_23 : decode b_PR_type 23 = .ok (.iinc 3 (-8), 3) := by decide +kernel
theorem d_PR_type_26 : decode b_PR_type 26 = .ok (.goto (-23), 3) := by decide +kernel
theorem d_PR_type_29 : decode b_PR_type 29 = .ok (.return_, 1) := by decide +kernel
theorem d_Scan_begin_0 : decode b_Scan_begin 0 = .ok (.aload_n 0, 1) := by decide +kernel
theorem d_Scan_begin_1 : decode b_Scan_begin 1 = .ok (.iconst 0, 1) := by decide +kernel
theorem d_Scan_begin_2 : decode b_Scan_begin 2 = .ok (.putfield 19, 3) := by decide +kernel
theorem d_Scan_begin_5 : decode b_Scan_begin 5 = .ok (.aload_n 0, 1) := by decide +kernel
theorem d_Scan_begin_6 : decode b_Scan_begin 6 = .ok (.iconst 0, 1) := by decide +kernel
theorem d_Scan_begin_7 : decode b_Scan_begin 7 = .ok (.putfield 22, 3) := by decide +kernel
theorem d_Scan_begin_10 : decode b_Scan_begin 10 = .ok (.aload_n 0, 1) := by decide +kernel
theorem d_Scan_begin_11 : decode b_Scan_begin 11 = .ok (.iconst 0, 1) := by decide +kernel
theorem d_Scan_begin_12 : decode b_Scan_begin 12 = .ok (.putfield 25, 3) := by decide +kernel
theorem d_Scan_begin_15 : decode b_Scan_begin 15 = .ok (.aload_n 0, 1) := by decide +kernel
theorem d_Scan_begin_16 : decode b_Scan_begin 16 = .ok (.iconst 0, 1) := by decide +kernel
theorem d_Scan_begin_17 : decode b_Scan_begin 17 = .ok (.putfield 28, 3) := by decide +kernel
theorem d_Scan_begin_20 : decode b_Scan_begin 20 = .ok (.return_, 1) := by decide +kernel
theorem d_Name_order_0 : decode b_Name_order 0 = .ok (.aload_n 0, 1) := by decide +kernel
theorem d_Name_order_1 : decode b_Name_order 1 = .ok (.getfield 26, 3) := by decide +kernel
theorem d_Name_order_4 : decode b_Name_order 4 = .ok (.aload_n 1, 1) := by decide +kernel
theorem d_Name_order_5 : decode b_Name_order 5 = .ok (.getfield 26, 3) := by decide +kernel
theorem d_Name_order_8 : decode b_Name_order 8 = .ok (.invokestatic 30, 3) := by decide +kernel
theorem d_Name_order_11 : decode b_Name_order 11 = .ok (.istore_n 2, 1) := by decide +kernel
theorem d_Name_order_12 : decode b_Name_order 12 = .ok (.iconst 0, 1) := by decide +kernel
theorem d_Name_order_13 : decode b_Name_order 13 = .ok (.istore_n 3, 1) := by decide +kernel
theorem d_Name_order_14 : decode b_Name_order 14 = .ok (.iload_n 3, 1) := by decide +kernel
theorem d_Name_order_15 : decode b_Name_order 15 = .ok (.iload_n 2, 1) := by decide +kernel
theorem d_Name_order_16 : decode b_Name_order 16 = .ok (.if_icmp .ge 38, 3) := by decide +kernel
theorem d_Name_order_19 : decode b_Name_order 19 = .ok (.aload_n 0, 1) := by decide +kernel
theorem d_Name_order_20 : decode b_Name_order 20 = .ok (.getfield 15, 3) := by decide +kernel
theorem d_Name_order_23 : decode b_Name_order 23 = .ok (.iload_n 3, 1) := by decide +kernel
theorem d_Name_order_24 : decode b_Name_order 24 = .ok (.caload, 1) := by decide +kernel
theorem d_Name_order_25 : decode b_Name_order 25 = .ok (.aload_n 1, 1) := by decide +kernel
theorem d_Name_order_26 : decode b_Name_order 26 = .ok (.getfield 15, 3) := by decide +kernel
theorem d_Name_order_29 : decode b_Name_order 29 = .ok (.iload_n 3, 1) := by decide +kernel
theorem d_Name_order_30 : decode b_Name_order 30 = .ok (.caload, 1) := by decide +kernel
theorem d_Name_order_31 : decode b_Name_order 31 = .ok (.if_icmp .eq 17, 3) := by decide +kernel
theorem d_Name_order_34 : decode b_Name_order 34 = .ok (.aload_n 0, 1) := by decide +kernel
theorem d_Name_order_35 : decode b_Name_order 35 = .ok (.getfield 15, 3) := by decide +kernel
theorem d_Name_order_38 : decode b_Name_order 38 = .ok (.iload_n 3, 1) := by decide +kernel
theorem d_Name_order_39 : decode b_Name_order 39 = .ok (.caload, 1) := by decide +kernel
theorem d_Name_order_40 : decode b_Name_order 40 = .ok (.aload_n 1, 1) := by decide +kernel
theorem d_Name_order_41 : decode b_Name_order 41 = .ok (.getfield 15, 3) := by decide +kernel
theorem d_Name_order_44 : decode b_Name_order 44 = .ok (.iload_n 3, 1) := by decide +kernel
theorem d_Name_order_45 : decode b_Name_order 45 = .ok (.caload, 1) := by decide +kernel
theorem d_Name_order_46 : decode b_Name_order 46 = .ok (.isub, 1) := by decide +kernel
theorem d_Name_order_47 : decode b_Name_order 47 = .ok (.ireturn, 1) := by decide +kernel
theorem d_Name_order_48 : decode b_Name_order 48 = .ok (.iinc 3 1, 3) := by decide +kernel
theorem d_Name_order_51 : decode b_Name_order 51 = .ok (.goto (-37), 3) := by decide +kernel
theorem d_Name_order_54 : decode b_Name_order 54 = .ok (.aload_n 0, 1) := by decide +kernel
theorem d_Name_order_55 : decode b_Name_order 55 = .ok (.getfield 26, 3) := by decide +kernel
theorem d_Name_order_58 : decode b_Name_order 58 = .ok (.aload_n 1, 1) := by decide +kernel
theorem d_Name_order_59 : decode b_Name_order 59 = .ok (.getfield 26, 3) := by decide +kernel
theorem d_Name_order_62 : decode b_Name_order 62 = .ok (.isub, 1) := by decide +kernel
theorem d_Name_order_63 : decode b_Name_order 63 = .ok (.ireturn, 1) := by decide +kernel
theorem d_Name_foldsLikeOneOf_0 : decode b_Name_foldsLikeOneOf 0 = .ok (.iconst 0, 1) := by decide +kernel
theorem d_Name_foldsLikeOneOf_1 : decode b_Name_foldsLikeOneOf 1 = .ok (.istore_n 3, 1) := by decide +kernel
theorem d_Name_foldsLikeOneOf_2 : decode b_Name_foldsLikeOneOf 2 = .ok (.iload_n 3, 1) := by decide +kernel
theorem d_Name_foldsLikeOneOf_3 : decode b_Name_foldsLikeOneOf 3 = .ok (.iload_n 2, 1) := by decide +kernel
theorem d_Name_foldsLikeOneOf_4 : decode b_Name_foldsLikeOneOf 4 = .ok (.if_icmp .ge 27, 3) := by decide +kernel
theorem d_Name_foldsLikeOneOf_7 : decode b_Name_foldsLikeOneOf 7 = .ok (.iload_n 3, 1) := by decide +kernel
theorem d_Name_foldsLikeOneOf_8 : decode b_Name_foldsLikeOneOf 8 = .ok (.aload_n 1, 1) := by decide +kernel
theorem d_Name_foldsLikeOneOf_9 : decode b_Name_foldsLikeOneOf 9 = .ok (.arraylength, 1) := by decide +kernel
theorem d_Name_foldsLikeOneOf_10 : decode b_Name_foldsLikeOneOf 10 = .ok (.if_icmp .ge 21, 3) := by decide +kernel
theorem d_Name_foldsLikeOneOf_13 : decode b_Name_foldsLikeOneOf 13 = .ok (.aload_n 0, 1) := by decide +kernel
theorem d_Name_foldsLikeOneOf_14 : decode b_Name_foldsLikeOneOf 14 = .ok (.aload_n 1, 1) := by decide +kernel
theorem d_Name_foldsLikeOneOf_15 : decode b_Name_foldsLikeOneOf 15 = .ok (.iload_n 3, 1) := by decide +kernel
theorem d_Name_foldsLikeOneOf_16 : decode b_Name_foldsLikeOneOf 16 = .ok (.aaload, 1) := by decide +kernel
theorem d_Name_foldsLikeOneOf_17 : decode b_Name_foldsLikeOneOf 17 = .ok (.invokevirtual 36, 3) := by decide +kernel
theorem d_Name_foldsLikeOneOf_20 : decode b_Name_foldsLikeOneOf 20 = .ok (.ifCond .ne 5, 3) := by decide +kernel
theorem d_Name_foldsLikeOneOf_23 : decode b_Name_foldsLikeOneOf 23 = .ok (.iconst 1, 1) := by decide +kernel
theorem d_Name_foldsLikeOneOf_24 : decode b_Name_foldsLikeOneOf 24 = .ok (.ireturn, 1) := by decide +kernel
theorem d_Name_foldsLikeOneOf_25 : decode b_Name_foldsLikeOneOf 25 = .ok (.iinc 3 1, 3) := by decide +kernel
theorem d_Name_foldsLikeOneOf_28 : decode b_Name_foldsLikeOneOf 28 = .ok (.goto (-26), 3) := by decide +kernel
theorem d_Name_foldsLikeOneOf_31 : decode b_Name_foldsLikeOneOf 31 = .ok (.iconst 0, 1) := by decide +kernel
theorem d_Name_foldsLikeOneOf_32 : decode b_Name_foldsLikeOneOf 32 = .ok (.ireturn, 1) := by decide +kernel
theorem d_Scan_refuse_0 : decode b_Scan_refuse 0 = .ok (.aload_n 0, 1) := by decide +kernel
theorem d_Scan_refuse_1 : decode b_Scan_refuse 1 = .ok (.iload_n 1, 1) := by decide +kernel
theorem d_Scan_refuse_2 : decode b_Scan_refuse 2 = .ok (.putfield 22, 3) := by decide +kernel
theorem d_Scan_refuse_5 : decode b_Scan_refuse 5 = .ok (.iconst 0, 1) := by decide +kernel
theorem d_Scan_refuse_6 : decode b_Scan_refuse 6 = .ok (.ireturn, 1) := by decide +kernel
theorem d_Reader_defaultsStand_0 : decode b_Reader_defaultsStand 0 = .ok (.iconst 0, 1) := by decide +kernel
theorem d_Reader_defaultsStand_1 : decode b_Reader_defaultsStand 1 = .ok (.istore_n 1, 1) := by decide +kernel
theorem d_Reader_defaultsStand_2 : decode b_Reader_defaultsStand 2 = .ok (.iload_n 1, 1) := by decide +kernel
theorem d_Reader_defaultsStand_3 : decode b_Reader_defaultsStand 3 = .ok (.aload_n 0, 1) := by decide +kernel
theorem d_Reader_defaultsStand_4 : decode b_Reader_defaultsStand 4 = .ok (.getfield 34, 3) := by decide +kernel
theorem d_Reader_defaultsStand_7 : decode b_Reader_defaultsStand 7 = .ok (.if_icmp .ge 60, 3) := by decide +kernel
theorem d_Reader_defaultsStand_10 : decode b_Reader_defaultsStand 10 = .ok (.aload_n 0, 1) := by decide +kernel
theorem d_Reader_defaultsStand_11 : decode b_Reader_defaultsStand 11 = .ok (.getfield 20, 3) := by decide +kernel
theorem d_Reader_defaultsStand_14 : decode b_Reader_defaultsStand 14 = .ok (.iload_n 1, 1) := by decide +kernel
theorem d_Reader_defaultsStand_15 : decode b_Reader_defaultsStand 15 = .ok (.aaload, 1) := by decide +kernel
theorem d_Reader_defaultsStand_16 : decode b_Reader_defaultsStand 16 = .ok (.getfield 176, 3) := by decide +kernel
theorem d_Reader_defaultsStand_19 : decode b_Reader_defaultsStand 19 = .ok (.bipush 10, 2) := by decide +kernel
theorem d_Reader_defaultsStand_21 : decode b_Reader_defaultsStand 21 = .ok (.if_icmp .ne 40, 3) := by decide +kernel
theorem d_Reader_defaultsStand_24 : decode b_Reader_defaultsStand 24 = .ok (.aload_n 0, 1) := by decide +kernel
theorem d_Reader_defaultsStand_25 : decode b_Reader_defaultsStand 25 = .ok (.getfield 20, 3) := by decide +kernel
theorem d_Reader_defaultsStand_28 : decode b_Reader_defaultsStand 28 = .ok (.iload_n 1, 1) := by decide +kernel
theorem d_Reader_defaultsStand_29 : decode b_Reader_defaultsStand 29 = .ok (.aaload, 1) := by decide +kernel
theorem d_Reader_defaultsStand_30 : decode b_Reader_defaultsStand 30 = .ok (.getfield 179, 3) := by decide +kernel
theorem d_Reader_defaultsStand_33 : decode b_Reader_defaultsStand 33 = .ok (.aload_n 0, 1) := by decide +kernel
theorem d_Reader_defaultsStand_34 : decode b_Reader_defaultsStand 34 = .ok (.getfield 30, 3) := by decide +kernel
theorem d_Reader_defaultsStand_37 : decode b_Reader_defaultsStand 37 = .ok (.aload_n 0, 1) := by decide +kernel
theorem d_Reader_defaultsStand_38 : decode b_Reader_defaultsStand 38 = .ok (.getfield 38, 3) := by decide +kernel
theorem d_Reader_defaultsStand_41 : decode b_Reader_defaultsStand 41 = .ok (.invokevirtual 158, 3) := by decide +kernel
theorem d_Reader_defaultsStand_44 : decode b_Reader_defaultsStand 44 = .ok (.ifCond .ne 17, 3) := by decide +kernel
theorem d_Reader_defaultsStand_47 : decode b_Reader_defaultsStand 47 = .ok (.aload_n 0, 1) := by decide +kernel
theorem d_Reader_defaultsStand_48 : decode b_Reader_defaultsStand 48 = .ok (.getfield 12, 3) := by decide +kernel
theorem d_Reader_defaultsStand_51 : decode b_Reader_defaultsStand 51 = .ok (.aload_n 0, 1) := by decide +kernel
theorem d_Reader_defaultsStand_52 : decode b_Reader_defaultsStand 52 = .ok (.getfield 24, 3) := by decide +kernel
theorem d_Reader_defaultsStand_55 : decode b_Reader_defaultsStand 55 = .ok (.iload_n 1, 1) := by decide +kernel
theorem d_Reader_defaultsStand_56 : decode b_Reader_defaultsStand 56 = .ok (.iaload, 1) := by decide +kernel
theorem d_Reader_defaultsStand_57 : decode b_Reader_defaultsStand 57 = .ok (.invokevirtual 73, 3) := by decide +kernel
theorem d_Reader_defaultsStand_60 : decode b_Reader_defaultsStand 60 = .ok (.ireturn, 1) := by decide +kernel
theorem d_Reader_defaultsStand_61 : decode b_Reader_defaultsStand 61 = .ok (.iinc 1 1, 3) := by decide +kernel
theorem d_Reader_defaultsStand_64 : decode b_Reader_defaultsStand 64 = .ok (.goto (-62), 3) := by decide +kernel
theorem d_Reader_defaultsStand_67 : decode b_Reader_defaultsStand 67 = .ok (.iconst 1, 1) := by decide +kernel
theorem d_Reader_defaultsStand_68 : decode b_Reader_defaultsStand 68 = .ok (.ireturn, 1) := by decide +kernel
theorem d_Scan_skipBlanks_0 : decode b_Scan_skipBlanks 0 = .ok (.aload_n 0, 1) := by decide +kernel
theorem d_Scan_skipBlanks_1 : decode b_Scan_skipBlanks 1 = .ok (.getfield 19, 3) := by decide +kernel
theorem d_Scan_skipBlanks_4 : decode b_Scan_skipBlanks 4 = .ok (.aload_n 0, 1) := by decide +kernel
theorem d_Scan_skipBlanks_5 : decode b_Scan_skipBlanks 5 = .ok (.getfield 15, 3) := by decide +kernel
theorem d_Scan_skipBlanks_8 : decode b_Scan_skipBlanks 8 = .ok (.if_icmp .ge 44, 3) := by decide +kernel
theorem d_Scan_skipBlanks_11 : decode b_Scan_skipBlanks 11 = .ok (.aload_n 0, 1) := by decide +kernel
theorem d_Scan_skipBlanks_12 : decode b_Scan_skipBlanks 12 = .ok (.getfield 9, 3) := by decide +kernel
theorem d_Scan_skipBlanks_15 : decode b_Scan_skipBlanks 15 = .ok (.aload_n 0, 1) := by decide +kernel
theorem d_Scan_skipBlanks_16 : decode b_Scan_skipBlanks 16 = .ok (.getfield 19, 3) := by decide +kernel
theorem d_Scan_skipBlanks_19 : decode b_Scan_skipBlanks 19 = .ok (.caload, 1) := by decide +kernel
theorem d_Scan_skipBlanks_20 : decode b_Scan_skipBlanks 20 = .ok (.bipush 32, 2) := by decide +kernel
theorem d_Scan_skipBlanks_22 : decode b_Scan_skipBlanks 22 = .ok (.if_icmp .eq 17, 3) := by decide +kernel
theorem d_Scan_skipBlanks_25 : decode b_Scan_skipBlanks 25 = .ok (.aload_n 0, 1) := by decide +kernel
theorem d_Scan_skipBlanks_26 : decode b_Scan_skipBlanks 26 = .ok (.getfield 9, 3) := by decide +kernel
theorem d_Scan_skipBlanks_29 : decode b_Scan_skipBlanks 29 = .ok (.aload_n 0, 1) := by decide +kernel
theorem d_Scan_skipBlanks_30 : decode b_Scan_skipBlanks 30 = .ok (.getfield 19, 3) := by decide +kernel
theorem d_Scan_skipBlanks_33 : decode b_Scan_skipBlanks 33 = .ok (.caload, 1) := by decide +kernel
theorem d_Scan_skipBlanks_34 : decode b_Scan_skipBlanks 34 = .ok (.bipush 10, 2) := by decide +kernel
theorem d_Scan_skipBlanks_36 : decode b_Scan_skipBlanks 36 = .ok (.if_icmp .ne 16, 3) := by decide +kernel
theorem d_Scan_skipBlanks_39 : decode b_Scan_skipBlanks 39 = .ok (.aload_n 0, 1) := by decide +kernel
theorem d_Scan_skipBlanks_40 : decode b_Scan_skipBlanks 40 = .ok (.dup, 1) := by decide +kernel
theorem d_Scan_skipBlanks_41 : decode b_Scan_skipBlanks 41 = .ok (.getfield 19, 3) := by decide +kernel
theorem d_Scan_skipBlanks_44 : decode b_Scan_skipBlanks 44 = .ok (.iconst 1, 1) := by decide +kernel
theorem d_Scan_skipBlanks_45 : decode b_Scan_skipBlanks 45 = .ok (.iadd, 1) := by decide +kernel
theorem d_Scan_skipBlanks_46 : decode b_Scan_skipBlanks 46 = .ok (.putfield 19, 3) := by decide +kernel
theorem d_Scan_skipBlanks_49 : decode b_Scan_skipBlanks 49 = .ok (.goto (-49), 3) := by decide +kernel
theorem d_Scan_skipBlanks_52 : decode b_Scan_skipBlanks 52 = .ok (.return_, 1) := by decide +kernel
theorem d_Scan_atEnd_0 : decode b_Scan_atEnd 0 = .ok (.aload_n 0, 1) := by decide +kernel
theorem d_Scan_atEnd_1 : decode b_Scan_atEnd 1 = .ok (.invokevirtual 31, 3) := by decide +kernel
theorem d_Scan_atEnd_4 : decode b_Scan_atEnd 4 = .ok (.aload_n 0, 1) := by decide +kernel
theorem d_Scan_atEnd_5 : decode b_Scan_atEnd 5 = .ok (.getfield 19, 3) := by decide +kernel
theorem d_Scan_atEnd_8 : decode b_Scan_atEnd 8 = .ok (.aload_n 0, 1) := by decide +kernel
theorem d_Scan_atEnd_9 : decode b_Scan_atEnd 9 = .ok (.getfield 15, 3) := by decide +kernel
theorem d_Scan_atEnd_12 : decode b_Scan_atEnd 12 = .ok (.if_icmp .lt 7, 3) := by decide +kernel
theorem d_Scan_atEnd_15 : decode b_Scan_atEnd 15 = .ok (.iconst 1, 1) := by decide +kernel
theorem d_Scan_atEnd_16 : decode b_Scan_atEnd 16 = .ok (.goto 4, 3) := by decide +kernel
theorem d_Scan_atEnd_19 : decode b_Scan_atEnd 19 = .ok (.iconst 0, 1) := by decide +kernel
theorem d_Scan_atEnd_20 : decode b_Scan_atEnd 20 = .ok (.ireturn, 1) := by decide +kernel
theorem d_Scan_isLetter_0 : decode b_Scan_isLetter 0 = .ok (.iload_n 0, 1) := by decide +kernel
theorem d_Scan_isLetter_1 : decode b_Scan_isLetter 1 = .ok (.bipush 97, 2) := by decide +kernel
theorem d_Scan_isLetter_3 : decode b_Scan_isLetter 3 = .ok (.if_icmp .lt 9, 3) := by decide +kernel
theorem d_Scan_isLetter_6 : decode b_Scan_isLetter 6 = .ok (.iload_n 0, 1) := by decide +kernel
theorem d_Scan_isLetter_7 : decode b_Scan_isLetter 7 = .ok (.bipush 122, 2) := by decide +kernel
theorem d_Scan_isLetter_9 : decode b_Scan_isLetter 9 = .ok (.if_icmp .le 15, 3) := by decide +kernel
theorem d_Scan_isLetter_12 : decode b_Scan_isLetter 12 = .ok (.iload_n 0, 1) := by decide +kernel
theorem d_Scan_isLetter_13 : decode b_Scan_isLetter 13 = .ok (.bipush 65, 2) := by decide +kernel
theorem d_Scan_isLetter_15 : decode b_Scan_isLetter 15 = .ok (.if_icmp .lt 13, 3) := by decide +kernel
theorem d_Scan_isLetter_18 : decode b_Scan_isLetter 18 = .ok (.iload_n 0, 1) := by decide +kernel
theorem d_Scan_isLetter_19 : decode b_Scan_isLetter 19 = .ok (.bipush 90, 2) := by decide +kernel
theorem d_Scan_isLetter_21 : decode b_Scan_isLetter 21 = .ok (.if_icmp .gt 7, 3) := by decide +kernel
theorem d_Scan_isLetter_24 : decode b_Scan_isLetter 24 = .ok (.iconst 1, 1) := by decide +kernel
theorem d_Scan_isLetter_25 : decode b_Scan_isLetter 25 = .ok (.goto 4, 3) := by decide +kernel
theorem d_Scan_isLetter_28 : decode b_Scan_isLetter 28 = .ok (.iconst 0, 1) := by decide +kernel
theorem d_Scan_isLetter_29 : decode b_Scan_isLetter 29 = .ok (.ireturn, 1) := by decide +kernel
theorem d_Scan_isDigit_0 : decode b_Scan_isDigit 0 = .ok (.iload_n 0, 1) := by decide +kernel
theorem d_Scan_isDigit_1 : decode b_Scan_isDigit 1 = .ok (.bipush 48, 2) := by decide +kernel
theorem d_Scan_isDigit_3 : decode b_Scan_isDigit 3 = .ok (.if_icmp .lt 13, 3) := by decide +kernel
theorem d_Scan_isDigit_6 : decode b_Scan_isDigit 6 = .ok (.iload_n 0, 1) := by decide +kernel
theorem d_Scan_isDigit_7 : decode b_Scan_isDigit 7 = .ok (.bipush 57, 2) := by decide +kernel
theorem d_Scan_isDigit_9 : decode b_Scan_isDigit 9 = .ok (.if_icmp .gt 7, 3) := by decide +kernel
theorem d_Scan_isDigit_12 : decode b_Scan_isDigit 12 = .ok (.iconst 1, 1) := by decide +kernel
theorem d_Scan_isDigit_13 : decode b_Scan_isDigit 13 = .ok (.goto 4, 3) := by decide +kernel
theorem d_Scan_isDigit_16 : decode b_Scan_isDigit 16 = .ok (.iconst 0, 1) := by decide +kernel
theorem d_Scan_isDigit_17 : decode b_Scan_isDigit 17 = .ok (.ireturn, 1) := by decide +kernel
theorem d_Name_isBar_0 : decode b_Name_isBar 0 = .ok (.iload_n 0, 1) := by decide +kernel
theorem d_Name_isBar_1 : decode b_Name_isBar 1 = .ok (.bipush 45, 2) := by decide +kernel
theorem d_Name_isBar_3 : decode b_Name_isBar 3 = .ok (.if_icmp .eq 15, 3) := by decide +kernel
theorem d_Name_isBar_6 : decode b_Name_isBar 6 = .ok (.iload_n 0, 1) := by decide +kernel
theorem d_Name_isBar_7 : decode b_Name_isBar 7 = .ok (.bipush 95, 2) := by decide +kernel
theorem d_Name_isBar_9 : decode b_Name_isBar 9 = .ok (.if_icmp .eq 9, 3) := by decide +kernel
theorem d_Name_isBar_12 : decode b_Name_isBar 12 = .ok (.iload_n 0, 1) := by decide +kernel
theorem d_Name_isBar_13 : decode b_Name_isBar 13 = .ok (.bipush 46, 2) := by decide +kernel
theorem d_Name_isBar_15 : decode b_Name_isBar 15 = .ok (.if_icmp .ne 7, 3) := by decide +kernel
theorem d_Name_isBar_18 : decode b_Name_isBar 18 = .ok (.iconst 1, 1) := by decide +kernel
theorem d_Name_isBar_19 : decode b_Name_isBar 19 = .ok (.goto 4, 3) := by decide +kernel
theorem d_Name_isBar_22 : decode b_Name_isBar 22 = .ok (.iconst 0, 1) := by decide +kernel
theorem d_Name_isBar_23 : decode b_Name_isBar 23 = .ok (.ireturn, 1) := by decide +kernel
theorem d_Scan_signHere_0 : decode b_Scan_signHere 0 = .ok (.aload_n 0, 1) := by decide +kernel
theorem d_Scan_signHere_1 : decode b_Scan_signHere 1 = .ok (.getfield 19, 3) := by decide +kernel
theorem d_Scan_signHere_4 : decode b_Scan_signHere 4 = .ok (.aload_n 0, 1) := by decide +kernel
theorem d_Scan_signHere_5 : decode b_Scan_signHere 5 = .ok (.getfield 15, 3) := by decide +kernel
theorem d_Scan_signHere_8 : decode b_Scan_signHere 8 = .ok (.if_icmp .ge 15, 3) := by decide +kernel
theorem d_Scan_signHere_11 : decode b_Scan_signHere 11 = .ok (.aload_n 0, 1) := by decide +kernel
theorem d_Scan_signHere_12 : decode b_Scan_signHere 12 = .ok (.getfield 9, 3) := by decide +kernel
theorem d_Scan_signHere_15 : decode b_Scan_signHere 15 = .ok (.aload_n 0, 1) := by decide +kernel
theorem d_Scan_signHere_16 : decode b_Scan_signHere 16 = .ok (.getfield 19, 3) := by decide +kernel
theorem d_Scan_signHere_19 : decode b_Scan_signHere 19 = .ok (.caload, 1) := by decide +kernel
theorem d_Scan_signHere_20 : decode b_Scan_signHere 20 = .ok (.goto 4, 3) := by decide +kernel
theorem d_Scan_signHere_23 : decode b_Scan_signHere 23 = .ok (.iconst 0, 1) := by decide +kernel
theorem d_Scan_signHere_24 : decode b_Scan_signHere 24 = .ok (.ireturn, 1) := by decide +kernel
theorem d_Scan_takeWord_0 : decode b_Scan_takeWord 0 = .ok (.aload_n 0, 1) := by decide +kernel
theorem d_Scan_takeWord_1 : decode b_Scan_takeWord 1 = .ok (.invokevirtual 31, 3) := by decide +kernel
theorem d_Scan_takeWord_4 : decode b_Scan_takeWord 4 = .ok (.aload_n 0, 1) := by decide +kernel
theorem d_Scan_takeWord_5 : decode b_Scan_takeWord 5 = .ok (.invokevirtual 42, 3) := by decide +kernel
theorem d_Scan_takeWord_8 : decode b_Scan_takeWord 8 = .ok (.invokestatic 50, 3) := by decide +kernel
theorem d_Scan_takeWord_11 : decode b_Scan_takeWord 11 = .ok (.ifCond .ne 12, 3) := by decide +kernel
theorem d_Scan_takeWord_14 : decode b_Scan_takeWord 14 = .ok (.aload_n 0, 1) := by decide +kernel
theorem d_Scan_takeWord_15 : decode b_Scan_takeWord 15 = .ok (.aload_n 0, 1) := by decide +kernel
theorem d_Scan_takeWord_16 : decode b_Scan_takeWord 16 = .ok (.getfield 19, 3) := by decide +kernel
theorem d_Scan_takeWord_19 : decode b_Scan_takeWord 19 = .ok (.invokevirtual 38, 3) := by decide +kernel
theorem d_Scan_takeWord_22 : decode b_Scan_takeWord 22 = .ok (.ireturn, 1) := by decide +kernel
theorem d_Scan_takeWord_23 : decode b_Scan_takeWord 23 = .ok (.aload_n 0, 1) := by decide +kernel
theorem d_Scan_takeWord_24 : decode b_Scan_takeWord 24 = .ok (.aload_n 0, 1) := by decide +kernel
theorem d_Scan_takeWord_25 : decode b_Scan_takeWord 25 = .ok (.getfield 19, 3) := by decide +kernel
theorem d_Scan_takeWord_28 : decode b_Scan_takeWord 28 = .ok (.putfield 25, 3) := by decide +kernel
theorem d_Scan_takeWord_31 : decode b_Scan_takeWord 31 = .ok (.aload_n 0, 1) := by decide +kernel
theorem d_Scan_takeWord_32 : decode b_Scan_takeWord 32 = .ok (.getfield 19, 3) := by decide +kernel
theorem d_Scan_takeWord_35 : decode b_Scan_takeWord 35 = .ok (.aload_n 0, 1) := by decide +kernel
theorem d_Scan_takeWord_36 : decode b_Scan_takeWord 36 = .ok (.getfield 15, 3) := by decide +kernel
theorem d_Scan_takeWord_39 : decode b_Scan_takeWord 39 = .ok (.if_icmp .ge 61, 3) := by decide +kernel
theorem d_Scan_takeWord_42 : decode b_Scan_takeWord 42 = .ok (.aload_n 0, 1) := by decide +kernel
theorem d_Scan_takeWord_43 : decode b_Scan_takeWord 43 = .ok (.getfield 9, 3) := by decide +kernel
theorem d_Scan_takeWord_46 : decode b_Scan_takeWord 46 = .ok (.aload_n 0, 1) := by decide +kernel
theorem d_Scan_takeWord_47 : decode b_Scan_takeWord 47 = .ok (.getfield 19, 3) := by decide +kernel
theorem d_Scan_takeWord_50 : decode b_Scan_takeWord 50 = .ok (.caload, 1) := by decide +kernel
theorem d_Scan_takeWord_51 : decode b_Scan_takeWord 51 = .ok (.invokestatic 50, 3) := by decide +kernel
theorem d_Scan_takeWord_54 : decode b_Scan_takeWord 54 = .ok (.ifCond .ne 33, 3) := by decide +kernel
theorem d_Scan_takeWord_57 : decode b_Scan_takeWord 57 = .ok (.aload_n 0, 1) := by decide +kernel
theorem d_Scan_takeWord_58 : decode b_Scan_takeWord 58 = .ok (.getfield 9, 3) := by decide +kernel
theorem d_Scan_takeWord_61 : decode b_Scan_takeWord 61 = .ok (.aload_n 0, 1) := by decide +kernel
theorem d_Scan_takeWord_62 : decode b_Scan_takeWord 62 = .ok (.getfield 19, 3) := by decide +kernel
theorem d_Scan_takeWord_65 : decode b_Scan_takeWord 65 = .ok (.caload, 1) := by decide +kernel
theorem d_Scan_takeWord_66 : decode b_Scan_takeWord 66 = .ok (.invokestatic 53, 3) := by decide +kernel
theorem d_Scan_takeWord_69 : decode b_Scan_takeWord 69 = .ok (.ifCond .ne 18, 3) := by decide +kernel
theorem d_Scan_takeWord_72 : decode b_Scan_takeWord 72 = .ok (.aload_n 0, 1) := by decide +kernel
theorem d_Scan_takeWord_73 : decode b_Scan_takeWord 73 = .ok (.getfield 9, 3) := by decide +kernel
theorem d_Scan_takeWord_76 : decode b_Scan_takeWord 76 = .ok (.aload_n 0, 1) := by decide +kernel
theorem d_Scan_takeWord_77 : decode b_Scan_takeWord 77 = .ok (.getfield 19, 3) := by decide +kernel
theorem d_Scan_takeWord_80 : decode b_Scan_takeWord 80 = .ok (.caload, 1) := by decide +kernel
theorem d_Scan_takeWord_81 : decode b_Scan_takeWord 81 = .ok (.invokestatic 56, 3) := by decide +kernel
theorem d_Scan_takeWord_84 : decode b_Scan_takeWord 84 = .ok (.ifCond .eq 16, 3) := by decide +kernel
theorem d_Scan_takeWord_87 : decode b_Scan_takeWord 87 = .ok (.aload_n 0, 1) := by decide +kernel
theorem d_Scan_takeWord_88 : decode b_Scan_takeWord 88 = .ok (.dup, 1) := by decide +kernel
theorem d_Scan_takeWord_89 : decode b_Scan_takeWord 89 = .ok (.getfield 19, 3) := by decide +kernel
theorem d_Scan_takeWord_92 : decode b_Scan_takeWord 92 = .ok (.iconst 1, 1) := by decide +kernel
theorem d_Scan_takeWord_93 : decode b_Scan_takeWord 93 = .ok (.iadd, 1) := by decide +kernel
theorem d_Scan_takeWord_94 : decode b_Scan_takeWord 94 = .ok (.putfield 19, 3) := by decide +kernel
theorem d_Scan_takeWord_97 : decode b_Scan_takeWord 97 = .ok (.goto (-66), 3) := by decide +kernel
theorem d_Scan_takeWord_100 : decode b_Scan_takeWord 100 = .ok (.aload_n 0, 1) := by decide +kernel
theorem d_Scan_takeWord_101 : decode b_Scan_takeWord 101 = .ok (.aload_n 0, 1) := by decide +kernel
theorem d_Scan_takeWord_102 : decode b_Scan_takeWord 102 = .ok (.getfield 19, 3) := by decide +kernel
theorem d_Scan_takeWord_105 : decode b_Scan_takeWord 105 = .ok (.putfield 28, 3) := by decide +kernel
theorem d_Scan_takeWord_108 : decode b_Scan_takeWord 108 = .ok (.iconst 1, 1) := by decide +kernel
theorem d_Scan_takeWord_109 : decode b_Scan_takeWord 109 = .ok (.ireturn, 1) := by decide +kernel
theorem d_Scan_takeName_0 : decode b_Scan_takeName 0 = .ok (.aload_n 0, 1) := by decide +kernel
theorem d_Scan_takeName_1 : decode b_Scan_takeName 1 = .ok (.invokevirtual 71, 3) := by decide +kernel
theorem d_Scan_takeName_4 : decode b_Scan_takeName 4 = .ok (.ifCond .ne 5, 3) := by decide +kernel
theorem d_Scan_takeName_7 : decode b_Scan_takeName 7 = .ok (.iconst 0, 1) := by decide +kernel
theorem d_Scan_takeName_8 : decode b_Scan_takeName 8 = .ok (.ireturn, 1) := by decide +kernel
theorem d_Scan_takeName_9 : decode b_Scan_takeName 9 = .ok (.aload_n 0, 1) := by decide +kernel
theorem d_Scan_takeName_10 : decode b_Scan_takeName 10 = .ok (.getfield 28, 3) := by decide +kernel
theorem d_Scan_takeName_13 : decode b_Scan_takeName 13 = .ok (.aload_n 0, 1) := by decide +kernel
theorem d_Scan_takeName_14 : decode b_Scan_takeName 14 = .ok (.getfield 25, 3) := by decide +kernel
theorem d_Scan_takeName_17 : decode b_Scan_takeName 17 = .ok (.isub, 1) := by decide +kernel
theorem d_Scan_takeName_18 : decode b_Scan_takeName 18 = .ok (.bipush 20, 2) := by decide +kernel
theorem d_Scan_takeName_20 : decode b_Scan_takeName 20 = .ok (.if_icmp .gt 20, 3) := by decide +kernel
theorem d_Scan_takeName_23 : decode b_Scan_takeName 23 = .ok (.aload_n 0, 1) := by decide +kernel
theorem d_Scan_takeName_24 : decode b_Scan_takeName 24 = .ok (.getfield 9, 3) := by decide +kernel
theorem d_Scan_takeName_27 : decode b_Scan_takeName 27 = .ok (.aload_n 0, 1) := by decide +kernel
theorem d_Scan_takeName_28 : decode b_Scan_takeName 28 = .ok (.getfield 28, 3) := by decide +kernel
theorem d_Scan_takeName_31 : decode b_Scan_takeName 31 = .ok (.iconst 1, 1) := by decide +kernel
theorem d_Scan_takeName_32 : decode b_Scan_takeName 32 = .ok (.isub, 1) := by decide +kernel
theorem d_Scan_takeName_33 : decode b_Scan_takeName 33 = .ok (.caload, 1) := by decide +kernel
theorem d_Scan_takeName_34 : decode b_Scan_takeName 34 = .ok (.invokestatic 56, 3) := by decide +kernel
theorem d_Scan_takeName_37 : decode b_Scan_takeName 37 = .ok (.ifCond .eq 12, 3) := by decide +kernel
theorem d_Scan_takeName_40 : decode b_Scan_takeName 40 = .ok (.aload_n 0, 1) := by decide +kernel
theorem d_Scan_takeName_41 : decode b_Scan_takeName 41 = .ok (.aload_n 0, 1) := by decide +kernel
theorem d_Scan_takeName_42 : decode b_Scan_takeName 42 = .ok (.getfield 25, 3) := by decide +kernel
theorem d_Scan_takeName_45 : decode b_Scan_takeName 45 = .ok (.invokevirtual 38, 3) := by decide +kernel
theorem d_Scan_takeName_48 : decode b_Scan_takeName 48 = .ok (.ireturn, 1) := by decide +kernel
theorem d_Scan_takeName_49 : decode b_Scan_takeName 49 = .ok (.iconst 1, 1) := by decide +kernel
theorem d_Scan_takeName_50 : decode b_Scan_takeName 50 = .ok (.ireturn, 1) := by decide +kernel
theorem d_Name_smallLetter_0 : decode b_Name_smallLetter 0 = .ok (.iload_n 0, 1) := by decide +kernel
theorem d_Name_smallLetter_1 : decode b_Name_smallLetter 1 = .ok (.bipush 65, 2) := by decide +kernel
theorem d_Name_smallLetter_3 : decode b_Name_smallLetter 3 = .ok (.if_icmp .lt 20, 3) := by decide +kernel
theorem d_Name_smallLetter_6 : decode b_Name_smallLetter 6 = .ok (.iload_n 0, 1) := by decide +kernel
theorem d_Name_smallLetter_7 : decode b_Name_smallLetter 7 = .ok (.bipush 90, 2) := by decide +kernel
theorem d_Name_smallLetter_9 : decode b_Name_smallLetter 9 = .ok (.if_icmp .gt 14, 3) := by decide +kernel
theorem d_Name_smallLetter_12 : decode b_Name_smallLetter 12 = .ok (.iload_n 0, 1) := by decide +kernel
theorem d_Name_smallLetter_13 : decode b_Name_smallLetter 13 = .ok (.bipush 65, 2) := by decide +kernel
theorem d_Name_smallLetter_15 : decode b_Name_smallLetter 15 = .ok (.isub, 1) := by decide +kernel
theorem d_Name_smallLetter_16 : decode b_Name_smallLetter 16 = .ok (.bipush 97, 2) := by decide +kernel
theorem d_Name_smallLetter_18 : decode b_Name_smallLetter 18 = .ok (.iadd, 1) := by decide +kernel
theorem d_Name_smallLetter_19 : decode b_Name_smallLetter 19 = .ok (.i2c, 1) := by decide +kernel
theorem d_Name_smallLetter_20 : decode b_Name_smallLetter 20 = .ok (.goto 4, 3) := by decide +kernel
theorem d_Name_smallLetter_23 : decode b_Name_smallLetter 23 = .ok (.iload_n 0, 1) := by decide +kernel
theorem d_Name_smallLetter_24 : decode b_Name_smallLetter 24 = .ok (.ireturn, 1) := by decide +kernel
theorem d_Name_init_0 : decode b_Name_init 0 = .ok (.aload_n 0, 1) := by decide +kernel
theorem d_Name_init_1 : decode b_Name_init 1 = .ok (.invokespecial 3, 3) := by decide +kernel
theorem d_Name_init_4 : decode b_Name_init 4 = .ok (.iload_n 2, 1) := by decide +kernel
theorem d_Name_init_5 : decode b_Name_init 5 = .ok (.ifCond .lt 20, 3) := by decide +kernel
theorem d_Name_init_8 : decode b_Name_init 8 = .ok (.iload_n 2, 1) := by decide +kernel
theorem d_Name_init_9 : decode b_Name_init 9 = .ok (.iload_n 3, 1) := by decide +kernel
theorem d_Name_init_10 : decode b_Name_init 10 = .ok (.if_icmp .gt 15, 3) := by decide +kernel
theorem d_Name_init_13 : decode b_Name_init 13 = .ok (.iload_n 3, 1) := by decide +kernel
theorem d_Name_init_14 : decode b_Name_init 14 = .ok (.aload_n 1, 1) := by decide +kernel
theorem d_Name_init_15 : decode b_Name_init 15 = .ok (.arraylength, 1) := by decide +kernel
theorem d_Name_init_16 : decode b_Name_init 16 = .ok (.if_icmp .gt 9, 3) := by decide +kernel
theorem d_Name_init_19 : decode b_Name_init 19 = .ok (.iload_n 3, 1) := by decide +kernel
theorem d_Name_init_20 : decode b_Name_init 20 = .ok (.iload_n 2, 1) := by decide +kernel
theorem d_Name_init_21 : decode b_Name_init 21 = .ok (.isub, 1) := by decide +kernel
theorem d_Name_init_22 : decode b_Name_init 22 = .ok (.goto 4, 3) := by decide +kernel
theorem d_Name_init_25 : decode b_Name_init 25 = .ok (.iconst 0, 1) := by decide +kernel
theorem d_Name_init_26 : decode b_Name_init 26 = .ok (.istore 4, 2) := by decide +kernel
theorem d_Name_init_28 : decode b_Name_init 28 = .ok (.aload_n 0, 1) := by decide +kernel
theorem d_Name_init_29 : decode b_Name_init 29 = .ok (.iload 4, 2) := by decide +kernel
theorem d_Name_init_31 : decode b_Name_init 31 = .ok (.newarray .char, 2) := by decide +kernel
theorem d_Name_init_33 : decode b_Name_init 33 = .ok (.putfield 9, 3) := by decide +kernel
theorem d_Name_init_36 : decode b_Name_init 36 = .ok (.aload_n 0, 1) := by decide +kernel
theorem d_Name_init_37 : decode b_Name_init 37 = .ok (.iload 4, 2) := by decide +kernel
theorem d_Name_init_39 : decode b_Name_init 39 = .ok (.newarray .char, 2) := by decide +kernel
theorem d_Name_init_41 : decode b_Name_init 41 = .ok (.putfield 15, 3) := by decide +kernel
theorem d_Name_init_44 : decode b_Name_init 44 = .ok (.iconst 0, 1) := by decide +kernel
theorem d_Name_init_45 : decode b_Name_init 45 = .ok (.istore 5, 2) := by decide +kernel
theorem d_Name_init_47 : decode b_Name_init 47 = .ok (.iconst 0, 1) := by decide +kernel
theorem d_Name_init_48 : decode b_Name_init 48 = .ok (.istore 6, 2) := by decide +kernel
theorem d_Name_init_50 : decode b_Name_init 50 = .ok (.iload 6, 2) := by decide +kernel
theorem d_Name_init_52 : decode b_Name_init 52 = .ok (.iload 4, 2) := by decide +kernel
theorem d_Name_init_54 : decode b_Name_init 54 = .ok (.if_icmp .ge 84, 3) := by decide +kernel
theorem d_Name_init_57 : decode b_Name_init 57 = .ok (.aload_n 1, 1) := by decide +kernel
theorem d_Name_init_58 : decode b_Name_init 58 = .ok (.iload_n 2, 1) := by decide +kernel
theorem d_Name_init_59 : decode b_Name_init 59 = .ok (.iload 6, 2) := by decide +kernel
theorem d_Name_init_61 : decode b_Name_init 61 = .ok (.iadd, 1) := by decide +kernel
theorem d_Name_init_62 : decode b_Name_init 62 = .ok (.caload, 1) := by decide +kernel
theorem d_Name_init_63 : decode b_Name_init 63 = .ok (.istore 7, 2) := by decide +kernel
theorem d_Name_init_65 : decode b_Name_init 65 = .ok (.aload_n 0, 1) := by decide +kernel
theorem d_Name_init_66 : decode b_Name_init 66 = .ok (.getfield 9, 3) := by decide +kernel
theorem d_Name_init_69 : decode b_Name_init 69 = .ok (.iload 6, 2) := by decide +kernel
theorem d_Name_init_71 : decode b_Name_init 71 = .ok (.iload 7, 2) := by decide +kernel
theorem d_Name_init_73 : decode b_Name_init 73 = .ok (.castore, 1) := by decide +kernel
theorem d_Name_init_74 : decode b_Name_init 74 = .ok (.iload 7, 2) := by decide +kernel
theorem d_Name_init_76 : decode b_Name_init 76 = .ok (.invokestatic 18, 3) := by decide +kernel
theorem d_Name_init_79 : decode b_Name_init 79 = .ok (.ifCond .eq 8, 3) := by decide +kernel
theorem d_Name_init_82 : decode b_Name_init 82 = .ok (.bipush 45, 2) := by decide +kernel
theorem d_Name_init_84 : decode b_Name_init 84 = .ok (.goto 8, 3) := by decide +kernel
theorem d_Name_init_87 : decode b_Name_init 87 = .ok (.iload 7, 2) := by decide +kernel
theorem d_Name_init_89 : decode b_Name_init 89 = .ok (.invokestatic 22, 3) := by decide +kernel
theorem d_Name_init_92 : decode b_Name_init 92 = .ok (.istore 8, 2) := by decide +kernel
theorem d_Name_init_94 : decode b_Name_init 94 = .ok (.iload 8, 2) := by decide +kernel
theorem d_Name_init_96 : decode b_Name_init 96 = .ok (.bipush 45, 2) := by decide +kernel
theorem d_Name_init_98 : decode b_Name_init 98 = .ok (.if_icmp .ne 22, 3) := by decide +kernel
theorem d_Name_init_101 : decode b_Name_init 101 = .ok (.iload 5, 2) := by decide +kernel
theorem d_Name_init_103 : decode b_Name_init 103 = .ok (.ifCond .eq 17, 3) := by decide +kernel
theorem d_Name_init_106 : decode b_Name_init 106 = .ok (.aload_n 0, 1) := by decide +kernel
theorem d_Name_init_107 : decode b_Name_init 107 = .ok (.getfield 15, 3) := by decide +kernel
theorem d_Name_init_110 : decode b_Name_init 110 = .ok (.iload 5, 2) := by decide +kernel
theorem d_Name_init_112 : decode b_Name_init 112 = .ok (.iconst 1, 1) := by decide +kernel
theorem d_Name_init_113 : decode b_Name_init 113 = .ok (.isub, 1) := by decide +kernel
theorem d_Name_init_114 : decode b_Name_init 114 = .ok (.caload, 1) := by decide +kernel
theorem d_Name_init_115 : decode b_Name_init 115 = .ok (.bipush 45, 2) := by decide +kernel
theorem d_Name_init_117 : decode b_Name_init 117 = .ok (.if_icmp .eq 15, 3) := by decide +kernel
theorem d_Name_init_120 : decode b_Name_init 120 = .ok (.aload_n 0, 1) := by decide +kernel
theorem d_Name_init_121 : decode b_Name_init 121 = .ok (.getfield 15, 3) := by decide +kernel
theorem d_Name_init_124 : decode b_Name_init 124 = .ok (.iload 5, 2) := by decide +kernel
theorem d_Name_init_126 : decode b_Name_init 126 = .ok (.iload 8, 2) := by decide +kernel
theorem d_Name_init_128 : decode b_Name_init 128 = .ok (.castore, 1) := by decide +kernel
theorem d_Name_init_129 : decode b_Name_init 129 = .ok (.iinc 5 1, 3) := by decide +kernel
theorem d_Name_init_132 : decode b_Name_init 132 = .ok (.iinc 6 1, 3) := by decide +kernel
theorem d_Name_init_135 : decode b_Name_init 135 = .ok (.goto (-85), 3) := by decide +kernel
theorem d_Name_init_138 : decode b_Name_init 138 = .ok (.aload_n 0, 1) := by decide +kernel
theorem d_Name_init_139 : decode b_Name_init 139 = .ok (.iload 5, 2) := by decide +kernel
theorem d_Name_init_141 : decode b_Name_init 141 = .ok (.putfield 26, 3) := by decide +kernel
theorem d_Name_init_144 : decode b_Name_init 144 = .ok (.return_, 1) := by decide +kernel
theorem d_Scan_takenName_0 : decode b_Scan_takenName 0 = .ok (.new 57, 3) := by decide +kernel
theorem d_Scan_takenName_3 : decode b_Scan_takenName 3 = .ok (.dup, 1) := by decide +kernel
theorem d_Scan_takenName_4 : decode b_Scan_takenName 4 = .ok (.aload_n 0, 1) := by decide +kernel
theorem d_Scan_takenName_5 : decode b_Scan_takenName 5 = .ok (.getfield 9, 3) := by decide +kernel
theorem d_Scan_takenName_8 : decode b_Scan_takenName 8 = .ok (.aload_n 0, 1) := by decide +kernel
theorem d_Scan_takenName_9 : decode b_Scan_takenName 9 = .ok (.getfield 25, 3) := by decide +kernel
theorem d_Scan_takenName_12 : decode b_Scan_takenName 12 = .ok (.aload_n 0, 1) := by decide +kernel
theorem d_Scan_takenName_13 : decode b_Scan_takenName 13 = .ok (.getfield 28, 3) := by decide +kernel
theorem d_Scan_takenName_16 : decode b_Scan_takenName 16 = .ok (.invokespecial 74, 3) := by decide +kernel
theorem d_Scan_takenName_19 : decode b_Scan_takenName 19 = .ok (.areturn, 1) := by decide +kernel
theorem d_Scan_takeNumber_0 : decode b_Scan_takeNumber 0 = .ok (.aload_n 0, 1) := by decide +kernel
theorem d_Scan_takeNumber_1 : decode b_Scan_takeNumber 1 = .ok (.getfield 19, 3) := by decide +kernel
theorem d_Scan_takeNumber_4 : decode b_Scan_takeNumber 4 = .ok (.istore_n 1, 1) := by decide +kernel
theorem d_Scan_takeNumber_5 : decode b_Scan_takeNumber 5 = .ok (.aload_n 0, 1) := by decide +kernel
theorem d_Scan_takeNumber_6 : decode b_Scan_takeNumber 6 = .ok (.lconst 0, 1) := by decide +kernel
theorem d_Scan_takeNumber_7 : decode b_Scan_takeNumber 7 = .ok (.putfield 77, 3) := by decide +kernel
theorem d_Scan_takeNumber_10 : decode b_Scan_takeNumber 10 = .ok (.aload_n 0, 1) := by decide +kernel
theorem d_Scan_takeNumber_11 : decode b_Scan_takeNumber 11 = .ok (.getfield 19, 3) := by decide +kernel
theorem d_Scan_takeNumber_14 : decode b_Scan_takeNumber 14 = .ok (.aload_n 0, 1) := by decide +kernel
theorem d_Scan_takeNumber_15 : decode b_Scan_takeNumber 15 = .ok (.getfield 15, 3) := by decide +kernel
theorem d_Scan_takeNumber_18 : decode b_Scan_takeNumber 18 = .ok (.if_icmp .ge 82, 3) := by decide +kernel
theorem d_Scan_takeNumber_21 : decode b_Scan_takeNumber 21 = .ok (.aload_n 0, 1) := by decide +kernel
theorem d_Scan_takeNumber_22 : decode b_Scan_takeNumber 22 = .ok (.getfield 9, 3) := by decide +kernel
theorem d_Scan_takeNumber_25 : decode b_Scan_takeNumber 25 = .ok (.aload_n 0, 1) := by decide +kernel
theorem d_Scan_takeNumber_26 : decode b_Scan_takeNumber 26 = .ok (.getfield 19, 3) := by decide +kernel
theorem d_Scan_takeNumber_29 : decode b_Scan_takeNumber 29 = .ok (.caload, 1) := by decide +kernel
theorem d_Scan_takeNumber_30 : decode b_Scan_takeNumber 30 = .ok (.bipush 48, 2) := by decide +kernel
theorem d_Scan_takeNumber_32 : decode b_Scan_takeNumber 32 = .ok (.if_icmp .lt 68, 3) := by decide +kernel
theorem d_Scan_takeNumber_35 : decode b_Scan_takeNumber 35 = .ok (.aload_n 0, 1) := by decide +kernel
theorem d_Scan_takeNumber_36 : decode b_Scan_takeNumber 36 = .ok (.getfield 9, 3) := by decide +kernel
theorem d_Scan_takeNumber_39 : decode b_Scan_takeNumber 39 = .ok (.aload_n 0, 1) := by decide +kernel
theorem d_Scan_takeNumber_40 : decode b_Scan_takeNumber 40 = .ok (.getfield 19, 3) := by decide +kernel
theorem d_Scan_takeNumber_43 : decode b_Scan_takeNumber 43 = .ok (.caload, 1) := by decide +kernel
theorem d_Scan_takeNumber_44 : decode b_Scan_takeNumber 44 = .ok (.bipush 57, 2) := by decide +kernel
theorem d_Scan_takeNumber_46 : decode b_Scan_takeNumber 46 = .ok (.if_icmp .gt 54, 3) := by decide +kernel
theorem d_Scan_takeNumber_49 : decode b_Scan_takeNumber 49 = .ok (.aload_n 0, 1) := by decide +kernel
theorem d_Scan_takeNumber_50 : decode b_Scan_takeNumber 50 = .ok (.getfield 19, 3) := by decide +kernel
theorem d_Scan_takeNumber_53 : decode b_Scan_takeNumber 53 = .ok (.iload_n 1, 1) := by decide +kernel
theorem d_Scan_takeNumber_54 : decode b_Scan_takeNumber 54 = .ok (.isub, 1) := by decide +kernel
theorem d_Scan_takeNumber_55 : decode b_Scan_takeNumber 55 = .ok (.bipush 6, 2) := by decide +kernel
theorem d_Scan_takeNumber_57 : decode b_Scan_takeNumber 57 = .ok (.if_icmp .ge 30, 3) := by decide +kernel
theorem d_Scan_takeNumber_60 : decode b_Scan_takeNumber 60 = .ok (.aload_n 0, 1) := by decide +kernel
theorem d_Scan_takeNumber_61 : decode b_Scan_takeNumber 61 = .ok (.aload_n 0, 1) := by decide +kernel
theorem d_Scan_takeNumber_62 : decode b_Scan_takeNumber 62 = .ok (.getfield 77, 3) := by decide +kernel
theorem d_Scan_takeNumber_65 : decode b_Scan_takeNumber 65 = .ok (.ldc2_w 81, 3) := by decide +kernel
theorem d_Scan_takeNumber_68 : decode b_Scan_takeNumber 68 = .ok (.lmul, 1) := by decide +kernel
theorem d_Scan_takeNumber_69 : decode b_Scan_takeNumber 69 = .ok (.aload_n 0, 1) := by decide +kernel
theorem d_Scan_takeNumber_70 : decode b_Scan_takeNumber 70 = .ok (.getfield 9, 3) := by decide +kernel
theorem d_Scan_takeNumber_73 : decode b_Scan_takeNumber 73 = .ok (.aload_n 0, 1) := by decide +kernel
theorem d_Scan_takeNumber_74 : decode b_Scan_takeNumber 74 = .ok (.getfield 19, 3) := by decide +kernel
theorem d_Scan_takeNumber_77 : decode b_Scan_takeNumber 77 = .ok (.caload, 1) := by decide +kernel
theorem d_Scan_takeNumber_78 : decode b_Scan_takeNumber 78 = .ok (.i2l, 1) := by decide +kernel
theorem d_Scan_takeNumber_79 : decode b_Scan_takeNumber 79 = .ok (.ladd, 1) := by decide +kernel
theorem d_Scan_takeNumber_80 : decode b_Scan_takeNumber 80 = .ok (.ldc2_w 83, 3) := by decide +kernel
theorem d_Scan_takeNumber_83 : decode b_Scan_takeNumber 83 = .ok (.lsub, 1) := by decide +kernel
theorem d_Scan_takeNumber_84 : decode b_Scan_takeNumber 84 = .ok (.putfield 77, 3) := by decide +kernel
theorem d_Scan_takeNumber_87 : decode b_Scan_takeNumber 87 = .ok (.aload_n 0, 1) := by decide +kernel
theorem d_Scan_takeNumber_88 : decode b_Scan_takeNumber 88 = .ok (.dup, 1) := by decide +kernel
theorem d_Scan_takeNumber_89 : decode b_Scan_takeNumber 89 = .ok (.getfield 19, 3) := by decide +kernel
theorem d_Scan_takeNumber_92 : decode b_Scan_takeNumber 92 = .ok (.iconst 1, 1) := by decide +kernel
theorem d_Scan_takeNumber_93 : decode b_Scan_takeNumber 93 = .ok (.iadd, 1) := by decide +kernel
theorem d_Scan_takeNumber_94 : decode b_Scan_takeNumber 94 = .ok (.putfield 19, 3) := by decide +kernel
theorem d_Scan_takeNumber_97 : decode b_Scan_takeNumber 97 = .ok (.goto (-87), 3) := by decide +kernel
theorem d_Scan_takeNumber_100 : decode b_Scan_takeNumber 100 = .ok (.aload_n 0, 1) := by decide +kernel
theorem d_Scan_takeNumber_101 : decode b_Scan_takeNumber 101 = .ok (.getfield 19, 3) := by decide +kernel
theorem d_Scan_takeNumber_104 : decode b_Scan_takeNumber 104 = .ok (.iload_n 1, 1) := by decide +kernel
theorem d_Scan_takeNumber_105 : decode b_Scan_takeNumber 105 = .ok (.isub, 1) := by decide +kernel
theorem d_Scan_takeNumber_106 : decode b_Scan_takeNumber 106 = .ok (.istore_n 2, 1) := by decide +kernel
theorem d_Scan_takeNumber_107 : decode b_Scan_takeNumber 107 = .ok (.iload_n 2, 1) := by decide +kernel
theorem d_Scan_takeNumber_108 : decode b_Scan_takeNumber 108 = .ok (.iconst 1, 1) := by decide +kernel
theorem d_Scan_takeNumber_109 : decode b_Scan_takeNumber 109 = .ok (.if_icmp .le 18, 3) := by decide +kernel
theorem d_Scan_takeNumber_112 : decode b_Scan_takeNumber 112 = .ok (.aload_n 0, 1) := by decide +kernel
theorem d_Scan_takeNumber_113 : decode b_Scan_takeNumber 113 = .ok (.getfield 9, 3) := by decide +kernel
theorem d_Scan_takeNumber_116 : decode b_Scan_takeNumber 116 = .ok (.iload_n 1, 1) := by decide +kernel
theorem d_Scan_takeNumber_117 : decode b_Scan_takeNumber 117 = .ok (.caload, 1) := by decide +kernel
theorem d_Scan_takeNumber_118 : decode b_Scan_takeNumber 118 = .ok (.bipush 48, 2) := by decide +kernel
theorem d_Scan_takeNumber_120 : decode b_Scan_takeNumber 120 = .ok (.if_icmp .ne 7, 3) := by decide +kernel
theorem d_Scan_takeNumber_123 : decode b_Scan_takeNumber 123 = .ok (.iconst 1, 1) := by decide +kernel
theorem d_Scan_takeNumber_124 : decode b_Scan_takeNumber 124 = .ok (.goto 4, 3) := by decide +kernel
theorem d_Scan_takeNumber_127 : decode b_Scan_takeNumber 127 = .ok (.iconst 0, 1) := by decide +kernel
theorem d_Scan_takeNumber_128 : decode b_Scan_takeNumber 128 = .ok (.istore_n 3, 1) := by decide +kernel
theorem d_Scan_takeNumber_129 : decode b_Scan_takeNumber 129 = .ok (.iload_n 2, 1) := by decide +kernel
theorem d_Scan_takeNumber_130 : decode b_Scan_takeNumber 130 = .ok (.iconst 1, 1) := by decide +kernel
theorem d_Scan_takeNumber_131 : decode b_Scan_takeNumber 131 = .ok (.if_icmp .lt 13, 3) := by decide +kernel
theorem d_Scan_takeNumber_134 : decode b_Scan_takeNumber 134 = .ok (.iload_n 2, 1) := by decide +kernel
theorem d_Scan_takeNumber_135 : decode b_Scan_takeNumber 135 = .ok (.bipush 6, 2) := by decide +kernel
theorem d_Scan_takeNumber_137 : decode b_Scan_takeNumber 137 = .ok (.if_icmp .gt 7, 3) := by decide +kernel
theorem d_Scan_takeNumber_140 : decode b_Scan_takeNumber 140 = .ok (.iload_n 3, 1) := by decide +kernel
theorem d_Scan_takeNumber_141 : decode b_Scan_takeNumber 141 = .ok (.ifCond .eq 10, 3) := by decide +kernel
theorem d_Scan_takeNumber_144 : decode b_Scan_takeNumber 144 = .ok (.aload_n 0, 1) := by decide +kernel
theorem d_Scan_takeNumber_145 : decode b_Scan_takeNumber 145 = .ok (.iload_n 1, 1) := by decide +kernel
theorem d_Scan_takeNumber_146 : decode b_Scan_takeNumber 146 = .ok (.putfield 22, 3) := by decide +kernel
theorem d_Scan_takeNumber_149 : decode b_Scan_takeNumber 149 = .ok (.iconst 0, 1) := by decide +kernel
theorem d_Scan_takeNumber_150 : decode b_Scan_takeNumber 150 = .ok (.ireturn, 1) := by decide +kernel
theorem d_Scan_takeNumber_151 : decode b_Scan_takeNumber 151 = .ok (.iconst 1, 1) := by decide +kernel
theorem d_Scan_takeNumber_152 : decode b_Scan_takeNumber 152 = .ok (.ireturn, 1) := by decide +kernel
theorem d_Scan_takeVersion_0 : decode b_Scan_takeVersion 0 = .ok (.aload_n 0, 1) := by decide +kernel
theorem d_Scan_takeVersion_1 : decode b_Scan_takeVersion 1 = .ok (.invokevirtual 31, 3) := by decide +kernel
theorem d_Scan_takeVersion_4 : decode b_Scan_takeVersion 4 = .ok (.aload_n 0, 1) := by decide +kernel
theorem d_Scan_takeVersion_5 : decode b_Scan_takeVersion 5 = .ok (.invokevirtual 85, 3) := by decide +kernel
theorem d_Scan_takeVersion_8 : decode b_Scan_takeVersion 8 = .ok (.ifCond .ne 5, 3) := by decide +kernel
theorem d_Scan_takeVersion_11 : decode b_Scan_takeVersion 11 = .ok (.iconst 0, 1) := by decide +kernel
theorem d_Scan_takeVersion_12 : decode b_Scan_takeVersion 12 = .ok (.ireturn, 1) := by decide +kernel
theorem d_Scan_takeVersion_13 : decode b_Scan_takeVersion 13 = .ok (.aload_n 0, 1) := by decide +kernel
theorem d_Scan_takeVersion_14 : decode b_Scan_takeVersion 14 = .ok (.getfield 77, 3) := by decide +kernel
theorem d_Scan_takeVersion_17 : decode b_Scan_takeVersion 17 = .ok (.lstore_n 1, 1) := by decide +kernel
theorem d_Scan_takeVersion_18 : decode b_Scan_takeVersion 18 = .ok (.iconst 1, 1) := by decide +kernel
theorem d_Scan_takeVersion_19 : decode b_Scan_takeVersion 19 = .ok (.istore_n 3, 1) := by decide +kernel
theorem d_Scan_takeVersion_20 : decode b_Scan_takeVersion 20 = .ok (.iload_n 3, 1) := by decide +kernel
theorem d_Scan_takeVersion_21 : decode b_Scan_takeVersion 21 = .ok (.iconst 3, 1) := by decide +kernel
theorem d_Scan_takeVersion_22 : decode b_Scan_takeVersion 22 = .ok (.if_icmp .ge 88, 3) := by decide +kernel
theorem d_Scan_takeVersion_25 : decode b_Scan_takeVersion 25 = .ok (.aload_n 0, 1) := by decide +kernel
theorem d_Scan_takeVersion_26 : decode b_Scan_takeVersion 26 = .ok (.invokevirtual 42, 3) := by decide +kernel
theorem d_Scan_takeVersion_29 : decode b_Scan_takeVersion 29 = .ok (.bipush 46, 2) := by decide +kernel
theorem d_Scan_takeVersion_31 : decode b_Scan_takeVersion 31 = .ok (.if_icmp .ne 7, 3) := by decide +kernel
theorem d_Scan_takeVersion_34 : decode b_Scan_takeVersion 34 = .ok (.iconst 1, 1) := by decide +kernel
theorem d_Scan_takeVersion_35 : decode b_Scan_takeVersion 35 = .ok (.goto 4, 3) := by decide +kernel
theorem d_Scan_takeVersion_38 : decode b_Scan_takeVersion 38 = .ok (.iconst 0, 1) := by decide +kernel
theorem d_Scan_takeVersion_39 : decode b_Scan_takeVersion 39 = .ok (.istore 4, 2) := by decide +kernel
theorem d_Scan_takeVersion_41 : decode b_Scan_takeVersion 41 = .ok (.iload 4, 2) := by decide +kernel
theorem d_Scan_takeVersion_43 : decode b_Scan_takeVersion 43 = .ok (.ifCond .eq 13, 3) := by decide +kernel
theorem d_Scan_takeVersion_46 : decode b_Scan_takeVersion 46 = .ok (.aload_n 0, 1) := by decide +kernel
theorem d_Scan_takeVersion_47 : decode b_Scan_takeVersion 47 = .ok (.dup, 1) := by decide +kernel
theorem d_Scan_takeVersion_48 : decode b_Scan_takeVersion 48 = .ok (.getfield 19, 3) := by decide +kernel
theorem d_Scan_takeVersion_51 : decode b_Scan_takeVersion 51 = .ok (.iconst 1, 1) := by decide +kernel
theorem d_Scan_takeVersion_52 : decode b_Scan_takeVersion 52 = .ok (.iadd, 1) := by decide +kernel
theorem d_Scan_takeVersion_53 : decode b_Scan_takeVersion 53 = .ok (.putfield 19, 3) := by decide +kernel
theorem d_Scan_takeVersion_56 : decode b_Scan_takeVersion 56 = .ok (.iload 4, 2) := by decide +kernel
theorem d_Scan_takeVersion_58 : decode b_Scan_takeVersion 58 = .ok (.ifCond .eq 13, 3) := by decide +kernel
theorem d_Scan_takeVersion_61 : decode b_Scan_takeVersion 61 = .ok (.aload_n 0, 1) := by decide +kernel
theorem d_Scan_takeVersion_62 : decode b_Scan_takeVersion 62 = .ok (.invokevirtual 42, 3) := by decide +kernel
theorem d_Scan_takeVersion_65 : decode b_Scan_takeVersion 65 = .ok (.invokestatic 53, 3) := by decide +kernel
theorem d_Scan_takeVersion_68 : decode b_Scan_takeVersion 68 = .ok (.ifCond .ne 16, 3) := by decide +kernel
theorem d_Scan_takeVersion_71 : decode b_Scan_takeVersion 71 = .ok (.aload_n 0, 1) := by decide +kernel
theorem d_Scan_takeVersion_72 : decode b_Scan_takeVersion 72 = .ok (.invokevirtual 31, 3) := by decide +kernel
theorem d_Scan_takeVersion_75 : decode b_Scan_takeVersion 75 = .ok (.aload_n 0, 1) := by decide +kernel
theorem d_Scan_takeVersion_76 : decode b_Scan_takeVersion 76 = .ok (.aload_n 0, 1) := by decide +kernel
theorem d_Scan_takeVersion_77 : decode b_Scan_takeVersion 77 = .ok (.getfield 19, 3) := by decide +kernel
theorem d_Scan_takeVersion_80 : decode b_Scan_takeVersion 80 = .ok (.invokevirtual 38, 3) := by decide +kernel
theorem d_Scan_takeVersion_83 : decode b_Scan_takeVersion 83 = .ok (.ireturn, 1) := by decide +kernel
theorem d_Scan_takeVersion_84 : decode b_Scan_takeVersion 84 = .ok (.aload_n 0, 1) := by decide +kernel
theorem d_Scan_takeVersion_85 : decode b_Scan_takeVersion 85 = .ok (.invokevirtual 85, 3) := by decide +kernel
theorem d_Scan_takeVersion_88 : decode b_Scan_takeVersion 88 = .ok (.ifCond .ne 5, 3) := by decide +kernel
theorem d_Scan_takeVersion_91 : decode b_Scan_takeVersion 91 = .ok (.iconst 0, 1) := by decide +kernel
theorem d_Scan_takeVersion_92 : decode b_Scan_takeVersion 92 = .ok (.ireturn, 1) := by decide +kernel
theorem d_Scan_takeVersion_93 : decode b_Scan_takeVersion 93 = .ok (.lload_n 1, 1) := by decide +kernel
theorem d_Scan_takeVersion_94 : decode b_Scan_takeVersion 94 = .ok (.ldc2_w 88, 3) := by decide +kernel
theorem d_Scan_takeVersion_97 : decode b_Scan_takeVersion 97 = .ok (.lmul, 1) := by decide +kernel
theorem d_Scan_takeVersion_98 : decode b_Scan_takeVersion 98 = .ok (.aload_n 0, 1) := by decide +kernel
theorem d_Scan_takeVersion_99 : decode b_Scan_takeVersion 99 = .ok (.getfield 77, 3) := by decide +kernel
theorem d_Scan_takeVersion_102 : decode b_Scan_takeVersion 102 = .ok (.ladd, 1) := by decide +kernel
theorem d_Scan_takeVersion_103 : decode b_Scan_takeVersion 103 = .ok (.lstore_n 1, 1) := by decide +kernel
theorem d_Scan_takeVersion_104 : decode b_Scan_takeVersion 104 = .ok (.iinc 3 1, 3) := by decide +kernel
theorem d_Scan_takeVersion_107 : decode b_Scan_takeVersion 107 = .ok (.goto (-87), 3) := by decide +kernel
theorem d_Scan_takeVersion_110 : decode b_Scan_takeVersion 110 = .ok (.aload_n 0, 1) := by decide +kernel
theorem d_Scan_takeVersion_111 : decode b_Scan_takeVersion 111 = .ok (.lload_n 1, 1) := by decide +kernel
theorem d_Scan_takeVersion_112 : decode b_Scan_takeVersion 112 = .ok (.putfield 77, 3) := by decide +kernel
theorem d_Scan_takeVersion_115 : decode b_Scan_takeVersion 115 = .ok (.iconst 1, 1) := by decide +kernel
theorem d_Scan_takeVersion_116 : decode b_Scan_takeVersion 116 = .ok (.ireturn, 1) := by decide +kernel
theorem d_Row_init_0 : decode b_Row_init 0 = .ok (.aload_n 0, 1) := by decide +kernel
theorem d_Row_init_1 : decode b_Row_init 1 = .ok (.invokespecial 1, 3) := by decide +kernel
theorem d_Row_init_4 : decode b_Row_init 4 = .ok (.aload_n 0, 1) := by decide +kernel
theorem d_Row_init_5 : decode b_Row_init 5 = .ok (.iload_n 1, 1) := by decide +kernel
theorem d_Row_init_6 : decode b_Row_init 6 = .ok (.putfield 7, 3) := by decide +kernel
theorem d_Row_init_9 : decode b_Row_init 9 = .ok (.aload_n 0, 1) := by decide +kernel
theorem d_Row_init_10 : decode b_Row_init 10 = .ok (.iload_n 2, 1) := by decide +kernel
theorem d_Row_init_11 : decode b_Row_init 11 = .ok (.putfield 13, 3) := by decide +kernel
theorem d_Row_init_14 : decode b_Row_init 14 = .ok (.aload_n 0, 1) := by decide +kernel
theorem d_Row_init_15 : decode b_Row_init 15 = .ok (.aload_n 3, 1) := by decide +kernel
theorem d_Row_init_16 : decode b_Row_init 16 = .ok (.putfield 16, 3) := by decide +kernel
theorem d_Row_init_19 : decode b_Row_init 19 = .ok (.aload_n 0, 1) := by decide +kernel
theorem d_Row_init_20 : decode b_Row_init 20 = .ok (.aload 4, 2) := by decide +kernel
theorem d_Row_init_22 : decode b_Row_init 22 = .ok (.putfield 20, 3) := by decide +kernel
theorem d_Row_init_25 : decode b_Row_init 25 = .ok (.aload_n 0, 1) := by decide +kernel
theorem d_Row_init_26 : decode b_Row_init 26 = .ok (.lload 5, 2) := by decide +kernel
theorem d_Row_init_28 : decode b_Row_init 28 = .ok (.putfield 23, 3) := by decide +kernel
theorem d_Row_init_31 : decode b_Row_init 31 = .ok (.aload_n 0, 1) := by decide +kernel
theorem d_Row_init_32 : decode b_Row_init 32 = .ok (.lload 7, 2) := by decide +kernel
theorem d_Row_init_34 : decode b_Row_init 34 = .ok (.putfield 27, 3) := by decide +kernel
theorem d_Row_init_37 : decode b_Row_init 37 = .ok (.return_, 1) := by decide +kernel
theorem d_Reader_addRow_0 : decode b_Reader_addRow 0 = .ok (.aload_n 0, 1) := by decide +kernel
theorem d_Reader_addRow_1 : decode b_Reader_addRow 1 = .ok (.getfield 34, 3) := by decide +kernel
theorem d_Reader_addRow_4 : decode b_Reader_addRow 4 = .ok (.aload_n 0, 1) := by decide +kernel
theorem d_Reader_addRow_5 : decode b_Reader_addRow 5 = .ok (.getfield 20, 3) := by decide +kernel
theorem d_Reader_addRow_8 : decode b_Reader_addRow 8 = .ok (.arraylength, 1) := by decide +kernel
theorem d_Reader_addRow_9 : decode b_Reader_addRow 9 = .ok (.if_icmp .ge 15, 3) := by decide +kernel
theorem d_Reader_addRow_12 : decode b_Reader_addRow 12 = .ok (.aload_n 0, 1) := by decide +kernel
theorem d_Reader_addRow_13 : decode b_Reader_addRow 13 = .ok (.getfield 34, 3) := by decide +kernel
theorem d_Reader_addRow_16 : decode b_Reader_addRow 16 = .ok (.aload_n 0, 1) := by decide +kernel
theorem d_Reader_addRow_17 : decode b_Reader_addRow 17 = .ok (.getfield 24, 3) := by decide +kernel
theorem d_Reader_addRow_20 : decode b_Reader_addRow 20 = .ok (.arraylength, 1) := by decide +kernel
theorem d_Reader_addRow_21 : decode b_Reader_addRow 21 = .ok (.if_icmp .lt 15, 3) := by decide +kernel
theorem d_Reader_addRow_24 : decode b_Reader_addRow 24 = .ok (.aload_n 0, 1) := by decide +kernel
theorem d_Reader_addRow_25 : decode b_Reader_addRow 25 = .ok (.getfield 12, 3) := by decide +kernel
theorem d_Reader_addRow_28 : decode b_Reader_addRow 28 = .ok (.aload_n 0, 1) := by decide +kernel
theorem d_Reader_addRow_29 : decode b_Reader_addRow 29 = .ok (.getfield 98, 3) := by decide +kernel
theorem d_Reader_addRow_32 : decode b_Reader_addRow 32 = .ok (.invokevirtual 73, 3) := by decide +kernel
theorem d_Reader_addRow_35 : decode b_Reader_addRow 35 = .ok (.ireturn, 1) := by decide +kernel
theorem d_Reader_addRow_36 : decode b_Reader_addRow 36 = .ok (.aload_n 0, 1) := by decide +kernel
theorem d_Reader_addRow_37 : decode b_Reader_addRow 37 = .ok (.getfield 20, 3) := by decide +kernel
theorem d_Reader_addRow_40 : decode b_Reader_addRow 40 = .ok (.aload_n 0, 1) := by decide +kernel
theorem d_Reader_addRow_41 : decode b_Reader_addRow 41 = .ok (.getfield 34, 3) := by decide +kernel
theorem d_Reader_addRow_44 : decode b_Reader_addRow 44 = .ok (.new 18, 3) := by decide +kernel
theorem d_Reader_addRow_47 : decode b_Reader_addRow 47 = .ok (.dup, 1) := by decide +kernel
theorem d_Reader_addRow_48 : decode b_Reader_addRow 48 = .ok (.iload_n 1, 1) := by decide +kernel
theorem d_Reader_addRow_49 : decode b_Reader_addRow 49 = .ok (.iload_n 1, 1) := by decide +kernel
theorem d_Reader_addRow_50 : decode b_Reader_addRow 50 = .ok (.bipush 8, 2) := by decide +kernel
theorem d_Reader_addRow_52 : decode b_Reader_addRow 52 = .ok (.if_icmp .ne 10, 3) := by decide +kernel
theorem d_Reader_addRow_55 : decode b_Reader_addRow 55 = .ok (.aload_n 0, 1) := by decide +kernel
theorem d_Reader_addRow_56 : decode b_Reader_addRow 56 = .ok (.getfield 41, 3) := by decide +kernel
theorem d_Reader_addRow_59 : decode b_Reader_addRow 59 = .ok (.goto 4, 3) := by decide +kernel
theorem d_Reader_addRow_62 : decode b_Reader_addRow 62 = .ok (.iconst (-1), 1) := by decide +kernel
theorem d_Reader_addRow_63 : decode b_Reader_addRow 63 = .ok (.aload_n 2, 1) := by decide +kernel
theorem d_Reader_addRow_64 : decode b_Reader_addRow 64 = .ok (.aload_n 3, 1) := by decide +kernel
theorem d_Reader_addRow_65 : decode b_Reader_addRow 65 = .ok (.lload 4, 2) := by decide +kernel
theorem d_Reader_addRow_67 : decode b_Reader_addRow 67 = .ok (.lload 6, 2) := by decide +kernel
theorem d_Reader_addRow_69 : decode b_Reader_addRow 69 = .ok (.invokespecial 173, 3) := by decide +kernel
theorem d_Reader_addRow_72 : decode b_Reader_addRow 72 = .ok (.aastore, 1) := by decide +kernel
theorem d_Reader_addRow_73 : decode b_Reader_addRow 73 = .ok (.aload_n 0, 1) := by decide +kernel
theorem d_Reader_addRow_74 : decode b_Reader_addRow 74 = .ok (.getfield 24, 3) := by decide +kernel
theorem d_Reader_addRow_77 : decode b_Reader_addRow 77 = .ok (.aload_n 0, 1) := by decide +kernel
theorem d_Reader_addRow_78 : decode b_Reader_addRow 78 = .ok (.getfield 34, 3) := by decide +kernel
theorem d_Reader_addRow_81 : decode b_Reader_addRow 81 = .ok (.aload_n 0, 1) := by decide +kernel
theorem d_Reader_addRow_82 : decode b_Reader_addRow 82 = .ok (.getfield 12, 3) := by decide +kernel
theorem d_Reader_addRow_85 : decode b_Reader_addRow 85 = .ok (.getfield 70, 3) := by decide +kernel
theorem d_Reader_addRow_88 : decode b_Reader_addRow 88 = .ok (.iastore, 1) := by decide +kernel
theorem d_Reader_addRow_89 : decode b_Reader_addRow 89 = .ok (.aload_n 0, 1) := by decide +kernel
theorem d_Reader_addRow_90 : decode b_Reader_addRow 90 = .ok (.dup, 1) := by decide +kernel
theorem d_Reader_addRow_91 : decode b_Reader_addRow 91 = .ok (.getfield 34, 3) := by decide +kernel
theorem d_Reader_addRow_94 : decode b_Reader_addRow 94 = .ok (.iconst 1, 1) := by decide +kernel
theorem d_Reader_addRow_95 : decode b_Reader_addRow 95 = .ok (.iadd, 1) := by decide +kernel
theorem d_Reader_addRow_96 : decode b_Reader_addRow 96 = .ok (.putfield 34, 3) := by decide +kernel
theorem d_Reader_addRow_99 : decode b_Reader_addRow 99 = .ok (.iconst 1, 1) := by decide +kernel
theorem d_Reader_addRow_100 : decode b_Reader_addRow 100 = .ok (.ireturn, 1) := by decide +kernel
theorem d_Reader_takeProvided_0 : decode b_Reader_takeProvided 0 = .ok (.aload_n 0, 1) := by decide +kernel
theorem d_Reader_takeProvided_1 : decode b_Reader_takeProvided 1 = .ok (.getfield 12, 3) := by decide +kernel
theorem d_Reader_takeProvided_4 : decode b_Reader_takeProvided 4 = .ok (.invokevirtual 77, 3) := by decide +kernel
theorem d_Reader_takeProvided_7 : decode b_Reader_takeProvided 7 = .ok (.ifCond .ne 5, 3) := by decide +kernel
theorem d_Reader_takeProvided_10 : decode b_Reader_takeProvided 10 = .ok (.iconst 0, 1) := by decide +kernel
theorem d_Reader_takeProvided_11 : decode b_Reader_takeProvided 11 = .ok (.ireturn, 1) := by decide +kernel
theorem d_Reader_takeProvided_12 : decode b_Reader_takeProvided 12 = .ok (.aload_n 0, 1) := by decide +kernel
theorem d_Reader_takeProvided_13 : decode b_Reader_takeProvided 13 = .ok (.getfield 12, 3) := by decide +kernel
theorem d_Reader_takeProvided_16 : decode b_Reader_takeProvided 16 = .ok (.invokevirtual 80, 3) := by decide +kernel
theorem d_Reader_takeProvided_19 : decode b_Reader_takeProvided 19 = .ok (.astore_n 1, 1) := by decide +kernel
theorem d_Reader_takeProvided_20 : decode b_Reader_takeProvided 20 = .ok (.aload_n 0, 1) := by decide +kernel
theorem d_Reader_takeProvided_21 : decode b_Reader_takeProvided 21 = .ok (.getfield 12, 3) := by decide +kernel
theorem d_Reader_takeProvided_24 : decode b_Reader_takeProvided 24 = .ok (.invokevirtual 88, 3) := by decide +kernel
theorem d_Reader_takeProvided_27 : decode b_Reader_takeProvided 27 = .ok (.ifCond .eq 34, 3) := by decide +kernel
theorem d_Reader_takeProvided_30 : decode b_Reader_takeProvided 30 = .ok (.aload_n 0, 1) := by decide +kernel
theorem d_Reader_takeProvided_31 : decode b_Reader_takeProvided 31 = .ok (.bipush 7, 2) := by decide +kernel
theorem d_Reader_takeProvided_33 : decode b_Reader_takeProvided 33 = .ok (.aload_n 1, 1) := by decide +kernel
theorem d_Reader_takeProvided_34 : decode b_Reader_takeProvided 34 = .ok (.aconst_null, 1) := by decide +kernel
theorem d_Reader_takeProvided_35 : decode b_Reader_takeProvided 35 = .ok (.aload_n 0, 1) := by decide +kernel
theorem d_Reader_takeProvided_36 : decode b_Reader_takeProvided 36 = .ok (.getfield 12, 3) := by decide +kernel
theorem d_Reader_takeProvided_39 : decode b_Reader_takeProvided 39 = .ok (.getfield 91, 3) := by decide +kernel
theorem d_Reader_takeProvided_42 : decode b_Reader_takeProvided 42 = .ok (.aload_n 0, 1) := by decide +kernel
theorem d_Reader_takeProvided_43 : decode b_Reader_takeProvided 43 = .ok (.getfield 12, 3) := by decide +kernel
theorem d_Reader_takeProvided_46 : decode b_Reader_takeProvided 46 = .ok (.getfield 91, 3) := by decide +kernel
theorem d_Reader_takeProvided_49 : decode b_Reader_takeProvided 49 = .ok (.lconst 1, 1) := by decide +kernel
theorem d_Reader_takeProvided_50 : decode b_Reader_takeProvided 50 = .ok (.ladd, 1) := by decide +kernel
theorem d_Reader_takeProvided_51 : decode b_Reader_takeProvided 51 = .ok (.invokevirtual 148, 3) := by decide +kernel
theorem d_Reader_takeProvided_54 : decode b_Reader_takeProvided 54 = .ok (.ifCond .eq 7, 3) := by decide +kernel
theorem d_Reader_takeProvided_57 : decode b_Reader_takeProvided 57 = .ok (.iconst 1, 1) := by decide +kernel
theorem d_Reader_takeProvided_58 : decode b_Reader_takeProvided 58 = .ok (.goto 4, 3) := by decide +kernel
theorem d_Reader_takeProvided_61 : decode b_Reader_takeProvided 61 = .ok (.iconst 0, 1) := by decide +kernel
theorem d_Reader_takeProvided_62 : decode b_Reader_takeProvided 62 = .ok (.ireturn, 1) := by decide +kernel
theorem d_Scan_takeIfNext_0 : decode b_Scan_takeIfNext 0 = .ok (.aload_n 0, 1) := by decide +kernel
theorem d_Scan_takeIfNext_1 : decode b_Scan_takeIfNext 1 = .ok (.invokevirtual 31, 3) := by decide +kernel
theorem d_Scan_takeIfNext_4 : decode b_Scan_takeIfNext 4 = .ok (.aload_n 0, 1) := by decide +kernel
theorem d_Scan_takeIfNext_5 : decode b_Scan_takeIfNext 5 = .ok (.invokevirtual 42, 3) := by decide +kernel
theorem d_Scan_takeIfNext_8 : decode b_Scan_takeIfNext 8 = .ok (.iload_n 1, 1) := by decide +kernel
theorem d_Scan_takeIfNext_9 : decode b_Scan_takeIfNext 9 = .ok (.if_icmp .eq 5, 3) := by decide +kernel
theorem d_Scan_takeIfNext_12 : decode b_Scan_takeIfNext 12 = .ok (.iconst 0, 1) := by decide +kernel
theorem d_Scan_takeIfNext_13 : decode b_Scan_takeIfNext 13 = .ok (.ireturn, 1) := by decide +kernel
theorem d_Scan_takeIfNext_14 : decode b_Scan_takeIfNext 14 = .ok (.aload_n 0, 1) := by decide +kernel
theorem d_Scan_takeIfNext_15 : decode b_Scan_takeIfNext 15 = .ok (.dup, 1) := by decide +kernel
theorem d_Scan_takeIfNext_16 : decode b_Scan_takeIfNext 16 = .ok (.getfield 19, 3) := by decide +kernel
theorem d_Scan_takeIfNext_19 : decode b_Scan_takeIfNext 19 = .ok (.iconst 1, 1) := by decide +kernel
theorem d_Scan_takeIfNext_20 : decode b_Scan_takeIfNext 20 = .ok (.iadd, 1) := by decide +kernel
theorem d_Scan_takeIfNext_21 : decode b_Scan_takeIfNext 21 = .ok (.putfield 19, 3) := by decide +kernel
theorem d_Scan_takeIfNext_24 : decode b_Scan_takeIfNext 24 = .ok (.iconst 1, 1) := by decide +kernel
theorem d_Scan_takeIfNext_25 : decode b_Scan_takeIfNext 25 = .ok (.ireturn, 1) := by decide +kernel
theorem d_Scan_takeSign_0 : decode b_Scan_takeSign 0 = .ok (.aload_n 0, 1) := by decide +kernel
theorem d_Scan_takeSign_1 : decode b_Scan_takeSign 1 = .ok (.iload_n 1, 1) := by decide +kernel
theorem d_Scan_takeSign_2 : decode b_Scan_takeSign 2 = .ok (.invokevirtual 46, 3) := by decide +kernel
theorem d_Scan_takeSign_5 : decode b_Scan_takeSign 5 = .ok (.ifCond .ne 14, 3) := by decide +kernel
theorem d_Scan_takeSign_8 : decode b_Scan_takeSign 8 = .ok (.aload_n 0, 1) := by decide +kernel
theorem d_Scan_takeSign_9 : decode b_Scan_takeSign 9 = .ok (.aload_n 0, 1) := by decide +kernel
theorem d_Scan_takeSign_10 : decode b_Scan_takeSign 10 = .ok (.getfield 19, 3) := by decide +kernel
theorem d_Scan_takeSign_13 : decode b_Scan_takeSign 13 = .ok (.invokevirtual 38, 3) := by decide +kernel
theorem d_Scan_takeSign_16 : decode b_Scan_takeSign 16 = .ok (.ifCond .eq 7, 3) := by decide +kernel
theorem d_Scan_takeSign_19 : decode b_Scan_takeSign 19 = .ok (.iconst 1, 1) := by decide +kernel
theorem d_Scan_takeSign_20 : decode b_Scan_takeSign 20 = .ok (.goto 4, 3) := by decide +kernel
theorem d_Scan_takeSign_23 : decode b_Scan_takeSign 23 = .ok (.iconst 0, 1) := by decide +kernel
theorem d_Scan_takeSign_24 : decode b_Scan_takeSign 24 = .ok (.ireturn, 1) := by decide +kernel
theorem d_Scan_isNext_0 : decode b_Scan_isNext 0 = .ok (.aload_n 0, 1) := by decide +kernel
theorem d_Scan_isNext_1 : decode b_Scan_isNext 1 = .ok (.invokevirtual 31, 3) := by decide +kernel
theorem d_Scan_isNext_4 : decode b_Scan_isNext 4 = .ok (.aload_n 0, 1) := by decide +kernel
theorem d_Scan_isNext_5 : decode b_Scan_isNext 5 = .ok (.invokevirtual 42, 3) := by decide +kernel
theorem d_Scan_isNext_8 : decode b_Scan_isNext 8 = .ok (.iload_n 1, 1) := by decide +kernel
theorem d_Scan_isNext_9 : decode b_Scan_isNext 9 = .ok (.if_icmp .ne 7, 3) := by decide +kernel
theorem d_Scan_isNext_12 : decode b_Scan_isNext 12 = .ok (.iconst 1, 1) := by decide +kernel
theorem d_Scan_isNext_13 : decode b_Scan_isNext 13 = .ok (.goto 4, 3) := by decide +kernel
theorem d_Scan_isNext_16 : decode b_Scan_isNext 16 = .ok (.iconst 0, 1) := by decide +kernel
theorem d_Scan_isNext_17 : decode b_Scan_isNext 17 = .ok (.ireturn, 1) := by decide +kernel
theorem d_Reader_takeNames_0 : decode b_Reader_takeNames 0 = .ok (.iconst 0, 1) := by decide +kernel
theorem d_Reader_takeNames_1 : decode b_Reader_takeNames 1 = .ok (.istore_n 3, 1) := by decide +kernel
theorem d_Reader_takeNames_2 : decode b_Reader_takeNames 2 = .ok (.iload_n 3, 1) := by decide +kernel
theorem d_Reader_takeNames_3 : decode b_Reader_takeNames 3 = .ok (.sipush 200, 3) := by decide +kernel
theorem d_Reader_takeNames_6 : decode b_Reader_takeNames 6 = .ok (.if_icmp .gt 57, 3) := by decide +kernel
theorem d_Reader_takeNames_9 : decode b_Reader_takeNames 9 = .ok (.aload_n 0, 1) := by decide +kernel
theorem d_Reader_takeNames_10 : decode b_Reader_takeNames 10 = .ok (.getfield 12, 3) := by decide +kernel
theorem d_Reader_takeNames_13 : decode b_Reader_takeNames 13 = .ok (.invokevirtual 77, 3) := by decide +kernel
theorem d_Reader_takeNames_16 : decode b_Reader_takeNames 16 = .ok (.ifCond .eq 25, 3) := by decide +kernel
theorem d_Reader_takeNames_19 : decode b_Reader_takeNames 19 = .ok (.aload_n 0, 1) := by decide +kernel
theorem d_Reader_takeNames_20 : decode b_Reader_takeNames 20 = .ok (.iload_n 1, 1) := by decide +kernel
theorem d_Reader_takeNames_21 : decode b_Reader_takeNames 21 = .ok (.aload_n 0, 1) := by decide +kernel
theorem d_Reader_takeNames_22 : decode b_Reader_takeNames 22 = .ok (.getfield 12, 3) := by decide +kernel
theorem d_Reader_takeNames_25 : decode b_Reader_takeNames 25 = .ok (.invokevirtual 80, 3) := by decide +kernel
theorem d_Reader_takeNames_28 : decode b_Reader_takeNames 28 = .ok (.aload_n 2, 1) := by decide +kernel
theorem d_Reader_takeNames_29 : decode b_Reader_takeNames 29 = .ok (.ldc2_w 165, 3) := by decide +kernel
theorem d_Reader_takeNames_32 : decode b_Reader_takeNames 32 = .ok (.ldc2_w 165, 3) := by decide +kernel
theorem d_Reader_takeNames_35 : decode b_Reader_takeNames 35 = .ok (.invokevirtual 148, 3) := by decide +kernel
theorem d_Reader_takeNames_38 : decode b_Reader_takeNames 38 = .ok (.ifCond .ne 5, 3) := by decide +kernel
theorem d_Reader_takeNames_41 : decode b_Reader_takeNames 41 = .ok (.iconst 0, 1) := by decide +kernel
theorem d_Reader_takeNames_42 : decode b_Reader_takeNames 42 = .ok (.ireturn, 1) := by decide +kernel
theorem d_Reader_takeNames_43 : decode b_Reader_takeNames 43 = .ok (.aload_n 0, 1) := by decide +kernel
theorem d_Reader_takeNames_44 : decode b_Reader_takeNames 44 = .ok (.getfield 12, 3) := by decide +kernel
theorem d_Reader_takeNames_47 : decode b_Reader_takeNames 47 = .ok (.bipush 44, 2) := by decide +kernel
theorem d_Reader_takeNames_49 : decode b_Reader_takeNames 49 = .ok (.invokevirtual 152, 3) := by decide +kernel
theorem d_Reader_takeNames_52 : decode b_Reader_takeNames 52 = .ok (.ifCond .ne 5, 3) := by decide +kernel
theorem d_Reader_takeNames_55 : decode b_Reader_takeNames 55 = .ok (.iconst 1, 1) := by decide +kernel
theorem d_Reader_takeNames_56 : decode b_Reader_takeNames 56 = .ok (.ireturn, 1) := by decide +kernel
theorem d_Reader_takeNames_57 : decode b_Reader_takeNames 57 = .ok (.iinc 3 1, 3) := by decide +kernel
theorem d_Reader_takeNames_60 : decode b_Reader_takeNames 60 = .ok (.goto (-58), 3) := by decide +kernel
theorem d_Reader_takeNames_63 : decode b_Reader_takeNames 63 = .ok (.iconst 0, 1) := by decide +kernel
theorem d_Reader_takeNames_64 : decode b_Reader_takeNames 64 = .ok (.ireturn, 1) := by decide +kernel
theorem d_Reader_takeFeature_0 : decode b_Reader_takeFeature 0 = .ok (.aload_n 0, 1) := by decide +kernel
theorem d_Reader_takeFeature_1 : decode b_Reader_takeFeature 1 = .ok (.getfield 12, 3) := by decide +kernel
theorem d_Reader_takeFeature_4 : decode b_Reader_takeFeature 4 = .ok (.invokevirtual 77, 3) := by decide +kernel
theorem d_Reader_takeFeature_7 : decode b_Reader_takeFeature 7 = .ok (.ifCond .ne 5, 3) := by decide +kernel
theorem d_Reader_takeFeature_10 : decode b_Reader_takeFeature 10 = .ok (.iconst 0, 1) := by decide +kernel
theorem d_Reader_takeFeature_11 : decode b_Reader_takeFeature 11 = .ok (.ireturn, 1) := by decide +kernel
theorem d_Reader_takeFeature_12 : decode b_Reader_takeFeature 12 = .ok (.aload_n 0, 1) := by decide +kernel
theorem d_Reader_takeFeature_13 : decode b_Reader_takeFeature 13 = .ok (.getfield 12, 3) := by decide +kernel
theorem d_Reader_takeFeature_16 : decode b_Reader_takeFeature 16 = .ok (.invokevirtual 80, 3) := by decide +kernel
theorem d_Reader_takeFeature_19 : decode b_Reader_takeFeature 19 = .ok (.astore_n 1, 1) := by decide +kernel
theorem d_Reader_takeFeature_20 : decode b_Reader_takeFeature 20 = .ok (.aload_n 1, 1) := by decide +kernel
theorem d_Reader_takeFeature_21 : decode b_Reader_takeFeature 21 = .ok (.aload_n 0, 1) := by decide +kernel
theorem d_Reader_takeFeature_22 : decode b_Reader_takeFeature 22 = .ok (.getfield 30, 3) := by decide +kernel
theorem d_Reader_takeFeature_25 : decode b_Reader_takeFeature 25 = .ok (.aload_n 0, 1) := by decide +kernel
theorem d_Reader_takeFeature_26 : decode b_Reader_takeFeature 26 = .ok (.getfield 38, 3) := by decide +kernel
theorem d_Reader_takeFeature_29 : decode b_Reader_takeFeature 29 = .ok (.invokevirtual 158, 3) := by decide +kernel
theorem d_Reader_takeFeature_32 : decode b_Reader_takeFeature 32 = .ok (.ifCond .ne 35, 3) := by decide +kernel
theorem d_Reader_takeFeature_35 : decode b_Reader_takeFeature 35 = .ok (.aload_n 0, 1) := by decide +kernel
theorem d_Reader_takeFeature_36 : decode b_Reader_takeFeature 36 = .ok (.getfield 38, 3) := by decide +kernel
theorem d_Reader_takeFeature_39 : decode b_Reader_takeFeature 39 = .ok (.aload_n 0, 1) := by decide +kernel
theorem d_Reader_takeFeature_40 : decode b_Reader_takeFeature 40 = .ok (.getfield 30, 3) := by decide +kernel
theorem d_Reader_takeFeature_43 : decode b_Reader_takeFeature 43 = .ok (.arraylength, 1) := by decide +kernel
theorem d_Reader_takeFeature_44 : decode b_Reader_takeFeature 44 = .ok (.if_icmp .ge 23, 3) := by decide +kernel
theorem d_Reader_takeFeature_47 : decode b_Reader_takeFeature 47 = .ok (.aload_n 0, 1) := by decide +kernel
theorem d_Reader_takeFeature_48 : decode b_Reader_takeFeature 48 = .ok (.getfield 30, 3) := by decide +kernel
theorem d_Reader_takeFeature_51 : decode b_Reader_takeFeature 51 = .ok (.aload_n 0, 1) := by decide +kernel
theorem d_Reader_takeFeature_52 : decode b_Reader_takeFeature 52 = .ok (.getfield 38, 3) := by decide +kernel
theorem d_Reader_takeFeature_55 : decode b_Reader_takeFeature 55 = .ok (.aload_n 1, 1) := by decide +kernel
theorem d_Reader_takeFeature_56 : decode b_Reader_takeFeature 56 = .ok (.aastore, 1) := by decide +kernel
theorem d_Reader_takeFeature_57 : decode b_Reader_takeFeature 57 = .ok (.aload_n 0, 1) := by decide +kernel
theorem d_Reader_takeFeature_58 : decode b_Reader_takeFeature 58 = .ok (.dup, 1) := by decide +kernel
theorem d_Reader_takeFeature_59 : decode b_Reader_takeFeature 59 = .ok (.getfield 38, 3) := by decide +kernel
theorem d_Reader_takeFeature_62 : decode b_Reader_takeFeature 62 = .ok (.iconst 1, 1) := by decide +kernel
theorem d_Reader_takeFeature_63 : decode b_Reader_takeFeature 63 = .ok (.iadd, 1) := by decide +kernel
theorem d_Reader_takeFeature_64 : decode b_Reader_takeFeature 64 = .ok (.putfield 38, 3) := by decide +kernel
theorem d_Reader_takeFeature_67 : decode b_Reader_takeFeature 67 = .ok (.aload_n 0, 1) := by decide +kernel
theorem d_Reader_takeFeature_68 : decode b_Reader_takeFeature 68 = .ok (.getfield 12, 3) := by decide +kernel
theorem d_Reader_takeFeature_71 : decode b_Reader_takeFeature 71 = .ok (.bipush 58, 2) := by decide +kernel
theorem d_Reader_takeFeature_73 : decode b_Reader_takeFeature 73 = .ok (.invokevirtual 54, 3) := by decide +kernel
theorem d_Reader_takeFeature_76 : decode b_Reader_takeFeature 76 = .ok (.ifCond .ne 5, 3) := by decide +kernel
theorem d_Reader_takeFeature_79 : decode b_Reader_takeFeature 79 = .ok (.iconst 0, 1) := by decide +kernel
theorem d_Reader_takeFeature_80 : decode b_Reader_takeFeature 80 = .ok (.ireturn, 1) := by decide +kernel
theorem d_Reader_takeFeature_81 : decode b_Reader_takeFeature 81 = .ok (.aload_n 0, 1) := by decide +kernel
theorem d_Reader_takeFeature_82 : decode b_Reader_takeFeature 82 = .ok (.getfield 12, 3) := by decide +kernel
theorem d_Reader_takeFeature_85 : decode b_Reader_takeFeature 85 = .ok (.bipush 59, 2) := by decide +kernel
theorem d_Reader_takeFeature_87 : decode b_Reader_takeFeature 87 = .ok (.invokevirtual 162, 3) := by decide +kernel
theorem d_Reader_takeFeature_90 : decode b_Reader_takeFeature 90 = .ok (.ifCond .ne 13, 3) := by decide +kernel
theorem d_Reader_takeFeature_93 : decode b_Reader_takeFeature 93 = .ok (.aload_n 0, 1) := by decide +kernel
theorem d_Reader_takeFeature_94 : decode b_Reader_takeFeature 94 = .ok (.bipush 9, 2) := by decide +kernel
theorem d_Reader_takeFeature_96 : decode b_Reader_takeFeature 96 = .ok (.aload_n 1, 1) := by decide +kernel
theorem d_Reader_takeFeature_97 : decode b_Reader_takeFeature 97 = .ok (.invokevirtual 125, 3) := by decide +kernel
theorem d_Reader_takeFeature_100 : decode b_Reader_takeFeature 100 = .ok (.ifCond .eq 7, 3) := by decide +kernel
theorem d_Reader_takeFeature_103 : decode b_Reader_takeFeature 103 = .ok (.iconst 1, 1) := by decide +kernel
theorem d_Reader_takeFeature_104 : decode b_Reader_takeFeature 104 = .ok (.goto 4, 3) := by decide +kernel
theorem d_Reader_takeFeature_107 : decode b_Reader_takeFeature 107 = .ok (.iconst 0, 1) := by decide +kernel
theorem d_Reader_takeFeature_108 : decode b_Reader_takeFeature 108 = .ok (.ireturn, 1) := by decide +kernel
