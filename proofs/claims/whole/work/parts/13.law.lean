/-! THE CLAIM OUT OF ONE WALK OF THE LAW'S BODY. Your part is whole_start (and what it stands on); all else here is the same for every law, but numbers. -/
def R_law : String := "PackageRowsLaw"
def lw_P (b : Addr) (xs : List Int32) (args : Array Value) (s : State) : Prop := args = #[.ref b] ∧ s.IntsAt b xs ∧ xs.length ≤ 2560 ∧ (Jvm.Cond.and given_1 narrow_1).before args s = true
def lw_Q (_ : Array Value) (s : State) (o : Outcome) (t : State) : Prop := o = .returned (some (.int 1)) ∧ Framed s o t [] 600000 7302250
def lw_Z (below : List Frame) (a : Array Value) (s : State) : State → Prop := fun t => ∃ o, t.status = .running ∧ Ended t below o ∧ lw_Q a s o t
/-- the law's own end, with 1 on the stack, nothing written that was there before, its room as the claim has it -/
theorem lw_ret {p : Program} {l : Launch} {e : Env} {s : State} {m : MethodId} {below : List Frame} {meth : Method} {c : Code} {b : Nat} (hx : p.tables.exec = Jvm.exec) (hb : c.code = code) (hr : meth.sig.returnType = ret) (hlocks : meth.locks = false) {pc : Nat} {H : Heap} {ls : Array Slot} (hdg : decode code pc = .ok (.ireturn, 1)) : W p l e room_1 s m #[Value.ref b] below meth c H [] 600000 7302250 (lw_Z below #[Value.ref b] s) (F0 m pc ls [.int 1]) := by
  intro T hT X
  obtain ⟨fs, hret, hrun, hended, hW, hframe⟩ := X.leave (v := some (.int 1)) (hlocks := hlocks) (fun h => by rw [hr] at h; cases h)
  have hmeth' : T.vm.method? m = some meth := X.method'
  refine ⟨T.setFrames fs, ?_, .returned (some (.int 1)), hrun, hended, rfl, ⟨_, rfl⟩, hW, hframe⟩
  jvm_step X.here [X.here.top, hx, hb, hdg, hmeth', hr, ret, narrow_b1]
  (try refine ⟨rfl, ?_⟩); (try refine ⟨rfl, ?_⟩)
  first | (intro acts; rw [hret _ acts rfl rfl rfl]) | rw [hret _ _ rfl rfl rfl]
  exact Steps.refl _
/-- what holds at the law's entry: the machine, the code, the tables' words (any of lw_tbl by 'hts w (by decide +kernel)'), the script of L ints xs at the cell b, what the Statement gives of the start (any of its parts by flat_of_before) -/
def lw_At (p : Program) (s : State) (m : MethodId) (meth : Method) (c : Code) (b L : Nat) (xs : Nat → Int32) : Prop :=
  p.tables.exec = Jvm.exec ∧ c.code = code ∧ meth.sig.returnType = ret ∧ c.maxLocals = 4 ∧ s.vm.findClass R_law = some m.cls ∧ (∀ w ∈ lw_tbl, w.before #[Value.ref b] s = true) ∧ va_X b L xs s s.heap ∧ b < s.heap.size ∧ meth.locks = false ∧ (Jvm.Cond.and given_1 narrow_1).before #[Value.ref b] s = true
-- ===== YOUR PART BEGINS =====

set_option maxRecDepth 100000 in
theorem tbl_0 : wsA_0 = [76, 77, 78, 79, 80, 57, 84, 85, 86, 58, 90, 124, 91, 89, 88, 129, 125, 131, 161, 132, 127, 134, 83, 82, 195, 130, 196, 162, 197, 164, 165, 59, 169, 170, 168, 167, 199, 179, 180, 60, 184, 194, 185, 187, 183, 182, 200, 201, 227, 92, 228, 229, 230, 231, 93, 95, 96, 98, 236, 237, 238, 239, 133, 437, 444, 135, 351, 349, 487, 488, 69, 489, 483, 484, 485, 62, 486, 479, 480, 481, 482, 326, 264, 265, 266, 533, 534, 535, 536, 252, 253, 254, 255, 381, 382, 383, 384, 97, 263, 260].filterMap (fun i => lw_tbl[i]?) := by rfl
theorem inT_0 : ∀ w ∈ wsA_0, w ∈ lw_tbl := by
  intro w h
  rw [tbl_0] at h
  obtain ⟨i, -, hi⟩ := List.mem_filterMap.mp h
  exact List.mem_of_getElem? hi
set_option maxRecDepth 100000 in
theorem tbl_1 : wsA_1 = [261, 262, 267, 268, 269, 270, 271, 272, 256, 257, 258, 259, 331, 249, 250, 251, 327, 328, 329, 330, 336, 337, 346, 342, 343, 344, 345, 341, 340, 338, 339, 332, 333, 334, 335, 100, 370, 371, 366, 367, 368, 369, 372, 362, 363, 364, 365, 99, 138, 432, 433, 438, 440, 445, 448, 451, 431, 68, 429, 430, 428, 139, 424, 425, 426, 427, 420, 421, 422, 423, 377, 378, 379, 380, 373, 374, 375, 376, 490, 491, 492, 493, 498, 499, 494, 495, 496, 497, 475, 476, 477, 478, 500, 501, 502, 503, 508, 509, 504, 505].filterMap (fun i => lw_tbl[i]?) := by rfl
theorem inT_1 : ∀ w ∈ wsA_1, w ∈ lw_tbl := by
  intro w h
  rw [tbl_1] at h
  obtain ⟨i, -, hi⟩ := List.mem_filterMap.mp h
  exact List.mem_of_getElem? hi
set_option maxRecDepth 100000 in
theorem tbl_2 : wsA_2 = [506, 507, 510, 511, 67, 512, 102, 104, 522, 530, 531, 532, 527, 528, 529, 523, 524, 525, 526, 521, 517, 518, 519, 520, 101, 103, 94, 513, 514, 515, 516, 248, 393, 394, 395, 278, 288, 274, 275, 276, 277, 389, 390, 391, 392, 412, 413, 414, 408, 409, 410, 411, 385, 386, 387, 388, 136, 137, 244, 245, 246, 247, 240, 241, 242, 243, 537, 538, 539, 540, 198, 588, 589, 70, 593, 594, 596, 598, 600, 592, 590, 591, 455, 585, 586, 587, 628, 582, 583, 584, 434, 441, 633, 629, 630, 631, 632, 624, 625, 626].filterMap (fun i => lw_tbl[i]?) := by rfl
theorem inT_2 : ∀ w ∈ wsA_2, w ∈ lw_tbl := by
  intro w h
  rw [tbl_2] at h
  obtain ⟨i, -, hi⟩ := List.mem_filterMap.mp h
  exact List.mem_of_getElem? hi
set_option maxRecDepth 100000 in
theorem tbl_3 : wsA_3 = [627, 634, 635, 636, 637, 621, 622, 623, 617, 618, 619, 620, 457, 613, 614, 615, 616, 557, 553, 554, 555, 556, 549, 550, 551, 552, 569, 566, 567, 568, 570, 562, 563, 564, 565, 579, 580, 581, 575, 576, 577, 578, 454, 571, 572, 573, 574, 558, 559, 560, 561, 545, 546, 547, 548, 541, 542, 543, 544, 642, 644, 0, 56, 645, 603, 650, 652, 1, 653, 436, 439, 443, 347, 353, 456, 658, 659, 660, 661, 662, 663, 664, 665, 447, 450, 670, 453, 683, 684, 685, 686, 601, 694, 703, 699, 700, 701, 702, 695, 696].filterMap (fun i => lw_tbl[i]?) := by rfl
theorem inT_3 : ∀ w ∈ wsA_3, w ∈ lw_tbl := by
  intro w h
  rw [tbl_3] at h
  obtain ⟨i, -, hi⟩ := List.mem_filterMap.mp h
  exact List.mem_of_getElem? hi
set_option maxRecDepth 100000 in
theorem tbl_4 : wsA_4 = [697, 698, 691, 692, 693, 687, 688, 689, 690, 203, 186, 708, 710, 2, 711, 202, 188, 442, 348, 172, 731, 732, 733, 734, 735, 736, 737, 738, 435, 449, 749, 748, 744, 745, 746, 747, 774, 446, 743, 739, 740, 741, 742, 452, 779, 729, 730, 725, 726, 727, 728, 775, 776, 777, 778, 770, 771, 772, 773, 766, 767, 768, 762, 763, 764, 765, 602, 599, 791, 756, 757, 758, 787, 788, 789, 790, 783, 784, 785, 786, 754, 755, 750, 751, 752, 753, 595, 597, 720, 721, 722, 723, 173, 803, 352, 350, 804, 805, 806, 807].filterMap (fun i => lw_tbl[i]?) := by rfl
theorem inT_4 : ∀ w ∈ wsA_4, w ∈ lw_tbl := by
  intro w h
  rw [tbl_4] at h
  obtain ⟨i, -, hi⟩ := List.mem_filterMap.mp h
  exact List.mem_of_getElem? hi
set_option maxRecDepth 100000 in
theorem tbl_5 : wsA_5 = [797, 802, 798, 799, 800, 801, 171, 817, 361, 839, 977, 818, 819, 820, 821, 822, 846, 823, 824, 825, 826, 827, 828, 829, 830, 831, 832, 833, 834, 847, 848, 850, 851, 852, 853, 854, 835, 855, 856, 857, 858, 859, 860, 836, 861, 862, 863, 864, 865, 873, 874, 875, 876, 878, 879, 880, 837, 882, 840, 838, 841, 842, 994, 995, 61, 996, 997, 998, 999, 1000, 1001, 1002, 843, 844, 845, 1016, 1018, 8, 1019, 1008, 1010, 6, 1011, 990, 992, 4, 993, 1041, 1042, 1036, 1037, 1039, 13, 1040, 1028, 1030, 11, 1031, 1032, 1034].filterMap (fun i => lw_tbl[i]?) := by rfl
theorem inT_5 : ∀ w ∈ wsA_5, w ∈ lw_tbl := by
  intro w h
  rw [tbl_5] at h
  obtain ⟨i, -, hi⟩ := List.mem_filterMap.mp h
  exact List.mem_of_getElem? hi
set_option maxRecDepth 100000 in
theorem tbl_6 : wsA_6 = [12, 1035, 871, 870, 1024, 1026, 10, 1027, 1072, 1074, 21, 1075, 1063, 1064, 1066, 19, 1067, 1068, 1070, 20, 1071, 1109, 1110, 1111, 849, 1043, 1045, 14, 1046, 866, 1080, 1082, 23, 1083, 869, 867, 868, 883, 1020, 1022, 9, 1023, 1012, 1014, 7, 1015, 1059, 1061, 18, 1062, 1076, 1078, 22, 1079, 1055, 1057, 17, 1058, 1003, 1005, 5, 1006, 1096, 872, 1092, 1094, 26, 1095, 1097, 1099, 27, 1100, 1088, 1090, 25, 1091, 1084, 1086, 24, 1087, 1051, 1053, 16, 1054, 1105, 1107, 29, 1108, 1101, 1103, 28, 1104, 1047, 1049, 15, 1050, 1007, 1116, 1118, 31].filterMap (fun i => lw_tbl[i]?) := by rfl
theorem inT_6 : ∀ w ∈ wsA_6, w ∈ lw_tbl := by
  intro w h
  rw [tbl_6] at h
  obtain ⟨i, -, hi⟩ := List.mem_filterMap.mp h
  exact List.mem_of_getElem? hi
set_option maxRecDepth 100000 in
theorem tbl_7 : wsA_7 = [1119, 1120, 1122, 32, 1123, 1124, 1126, 33, 1127, 1128, 1130, 34, 1131, 986, 988, 3, 989, 1112, 1114, 30, 1115, 1136, 1138, 35, 1139, 1152, 1154, 38, 1155, 1144, 1146, 36, 1147, 1148, 1150, 37, 1151, 877, 1188, 1190, 42, 1191, 1184, 1186, 41, 1187, 1176, 1178, 39, 1179, 1180, 1182, 40, 1183, 881, 1208, 1210, 44, 1211, 1212, 1221, 1222, 1224, 47, 1225, 1217, 1219, 46, 1220, 1246, 1248, 53, 1249, 1213, 1215, 45, 1216, 1238, 1240, 51, 1241, 1204, 1206, 43, 1207, 1242, 1244, 52, 1245, 1234, 1236, 50, 1237, 1230, 1232, 49, 1233, 1250, 1252, 54].filterMap (fun i => lw_tbl[i]?) := by rfl
theorem inT_7 : ∀ w ∈ wsA_7, w ∈ lw_tbl := by
  intro w h
  rw [tbl_7] at h
  obtain ⟨i, -, hi⟩ := List.mem_filterMap.mp h
  exact List.mem_of_getElem? hi
set_option maxRecDepth 100000 in
theorem tbl_8 : wsA_8 = [1253, 1226, 1228, 48, 1229, 1262, 223, 224, 225, 226, 978, 979, 980, 981, 232, 233, 234, 235, 982, 983, 984, 985, 638, 639, 640, 641, 1132, 1133, 1134, 1135, 646, 647, 648, 649, 1140, 1141, 1142, 1143, 654, 655, 656, 657, 1156, 1157, 1158, 1159, 666, 667, 668, 669, 1160, 1161, 1162, 1163, 671, 672, 673, 674, 1164, 1165, 1166, 1167, 675, 676, 677, 678, 1168, 1169, 1170, 1171, 679, 680, 681, 682, 1172, 1173, 1174, 1175, 704, 705, 706, 707, 1192, 1193, 1194, 1195, 712, 713, 714, 715, 1196, 1197, 1198, 1199, 716, 717, 718, 719, 1200, 1201].filterMap (fun i => lw_tbl[i]?) := by rfl
theorem inT_8 : ∀ w ∈ wsA_8, w ∈ lw_tbl := by
  intro w h
  rw [tbl_8] at h
  obtain ⟨i, -, hi⟩ := List.mem_filterMap.mp h
  exact List.mem_of_getElem? hi
set_option maxRecDepth 100000 in
theorem tbl_9 : wsA_9 = [1202, 1203, 793, 794, 795, 796, 1254, 1255, 1256, 1257, 808, 809, 810, 811, 1258, 1259, 1260, 1261, 71, 72, 75, 73, 74, 812, 813, 816, 814, 815, 204, 206, 208, 210, 212, 214, 216, 218, 220, 884, 886, 888, 890, 892, 894, 896, 898, 900, 902, 904, 906, 908, 910, 912, 914, 916, 918, 920, 922, 924, 926, 928, 930, 932, 934, 936, 938, 940, 942, 944, 946, 948, 950, 952, 954, 956, 958, 960, 962, 964, 966, 968, 970, 972, 974, 354, 356, 358, 604, 606, 608, 610, 189, 191, 174, 176, 140, 142, 144, 146, 148, 150].filterMap (fun i => lw_tbl[i]?) := by rfl
theorem inT_9 : ∀ w ∈ wsA_9, w ∈ lw_tbl := by
  intro w h
  rw [tbl_9] at h
  obtain ⟨i, -, hi⟩ := List.mem_filterMap.mp h
  exact List.mem_of_getElem? hi
set_option maxRecDepth 100000 in
theorem tbl_10 : wsA_10 = [152, 154, 156, 158, 458, 460, 462, 464, 466, 468, 470, 472, 105, 107, 109, 111, 113, 115, 117, 119, 121, 283, 284, 293, 294, 279, 280, 289, 290, 282, 292, 296, 299, 304, 297, 300, 305, 285, 295, 281, 291, 298, 301, 306, 63, 64, 65, 286, 302, 1263, 1264].filterMap (fun i => lw_tbl[i]?) := by rfl
theorem inT_10 : ∀ w ∈ wsA_10, w ∈ lw_tbl := by
  intro w h
  rw [tbl_10] at h
  obtain ⟨i, -, hi⟩ := List.mem_filterMap.mp h
  exact List.mem_of_getElem? hi
theorem wsAll_in : ∀ w ∈ wsAll, w ∈ lw_tbl := List.forall_mem_append.mpr ⟨inT_0, List.forall_mem_append.mpr ⟨inT_1, List.forall_mem_append.mpr ⟨inT_2, List.forall_mem_append.mpr ⟨inT_3, List.forall_mem_append.mpr ⟨inT_4, List.forall_mem_append.mpr ⟨inT_5, List.forall_mem_append.mpr ⟨inT_6, List.forall_mem_append.mpr ⟨inT_7, List.forall_mem_append.mpr ⟨inT_8, List.forall_mem_append.mpr ⟨inT_9, inT_10⟩⟩⟩⟩⟩⟩⟩⟩⟩⟩
theorem tx_of {args : Array Value} {s : State} {own tx : String} {k z : Nat} {bs : List Int32} (hsr : (Cond.stringRef own k tx).before args s = true) (hex : (Cond.exactly (.string own k) "java/lang/String").before args s = true) (hco : (Cond.eq (.field (.string own k) "java/lang/String" "coder" "B") (.int 0)).before args s = true) (har : (Cond.arrayOf (.field (.string own k) "java/lang/String" "value" "[B") .byte).before args s = true) (hle : (Cond.eq (.length (.field (.string own k) "java/lang/String" "value" "[B")) (.int (Int32.ofNat bs.length))).before args s = true)
    (hel : ∀ j : Nat, j < bs.length → (Cond.eq (.elem (.field (.string own k) "java/lang/String" "value" "[B") (.int (Int32.ofNat j))) (.int (bs.getD j 0))).before args s = true) (hN : bs.length < 2 ^ 31) (hA : ∀ a : Nat, a < s.heap.size → ¬ z ≤ a) :
    ∃ q : Nat × Nat, vk_R own k tx q.1 s ∧ va_O "java/lang/String" q.1 (fun q => z ≤ q) s s.heap ∧ va_OF "java/lang/String" "coder" "B" (.int 0) q.1 (fun q => z ≤ q) s s.heap ∧ va_OF "java/lang/String" "value" "[B" (.ref q.2) q.1 (fun q => z ≤ q) s s.heap ∧ va_T .byte q.2 bs.length (fun j => .int (bs.getD j 0)) (fun q => z ≤ q) s s.heap := by
  obtain ⟨adK, adV, h, ht⟩ := vk_Sof (args := args) (s := s) (N := 1) (tm := fun _ => .string own k) (len := [bs.length]) (byt := [bs]) (A := fun q => z ≤ q) (fun i hi => by rw [show i = 0 by omega]; exact hN) (fun _ _ => hex) (fun _ _ => hco) (fun _ _ => har) (fun i hi => by rw [show i = 0 by omega]; exact hle) (fun i hi j hj => by
    obtain rfl : i = 0 := by omega
    exact hel j hj) (fun i j hi hj hne => absurd (show i = j by omega) hne) hA
  have h0 := h.1 0 (by omega)
  exact ⟨(adK 0, adV 0), vk_R.of hsr (ht 0 (by omega)), h0.1, h0.2.1, h0.2.2.1, h0.2.2.2⟩
theorem tx_0 {args : Array Value} {s : State} {z : Nat} (hts : ∀ w ∈ lw_tbl, w.before args s = true) (hs : ∀ w ∈ flatC (Jvm.Cond.and given_1 narrow_1), w.before args s = true) (hA : ∀ a : Nat, a < s.heap.size → ¬ z ≤ a) : ∃ q : Nat × Nat, vk_R R_Reader 64 "package" q.1 s ∧ va_O "java/lang/String" q.1 (fun q => z ≤ q) s s.heap ∧ va_OF "java/lang/String" "coder" "B" (.int 0) q.1 (fun q => z ≤ q) s s.heap ∧ va_OF "java/lang/String" "value" "[B" (.ref q.2) q.1 (fun q => z ≤ q) s s.heap ∧ va_T .byte q.2 ([112, 97, 99, 107, 97, 103, 101] : List Int32).length (fun j => .int (([112, 97, 99, 107, 97, 103, 101] : List Int32).getD j 0)) (fun q => z ≤ q) s s.heap :=
  tx_of (hts _ (List.mem_of_getElem? (i := 273) rfl)) (hs _ (by decide +kernel)) (hs _ (by decide +kernel)) (hs _ (by decide +kernel)) (hs _ (by decide +kernel)) (fun j hj => by
    have hj : j < 7 := hj
    rcases (show j = 0 ∨ j = 1 ∨ j = 2 ∨ j = 3 ∨ j = 4 ∨ j = 5 ∨ j = 6 by omega) with rfl | rfl | rfl | rfl | rfl | rfl | rfl <;> exact hs _ (by decide +kernel)) (by decide) hA
theorem tx_1 {args : Array Value} {s : State} {z : Nat} (hts : ∀ w ∈ lw_tbl, w.before args s = true) (hs : ∀ w ∈ flatC (Jvm.Cond.and given_1 narrow_1), w.before args s = true) (hA : ∀ a : Nat, a < s.heap.size → ¬ z ≤ a) : ∃ q : Nat × Nat, vk_R R_Kind 13 "conflict" q.1 s ∧ va_O "java/lang/String" q.1 (fun q => z ≤ q) s s.heap ∧ va_OF "java/lang/String" "coder" "B" (.int 0) q.1 (fun q => z ≤ q) s s.heap ∧ va_OF "java/lang/String" "value" "[B" (.ref q.2) q.1 (fun q => z ≤ q) s s.heap ∧ va_T .byte q.2 ([99, 111, 110, 102, 108, 105, 99, 116] : List Int32).length (fun j => .int (([99, 111, 110, 102, 108, 105, 99, 116] : List Int32).getD j 0)) (fun q => z ≤ q) s s.heap :=
  tx_of (hts _ (List.mem_of_getElem? (i := 396) rfl)) (hs _ (by decide +kernel)) (hs _ (by decide +kernel)) (hs _ (by decide +kernel)) (hs _ (by decide +kernel)) (fun j hj => by
    have hj : j < 8 := hj
    rcases (show j = 0 ∨ j = 1 ∨ j = 2 ∨ j = 3 ∨ j = 4 ∨ j = 5 ∨ j = 6 ∨ j = 7 by omega) with rfl | rfl | rfl | rfl | rfl | rfl | rfl | rfl <;> exact hs _ (by decide +kernel)) (by decide) hA
theorem tx_2 {args : Array Value} {s : State} {z : Nat} (hts : ∀ w ∈ lw_tbl, w.before args s = true) (hs : ∀ w ∈ flatC (Jvm.Cond.and given_1 narrow_1), w.before args s = true) (hA : ∀ a : Nat, a < s.heap.size → ¬ z ≤ a) : ∃ q : Nat × Nat, vk_R R_Kind 15 "replace" q.1 s ∧ va_O "java/lang/String" q.1 (fun q => z ≤ q) s s.heap ∧ va_OF "java/lang/String" "coder" "B" (.int 0) q.1 (fun q => z ≤ q) s s.heap ∧ va_OF "java/lang/String" "value" "[B" (.ref q.2) q.1 (fun q => z ≤ q) s s.heap ∧ va_T .byte q.2 ([114, 101, 112, 108, 97, 99, 101] : List Int32).length (fun j => .int (([114, 101, 112, 108, 97, 99, 101] : List Int32).getD j 0)) (fun q => z ≤ q) s s.heap :=
  tx_of (hts _ (List.mem_of_getElem? (i := 397) rfl)) (hs _ (by decide +kernel)) (hs _ (by decide +kernel)) (hs _ (by decide +kernel)) (hs _ (by decide +kernel)) (fun j hj => by
    have hj : j < 7 := hj
    rcases (show j = 0 ∨ j = 1 ∨ j = 2 ∨ j = 3 ∨ j = 4 ∨ j = 5 ∨ j = 6 by omega) with rfl | rfl | rfl | rfl | rfl | rfl | rfl <;> exact hs _ (by decide +kernel)) (by decide) hA
theorem tx_3 {args : Array Value} {s : State} {z : Nat} (hts : ∀ w ∈ lw_tbl, w.before args s = true) (hs : ∀ w ∈ flatC (Jvm.Cond.and given_1 narrow_1), w.before args s = true) (hA : ∀ a : Nat, a < s.heap.size → ¬ z ≤ a) : ∃ q : Nat × Nat, vk_R R_Kind 17 "provide" q.1 s ∧ va_O "java/lang/String" q.1 (fun q => z ≤ q) s s.heap ∧ va_OF "java/lang/String" "coder" "B" (.int 0) q.1 (fun q => z ≤ q) s s.heap ∧ va_OF "java/lang/String" "value" "[B" (.ref q.2) q.1 (fun q => z ≤ q) s s.heap ∧ va_T .byte q.2 ([112, 114, 111, 118, 105, 100, 101] : List Int32).length (fun j => .int (([112, 114, 111, 118, 105, 100, 101] : List Int32).getD j 0)) (fun q => z ≤ q) s s.heap :=
  tx_of (hts _ (List.mem_of_getElem? (i := 398) rfl)) (hs _ (by decide +kernel)) (hs _ (by decide +kernel)) (hs _ (by decide +kernel)) (hs _ (by decide +kernel)) (fun j hj => by
    have hj : j < 7 := hj
    rcases (show j = 0 ∨ j = 1 ∨ j = 2 ∨ j = 3 ∨ j = 4 ∨ j = 5 ∨ j = 6 by omega) with rfl | rfl | rfl | rfl | rfl | rfl | rfl <;> exact hs _ (by decide +kernel)) (by decide) hA
theorem tx_4 {args : Array Value} {s : State} {z : Nat} (hts : ∀ w ∈ lw_tbl, w.before args s = true) (hs : ∀ w ∈ flatC (Jvm.Cond.and given_1 narrow_1), w.before args s = true) (hA : ∀ a : Nat, a < s.heap.size → ¬ z ≤ a) : ∃ q : Nat × Nat, vk_R R_Kind 19 "any" q.1 s ∧ va_O "java/lang/String" q.1 (fun q => z ≤ q) s s.heap ∧ va_OF "java/lang/String" "coder" "B" (.int 0) q.1 (fun q => z ≤ q) s s.heap ∧ va_OF "java/lang/String" "value" "[B" (.ref q.2) q.1 (fun q => z ≤ q) s s.heap ∧ va_T .byte q.2 ([97, 110, 121] : List Int32).length (fun j => .int (([97, 110, 121] : List Int32).getD j 0)) (fun q => z ≤ q) s s.heap :=
  tx_of (hts _ (List.mem_of_getElem? (i := 399) rfl)) (hs _ (by decide +kernel)) (hs _ (by decide +kernel)) (hs _ (by decide +kernel)) (hs _ (by decide +kernel)) (fun j hj => by
    have hj : j < 3 := hj
    rcases (show j = 0 ∨ j = 1 ∨ j = 2 by omega) with rfl | rfl | rfl <;> exact hs _ (by decide +kernel)) (by decide) hA
theorem tx_5 {args : Array Value} {s : State} {z : Nat} (hts : ∀ w ∈ lw_tbl, w.before args s = true) (hs : ∀ w ∈ flatC (Jvm.Cond.and given_1 narrow_1), w.before args s = true) (hA : ∀ a : Nat, a < s.heap.size → ¬ z ≤ a) : ∃ q : Nat × Nat, vk_R R_Kind 21 "feature" q.1 s ∧ va_O "java/lang/String" q.1 (fun q => z ≤ q) s s.heap ∧ va_OF "java/lang/String" "coder" "B" (.int 0) q.1 (fun q => z ≤ q) s s.heap ∧ va_OF "java/lang/String" "value" "[B" (.ref q.2) q.1 (fun q => z ≤ q) s s.heap ∧ va_T .byte q.2 ([102, 101, 97, 116, 117, 114, 101] : List Int32).length (fun j => .int (([102, 101, 97, 116, 117, 114, 101] : List Int32).getD j 0)) (fun q => z ≤ q) s s.heap :=
  tx_of (hts _ (List.mem_of_getElem? (i := 400) rfl)) (hs _ (by decide +kernel)) (hs _ (by decide +kernel)) (hs _ (by decide +kernel)) (hs _ (by decide +kernel)) (fun j hj => by
    have hj : j < 7 := hj
    rcases (show j = 0 ∨ j = 1 ∨ j = 2 ∨ j = 3 ∨ j = 4 ∨ j = 5 ∨ j = 6 by omega) with rfl | rfl | rfl | rfl | rfl | rfl | rfl <;> exact hs _ (by decide +kernel)) (by decide) hA
theorem tx_6 {args : Array Value} {s : State} {z : Nat} (hts : ∀ w ∈ lw_tbl, w.before args s = true) (hs : ∀ w ∈ flatC (Jvm.Cond.and given_1 narrow_1), w.before args s = true) (hA : ∀ a : Nat, a < s.heap.size → ¬ z ≤ a) : ∃ q : Nat × Nat, vk_R R_Kind 23 "default" q.1 s ∧ va_O "java/lang/String" q.1 (fun q => z ≤ q) s s.heap ∧ va_OF "java/lang/String" "coder" "B" (.int 0) q.1 (fun q => z ≤ q) s s.heap ∧ va_OF "java/lang/String" "value" "[B" (.ref q.2) q.1 (fun q => z ≤ q) s s.heap ∧ va_T .byte q.2 ([100, 101, 102, 97, 117, 108, 116] : List Int32).length (fun j => .int (([100, 101, 102, 97, 117, 108, 116] : List Int32).getD j 0)) (fun q => z ≤ q) s s.heap :=
  tx_of (hts _ (List.mem_of_getElem? (i := 401) rfl)) (hs _ (by decide +kernel)) (hs _ (by decide +kernel)) (hs _ (by decide +kernel)) (hs _ (by decide +kernel)) (fun j hj => by
    have hj : j < 7 := hj
    rcases (show j = 0 ∨ j = 1 ∨ j = 2 ∨ j = 3 ∨ j = 4 ∨ j = 5 ∨ j = 6 by omega) with rfl | rfl | rfl | rfl | rfl | rfl | rfl <;> exact hs _ (by decide +kernel)) (by decide) hA
theorem tx_7 {args : Array Value} {s : State} {z : Nat} (hts : ∀ w ∈ lw_tbl, w.before args s = true) (hs : ∀ w ∈ flatC (Jvm.Cond.and given_1 narrow_1), w.before args s = true) (hA : ∀ a : Nat, a < s.heap.size → ¬ z ≤ a) : ∃ q : Nat × Nat, vk_R R_Kind 25 "platform" q.1 s ∧ va_O "java/lang/String" q.1 (fun q => z ≤ q) s s.heap ∧ va_OF "java/lang/String" "coder" "B" (.int 0) q.1 (fun q => z ≤ q) s s.heap ∧ va_OF "java/lang/String" "value" "[B" (.ref q.2) q.1 (fun q => z ≤ q) s s.heap ∧ va_T .byte q.2 ([112, 108, 97, 116, 102, 111, 114, 109] : List Int32).length (fun j => .int (([112, 108, 97, 116, 102, 111, 114, 109] : List Int32).getD j 0)) (fun q => z ≤ q) s s.heap :=
  tx_of (hts _ (List.mem_of_getElem? (i := 402) rfl)) (hs _ (by decide +kernel)) (hs _ (by decide +kernel)) (hs _ (by decide +kernel)) (hs _ (by decide +kernel)) (fun j hj => by
    have hj : j < 8 := hj
    rcases (show j = 0 ∨ j = 1 ∨ j = 2 ∨ j = 3 ∨ j = 4 ∨ j = 5 ∨ j = 6 ∨ j = 7 by omega) with rfl | rfl | rfl | rfl | rfl | rfl | rfl | rfl <;> exact hs _ (by decide +kernel)) (by decide) hA
theorem tx_8 {args : Array Value} {s : State} {z : Nat} (hts : ∀ w ∈ lw_tbl, w.before args s = true) (hs : ∀ w ∈ flatC (Jvm.Cond.and given_1 narrow_1), w.before args s = true) (hA : ∀ a : Nat, a < s.heap.size → ¬ z ≤ a) : ∃ q : Nat × Nat, vk_R R_Kind 27 "licence" q.1 s ∧ va_O "java/lang/String" q.1 (fun q => z ≤ q) s s.heap ∧ va_OF "java/lang/String" "coder" "B" (.int 0) q.1 (fun q => z ≤ q) s s.heap ∧ va_OF "java/lang/String" "value" "[B" (.ref q.2) q.1 (fun q => z ≤ q) s s.heap ∧ va_T .byte q.2 ([108, 105, 99, 101, 110, 99, 101] : List Int32).length (fun j => .int (([108, 105, 99, 101, 110, 99, 101] : List Int32).getD j 0)) (fun q => z ≤ q) s s.heap :=
  tx_of (hts _ (List.mem_of_getElem? (i := 403) rfl)) (hs _ (by decide +kernel)) (hs _ (by decide +kernel)) (hs _ (by decide +kernel)) (hs _ (by decide +kernel)) (fun j hj => by
    have hj : j < 7 := hj
    rcases (show j = 0 ∨ j = 1 ∨ j = 2 ∨ j = 3 ∨ j = 4 ∨ j = 5 ∨ j = 6 by omega) with rfl | rfl | rfl | rfl | rfl | rfl | rfl <;> exact hs _ (by decide +kernel)) (by decide) hA
theorem tx_9 {args : Array Value} {s : State} {z : Nat} (hts : ∀ w ∈ lw_tbl, w.before args s = true) (hs : ∀ w ∈ flatC (Jvm.Cond.and given_1 narrow_1), w.before args s = true) (hA : ∀ a : Nat, a < s.heap.size → ¬ z ≤ a) : ∃ q : Nat × Nat, vk_R R_Kind 29 "keeper" q.1 s ∧ va_O "java/lang/String" q.1 (fun q => z ≤ q) s s.heap ∧ va_OF "java/lang/String" "coder" "B" (.int 0) q.1 (fun q => z ≤ q) s s.heap ∧ va_OF "java/lang/String" "value" "[B" (.ref q.2) q.1 (fun q => z ≤ q) s s.heap ∧ va_T .byte q.2 ([107, 101, 101, 112, 101, 114] : List Int32).length (fun j => .int (([107, 101, 101, 112, 101, 114] : List Int32).getD j 0)) (fun q => z ≤ q) s s.heap :=
  tx_of (hts _ (List.mem_of_getElem? (i := 404) rfl)) (hs _ (by decide +kernel)) (hs _ (by decide +kernel)) (hs _ (by decide +kernel)) (hs _ (by decide +kernel)) (fun j hj => by
    have hj : j < 6 := hj
    rcases (show j = 0 ∨ j = 1 ∨ j = 2 ∨ j = 3 ∨ j = 4 ∨ j = 5 by omega) with rfl | rfl | rfl | rfl | rfl | rfl <;> exact hs _ (by decide +kernel)) (by decide) hA
theorem tx_10 {args : Array Value} {s : State} {z : Nat} (hts : ∀ w ∈ lw_tbl, w.before args s = true) (hs : ∀ w ∈ flatC (Jvm.Cond.and given_1 narrow_1), w.before args s = true) (hA : ∀ a : Nat, a < s.heap.size → ¬ z ≤ a) : ∃ q : Nat × Nat, vk_R R_Kind 31 "script" q.1 s ∧ va_O "java/lang/String" q.1 (fun q => z ≤ q) s s.heap ∧ va_OF "java/lang/String" "coder" "B" (.int 0) q.1 (fun q => z ≤ q) s s.heap ∧ va_OF "java/lang/String" "value" "[B" (.ref q.2) q.1 (fun q => z ≤ q) s s.heap ∧ va_T .byte q.2 ([115, 99, 114, 105, 112, 116] : List Int32).length (fun j => .int (([115, 99, 114, 105, 112, 116] : List Int32).getD j 0)) (fun q => z ≤ q) s s.heap :=
  tx_of (hts _ (List.mem_of_getElem? (i := 405) rfl)) (hs _ (by decide +kernel)) (hs _ (by decide +kernel)) (hs _ (by decide +kernel)) (hs _ (by decide +kernel)) (fun j hj => by
    have hj : j < 6 := hj
    rcases (show j = 0 ∨ j = 1 ∨ j = 2 ∨ j = 3 ∨ j = 4 ∨ j = 5 by omega) with rfl | rfl | rfl | rfl | rfl | rfl <;> exact hs _ (by decide +kernel)) (by decide) hA
theorem tx_11 {args : Array Value} {s : State} {z : Nat} (hts : ∀ w ∈ lw_tbl, w.before args s = true) (hs : ∀ w ∈ flatC (Jvm.Cond.and given_1 narrow_1), w.before args s = true) (hA : ∀ a : Nat, a < s.heap.size → ¬ z ≤ a) : ∃ q : Nat × Nat, vk_R R_Kind 33 "file" q.1 s ∧ va_O "java/lang/String" q.1 (fun q => z ≤ q) s s.heap ∧ va_OF "java/lang/String" "coder" "B" (.int 0) q.1 (fun q => z ≤ q) s s.heap ∧ va_OF "java/lang/String" "value" "[B" (.ref q.2) q.1 (fun q => z ≤ q) s s.heap ∧ va_T .byte q.2 ([102, 105, 108, 101] : List Int32).length (fun j => .int (([102, 105, 108, 101] : List Int32).getD j 0)) (fun q => z ≤ q) s s.heap :=
  tx_of (hts _ (List.mem_of_getElem? (i := 406) rfl)) (hs _ (by decide +kernel)) (hs _ (by decide +kernel)) (hs _ (by decide +kernel)) (hs _ (by decide +kernel)) (fun j hj => by
    have hj : j < 4 := hj
    rcases (show j = 0 ∨ j = 1 ∨ j = 2 ∨ j = 3 by omega) with rfl | rfl | rfl | rfl <;> exact hs _ (by decide +kernel)) (by decide) hA
theorem tx_12 {args : Array Value} {s : State} {z : Nat} (hts : ∀ w ∈ lw_tbl, w.before args s = true) (hs : ∀ w ∈ flatC (Jvm.Cond.and given_1 narrow_1), w.before args s = true) (hA : ∀ a : Nat, a < s.heap.size → ¬ z ≤ a) : ∃ q : Nat × Nat, vk_R R_Kind 35 "need" q.1 s ∧ va_O "java/lang/String" q.1 (fun q => z ≤ q) s s.heap ∧ va_OF "java/lang/String" "coder" "B" (.int 0) q.1 (fun q => z ≤ q) s s.heap ∧ va_OF "java/lang/String" "value" "[B" (.ref q.2) q.1 (fun q => z ≤ q) s s.heap ∧ va_T .byte q.2 ([110, 101, 101, 100] : List Int32).length (fun j => .int (([110, 101, 101, 100] : List Int32).getD j 0)) (fun q => z ≤ q) s s.heap :=
  tx_of (hts _ (List.mem_of_getElem? (i := 407) rfl)) (hs _ (by decide +kernel)) (hs _ (by decide +kernel)) (hs _ (by decide +kernel)) (hs _ (by decide +kernel)) (fun j hj => by
    have hj : j < 4 := hj
    rcases (show j = 0 ∨ j = 1 ∨ j = 2 ∨ j = 3 by omega) with rfl | rfl | rfl | rfl <;> exact hs _ (by decide +kernel)) (by decide) hA
theorem tx_13 {args : Array Value} {s : State} {z : Nat} (hts : ∀ w ∈ lw_tbl, w.before args s = true) (hs : ∀ w ∈ flatC (Jvm.Cond.and given_1 narrow_1), w.before args s = true) (hA : ∀ a : Nat, a < s.heap.size → ¬ z ≤ a) : ∃ q : Nat × Nat, vk_R R_Kind 37 "build" q.1 s ∧ va_O "java/lang/String" q.1 (fun q => z ≤ q) s s.heap ∧ va_OF "java/lang/String" "coder" "B" (.int 0) q.1 (fun q => z ≤ q) s s.heap ∧ va_OF "java/lang/String" "value" "[B" (.ref q.2) q.1 (fun q => z ≤ q) s s.heap ∧ va_T .byte q.2 ([98, 117, 105, 108, 100] : List Int32).length (fun j => .int (([98, 117, 105, 108, 100] : List Int32).getD j 0)) (fun q => z ≤ q) s s.heap :=
  tx_of (hts _ (List.mem_of_getElem? (i := 415) rfl)) (hs _ (by decide +kernel)) (hs _ (by decide +kernel)) (hs _ (by decide +kernel)) (hs _ (by decide +kernel)) (fun j hj => by
    have hj : j < 5 := hj
    rcases (show j = 0 ∨ j = 1 ∨ j = 2 ∨ j = 3 ∨ j = 4 by omega) with rfl | rfl | rfl | rfl | rfl <;> exact hs _ (by decide +kernel)) (by decide) hA
theorem tx_14 {args : Array Value} {s : State} {z : Nat} (hts : ∀ w ∈ lw_tbl, w.before args s = true) (hs : ∀ w ∈ flatC (Jvm.Cond.and given_1 narrow_1), w.before args s = true) (hA : ∀ a : Nat, a < s.heap.size → ¬ z ≤ a) : ∃ q : Nat × Nat, vk_R R_Kind 39 "test" q.1 s ∧ va_O "java/lang/String" q.1 (fun q => z ≤ q) s s.heap ∧ va_OF "java/lang/String" "coder" "B" (.int 0) q.1 (fun q => z ≤ q) s s.heap ∧ va_OF "java/lang/String" "value" "[B" (.ref q.2) q.1 (fun q => z ≤ q) s s.heap ∧ va_T .byte q.2 ([116, 101, 115, 116] : List Int32).length (fun j => .int (([116, 101, 115, 116] : List Int32).getD j 0)) (fun q => z ≤ q) s s.heap :=
  tx_of (hts _ (List.mem_of_getElem? (i := 416) rfl)) (hs _ (by decide +kernel)) (hs _ (by decide +kernel)) (hs _ (by decide +kernel)) (hs _ (by decide +kernel)) (fun j hj => by
    have hj : j < 4 := hj
    rcases (show j = 0 ∨ j = 1 ∨ j = 2 ∨ j = 3 by omega) with rfl | rfl | rfl | rfl <;> exact hs _ (by decide +kernel)) (by decide) hA
theorem tx_15 {args : Array Value} {s : State} {z : Nat} (hts : ∀ w ∈ lw_tbl, w.before args s = true) (hs : ∀ w ∈ flatC (Jvm.Cond.and given_1 narrow_1), w.before args s = true) (hA : ∀ a : Nat, a < s.heap.size → ¬ z ≤ a) : ∃ q : Nat × Nat, vk_R R_Kind 41 "optional" q.1 s ∧ va_O "java/lang/String" q.1 (fun q => z ≤ q) s s.heap ∧ va_OF "java/lang/String" "coder" "B" (.int 0) q.1 (fun q => z ≤ q) s s.heap ∧ va_OF "java/lang/String" "value" "[B" (.ref q.2) q.1 (fun q => z ≤ q) s s.heap ∧ va_T .byte q.2 ([111, 112, 116, 105, 111, 110, 97, 108] : List Int32).length (fun j => .int (([111, 112, 116, 105, 111, 110, 97, 108] : List Int32).getD j 0)) (fun q => z ≤ q) s s.heap :=
  tx_of (hts _ (List.mem_of_getElem? (i := 417) rfl)) (hs _ (by decide +kernel)) (hs _ (by decide +kernel)) (hs _ (by decide +kernel)) (hs _ (by decide +kernel)) (fun j hj => by
    have hj : j < 8 := hj
    rcases (show j = 0 ∨ j = 1 ∨ j = 2 ∨ j = 3 ∨ j = 4 ∨ j = 5 ∨ j = 6 ∨ j = 7 by omega) with rfl | rfl | rfl | rfl | rfl | rfl | rfl | rfl <;> exact hs _ (by decide +kernel)) (by decide) hA
theorem tx_16 {args : Array Value} {s : State} {z : Nat} (hts : ∀ w ∈ lw_tbl, w.before args s = true) (hs : ∀ w ∈ flatC (Jvm.Cond.and given_1 narrow_1), w.before args s = true) (hA : ∀ a : Nat, a < s.heap.size → ¬ z ≤ a) : ∃ q : Nat × Nat, vk_R R_Kind 43 "peer" q.1 s ∧ va_O "java/lang/String" q.1 (fun q => z ≤ q) s s.heap ∧ va_OF "java/lang/String" "coder" "B" (.int 0) q.1 (fun q => z ≤ q) s s.heap ∧ va_OF "java/lang/String" "value" "[B" (.ref q.2) q.1 (fun q => z ≤ q) s s.heap ∧ va_T .byte q.2 ([112, 101, 101, 114] : List Int32).length (fun j => .int (([112, 101, 101, 114] : List Int32).getD j 0)) (fun q => z ≤ q) s s.heap :=
  tx_of (hts _ (List.mem_of_getElem? (i := 418) rfl)) (hs _ (by decide +kernel)) (hs _ (by decide +kernel)) (hs _ (by decide +kernel)) (hs _ (by decide +kernel)) (fun j hj => by
    have hj : j < 4 := hj
    rcases (show j = 0 ∨ j = 1 ∨ j = 2 ∨ j = 3 by omega) with rfl | rfl | rfl | rfl <;> exact hs _ (by decide +kernel)) (by decide) hA
theorem tx_17 {args : Array Value} {s : State} {z : Nat} (hts : ∀ w ∈ lw_tbl, w.before args s = true) (hs : ∀ w ∈ flatC (Jvm.Cond.and given_1 narrow_1), w.before args s = true) (hA : ∀ a : Nat, a < s.heap.size → ¬ z ≤ a) : ∃ q : Nat × Nat, vk_R R_Kind 45 "run" q.1 s ∧ va_O "java/lang/String" q.1 (fun q => z ≤ q) s s.heap ∧ va_OF "java/lang/String" "coder" "B" (.int 0) q.1 (fun q => z ≤ q) s s.heap ∧ va_OF "java/lang/String" "value" "[B" (.ref q.2) q.1 (fun q => z ≤ q) s s.heap ∧ va_T .byte q.2 ([114, 117, 110] : List Int32).length (fun j => .int (([114, 117, 110] : List Int32).getD j 0)) (fun q => z ≤ q) s s.heap :=
  tx_of (hts _ (List.mem_of_getElem? (i := 419) rfl)) (hs _ (by decide +kernel)) (hs _ (by decide +kernel)) (hs _ (by decide +kernel)) (hs _ (by decide +kernel)) (fun j hj => by
    have hj : j < 3 := hj
    rcases (show j = 0 ∨ j = 1 ∨ j = 2 by omega) with rfl | rfl | rfl <;> exact hs _ (by decide +kernel)) (by decide) hA
theorem tx_18 {args : Array Value} {s : State} {z : Nat} (hts : ∀ w ∈ lw_tbl, w.before args s = true) (hs : ∀ w ∈ flatC (Jvm.Cond.and given_1 narrow_1), w.before args s = true) (hA : ∀ a : Nat, a < s.heap.size → ¬ z ≤ a) : ∃ q : Nat × Nat, vk_R R_Printer 31 "package " q.1 s ∧ va_O "java/lang/String" q.1 (fun q => z ≤ q) s s.heap ∧ va_OF "java/lang/String" "coder" "B" (.int 0) q.1 (fun q => z ≤ q) s s.heap ∧ va_OF "java/lang/String" "value" "[B" (.ref q.2) q.1 (fun q => z ≤ q) s s.heap ∧ va_T .byte q.2 ([112, 97, 99, 107, 97, 103, 101, 32] : List Int32).length (fun j => .int (([112, 97, 99, 107, 97, 103, 101, 32] : List Int32).getD j 0)) (fun q => z ≤ q) s s.heap :=
  tx_of (hts _ (List.mem_of_getElem? (i := 724) rfl)) (hs _ (by decide +kernel)) (hs _ (by decide +kernel)) (hs _ (by decide +kernel)) (hs _ (by decide +kernel)) (fun j hj => by
    have hj : j < 8 := hj
    rcases (show j = 0 ∨ j = 1 ∨ j = 2 ∨ j = 3 ∨ j = 4 ∨ j = 5 ∨ j = 6 ∨ j = 7 by omega) with rfl | rfl | rfl | rfl | rfl | rfl | rfl | rfl <;> exact hs _ (by decide +kernel)) (by decide) hA
theorem tx_19 {args : Array Value} {s : State} {z : Nat} (hts : ∀ w ∈ lw_tbl, w.before args s = true) (hs : ∀ w ∈ flatC (Jvm.Cond.and given_1 narrow_1), w.before args s = true) (hA : ∀ a : Nat, a < s.heap.size → ¬ z ≤ a) : ∃ q : Nat × Nat, vk_R R_Printer 70 " | " q.1 s ∧ va_O "java/lang/String" q.1 (fun q => z ≤ q) s s.heap ∧ va_OF "java/lang/String" "coder" "B" (.int 0) q.1 (fun q => z ≤ q) s s.heap ∧ va_OF "java/lang/String" "value" "[B" (.ref q.2) q.1 (fun q => z ≤ q) s s.heap ∧ va_T .byte q.2 ([32, 124, 32] : List Int32).length (fun j => .int (([32, 124, 32] : List Int32).getD j 0)) (fun q => z ≤ q) s s.heap :=
  tx_of (hts _ (List.mem_of_getElem? (i := 759) rfl)) (hs _ (by decide +kernel)) (hs _ (by decide +kernel)) (hs _ (by decide +kernel)) (hs _ (by decide +kernel)) (fun j hj => by
    have hj : j < 3 := hj
    rcases (show j = 0 ∨ j = 1 ∨ j = 2 by omega) with rfl | rfl | rfl <;> exact hs _ (by decide +kernel)) (by decide) hA
theorem tx_20 {args : Array Value} {s : State} {z : Nat} (hts : ∀ w ∈ lw_tbl, w.before args s = true) (hs : ∀ w ∈ flatC (Jvm.Cond.and given_1 narrow_1), w.before args s = true) (hA : ∀ a : Nat, a < s.heap.size → ¬ z ≤ a) : ∃ q : Nat × Nat, vk_R R_Printer 72 ", " q.1 s ∧ va_O "java/lang/String" q.1 (fun q => z ≤ q) s s.heap ∧ va_OF "java/lang/String" "coder" "B" (.int 0) q.1 (fun q => z ≤ q) s s.heap ∧ va_OF "java/lang/String" "value" "[B" (.ref q.2) q.1 (fun q => z ≤ q) s s.heap ∧ va_T .byte q.2 ([44, 32] : List Int32).length (fun j => .int (([44, 32] : List Int32).getD j 0)) (fun q => z ≤ q) s s.heap :=
  tx_of (hts _ (List.mem_of_getElem? (i := 760) rfl)) (hs _ (by decide +kernel)) (hs _ (by decide +kernel)) (hs _ (by decide +kernel)) (hs _ (by decide +kernel)) (fun j hj => by
    have hj : j < 2 := hj
    rcases (show j = 0 ∨ j = 1 by omega) with rfl | rfl <;> exact hs _ (by decide +kernel)) (by decide) hA
theorem tx_21 {args : Array Value} {s : State} {z : Nat} (hts : ∀ w ∈ lw_tbl, w.before args s = true) (hs : ∀ w ∈ flatC (Jvm.Cond.and given_1 narrow_1), w.before args s = true) (hA : ∀ a : Nat, a < s.heap.size → ¬ z ≤ a) : ∃ q : Nat × Nat, vk_R R_Printer 74 "; " q.1 s ∧ va_O "java/lang/String" q.1 (fun q => z ≤ q) s s.heap ∧ va_OF "java/lang/String" "coder" "B" (.int 0) q.1 (fun q => z ≤ q) s s.heap ∧ va_OF "java/lang/String" "value" "[B" (.ref q.2) q.1 (fun q => z ≤ q) s s.heap ∧ va_T .byte q.2 ([59, 32] : List Int32).length (fun j => .int (([59, 32] : List Int32).getD j 0)) (fun q => z ≤ q) s s.heap :=
  tx_of (hts _ (List.mem_of_getElem? (i := 761) rfl)) (hs _ (by decide +kernel)) (hs _ (by decide +kernel)) (hs _ (by decide +kernel)) (hs _ (by decide +kernel)) (fun j hj => by
    have hj : j < 2 := hj
    rcases (show j = 0 ∨ j = 1 by omega) with rfl | rfl <;> exact hs _ (by decide +kernel)) (by decide) hA
theorem tx_22 {args : Array Value} {s : State} {z : Nat} (hts : ∀ w ∈ lw_tbl, w.before args s = true) (hs : ∀ w ∈ flatC (Jvm.Cond.and given_1 narrow_1), w.before args s = true) (hA : ∀ a : Nat, a < s.heap.size → ¬ z ≤ a) : ∃ q : Nat × Nat, vk_R R_Printer 102 ": " q.1 s ∧ va_O "java/lang/String" q.1 (fun q => z ≤ q) s s.heap ∧ va_OF "java/lang/String" "coder" "B" (.int 0) q.1 (fun q => z ≤ q) s s.heap ∧ va_OF "java/lang/String" "value" "[B" (.ref q.2) q.1 (fun q => z ≤ q) s s.heap ∧ va_T .byte q.2 ([58, 32] : List Int32).length (fun j => .int (([58, 32] : List Int32).getD j 0)) (fun q => z ≤ q) s s.heap :=
  tx_of (hts _ (List.mem_of_getElem? (i := 769) rfl)) (hs _ (by decide +kernel)) (hs _ (by decide +kernel)) (hs _ (by decide +kernel)) (hs _ (by decide +kernel)) (fun j hj => by
    have hj : j < 2 := hj
    rcases (show j = 0 ∨ j = 1 by omega) with rfl | rfl <;> exact hs _ (by decide +kernel)) (by decide) hA
theorem tx_23 {args : Array Value} {s : State} {z : Nat} (hts : ∀ w ∈ lw_tbl, w.before args s = true) (hs : ∀ w ∈ flatC (Jvm.Cond.and given_1 narrow_1), w.before args s = true) (hA : ∀ a : Nat, a < s.heap.size → ¬ z ≤ a) : ∃ q : Nat × Nat, vk_R R_Printer 132 "= " q.1 s ∧ va_O "java/lang/String" q.1 (fun q => z ≤ q) s s.heap ∧ va_OF "java/lang/String" "coder" "B" (.int 0) q.1 (fun q => z ≤ q) s s.heap ∧ va_OF "java/lang/String" "value" "[B" (.ref q.2) q.1 (fun q => z ≤ q) s s.heap ∧ va_T .byte q.2 ([61, 32] : List Int32).length (fun j => .int (([61, 32] : List Int32).getD j 0)) (fun q => z ≤ q) s s.heap :=
  tx_of (hts _ (List.mem_of_getElem? (i := 780) rfl)) (hs _ (by decide +kernel)) (hs _ (by decide +kernel)) (hs _ (by decide +kernel)) (hs _ (by decide +kernel)) (fun j hj => by
    have hj : j < 2 := hj
    rcases (show j = 0 ∨ j = 1 by omega) with rfl | rfl <;> exact hs _ (by decide +kernel)) (by decide) hA
theorem tx_24 {args : Array Value} {s : State} {z : Nat} (hts : ∀ w ∈ lw_tbl, w.before args s = true) (hs : ∀ w ∈ flatC (Jvm.Cond.and given_1 narrow_1), w.before args s = true) (hA : ∀ a : Nat, a < s.heap.size → ¬ z ≤ a) : ∃ q : Nat × Nat, vk_R R_Printer 134 ">= " q.1 s ∧ va_O "java/lang/String" q.1 (fun q => z ≤ q) s s.heap ∧ va_OF "java/lang/String" "coder" "B" (.int 0) q.1 (fun q => z ≤ q) s s.heap ∧ va_OF "java/lang/String" "value" "[B" (.ref q.2) q.1 (fun q => z ≤ q) s s.heap ∧ va_T .byte q.2 ([62, 61, 32] : List Int32).length (fun j => .int (([62, 61, 32] : List Int32).getD j 0)) (fun q => z ≤ q) s s.heap :=
  tx_of (hts _ (List.mem_of_getElem? (i := 781) rfl)) (hs _ (by decide +kernel)) (hs _ (by decide +kernel)) (hs _ (by decide +kernel)) (hs _ (by decide +kernel)) (fun j hj => by
    have hj : j < 3 := hj
    rcases (show j = 0 ∨ j = 1 ∨ j = 2 by omega) with rfl | rfl | rfl <;> exact hs _ (by decide +kernel)) (by decide) hA
theorem tx_25 {args : Array Value} {s : State} {z : Nat} (hts : ∀ w ∈ lw_tbl, w.before args s = true) (hs : ∀ w ∈ flatC (Jvm.Cond.and given_1 narrow_1), w.before args s = true) (hA : ∀ a : Nat, a < s.heap.size → ¬ z ≤ a) : ∃ q : Nat × Nat, vk_R R_Printer 136 "< " q.1 s ∧ va_O "java/lang/String" q.1 (fun q => z ≤ q) s s.heap ∧ va_OF "java/lang/String" "coder" "B" (.int 0) q.1 (fun q => z ≤ q) s s.heap ∧ va_OF "java/lang/String" "value" "[B" (.ref q.2) q.1 (fun q => z ≤ q) s s.heap ∧ va_T .byte q.2 ([60, 32] : List Int32).length (fun j => .int (([60, 32] : List Int32).getD j 0)) (fun q => z ≤ q) s s.heap :=
  tx_of (hts _ (List.mem_of_getElem? (i := 782) rfl)) (hs _ (by decide +kernel)) (hs _ (by decide +kernel)) (hs _ (by decide +kernel)) (hs _ (by decide +kernel)) (fun j hj => by
    have hj : j < 2 := hj
    rcases (show j = 0 ∨ j = 1 by omega) with rfl | rfl <;> exact hs _ (by decide +kernel)) (by decide) hA
theorem tx_26 {args : Array Value} {s : State} {z : Nat} (hts : ∀ w ∈ lw_tbl, w.before args s = true) (hs : ∀ w ∈ flatC (Jvm.Cond.and given_1 narrow_1), w.before args s = true) (hA : ∀ a : Nat, a < s.heap.size → ¬ z ≤ a) : ∃ q : Nat × Nat, vk_R R_Printer 128 "; feature " q.1 s ∧ va_O "java/lang/String" q.1 (fun q => z ≤ q) s s.heap ∧ va_OF "java/lang/String" "coder" "B" (.int 0) q.1 (fun q => z ≤ q) s s.heap ∧ va_OF "java/lang/String" "value" "[B" (.ref q.2) q.1 (fun q => z ≤ q) s s.heap ∧ va_T .byte q.2 ([59, 32, 102, 101, 97, 116, 117, 114, 101, 32] : List Int32).length (fun j => .int (([59, 32, 102, 101, 97, 116, 117, 114, 101, 32] : List Int32).getD j 0)) (fun q => z ≤ q) s s.heap :=
  tx_of (hts _ (List.mem_of_getElem? (i := 792) rfl)) (hs _ (by decide +kernel)) (hs _ (by decide +kernel)) (hs _ (by decide +kernel)) (hs _ (by decide +kernel)) (fun j hj => by
    have hj : j < 10 := hj
    rcases (show j = 0 ∨ j = 1 ∨ j = 2 ∨ j = 3 ∨ j = 4 ∨ j = 5 ∨ j = 6 ∨ j = 7 ∨ j = 8 ∨ j = 9 by omega) with rfl | rfl | rfl | rfl | rfl | rfl | rfl | rfl | rfl | rfl <;> exact hs _ (by decide +kernel)) (by decide) hA
set_option maxHeartbeats 4000000 in
set_option maxRecDepth 100000 in
theorem law_env {s : State} {b : Nat} (hts : ∀ w ∈ lw_tbl, w.before #[Value.ref b] s = true) (hgv : (Jvm.Cond.and given_1 narrow_1).before #[Value.ref b] s = true) : ∃ (D : va_G) (dA : Nat → ClassId) (aK aV : Nat → Nat), va_K D hCl (hTy dA) s ∧ hm_G sT aK aV s.heap.size s s.heap := by
  have hs := flat_of_before _ hgv
  have hA : ∀ a : Nat, a < s.heap.size → ¬ s.heap.size ≤ a := fun a h => Nat.not_le.mpr h
  obtain ⟨c0, iS0, hK0⟩ := u_known (C := R_PR) (T := F_PR) (N := 9) (n := 9) hts (fun w h => wsAll_in w (i_PR w h)) (hts _ (wsAll_in _ wd_919))
  obtain ⟨c1, iS1, hK1⟩ := u_known (C := R_MD) (T := F_MD) (N := 46) (n := 46) hts (fun w h => wsAll_in w (i_MD w h)) (hts _ (wsAll_in _ wd_924))
  obtain ⟨c2, iS2, hK2⟩ := u_known (C := R_Name) (T := F_Name) (N := 3) (n := 3) hts (fun w h => wsAll_in w (i_Name w h)) (hts _ (wsAll_in _ wd_121))
  obtain ⟨c3, iS3, hK3⟩ := u_known (C := R_Pack) (T := F_Pack) (N := 4) (n := 4) hts (fun w h => wsAll_in w (i_Pack w h)) (hts _ (wsAll_in _ wd_272))
  obtain ⟨c4, iS4, hK4⟩ := u_known (C := R_Pairing) (T := F_Pairing) (N := 2) (n := 2) hts (fun w h => wsAll_in w (i_Pairing w h)) (hts _ (wsAll_in _ wd_38))
  obtain ⟨c5, iS5, hK5⟩ := u_known (C := R_Printer) (T := F_Printer) (N := 2) (n := 2) hts (fun w h => wsAll_in w (i_Printer w h)) (hts _ (wsAll_in _ wd_30))
  obtain ⟨c6, iS6, hK6⟩ := u_known (C := R_Reader) (T := F_Reader) (N := 10) (n := 10) hts (fun w h => wsAll_in w (i_Reader w h)) (hts _ (wsAll_in _ wd_4))
  obtain ⟨c7, iS7, hK7⟩ := u_known (C := R_Row) (T := F_Row) (N := 8) (n := 8) hts (fun w h => wsAll_in w (i_Row w h)) (hts _ (wsAll_in _ wd_160))
  obtain ⟨c8, iS8, hK8⟩ := u_known (C := R_Scan) (T := F_Scan) (N := 9) (n := 9) hts (fun w h => wsAll_in w (i_Scan w h)) (hts _ (wsAll_in _ wd_8))
  obtain ⟨a0, k0, m0, p01, p02, p03⟩ := Cond.arrayClass_spec (hts (.arrayClass .char) (List.mem_of_getElem? (i := 124) rfl))
  obtain ⟨m1, a1, k1, p11, p12, p13, p14, p15⟩ := Cond.arrayOver_spec (hts (.arrayOver (.object R_Row)) (List.mem_of_getElem? (i := 126) rfl))
  obtain ⟨a2, k2, m2, p21, p22, p23⟩ := Cond.arrayClass_spec (hts (.arrayClass .int) (List.mem_of_getElem? (i := 161) rfl))
  obtain ⟨m3, a3, k3, p31, p32, p33, p34, p35⟩ := Cond.arrayOver_spec (hts (.arrayOver (.object R_Name)) (List.mem_of_getElem? (i := 128) rfl))
  obtain ⟨m4, a4, k4, p41, p42, p43, p44, p45⟩ := Cond.arrayOver_spec (hts (.arrayOver (.object R_Pack)) (List.mem_of_getElem? (i := 163) rfl))
  obtain ⟨a5, k5, m5, p51, p52, p53⟩ := Cond.arrayClass_spec (hts (.arrayClass .boolean) (List.mem_of_getElem? (i := 194) rfl))
  obtain ⟨a6, k6, m6, p61, p62, p63⟩ := Cond.arrayClass_spec (hts (.arrayClass .byte) (List.mem_of_getElem? (i := 361) rfl))
  obtain ⟨a7, k7, m7, p71, p72, p73⟩ := Cond.arrayClass_spec (hts (.arrayClass .long) (List.mem_of_getElem? (i := 977) rfl))
  obtain ⟨t0, ht0⟩ := tx_0 hts hs hA
  obtain ⟨t1, ht1⟩ := tx_1 hts hs hA
  obtain ⟨t2, ht2⟩ := tx_2 hts hs hA
  obtain ⟨t3, ht3⟩ := tx_3 hts hs hA
  obtain ⟨t4, ht4⟩ := tx_4 hts hs hA
  obtain ⟨t5, ht5⟩ := tx_5 hts hs hA
  obtain ⟨t6, ht6⟩ := tx_6 hts hs hA
  obtain ⟨t7, ht7⟩ := tx_7 hts hs hA
  obtain ⟨t8, ht8⟩ := tx_8 hts hs hA
  obtain ⟨t9, ht9⟩ := tx_9 hts hs hA
  obtain ⟨t10, ht10⟩ := tx_10 hts hs hA
  obtain ⟨t11, ht11⟩ := tx_11 hts hs hA
  obtain ⟨t12, ht12⟩ := tx_12 hts hs hA
  obtain ⟨t13, ht13⟩ := tx_13 hts hs hA
  obtain ⟨t14, ht14⟩ := tx_14 hts hs hA
  obtain ⟨t15, ht15⟩ := tx_15 hts hs hA
  obtain ⟨t16, ht16⟩ := tx_16 hts hs hA
  obtain ⟨t17, ht17⟩ := tx_17 hts hs hA
  obtain ⟨t18, ht18⟩ := tx_18 hts hs hA
  obtain ⟨t19, ht19⟩ := tx_19 hts hs hA
  obtain ⟨t20, ht20⟩ := tx_20 hts hs hA
  obtain ⟨t21, ht21⟩ := tx_21 hts hs hA
  obtain ⟨t22, ht22⟩ := tx_22 hts hs hA
  obtain ⟨t23, ht23⟩ := tx_23 hts hs hA
  obtain ⟨t24, ht24⟩ := tx_24 hts hs hA
  obtain ⟨t25, ht25⟩ := tx_25 hts hs hA
  obtain ⟨t26, ht26⟩ := tx_26 hts hs hA
  refine ⟨(fun k => if k = 0 then c0 else if k = 1 then c1 else if k = 2 then c2 else if k = 3 then c3 else if k = 4 then c4 else if k = 5 then c5 else if k = 6 then c6 else if k = 7 then c7 else c8, fun k => if k = 0 then iS0 else if k = 1 then iS1 else if k = 2 then iS2 else if k = 3 then iS3 else if k = 4 then iS4 else if k = 5 then iS5 else if k = 6 then iS6 else if k = 7 then iS7 else iS8), fun k => if k = 0 then a0 else if k = 1 then a1 else if k = 2 then a2 else if k = 3 then a3 else if k = 4 then a4 else if k = 5 then a5 else if k = 6 then a6 else a7, fun k => (if k = 0 then t0 else if k = 1 then t1 else if k = 2 then t2 else if k = 3 then t3 else if k = 4 then t4 else if k = 5 then t5 else if k = 6 then t6 else if k = 7 then t7 else if k = 8 then t8 else if k = 9 then t9 else if k = 10 then t10 else if k = 11 then t11 else if k = 12 then t12 else if k = 13 then t13 else if k = 14 then t14 else if k = 15 then t15 else if k = 16 then t16 else if k = 17 then t17 else if k = 18 then t18 else if k = 19 then t19 else if k = 20 then t20 else if k = 21 then t21 else if k = 22 then t22 else if k = 23 then t23 else if k = 24 then t24 else if k = 25 then t25 else t26).1, fun k => (if k = 0 then t0 else if k = 1 then t1 else if k = 2 then t2 else if k = 3 then t3 else if k = 4 then t4 else if k = 5 then t5 else if k = 6 then t6 else if k = 7 then t7 else if k = 8 then t8 else if k = 9 then t9 else if k = 10 then t10 else if k = 11 then t11 else if k = 12 then t12 else if k = 13 then t13 else if k = 14 then t14 else if k = 15 then t15 else if k = 16 then t16 else if k = 17 then t17 else if k = 18 then t18 else if k = 19 then t19 else if k = 20 then t20 else if k = 21 then t21 else if k = 22 then t22 else if k = 23 then t23 else if k = 24 then t24 else if k = 25 then t25 else t26).2, ⟨?_, ?_⟩, ?_, ?_, ?_, ?_, ?_⟩
  · intro k q hq
    match k, hq with
    | 0, hq => cases hq; exact hK0
    | 1, hq => cases hq; exact hK1
    | 2, hq => cases hq; exact hK2
    | 3, hq => cases hq; exact hK3
    | 4, hq => cases hq; exact hK4
    | 5, hq => cases hq; exact hK5
    | 6, hq => cases hq; exact hK6
    | 7, hq => cases hq; exact hK7
    | 8, hq => cases hq; exact hK8
    | k + 9, hq => simp [hCl] at hq
  · intro k q hq
    match k, hq with
    | 0, hq => cases hq; exact ⟨fun n z => ⟨fun k h => (by cases h), k0, p02, m0, p03⟩, p01⟩
    | 1, hq => cases hq; exact ⟨fun n z => ⟨fun k h => (by cases h), k1, p13, m1, p14⟩, k1, m1, p13, p14, p11, p15⟩
    | 2, hq => cases hq; exact ⟨fun n z => ⟨fun k h => (by cases h), k2, p22, m2, p23⟩, p21⟩
    | 3, hq => cases hq; exact ⟨fun n z => ⟨fun k h => (by cases h), k3, p33, m3, p34⟩, k3, m3, p33, p34, p31, p35⟩
    | 4, hq => cases hq; exact ⟨fun n z => ⟨fun k h => (by cases h), k4, p43, m4, p44⟩, k4, m4, p43, p44, p41, p45⟩
    | 5, hq => cases hq; exact ⟨fun n z => ⟨fun k h => (by cases h), k5, p52, m5, p53⟩, p51⟩
    | 6, hq => cases hq; exact ⟨fun n z => ⟨fun k h => (by cases h), k6, p62, m6, p63⟩, p61⟩
    | 7, hq => cases hq; exact ⟨fun n z => ⟨fun k h => (by cases h), k7, p72, m7, p73⟩, p71⟩
    | k + 8, hq => simp [hTy] at hq
  · intro i q hq
    match i, hq with
    | 0, hq => cases hq; exact ht0
    | 1, hq => cases hq; exact ht1
    | 2, hq => cases hq; exact ht2
    | 3, hq => cases hq; exact ht3
    | 4, hq => cases hq; exact ht4
    | 5, hq => cases hq; exact ht5
    | 6, hq => cases hq; exact ht6
    | 7, hq => cases hq; exact ht7
    | 8, hq => cases hq; exact ht8
    | 9, hq => cases hq; exact ht9
    | 10, hq => cases hq; exact ht10
    | 11, hq => cases hq; exact ht11
    | 12, hq => cases hq; exact ht12
    | 13, hq => cases hq; exact ht13
    | 14, hq => cases hq; exact ht14
    | 15, hq => cases hq; exact ht15
    | 16, hq => cases hq; exact ht16
    | 17, hq => cases hq; exact ht17
    | 18, hq => cases hq; exact ht18
    | 19, hq => cases hq; exact ht19
    | 20, hq => cases hq; exact ht20
    | 21, hq => cases hq; exact ht21
    | 22, hq => cases hq; exact ht22
    | 23, hq => cases hq; exact ht23
    | 24, hq => cases hq; exact ht24
    | 25, hq => cases hq; exact ht25
    | 26, hq => cases hq; exact ht26
    | k + 27, hq => simp [sT] at hq
  · exact va_Zof (hts _ (List.mem_of_getElem? (i := 287) rfl)) (hts _ (List.mem_of_getElem? (i := 63) rfl)) (va_eqi (hs _ (by decide +kernel))) hA
  · exact va_Zqof (hts _ (List.mem_of_getElem? (i := 303) rfl)) (hts _ (List.mem_of_getElem? (i := 65) rfl)) (hs _ (by decide +kernel)) hA
  · intro C hC
    simp only [sT, List.mem_cons, List.not_mem_nil, or_false] at hC
    rcases hC with rfl | rfl | rfl
    · exact va_AO.of (hts (.arrayOver (.object R_Row)) (List.mem_of_getElem? (i := 126) rfl))
    · exact va_AO.of (hts (.arrayOver (.object R_Name)) (List.mem_of_getElem? (i := 128) rfl))
    · exact va_AO.of (hts (.arrayOver (.object R_Pack)) (List.mem_of_getElem? (i := 163) rfl))
  · intro q hq
    simp only [sT, List.mem_cons, List.not_mem_nil, or_false] at hq
    rcases hq with rfl | rfl | rfl | rfl
    · exact va_Nw.of rfl (hts (.methodLinkNest R_Reader 11 y_Scan_init R_PR) (List.mem_of_getElem? (i := 87) rfl))
    · exact va_Nw.of rfl (hts (.methodLinkNest R_PR 11 y_Reader_init R_PR) (List.mem_of_getElem? (i := 81) rfl))
    · exact va_Nw.of rfl (hts (.methodLinkNest R_PR 29 y_Printer_init R_PR) (List.mem_of_getElem? (i := 166) rfl))
    · exact va_Nw.of rfl (hts (.methodLinkNest R_PR 36 y_Pairing_init R_PR) (List.mem_of_getElem? (i := 181) rfl))
/-- what is left of the claim when the machine is gone: the law's model, on the empty map, answers 1 within the room -/
def law_pure (B C S : Nat) : Prop := ∀ (L : Nat) (xs : Nat → Int32) (z : Nat), L ≤ B → ∃ (N : Nat) (Z : Int32 × hM), (f_LW_law N L xs).1 ((fun _ => none), z, 0) = some Z ∧ Z.1 = 1 ∧ Z.2.2.1 ≤ z + C ∧ Z.2.2.2 ≤ S
set_option maxHeartbeats 4000000 in
set_option maxRecDepth 100000 in
theorem whole_open {p : Program} {e : Env} {s : State} {m : MethodId} {below : List Frame} {meth : Method} {c : Code} (hpure : law_pure 2560 600000 7302250) (l : Launch) {b L : Nat} {xs : Nat → Int32} (hL : L ≤ 2560) (C0 : lw_At p s m meth c b L xs) : W p l e room_1 s m #[Value.ref b] below meth c s.heap [] 0 0 (lw_Z below #[Value.ref b] s) (entryFrame m ([Value.ref b] : List Value).toArray 4) := by
  obtain ⟨hx, hb, hr, hml, hown, hts, hX, hbl, hlocks, hgv⟩ := C0
  obtain ⟨D, dA, aK, aV, hK, hG⟩ := law_env hts hgv
  obtain ⟨N, Z, hf, hZ1, hZc, hZs⟩ := hpure L xs s.heap.size hL
  generalize hz : s.heap.size = z at hG hf hZc
  have hbA : ¬ (fun q : Nat => z ≤ q) b := by rw [← hz]; exact Nat.not_le.mpr hbl
  have hI : hm_I D dA hCl z 0 s ((fun _ => none), z, 0) s.heap [] 0 0 := ⟨fun a e h => (by cases h), hz, va_S.rf, fun a e h => (by cases h), Nat.le_of_eq hz.symm, by rw [hz]; rfl, rfl⟩
  have S : CallFix p m c code 4 s #[Value.ref b] ((.methodLink R_PR 3 Lib.objectInit) :: wsAll) R_LW := ⟨hx, hb, hml, hown, fun w h => hts w (wsAll_in w ((List.mem_cons.mp h).elim (fun e => by rw [e]; exact wd_0) (fun h => h)))⟩
  have hR : Z.2.2.1 - s.heap.size ≤ room_1.cells ∧ Z.2.2.2 - 0 ≤ room_1.slots := by
    rw [hz]
    exact ⟨show Z.2.2.1 - z ≤ 600000 by omega, show Z.2.2.2 - 0 ≤ 7302250 by omega⟩
  have hRf : 11 ≤ room_1.frames ∧ 243 ≤ room_1.locals := ⟨by decide, by decide⟩
  have hret : ∀ (v : Int32) (M : hM) (H : Heap) (locs : List Loc) (cells slots : Nat) (ls : Array Slot) (pc : Nat), decode code pc = .ok (.ireturn, 1) → (b_retN .boolean v).1 M = some Z → hm_I D dA hCl z 0 s M H locs cells slots → W p l e room_1 s m #[Value.ref b] below meth c H locs cells slots (lw_Z below #[Value.ref b] s) (F0 m pc ls [.int v]) := by
    intro v M H locs cells slots ls pc hdg hf hI
    dsimp only [b_retN] at hf
    split at hf
    · obtain rfl : Z = (v, M) := (Option.some.inj hf).symm
      have hv : v = 1 := hZ1
      subst hv
      obtain ⟨-, -, i3, -, -, i6, i7⟩ := hI
      have hc' : M.2.1 ≤ z + 600000 := hZc
      have hs' : M.2.2 ≤ 7302250 := hZs
      refine va_forget (fun q hq => by rw [hz]; exact i3.2.2 q hq) ?_
      refine W.widen (k := 600000) (n := 7302250) (by omega) (by omega) ?_
      exact lw_ret hx hb hr hlocks hdg
    · cases hf
  have hl := lv_entry ([.ref b]) (n := 4) (Nat.le_of_ble_eq_true rfl)
  rw [lg_entry_eq]
  generalize (lg_sl ([.ref b]) ++ List.replicate (4 - (lg_sl ([.ref b])).length) Slot.unset).toArray = ls at hl ⊢
  have hl : lv_has ls 4 [(0, .ref b)] := hl
  generalize hRe : room_1 = R at hR hRf hret ⊢
  generalize hQe : lw_Z below #[Value.ref b] s = Q at hret ⊢
  generalize hae : #[Value.ref b] = args at S hret ⊢
  rw [e_LW_law] at hf
  have w18 : ∀ (n : Nat) (x1 : Option Nat) (x2 : Option Nat) (x3 : Int32) (M : hM) (H : Heap) (locs : List Loc) (ls : Array Slot) (cells slots : Nat), (f_LW_law_18 N L xs  n x1 x2 x3).1 M = some Z → hm_I D dA hCl z 0 s M H locs cells slots → lv_has ls 4 [(0, .ref b), (1, va_rf x1), (2, va_rf x2), (3, .int x3)] → W p l e R s m args below meth c H locs cells slots Q (F0 m 18 ls []) := by
    intro n
    induction n with
    | zero => intro x1 x2 x3 M H locs ls cells slots hf hI hl; cases hf
    | succ n18 ih18 =>
      intro x1 x2 x3 M H locs ls cells slots hf hI hl
      rw [e_LW_law_18] at hf
      obtain ⟨J536, eJ536, hf⟩ := b_let_inv hf
      have w536 : ∀ (x1 : Option Nat) (x2 : Option Nat) (x3 : Int32) (M : hM) (H : Heap) (locs : List Loc) (ls : Array Slot) (cells slots : Nat), (J536 x1 x2 x3).1 M = some Z → hm_I D dA hCl z 0 s M H locs cells slots → lv_has ls 4 [(0, .ref b), (1, va_rf x1), (2, va_rf x2), (3, .int x3)] → W p l e R s m args below meth c H locs cells slots Q (F0 m 536 ls []) := by
        intro x1 x2 x3 M H locs ls cells slots hf hI hl
        rw [eJ536] at hf
        refine x_iinc (v := 5) (lv2 := [(0, .ref b), (1, va_rf x1), (2, va_rf x2)]) S d_LW_law_536 hl 3 rfl (by decide) (by decide) [0, 1, 2] rfl ⟨⟨(by decide : (0 : Nat) ≠ 3), fun h => absurd (show (0 : Nat) + 1 = 3 from h) (by decide)⟩, ⟨⟨(by decide : (1 : Nat) ≠ 3), fun h => absurd (show (1 : Nat) + 1 = 3 from h) (by decide)⟩, ⟨⟨(by decide : (2 : Nat) ≠ 3), fun _ => rf_cat _⟩, trivial⟩⟩⟩ (fun ls hl => ?_)
        refine lv_goto (tgt := 18) S.1 S.2.1 d_LW_law_539 (by decide) ?_
        exact ih18 x1 x2 (x3 + 5) _ _ _ _ _ _ hf hI (lv_sub hl [1, 2, 3, 0] rfl)
      refine lv_iload_n S.1 S.2.1 d_LW_law_18 rfl (lv_at hl 3 rfl) ?_
      refine lv_aload_n S.1 S.2.1 d_LW_law_19 rfl (lv_at hl 0 rfl) ?_
      refine va_slen S.1 S.2.1 hX hbl hbA hI.2.2.1 d_LW_law_20 ?_
      refine lv_iconst (v := 5) S.1 S.2.1 d_LW_law_21 (by decide) ?_
      refine lv_isub S.1 S.2.1 d_LW_law_22 ?_
      refine lv_icmp_gt (tgt := 542) S.1 S.2.1 d_LW_law_23 (by decide) (fun hc => ?_) (fun hc => ?_)
      · have hf := b_if_t hc hf
        refine lv_iconst (v := 1) S.1 S.2.1 d_LW_law_542 (by decide) ?_
        exact hret _ _ _ _ _ _ _ _ d_LW_law_543 hf hI
      · have hf := b_if_f hc hf
        refine lv_aload_n S.1 S.2.1 d_LW_law_26 rfl (lv_at hl 0 rfl) ?_
        refine lv_iload_n S.1 S.2.1 d_LW_law_27 rfl (lv_at hl 3 rfl) ?_
        obtain ⟨hin, hf⟩ := b_ifn hf
        refine va_sld (i := x3) S.1 S.2.1 hX hbl hbA hI.2.2.1 hin d_LW_law_28 ?_
        refine lv_bipush (v := 15) S.1 S.2.1 d_LW_law_29 (by decide) ?_
        refine lv_iand S.1 S.2.1 d_LW_law_31 ?_
        by_cases hc0 : ((xs (x3 : Int32).toNatClampNeg) &&& 15) = 0
        · have hf := b_if_t hc0 hf
          refine lv_tableIn (tgt := 104) S.1 S.2.1 d_LW_law_32 (by rw [hc0]; decide) (by rw [hc0]; decide) (by rw [hc0] <;> rfl) (by decide) ?_
          refine x_aload_n (r := x1) S d_LW_law_104 rfl (lv_at hl 1 rfl) ?_
          refine lv_aload_n S.1 S.2.1 d_LW_law_105 rfl (lv_at hl 0 rfl) ?_
          refine lv_iload_n S.1 S.2.1 d_LW_law_106 rfl (lv_at hl 3 rfl) ?_
          refine lv_iconst (v := 1) S.1 S.2.1 d_LW_law_107 (by decide) ?_
          refine lv_iadd S.1 S.2.1 d_LW_law_108 ?_
          obtain ⟨hin, hf⟩ := b_ifn hf
          refine va_sld (i := (x3 + 1)) S.1 S.2.1 hX hbl hbA hI.2.2.1 hin d_LW_law_109 ?_
          refine lv_i2l S.1 S.2.1 d_LW_law_110 rfl ?_
          refine lv_bipush (v := 32) S.1 S.2.1 d_LW_law_111 (by decide) ?_
          refine lv_lshl S.1 S.2.1 d_LW_law_113 rfl ?_
          refine lv_aload_n S.1 S.2.1 d_LW_law_114 rfl (lv_at hl 0 rfl) ?_
          refine lv_iload_n S.1 S.2.1 d_LW_law_115 rfl (lv_at hl 3 rfl) ?_
          refine lv_iconst (v := 2) S.1 S.2.1 d_LW_law_116 (by decide) ?_
          refine lv_iadd S.1 S.2.1 d_LW_law_117 ?_
          obtain ⟨hin, hf⟩ := b_ifn hf
          refine va_sld (i := (x3 + 2)) S.1 S.2.1 hX hbl hbA hI.2.2.1 hin d_LW_law_118 ?_
          refine lv_i2l S.1 S.2.1 d_LW_law_119 rfl ?_
          refine lv_ldc2 (v := 4294967295) S.1 S.2.1 S.2.2.2.1 (S.2.2.2.2 _ (List.mem_cons_of_mem _ wd_805)) d_LW_law_120 ?_
          refine lv_land S.1 S.2.1 d_LW_law_123 ?_
          refine lv_lor S.1 S.2.1 d_LW_law_124 ?_
          obtain ⟨a1, ea1, hg⟩ := b_nn_inv hf
          have hI0 := hI
          have hl0 := hl
          clear hf hI hl
          subst ea1
          have hf := hg
          have hI := hI0
          have hl := hl0
          clear hg hI0 hl0
          obtain ⟨⟨fs5, hefs5⟩, hf⟩ := b_is_inv hf
          obtain ⟨r2, N3, hg4, hf⟩ := b_call_inv hf
          refine x_call hI (hm_mo hg4) (va_runV (As := [.long (((((xs (x3 + 1 : Int32).toNatClampNeg) : Int32).toInt64) <<< ((32 : Int32).toInt64 &&& 63)) ||| ((((xs (x3 + 2 : Int32).toNatClampNeg) : Int32).toInt64) &&& 4294967295))]) (rest := []) S (c_PR_type l hg4) (cwV 1 S.2.2.2.2 (gi_V wd_806 wd_807 wd_808 wd_362 wd_809) rfl rfl rfl (by decide +kernel) ⟨Nat.le_trans (Nat.le_of_ble_eq_true rfl) hRf.1, Nat.le_trans (Nat.le_of_ble_eq_true rfl) hRf.2⟩) ⟨hm_B.blind, va_recv hK (hI.1.one hefs5) (ci := 0) (q0 := 0) rfl rfl, fun U hU hW => ⟨rfl, hm_B.of hK hG hI hU hW⟩⟩ rfl rfl hl.1 rfl (lv_room (Nat.le_of_ble_eq_true rfl)) d_LW_law_125 (hx_fit hI hR (hm_mo hg4) (hm_mo hf))) (fun H locs cells slots hI => ?_)
          refine W.eq (g2 := F0 m 128 ls []) rfl ?_
          refine x_aload_n (r := x2) S d_LW_law_128 rfl (lv_at hl 2 rfl) ?_
          refine lv_aload_n S.1 S.2.1 d_LW_law_129 rfl (lv_at hl 0 rfl) ?_
          refine lv_iload_n S.1 S.2.1 d_LW_law_130 rfl (lv_at hl 3 rfl) ?_
          refine lv_iconst (v := 1) S.1 S.2.1 d_LW_law_131 (by decide) ?_
          refine lv_iadd S.1 S.2.1 d_LW_law_132 ?_
          obtain ⟨hin, hf⟩ := b_ifn hf
          refine va_sld (i := (x3 + 1)) S.1 S.2.1 hX hbl hbA hI.2.2.1 hin d_LW_law_133 ?_
          refine lv_i2l S.1 S.2.1 d_LW_law_134 rfl ?_
          refine lv_bipush (v := 32) S.1 S.2.1 d_LW_law_135 (by decide) ?_
          refine lv_lshl S.1 S.2.1 d_LW_law_137 rfl ?_
          refine lv_aload_n S.1 S.2.1 d_LW_law_138 rfl (lv_at hl 0 rfl) ?_
          refine lv_iload_n S.1 S.2.1 d_LW_law_139 rfl (lv_at hl 3 rfl) ?_
          refine lv_iconst (v := 2) S.1 S.2.1 d_LW_law_140 (by decide) ?_
          refine lv_iadd S.1 S.2.1 d_LW_law_141 ?_
          obtain ⟨hin, hf⟩ := b_ifn hf
          refine va_sld (i := (x3 + 2)) S.1 S.2.1 hX hbl hbA hI.2.2.1 hin d_LW_law_142 ?_
          refine lv_i2l S.1 S.2.1 d_LW_law_143 rfl ?_
          refine lv_ldc2 (v := 4294967295) S.1 S.2.1 S.2.2.2.1 (S.2.2.2.2 _ (List.mem_cons_of_mem _ wd_805)) d_LW_law_144 ?_
          refine lv_land S.1 S.2.1 d_LW_law_147 ?_
          refine lv_lor S.1 S.2.1 d_LW_law_148 ?_
          obtain ⟨a6, ea6, hg⟩ := b_nn_inv hf
          have hI0 := hI
          have hl0 := hl
          clear hf hI hl
          subst ea6
          have hf := hg
          have hI := hI0
          have hl := hl0
          clear hg hI0 hl0
          obtain ⟨⟨fs10, hefs10⟩, hf⟩ := b_is_inv hf
          obtain ⟨r7, N8, hg9, hf⟩ := b_call_inv hf
          refine x_call hI (hm_mo hg9) (va_runV (As := [.long (((((xs (x3 + 1 : Int32).toNatClampNeg) : Int32).toInt64) <<< ((32 : Int32).toInt64 &&& 63)) ||| ((((xs (x3 + 2 : Int32).toNatClampNeg) : Int32).toInt64) &&& 4294967295))]) (rest := []) S (c_MD_type l hg9) (cwV 1 S.2.2.2.2 (gi_V wd_810 wd_811 wd_812 wd_564 wd_813) rfl rfl rfl (by decide +kernel) ⟨Nat.le_trans (Nat.le_of_ble_eq_true rfl) hRf.1, Nat.le_trans (Nat.le_of_ble_eq_true rfl) hRf.2⟩) ⟨hm_B.blind, va_recv hK (hI.1.one hefs10) (ci := 1) (q0 := 0) rfl rfl, fun U hU hW => ⟨rfl, hm_B.of hK hG hI hU hW⟩⟩ rfl rfl hl.1 rfl (lv_room (Nat.le_of_ble_eq_true rfl)) d_LW_law_149 (hx_fit hI hR (hm_mo hg9) (hm_mo hf))) (fun H locs cells slots hI => ?_)
          refine W.eq (g2 := F0 m 152 ls []) rfl ?_
          refine lv_goto (tgt := 536) S.1 S.2.1 d_LW_law_152 (by decide) ?_
          exact w536 (some a1) (some a6) x3 _ _ _ _ _ _ hf hI (lv_sub hl [0, 1, 2, 3] rfl)
        · have hf := b_if_f hc0 hf
          by_cases hc1 : ((xs (x3 : Int32).toNatClampNeg) &&& 15) = 1
          · have hf := b_if_t hc1 hf
            refine lv_tableIn (tgt := 155) S.1 S.2.1 d_LW_law_32 (by rw [hc1]; decide) (by rw [hc1]; decide) (by rw [hc1] <;> rfl) (by decide) ?_
            refine x_aload_n (r := x1) S d_LW_law_155 rfl (lv_at hl 1 rfl) ?_
            obtain ⟨a11, ea11, hg⟩ := b_nn_inv hf
            have hI0 := hI
            have hl0 := hl
            clear hf hI hl
            subst ea11
            have hf := hg
            have hI := hI0
            have hl := hl0
            clear hg hI0 hl0
            obtain ⟨⟨fs15, hefs15⟩, hf⟩ := b_is_inv hf
            obtain ⟨v12, N13, hg14, hf⟩ := b_call_inv hf
            refine x_call hI (hm_mo hg14) (va_runV (As := []) (rest := []) S (c_PR_read l hg14) (cwV 0 S.2.2.2.2 (gi_V wd_814 wd_815 wd_816 wd_362 wd_817) rfl rfl rfl (by decide +kernel) ⟨Nat.le_trans (Nat.le_of_ble_eq_true rfl) hRf.1, Nat.le_trans (Nat.le_of_ble_eq_true rfl) hRf.2⟩) ⟨hm_B.blind, va_recv hK (hI.1.one hefs15) (ci := 0) (q0 := 0) rfl rfl, fun U hU hW => ⟨rfl, hm_B.of hK hG hI hU hW⟩⟩ rfl rfl hl.1 rfl (lv_room (Nat.le_of_ble_eq_true rfl)) d_LW_law_156 (hx_fit hI hR (hm_mo hg14) (hm_mo hf))) (fun H locs cells slots hI => ?_)
            refine W.eq (g2 := F0 m 159 ls [.int v12]) rfl ?_
            refine x_aload_n (r := x2) S d_LW_law_159 rfl (lv_at hl 2 rfl) ?_
            obtain ⟨a16, ea16, hg⟩ := b_nn_inv hf
            have hI0 := hI
            have hl0 := hl
            clear hf hI hl
            subst ea16
            have hf := hg
            have hI := hI0
            have hl := hl0
            clear hg hI0 hl0
            obtain ⟨⟨fs20, hefs20⟩, hf⟩ := b_is_inv hf
            obtain ⟨v17, N18, hg19, hf⟩ := b_call_inv hf
            refine x_call hI (hm_mo hg19) (va_runV (As := []) (rest := [.int v12]) S (c_MD_read l hg19) (cwV 0 S.2.2.2.2 (gi_V wd_818 wd_819 wd_820 wd_564 wd_821) rfl rfl rfl (by decide +kernel) ⟨Nat.le_trans (Nat.le_of_ble_eq_true rfl) hRf.1, Nat.le_trans (Nat.le_of_ble_eq_true rfl) hRf.2⟩) ⟨hm_B.blind, va_recv hK (hI.1.one hefs20) (ci := 1) (q0 := 0) rfl rfl, fun U hU hW => ⟨rfl, hm_B.of hK hG hI hU hW⟩⟩ rfl rfl hl.1 rfl (lv_room (Nat.le_of_ble_eq_true rfl)) d_LW_law_160 (hx_fit hI hR (hm_mo hg19) (hm_mo hf))) (fun H locs cells slots hI => ?_)
            refine W.eq (g2 := F0 m 163 ls [.int v17, .int v12]) rfl ?_
            refine lv_icmp_eq (tgt := 536) S.1 S.2.1 d_LW_law_163 (by decide) (fun hc => ?_) (fun hc => ?_)
            · have hf := b_if_t hc hf
              exact w536 (some a11) (some a16) x3 _ _ _ _ _ _ hf hI (lv_sub hl [0, 1, 2, 3] rfl)
            · have hf := b_if_f hc hf
              refine lv_iconst (v := 0) S.1 S.2.1 d_LW_law_166 (by decide) ?_
              exact hret _ _ _ _ _ _ _ _ d_LW_law_167 hf hI
          · have hf := b_if_f hc1 hf
            by_cases hc2 : ((xs (x3 : Int32).toNatClampNeg) &&& 15) = 2
            · have hf := b_if_t hc2 hf
              refine lv_tableIn (tgt := 168) S.1 S.2.1 d_LW_law_32 (by rw [hc2]; decide) (by rw [hc2]; decide) (by rw [hc2] <;> rfl) (by decide) ?_
              refine x_aload_n (r := x1) S d_LW_law_168 rfl (lv_at hl 1 rfl) ?_
              refine lv_aload_n S.1 S.2.1 d_LW_law_169 rfl (lv_at hl 0 rfl) ?_
              refine lv_iload_n S.1 S.2.1 d_LW_law_170 rfl (lv_at hl 3 rfl) ?_
              refine lv_iconst (v := 1) S.1 S.2.1 d_LW_law_171 (by decide) ?_
              refine lv_iadd S.1 S.2.1 d_LW_law_172 ?_
              obtain ⟨hin, hf⟩ := b_ifn hf
              refine va_sld (i := (x3 + 1)) S.1 S.2.1 hX hbl hbA hI.2.2.1 hin d_LW_law_173 ?_
              obtain ⟨a21, ea21, hg⟩ := b_nn_inv hf
              have hI0 := hI
              have hl0 := hl
              clear hf hI hl
              subst ea21
              have hf := hg
              have hI := hI0
              have hl := hl0
              clear hg hI0 hl0
              obtain ⟨⟨fs25, hefs25⟩, hf⟩ := b_is_inv hf
              obtain ⟨v22, N23, hg24, hf⟩ := b_call_inv hf
              refine x_call hI (hm_mo hg24) (va_runV (As := [.int (xs (x3 + 1 : Int32).toNatClampNeg)]) (rest := []) S (c_PR_rows l hg24) (cwV 1 S.2.2.2.2 (gi_V wd_822 wd_823 wd_824 wd_362 wd_825) rfl rfl rfl (by decide +kernel) ⟨Nat.le_trans (Nat.le_of_ble_eq_true rfl) hRf.1, Nat.le_trans (Nat.le_of_ble_eq_true rfl) hRf.2⟩) ⟨hm_B.blind, va_recv hK (hI.1.one hefs25) (ci := 0) (q0 := 0) rfl rfl, fun U hU hW => ⟨rfl, hm_B.of hK hG hI hU hW⟩⟩ rfl rfl hl.1 rfl (lv_room (Nat.le_of_ble_eq_true rfl)) d_LW_law_174 (hx_fit hI hR (hm_mo hg24) (hm_mo hf))) (fun H locs cells slots hI => ?_)
              refine W.eq (g2 := F0 m 177 ls [.int v22]) rfl ?_
              refine x_aload_n (r := x2) S d_LW_law_177 rfl (lv_at hl 2 rfl) ?_
              refine lv_aload_n S.1 S.2.1 d_LW_law_178 rfl (lv_at hl 0 rfl) ?_
              refine lv_iload_n S.1 S.2.1 d_LW_law_179 rfl (lv_at hl 3 rfl) ?_
              refine lv_iconst (v := 1) S.1 S.2.1 d_LW_law_180 (by decide) ?_
              refine lv_iadd S.1 S.2.1 d_LW_law_181 ?_
              obtain ⟨hin, hf⟩ := b_ifn hf
              refine va_sld (i := (x3 + 1)) S.1 S.2.1 hX hbl hbA hI.2.2.1 hin d_LW_law_182 ?_
              obtain ⟨a26, ea26, hg⟩ := b_nn_inv hf
              have hI0 := hI
              have hl0 := hl
              clear hf hI hl
              subst ea26
              have hf := hg
              have hI := hI0
              have hl := hl0
              clear hg hI0 hl0
              obtain ⟨⟨fs30, hefs30⟩, hf⟩ := b_is_inv hf
              obtain ⟨v27, N28, hg29, hf⟩ := b_call_inv hf
              refine x_call hI (hm_mo hg29) (va_runV (As := [.int (xs (x3 + 1 : Int32).toNatClampNeg)]) (rest := [.int v22]) S (c_MD_rows l hg29) (cwV 1 S.2.2.2.2 (gi_V wd_826 wd_827 wd_828 wd_564 wd_829) rfl rfl rfl (by decide +kernel) ⟨Nat.le_trans (Nat.le_of_ble_eq_true rfl) hRf.1, Nat.le_trans (Nat.le_of_ble_eq_true rfl) hRf.2⟩) ⟨hm_B.blind, va_recv hK (hI.1.one hefs30) (ci := 1) (q0 := 0) rfl rfl, fun U hU hW => ⟨rfl, hm_B.of hK hG hI hU hW⟩⟩ rfl rfl hl.1 rfl (lv_room (Nat.le_of_ble_eq_true rfl)) d_LW_law_183 (hx_fit hI hR (hm_mo hg29) (hm_mo hf))) (fun H locs cells slots hI => ?_)
              refine W.eq (g2 := F0 m 186 ls [.int v27, .int v22]) rfl ?_
              refine lv_icmp_eq (tgt := 536) S.1 S.2.1 d_LW_law_186 (by decide) (fun hc => ?_) (fun hc => ?_)
              · have hf := b_if_t hc hf
                exact w536 (some a21) (some a26) x3 _ _ _ _ _ _ hf hI (lv_sub hl [0, 1, 2, 3] rfl)
              · have hf := b_if_f hc hf
                refine lv_iconst (v := 0) S.1 S.2.1 d_LW_law_189 (by decide) ?_
                exact hret _ _ _ _ _ _ _ _ d_LW_law_190 hf hI
            · have hf := b_if_f hc2 hf
              by_cases hc3 : ((xs (x3 : Int32).toNatClampNeg) &&& 15) = 3
              · have hf := b_if_t hc3 hf
                refine lv_tableIn (tgt := 191) S.1 S.2.1 d_LW_law_32 (by rw [hc3]; decide) (by rw [hc3]; decide) (by rw [hc3] <;> rfl) (by decide) ?_
                refine x_aload_n (r := x1) S d_LW_law_191 rfl (lv_at hl 1 rfl) ?_
                refine lv_aload_n S.1 S.2.1 d_LW_law_192 rfl (lv_at hl 0 rfl) ?_
                refine lv_iload_n S.1 S.2.1 d_LW_law_193 rfl (lv_at hl 3 rfl) ?_
                refine lv_iconst (v := 1) S.1 S.2.1 d_LW_law_194 (by decide) ?_
                refine lv_iadd S.1 S.2.1 d_LW_law_195 ?_
                obtain ⟨hin, hf⟩ := b_ifn hf
                refine va_sld (i := (x3 + 1)) S.1 S.2.1 hX hbl hbA hI.2.2.1 hin d_LW_law_196 ?_
                refine lv_aload_n S.1 S.2.1 d_LW_law_197 rfl (lv_at hl 0 rfl) ?_
                refine lv_iload_n S.1 S.2.1 d_LW_law_198 rfl (lv_at hl 3 rfl) ?_
                refine lv_iconst (v := 2) S.1 S.2.1 d_LW_law_199 (by decide) ?_
                refine lv_iadd S.1 S.2.1 d_LW_law_200 ?_
                obtain ⟨hin, hf⟩ := b_ifn hf
                refine va_sld (i := (x3 + 2)) S.1 S.2.1 hX hbl hbA hI.2.2.1 hin d_LW_law_201 ?_
                refine lv_aload_n S.1 S.2.1 d_LW_law_202 rfl (lv_at hl 0 rfl) ?_
                refine lv_iload_n S.1 S.2.1 d_LW_law_203 rfl (lv_at hl 3 rfl) ?_
                refine lv_iconst (v := 3) S.1 S.2.1 d_LW_law_204 (by decide) ?_
                refine lv_iadd S.1 S.2.1 d_LW_law_205 ?_
                obtain ⟨hin, hf⟩ := b_ifn hf
                refine va_sld (i := (x3 + 3)) S.1 S.2.1 hX hbl hbA hI.2.2.1 hin d_LW_law_206 ?_
                obtain ⟨a31, ea31, hg⟩ := b_nn_inv hf
                have hI0 := hI
                have hl0 := hl
                clear hf hI hl
                subst ea31
                have hf := hg
                have hI := hI0
                have hl := hl0
                clear hg hI0 hl0
                obtain ⟨⟨fs35, hefs35⟩, hf⟩ := b_is_inv hf
                obtain ⟨v32, N33, hg34, hf⟩ := b_call_inv hf
                refine x_call hI (hm_mo hg34) (va_runV (As := [.int (xs (x3 + 1 : Int32).toNatClampNeg), .int (xs (x3 + 2 : Int32).toNatClampNeg), .int (xs (x3 + 3 : Int32).toNatClampNeg)]) (rest := []) S (c_PR_row l hg34) (cwV 3 S.2.2.2.2 (gi_V wd_830 wd_831 wd_832 wd_362 wd_833) rfl rfl rfl (by decide +kernel) ⟨Nat.le_trans (Nat.le_of_ble_eq_true rfl) hRf.1, Nat.le_trans (Nat.le_of_ble_eq_true rfl) hRf.2⟩) ⟨hm_B.blind, va_recv hK (hI.1.one hefs35) (ci := 0) (q0 := 0) rfl rfl, fun U hU hW => ⟨rfl, hm_B.of hK hG hI hU hW⟩⟩ rfl rfl hl.1 rfl (lv_room (Nat.le_of_ble_eq_true rfl)) d_LW_law_207 (hx_fit hI hR (hm_mo hg34) (hm_mo hf))) (fun H locs cells slots hI => ?_)
                refine W.eq (g2 := F0 m 210 ls [.int v32]) rfl ?_
                refine x_aload_n (r := x2) S d_LW_law_210 rfl (lv_at hl 2 rfl) ?_
                refine lv_aload_n S.1 S.2.1 d_LW_law_211 rfl (lv_at hl 0 rfl) ?_
                refine lv_iload_n S.1 S.2.1 d_LW_law_212 rfl (lv_at hl 3 rfl) ?_
                refine lv_iconst (v := 1) S.1 S.2.1 d_LW_law_213 (by decide) ?_
                refine lv_iadd S.1 S.2.1 d_LW_law_214 ?_
                obtain ⟨hin, hf⟩ := b_ifn hf
                refine va_sld (i := (x3 + 1)) S.1 S.2.1 hX hbl hbA hI.2.2.1 hin d_LW_law_215 ?_
                refine lv_aload_n S.1 S.2.1 d_LW_law_216 rfl (lv_at hl 0 rfl) ?_
                refine lv_iload_n S.1 S.2.1 d_LW_law_217 rfl (lv_at hl 3 rfl) ?_
                refine lv_iconst (v := 2) S.1 S.2.1 d_LW_law_218 (by decide) ?_
                refine lv_iadd S.1 S.2.1 d_LW_law_219 ?_
                obtain ⟨hin, hf⟩ := b_ifn hf
                refine va_sld (i := (x3 + 2)) S.1 S.2.1 hX hbl hbA hI.2.2.1 hin d_LW_law_220 ?_
                refine lv_aload_n S.1 S.2.1 d_LW_law_221 rfl (lv_at hl 0 rfl) ?_
                refine lv_iload_n S.1 S.2.1 d_LW_law_222 rfl (lv_at hl 3 rfl) ?_
                refine lv_iconst (v := 3) S.1 S.2.1 d_LW_law_223 (by decide) ?_
                refine lv_iadd S.1 S.2.1 d_LW_law_224 ?_
                obtain ⟨hin, hf⟩ := b_ifn hf
                refine va_sld (i := (x3 + 3)) S.1 S.2.1 hX hbl hbA hI.2.2.1 hin d_LW_law_225 ?_
                obtain ⟨a36, ea36, hg⟩ := b_nn_inv hf
                have hI0 := hI
                have hl0 := hl
                clear hf hI hl
                subst ea36
                have hf := hg
                have hI := hI0
                have hl := hl0
                clear hg hI0 hl0
                obtain ⟨⟨fs40, hefs40⟩, hf⟩ := b_is_inv hf
                obtain ⟨v37, N38, hg39, hf⟩ := b_call_inv hf
                refine x_call hI (hm_mo hg39) (va_runV (As := [.int (xs (x3 + 1 : Int32).toNatClampNeg), .int (xs (x3 + 2 : Int32).toNatClampNeg), .int (xs (x3 + 3 : Int32).toNatClampNeg)]) (rest := [.int v32]) S (c_MD_row l hg39) (cwV 3 S.2.2.2.2 (gi_V wd_834 wd_835 wd_836 wd_564 wd_837) rfl rfl rfl (by decide +kernel) ⟨Nat.le_trans (Nat.le_of_ble_eq_true rfl) hRf.1, Nat.le_trans (Nat.le_of_ble_eq_true rfl) hRf.2⟩) ⟨hm_B.blind, va_recv hK (hI.1.one hefs40) (ci := 1) (q0 := 0) rfl rfl, fun U hU hW => ⟨rfl, hm_B.of hK hG hI hU hW⟩⟩ rfl rfl hl.1 rfl (lv_room (Nat.le_of_ble_eq_true rfl)) d_LW_law_226 (hx_fit hI hR (hm_mo hg39) (hm_mo hf))) (fun H locs cells slots hI => ?_)
                refine W.eq (g2 := F0 m 229 ls [.int v37, .int v32]) rfl ?_
                refine lv_icmp_eq (tgt := 536) S.1 S.2.1 d_LW_law_229 (by decide) (fun hc => ?_) (fun hc => ?_)
                · have hf := b_if_t hc hf
                  exact w536 (some a31) (some a36) x3 _ _ _ _ _ _ hf hI (lv_sub hl [0, 1, 2, 3] rfl)
                · have hf := b_if_f hc hf
                  refine lv_iconst (v := 0) S.1 S.2.1 d_LW_law_232 (by decide) ?_
                  exact hret _ _ _ _ _ _ _ _ d_LW_law_233 hf hI
              · have hf := b_if_f hc3 hf
                by_cases hc4 : ((xs (x3 : Int32).toNatClampNeg) &&& 15) = 4
                · have hf := b_if_t hc4 hf
                  refine lv_tableIn (tgt := 234) S.1 S.2.1 d_LW_law_32 (by rw [hc4]; decide) (by rw [hc4]; decide) (by rw [hc4] <;> rfl) (by decide) ?_
                  refine x_aload_n (r := x1) S d_LW_law_234 rfl (lv_at hl 1 rfl) ?_
                  refine lv_aload_n S.1 S.2.1 d_LW_law_235 rfl (lv_at hl 0 rfl) ?_
                  refine lv_iload_n S.1 S.2.1 d_LW_law_236 rfl (lv_at hl 3 rfl) ?_
                  refine lv_iconst (v := 1) S.1 S.2.1 d_LW_law_237 (by decide) ?_
                  refine lv_iadd S.1 S.2.1 d_LW_law_238 ?_
                  obtain ⟨hin, hf⟩ := b_ifn hf
                  refine va_sld (i := (x3 + 1)) S.1 S.2.1 hX hbl hbA hI.2.2.1 hin d_LW_law_239 ?_
                  refine lv_aload_n S.1 S.2.1 d_LW_law_240 rfl (lv_at hl 0 rfl) ?_
                  refine lv_iload_n S.1 S.2.1 d_LW_law_241 rfl (lv_at hl 3 rfl) ?_
                  refine lv_iconst (v := 2) S.1 S.2.1 d_LW_law_242 (by decide) ?_
                  refine lv_iadd S.1 S.2.1 d_LW_law_243 ?_
                  obtain ⟨hin, hf⟩ := b_ifn hf
                  refine va_sld (i := (x3 + 2)) S.1 S.2.1 hX hbl hbA hI.2.2.1 hin d_LW_law_244 ?_
                  refine lv_aload_n S.1 S.2.1 d_LW_law_245 rfl (lv_at hl 0 rfl) ?_
                  refine lv_iload_n S.1 S.2.1 d_LW_law_246 rfl (lv_at hl 3 rfl) ?_
                  refine lv_iconst (v := 3) S.1 S.2.1 d_LW_law_247 (by decide) ?_
                  refine lv_iadd S.1 S.2.1 d_LW_law_248 ?_
                  obtain ⟨hin, hf⟩ := b_ifn hf
                  refine va_sld (i := (x3 + 3)) S.1 S.2.1 hX hbl hbA hI.2.2.1 hin d_LW_law_249 ?_
                  refine lv_aload_n S.1 S.2.1 d_LW_law_250 rfl (lv_at hl 0 rfl) ?_
                  refine lv_iload_n S.1 S.2.1 d_LW_law_251 rfl (lv_at hl 3 rfl) ?_
                  refine lv_iconst (v := 4) S.1 S.2.1 d_LW_law_252 (by decide) ?_
                  refine lv_iadd S.1 S.2.1 d_LW_law_253 ?_
                  obtain ⟨hin, hf⟩ := b_ifn hf
                  refine va_sld (i := (x3 + 4)) S.1 S.2.1 hX hbl hbA hI.2.2.1 hin d_LW_law_254 ?_
                  obtain ⟨a41, ea41, hg⟩ := b_nn_inv hf
                  have hI0 := hI
                  have hl0 := hl
                  clear hf hI hl
                  subst ea41
                  have hf := hg
                  have hI := hI0
                  have hl := hl0
                  clear hg hI0 hl0
                  obtain ⟨⟨fs45, hefs45⟩, hf⟩ := b_is_inv hf
                  obtain ⟨v42, N43, hg44, hf⟩ := b_call_inv hf
                  refine x_call hI (hm_mo hg44) (va_runV (As := [.int (xs (x3 + 1 : Int32).toNatClampNeg), .int (xs (x3 + 2 : Int32).toNatClampNeg), .int (xs (x3 + 3 : Int32).toNatClampNeg), .int (xs (x3 + 4 : Int32).toNatClampNeg)]) (rest := []) S (c_PR_letter l hg44) (cwV 4 S.2.2.2.2 (gi_V wd_838 wd_839 wd_840 wd_362 wd_841) rfl rfl rfl (by decide +kernel) ⟨Nat.le_trans (Nat.le_of_ble_eq_true rfl) hRf.1, Nat.le_trans (Nat.le_of_ble_eq_true rfl) hRf.2⟩) ⟨hm_B.blind, va_recv hK (hI.1.one hefs45) (ci := 0) (q0 := 0) rfl rfl, fun U hU hW => ⟨rfl, hm_B.of hK hG hI hU hW⟩⟩ rfl rfl hl.1 rfl (lv_room (Nat.le_of_ble_eq_true rfl)) d_LW_law_255 (hx_fit hI hR (hm_mo hg44) (hm_mo hf))) (fun H locs cells slots hI => ?_)
                  refine W.eq (g2 := F0 m 258 ls [.int v42]) rfl ?_
                  refine x_aload_n (r := x2) S d_LW_law_258 rfl (lv_at hl 2 rfl) ?_
                  refine lv_aload_n S.1 S.2.1 d_LW_law_259 rfl (lv_at hl 0 rfl) ?_
                  refine lv_iload_n S.1 S.2.1 d_LW_law_260 rfl (lv_at hl 3 rfl) ?_
                  refine lv_iconst (v := 1) S.1 S.2.1 d_LW_law_261 (by decide) ?_
                  refine lv_iadd S.1 S.2.1 d_LW_law_262 ?_
                  obtain ⟨hin, hf⟩ := b_ifn hf
                  refine va_sld (i := (x3 + 1)) S.1 S.2.1 hX hbl hbA hI.2.2.1 hin d_LW_law_263 ?_
                  refine lv_aload_n S.1 S.2.1 d_LW_law_264 rfl (lv_at hl 0 rfl) ?_
                  refine lv_iload_n S.1 S.2.1 d_LW_law_265 rfl (lv_at hl 3 rfl) ?_
                  refine lv_iconst (v := 2) S.1 S.2.1 d_LW_law_266 (by decide) ?_
                  refine lv_iadd S.1 S.2.1 d_LW_law_267 ?_
                  obtain ⟨hin, hf⟩ := b_ifn hf
                  refine va_sld (i := (x3 + 2)) S.1 S.2.1 hX hbl hbA hI.2.2.1 hin d_LW_law_268 ?_
                  refine lv_aload_n S.1 S.2.1 d_LW_law_269 rfl (lv_at hl 0 rfl) ?_
                  refine lv_iload_n S.1 S.2.1 d_LW_law_270 rfl (lv_at hl 3 rfl) ?_
                  refine lv_iconst (v := 3) S.1 S.2.1 d_LW_law_271 (by decide) ?_
                  refine lv_iadd S.1 S.2.1 d_LW_law_272 ?_
                  obtain ⟨hin, hf⟩ := b_ifn hf
                  refine va_sld (i := (x3 + 3)) S.1 S.2.1 hX hbl hbA hI.2.2.1 hin d_LW_law_273 ?_
                  refine lv_aload_n S.1 S.2.1 d_LW_law_274 rfl (lv_at hl 0 rfl) ?_
                  refine lv_iload_n S.1 S.2.1 d_LW_law_275 rfl (lv_at hl 3 rfl) ?_
                  refine lv_iconst (v := 4) S.1 S.2.1 d_LW_law_276 (by decide) ?_
                  refine lv_iadd S.1 S.2.1 d_LW_law_277 ?_
                  obtain ⟨hin, hf⟩ := b_ifn hf
                  refine va_sld (i := (x3 + 4)) S.1 S.2.1 hX hbl hbA hI.2.2.1 hin d_LW_law_278 ?_
                  obtain ⟨a46, ea46, hg⟩ := b_nn_inv hf
                  have hI0 := hI
                  have hl0 := hl
                  clear hf hI hl
                  subst ea46
                  have hf := hg
                  have hI := hI0
                  have hl := hl0
                  clear hg hI0 hl0
                  obtain ⟨⟨fs50, hefs50⟩, hf⟩ := b_is_inv hf
                  obtain ⟨v47, N48, hg49, hf⟩ := b_call_inv hf
                  refine x_call hI (hm_mo hg49) (va_runV (As := [.int (xs (x3 + 1 : Int32).toNatClampNeg), .int (xs (x3 + 2 : Int32).toNatClampNeg), .int (xs (x3 + 3 : Int32).toNatClampNeg), .int (xs (x3 + 4 : Int32).toNatClampNeg)]) (rest := [.int v42]) S (c_MD_letter l hg49) (cwV 4 S.2.2.2.2 (gi_V wd_842 wd_843 wd_844 wd_564 wd_845) rfl rfl rfl (by decide +kernel) ⟨Nat.le_trans (Nat.le_of_ble_eq_true rfl) hRf.1, Nat.le_trans (Nat.le_of_ble_eq_true rfl) hRf.2⟩) ⟨hm_B.blind, va_recv hK (hI.1.one hefs50) (ci := 1) (q0 := 0) rfl rfl, fun U hU hW => ⟨rfl, hm_B.of hK hG hI hU hW⟩⟩ rfl rfl hl.1 rfl (lv_room (Nat.le_of_ble_eq_true rfl)) d_LW_law_279 (hx_fit hI hR (hm_mo hg49) (hm_mo hf))) (fun H locs cells slots hI => ?_)
                  refine W.eq (g2 := F0 m 282 ls [.int v47, .int v42]) rfl ?_
                  refine lv_icmp_eq (tgt := 536) S.1 S.2.1 d_LW_law_282 (by decide) (fun hc => ?_) (fun hc => ?_)
                  · have hf := b_if_t hc hf
                    exact w536 (some a41) (some a46) x3 _ _ _ _ _ _ hf hI (lv_sub hl [0, 1, 2, 3] rfl)
                  · have hf := b_if_f hc hf
                    refine lv_iconst (v := 0) S.1 S.2.1 d_LW_law_285 (by decide) ?_
                    exact hret _ _ _ _ _ _ _ _ d_LW_law_286 hf hI
                · have hf := b_if_f hc4 hf
                  by_cases hc5 : ((xs (x3 : Int32).toNatClampNeg) &&& 15) = 5
                  · have hf := b_if_t hc5 hf
                    refine lv_tableIn (tgt := 287) S.1 S.2.1 d_LW_law_32 (by rw [hc5]; decide) (by rw [hc5]; decide) (by rw [hc5] <;> rfl) (by decide) ?_
                    refine x_aload_n (r := x1) S d_LW_law_287 rfl (lv_at hl 1 rfl) ?_
                    refine lv_aload_n S.1 S.2.1 d_LW_law_288 rfl (lv_at hl 0 rfl) ?_
                    refine lv_iload_n S.1 S.2.1 d_LW_law_289 rfl (lv_at hl 3 rfl) ?_
                    refine lv_iconst (v := 1) S.1 S.2.1 d_LW_law_290 (by decide) ?_
                    refine lv_iadd S.1 S.2.1 d_LW_law_291 ?_
                    obtain ⟨hin, hf⟩ := b_ifn hf
                    refine va_sld (i := (x3 + 1)) S.1 S.2.1 hX hbl hbA hI.2.2.1 hin d_LW_law_292 ?_
                    refine lv_aload_n S.1 S.2.1 d_LW_law_293 rfl (lv_at hl 0 rfl) ?_
                    refine lv_iload_n S.1 S.2.1 d_LW_law_294 rfl (lv_at hl 3 rfl) ?_
                    refine lv_iconst (v := 2) S.1 S.2.1 d_LW_law_295 (by decide) ?_
                    refine lv_iadd S.1 S.2.1 d_LW_law_296 ?_
                    obtain ⟨hin, hf⟩ := b_ifn hf
                    refine va_sld (i := (x3 + 2)) S.1 S.2.1 hX hbl hbA hI.2.2.1 hin d_LW_law_297 ?_
                    obtain ⟨a51, ea51, hg⟩ := b_nn_inv hf
                    have hI0 := hI
                    have hl0 := hl
                    clear hf hI hl
                    subst ea51
                    have hf := hg
                    have hI := hI0
                    have hl := hl0
                    clear hg hI0 hl0
                    obtain ⟨⟨fs55, hefs55⟩, hf⟩ := b_is_inv hf
                    obtain ⟨v52, N53, hg54, hf⟩ := b_call_inv hf
                    refine x_call hI (hm_mo hg54) (va_runV (As := [.int (xs (x3 + 1 : Int32).toNatClampNeg), .int (xs (x3 + 2 : Int32).toNatClampNeg)]) (rest := []) S (c_PR_low l hg54) (cwV 2 S.2.2.2.2 (gi_V wd_846 wd_847 wd_848 wd_362 wd_849) rfl rfl rfl (by decide +kernel) ⟨Nat.le_trans (Nat.le_of_ble_eq_true rfl) hRf.1, Nat.le_trans (Nat.le_of_ble_eq_true rfl) hRf.2⟩) ⟨hm_B.blind, va_recv hK (hI.1.one hefs55) (ci := 0) (q0 := 0) rfl rfl, fun U hU hW => ⟨rfl, hm_B.of hK hG hI hU hW⟩⟩ rfl rfl hl.1 rfl (lv_room (Nat.le_of_ble_eq_true rfl)) d_LW_law_298 (hx_fit hI hR (hm_mo hg54) (hm_mo hf))) (fun H locs cells slots hI => ?_)
                    refine W.eq (g2 := F0 m 301 ls [.long v52]) rfl ?_
                    refine x_aload_n (r := x2) S d_LW_law_301 rfl (lv_at hl 2 rfl) ?_
                    refine lv_aload_n S.1 S.2.1 d_LW_law_302 rfl (lv_at hl 0 rfl) ?_
                    refine lv_iload_n S.1 S.2.1 d_LW_law_303 rfl (lv_at hl 3 rfl) ?_
                    refine lv_iconst (v := 1) S.1 S.2.1 d_LW_law_304 (by decide) ?_
                    refine lv_iadd S.1 S.2.1 d_LW_law_305 ?_
                    obtain ⟨hin, hf⟩ := b_ifn hf
                    refine va_sld (i := (x3 + 1)) S.1 S.2.1 hX hbl hbA hI.2.2.1 hin d_LW_law_306 ?_
                    refine lv_aload_n S.1 S.2.1 d_LW_law_307 rfl (lv_at hl 0 rfl) ?_
                    refine lv_iload_n S.1 S.2.1 d_LW_law_308 rfl (lv_at hl 3 rfl) ?_
                    refine lv_iconst (v := 2) S.1 S.2.1 d_LW_law_309 (by decide) ?_
                    refine lv_iadd S.1 S.2.1 d_LW_law_310 ?_
                    obtain ⟨hin, hf⟩ := b_ifn hf
                    refine va_sld (i := (x3 + 2)) S.1 S.2.1 hX hbl hbA hI.2.2.1 hin d_LW_law_311 ?_
                    obtain ⟨a56, ea56, hg⟩ := b_nn_inv hf
                    have hI0 := hI
                    have hl0 := hl
                    clear hf hI hl
                    subst ea56
                    have hf := hg
                    have hI := hI0
                    have hl := hl0
                    clear hg hI0 hl0
                    obtain ⟨⟨fs60, hefs60⟩, hf⟩ := b_is_inv hf
                    obtain ⟨v57, N58, hg59, hf⟩ := b_call_inv hf
                    refine x_call hI (hm_mo hg59) (va_runV (As := [.int (xs (x3 + 1 : Int32).toNatClampNeg), .int (xs (x3 + 2 : Int32).toNatClampNeg)]) (rest := [.long v52]) S (c_MD_low l hg59) (cwV 2 S.2.2.2.2 (gi_V wd_850 wd_851 wd_852 wd_564 wd_853) rfl rfl rfl (by decide +kernel) ⟨Nat.le_trans (Nat.le_of_ble_eq_true rfl) hRf.1, Nat.le_trans (Nat.le_of_ble_eq_true rfl) hRf.2⟩) ⟨hm_B.blind, va_recv hK (hI.1.one hefs60) (ci := 1) (q0 := 0) rfl rfl, fun U hU hW => ⟨rfl, hm_B.of hK hG hI hU hW⟩⟩ rfl rfl hl.1 rfl (lv_room (Nat.le_of_ble_eq_true rfl)) d_LW_law_312 (hx_fit hI hR (hm_mo hg59) (hm_mo hf))) (fun H locs cells slots hI => ?_)
                    refine W.eq (g2 := F0 m 315 ls [.long v57, .long v52]) rfl ?_
                    refine W.lcmp S.1 S.2.1 d_LW_law_315 ?_
                    refine lv_if_eq (tgt := 536) S.1 S.2.1 d_LW_law_316 (by decide) (fun hc => ?_) (fun hc => ?_)
                    · have hf := b_if_t hc hf
                      exact w536 (some a51) (some a56) x3 _ _ _ _ _ _ hf hI (lv_sub hl [0, 1, 2, 3] rfl)
                    · have hf := b_if_f hc hf
                      refine lv_iconst (v := 0) S.1 S.2.1 d_LW_law_319 (by decide) ?_
                      exact hret _ _ _ _ _ _ _ _ d_LW_law_320 hf hI
                  · have hf := b_if_f hc5 hf
                    by_cases hc6 : ((xs (x3 : Int32).toNatClampNeg) &&& 15) = 6
                    · have hf := b_if_t hc6 hf
                      refine lv_tableIn (tgt := 321) S.1 S.2.1 d_LW_law_32 (by rw [hc6]; decide) (by rw [hc6]; decide) (by rw [hc6] <;> rfl) (by decide) ?_
                      refine x_aload_n (r := x1) S d_LW_law_321 rfl (lv_at hl 1 rfl) ?_
                      refine lv_aload_n S.1 S.2.1 d_LW_law_322 rfl (lv_at hl 0 rfl) ?_
                      refine lv_iload_n S.1 S.2.1 d_LW_law_323 rfl (lv_at hl 3 rfl) ?_
                      refine lv_iconst (v := 1) S.1 S.2.1 d_LW_law_324 (by decide) ?_
                      refine lv_iadd S.1 S.2.1 d_LW_law_325 ?_
                      obtain ⟨hin, hf⟩ := b_ifn hf
                      refine va_sld (i := (x3 + 1)) S.1 S.2.1 hX hbl hbA hI.2.2.1 hin d_LW_law_326 ?_
                      refine lv_aload_n S.1 S.2.1 d_LW_law_327 rfl (lv_at hl 0 rfl) ?_
                      refine lv_iload_n S.1 S.2.1 d_LW_law_328 rfl (lv_at hl 3 rfl) ?_
                      refine lv_iconst (v := 2) S.1 S.2.1 d_LW_law_329 (by decide) ?_
                      refine lv_iadd S.1 S.2.1 d_LW_law_330 ?_
                      obtain ⟨hin, hf⟩ := b_ifn hf
                      refine va_sld (i := (x3 + 2)) S.1 S.2.1 hX hbl hbA hI.2.2.1 hin d_LW_law_331 ?_
                      obtain ⟨a61, ea61, hg⟩ := b_nn_inv hf
                      have hI0 := hI
                      have hl0 := hl
                      clear hf hI hl
                      subst ea61
                      have hf := hg
                      have hI := hI0
                      have hl := hl0
                      clear hg hI0 hl0
                      obtain ⟨⟨fs65, hefs65⟩, hf⟩ := b_is_inv hf
                      obtain ⟨v62, N63, hg64, hf⟩ := b_call_inv hf
                      refine x_call hI (hm_mo hg64) (va_runV (As := [.int (xs (x3 + 1 : Int32).toNatClampNeg), .int (xs (x3 + 2 : Int32).toNatClampNeg)]) (rest := []) S (c_PR_high l hg64) (cwV 2 S.2.2.2.2 (gi_V wd_854 wd_855 wd_856 wd_362 wd_857) rfl rfl rfl (by decide +kernel) ⟨Nat.le_trans (Nat.le_of_ble_eq_true rfl) hRf.1, Nat.le_trans (Nat.le_of_ble_eq_true rfl) hRf.2⟩) ⟨hm_B.blind, va_recv hK (hI.1.one hefs65) (ci := 0) (q0 := 0) rfl rfl, fun U hU hW => ⟨rfl, hm_B.of hK hG hI hU hW⟩⟩ rfl rfl hl.1 rfl (lv_room (Nat.le_of_ble_eq_true rfl)) d_LW_law_332 (hx_fit hI hR (hm_mo hg64) (hm_mo hf))) (fun H locs cells slots hI => ?_)
                      refine W.eq (g2 := F0 m 335 ls [.long v62]) rfl ?_
                      refine x_aload_n (r := x2) S d_LW_law_335 rfl (lv_at hl 2 rfl) ?_
                      refine lv_aload_n S.1 S.2.1 d_LW_law_336 rfl (lv_at hl 0 rfl) ?_
                      refine lv_iload_n S.1 S.2.1 d_LW_law_337 rfl (lv_at hl 3 rfl) ?_
                      refine lv_iconst (v := 1) S.1 S.2.1 d_LW_law_338 (by decide) ?_
                      refine lv_iadd S.1 S.2.1 d_LW_law_339 ?_
                      obtain ⟨hin, hf⟩ := b_ifn hf
                      refine va_sld (i := (x3 + 1)) S.1 S.2.1 hX hbl hbA hI.2.2.1 hin d_LW_law_340 ?_
                      refine lv_aload_n S.1 S.2.1 d_LW_law_341 rfl (lv_at hl 0 rfl) ?_
                      refine lv_iload_n S.1 S.2.1 d_LW_law_342 rfl (lv_at hl 3 rfl) ?_
                      refine lv_iconst (v := 2) S.1 S.2.1 d_LW_law_343 (by decide) ?_
                      refine lv_iadd S.1 S.2.1 d_LW_law_344 ?_
                      obtain ⟨hin, hf⟩ := b_ifn hf
                      refine va_sld (i := (x3 + 2)) S.1 S.2.1 hX hbl hbA hI.2.2.1 hin d_LW_law_345 ?_
                      obtain ⟨a66, ea66, hg⟩ := b_nn_inv hf
                      have hI0 := hI
                      have hl0 := hl
                      clear hf hI hl
                      subst ea66
                      have hf := hg
                      have hI := hI0
                      have hl := hl0
                      clear hg hI0 hl0
                      obtain ⟨⟨fs70, hefs70⟩, hf⟩ := b_is_inv hf
                      obtain ⟨v67, N68, hg69, hf⟩ := b_call_inv hf
                      refine x_call hI (hm_mo hg69) (va_runV (As := [.int (xs (x3 + 1 : Int32).toNatClampNeg), .int (xs (x3 + 2 : Int32).toNatClampNeg)]) (rest := [.long v62]) S (c_MD_high l hg69) (cwV 2 S.2.2.2.2 (gi_V wd_858 wd_859 wd_860 wd_564 wd_861) rfl rfl rfl (by decide +kernel) ⟨Nat.le_trans (Nat.le_of_ble_eq_true rfl) hRf.1, Nat.le_trans (Nat.le_of_ble_eq_true rfl) hRf.2⟩) ⟨hm_B.blind, va_recv hK (hI.1.one hefs70) (ci := 1) (q0 := 0) rfl rfl, fun U hU hW => ⟨rfl, hm_B.of hK hG hI hU hW⟩⟩ rfl rfl hl.1 rfl (lv_room (Nat.le_of_ble_eq_true rfl)) d_LW_law_346 (hx_fit hI hR (hm_mo hg69) (hm_mo hf))) (fun H locs cells slots hI => ?_)
                      refine W.eq (g2 := F0 m 349 ls [.long v67, .long v62]) rfl ?_
                      refine W.lcmp S.1 S.2.1 d_LW_law_349 ?_
                      refine lv_if_eq (tgt := 536) S.1 S.2.1 d_LW_law_350 (by decide) (fun hc => ?_) (fun hc => ?_)
                      · have hf := b_if_t hc hf
                        exact w536 (some a61) (some a66) x3 _ _ _ _ _ _ hf hI (lv_sub hl [0, 1, 2, 3] rfl)
                      · have hf := b_if_f hc hf
                        refine lv_iconst (v := 0) S.1 S.2.1 d_LW_law_353 (by decide) ?_
                        exact hret _ _ _ _ _ _ _ _ d_LW_law_354 hf hI
                    · have hf := b_if_f hc6 hf
                      by_cases hc7 : ((xs (x3 : Int32).toNatClampNeg) &&& 15) = 7
                      · have hf := b_if_t hc7 hf
                        refine lv_tableIn (tgt := 355) S.1 S.2.1 d_LW_law_32 (by rw [hc7]; decide) (by rw [hc7]; decide) (by rw [hc7] <;> rfl) (by decide) ?_
                        refine x_aload_n (r := x1) S d_LW_law_355 rfl (lv_at hl 1 rfl) ?_
                        refine lv_aload_n S.1 S.2.1 d_LW_law_356 rfl (lv_at hl 0 rfl) ?_
                        refine lv_iload_n S.1 S.2.1 d_LW_law_357 rfl (lv_at hl 3 rfl) ?_
                        refine lv_iconst (v := 1) S.1 S.2.1 d_LW_law_358 (by decide) ?_
                        refine lv_iadd S.1 S.2.1 d_LW_law_359 ?_
                        obtain ⟨hin, hf⟩ := b_ifn hf
                        refine va_sld (i := (x3 + 1)) S.1 S.2.1 hX hbl hbA hI.2.2.1 hin d_LW_law_360 ?_
                        obtain ⟨a71, ea71, hg⟩ := b_nn_inv hf
                        have hI0 := hI
                        have hl0 := hl
                        clear hf hI hl
                        subst ea71
                        have hf := hg
                        have hI := hI0
                        have hl := hl0
                        clear hg hI0 hl0
                        obtain ⟨⟨fs75, hefs75⟩, hf⟩ := b_is_inv hf
                        obtain ⟨v72, N73, hg74, hf⟩ := b_call_inv hf
                        refine x_call hI (hm_mo hg74) (va_runV (As := [.int (xs (x3 + 1 : Int32).toNatClampNeg)]) (rest := []) S (c_PR_check l hg74) (cwV 1 S.2.2.2.2 (gi_V wd_862 wd_863 wd_864 wd_362 wd_865) rfl rfl rfl (by decide +kernel) ⟨Nat.le_trans (Nat.le_of_ble_eq_true rfl) hRf.1, Nat.le_trans (Nat.le_of_ble_eq_true rfl) hRf.2⟩) ⟨hm_B.blind, va_recv hK (hI.1.one hefs75) (ci := 0) (q0 := 0) rfl rfl, fun U hU hW => ⟨rfl, hm_B.of hK hG hI hU hW⟩⟩ rfl rfl hl.1 rfl (lv_room (Nat.le_of_ble_eq_true rfl)) d_LW_law_361 (hx_fit hI hR (hm_mo hg74) (hm_mo hf))) (fun H locs cells slots hI => ?_)
                        refine W.eq (g2 := F0 m 364 ls [.int v72]) rfl ?_
                        refine x_aload_n (r := x2) S d_LW_law_364 rfl (lv_at hl 2 rfl) ?_
                        refine lv_aload_n S.1 S.2.1 d_LW_law_365 rfl (lv_at hl 0 rfl) ?_
                        refine lv_iload_n S.1 S.2.1 d_LW_law_366 rfl (lv_at hl 3 rfl) ?_
                        refine lv_iconst (v := 1) S.1 S.2.1 d_LW_law_367 (by decide) ?_
                        refine lv_iadd S.1 S.2.1 d_LW_law_368 ?_
                        obtain ⟨hin, hf⟩ := b_ifn hf
                        refine va_sld (i := (x3 + 1)) S.1 S.2.1 hX hbl hbA hI.2.2.1 hin d_LW_law_369 ?_
                        obtain ⟨a76, ea76, hg⟩ := b_nn_inv hf
                        have hI0 := hI
                        have hl0 := hl
                        clear hf hI hl
                        subst ea76
                        have hf := hg
                        have hI := hI0
                        have hl := hl0
                        clear hg hI0 hl0
                        obtain ⟨⟨fs80, hefs80⟩, hf⟩ := b_is_inv hf
                        obtain ⟨v77, N78, hg79, hf⟩ := b_call_inv hf
                        refine x_call hI (hm_mo hg79) (va_runV (As := [.int (xs (x3 + 1 : Int32).toNatClampNeg)]) (rest := [.int v72]) S (c_MD_check l hg79) (cwV 1 S.2.2.2.2 (gi_V wd_866 wd_867 wd_868 wd_564 wd_869) rfl rfl rfl (by decide +kernel) ⟨Nat.le_trans (Nat.le_of_ble_eq_true rfl) hRf.1, Nat.le_trans (Nat.le_of_ble_eq_true rfl) hRf.2⟩) ⟨hm_B.blind, va_recv hK (hI.1.one hefs80) (ci := 1) (q0 := 0) rfl rfl, fun U hU hW => ⟨rfl, hm_B.of hK hG hI hU hW⟩⟩ rfl rfl hl.1 rfl (lv_room (Nat.le_of_ble_eq_true rfl)) d_LW_law_370 (hx_fit hI hR (hm_mo hg79) (hm_mo hf))) (fun H locs cells slots hI => ?_)
                        refine W.eq (g2 := F0 m 373 ls [.int v77, .int v72]) rfl ?_
                        refine lv_icmp_eq (tgt := 536) S.1 S.2.1 d_LW_law_373 (by decide) (fun hc => ?_) (fun hc => ?_)
                        · have hf := b_if_t hc hf
                          exact w536 (some a71) (some a76) x3 _ _ _ _ _ _ hf hI (lv_sub hl [0, 1, 2, 3] rfl)
                        · have hf := b_if_f hc hf
                          refine lv_iconst (v := 0) S.1 S.2.1 d_LW_law_376 (by decide) ?_
                          exact hret _ _ _ _ _ _ _ _ d_LW_law_377 hf hI
                      · have hf := b_if_f hc7 hf
                        by_cases hc8 : ((xs (x3 : Int32).toNatClampNeg) &&& 15) = 8
                        · have hf := b_if_t hc8 hf
                          refine lv_tableIn (tgt := 378) S.1 S.2.1 d_LW_law_32 (by rw [hc8]; decide) (by rw [hc8]; decide) (by rw [hc8] <;> rfl) (by decide) ?_
                          refine x_aload_n (r := x1) S d_LW_law_378 rfl (lv_at hl 1 rfl) ?_
                          refine lv_aload_n S.1 S.2.1 d_LW_law_379 rfl (lv_at hl 0 rfl) ?_
                          refine lv_iload_n S.1 S.2.1 d_LW_law_380 rfl (lv_at hl 3 rfl) ?_
                          refine lv_iconst (v := 1) S.1 S.2.1 d_LW_law_381 (by decide) ?_
                          refine lv_iadd S.1 S.2.1 d_LW_law_382 ?_
                          obtain ⟨hin, hf⟩ := b_ifn hf
                          refine va_sld (i := (x3 + 1)) S.1 S.2.1 hX hbl hbA hI.2.2.1 hin d_LW_law_383 ?_
                          refine lv_aload_n S.1 S.2.1 d_LW_law_384 rfl (lv_at hl 0 rfl) ?_
                          refine lv_iload_n S.1 S.2.1 d_LW_law_385 rfl (lv_at hl 3 rfl) ?_
                          refine lv_iconst (v := 2) S.1 S.2.1 d_LW_law_386 (by decide) ?_
                          refine lv_iadd S.1 S.2.1 d_LW_law_387 ?_
                          obtain ⟨hin, hf⟩ := b_ifn hf
                          refine va_sld (i := (x3 + 2)) S.1 S.2.1 hX hbl hbA hI.2.2.1 hin d_LW_law_388 ?_
                          obtain ⟨a81, ea81, hg⟩ := b_nn_inv hf
                          have hI0 := hI
                          have hl0 := hl
                          clear hf hI hl
                          subst ea81
                          have hf := hg
                          have hI := hI0
                          have hl := hl0
                          clear hg hI0 hl0
                          obtain ⟨⟨fs85, hefs85⟩, hf⟩ := b_is_inv hf
                          obtain ⟨v82, N83, hg84, hf⟩ := b_call_inv hf
                          refine x_call hI (hm_mo hg84) (va_runV (As := [.int (xs (x3 + 1 : Int32).toNatClampNeg), .int (xs (x3 + 2 : Int32).toNatClampNeg)]) (rest := []) S (c_PR_same l hg84) (cwV 2 S.2.2.2.2 (gi_V wd_870 wd_871 wd_872 wd_362 wd_873) rfl rfl rfl (by decide +kernel) ⟨Nat.le_trans (Nat.le_of_ble_eq_true rfl) hRf.1, Nat.le_trans (Nat.le_of_ble_eq_true rfl) hRf.2⟩) ⟨hm_B.blind, va_recv hK (hI.1.one hefs85) (ci := 0) (q0 := 0) rfl rfl, fun U hU hW => ⟨rfl, hm_B.of hK hG hI hU hW⟩⟩ rfl rfl hl.1 rfl (lv_room (Nat.le_of_ble_eq_true rfl)) d_LW_law_389 (hx_fit hI hR (hm_mo hg84) (hm_mo hf))) (fun H locs cells slots hI => ?_)
                          refine W.eq (g2 := F0 m 392 ls [.int v82]) rfl ?_
                          refine x_aload_n (r := x2) S d_LW_law_392 rfl (lv_at hl 2 rfl) ?_
                          refine lv_aload_n S.1 S.2.1 d_LW_law_393 rfl (lv_at hl 0 rfl) ?_
                          refine lv_iload_n S.1 S.2.1 d_LW_law_394 rfl (lv_at hl 3 rfl) ?_
                          refine lv_iconst (v := 1) S.1 S.2.1 d_LW_law_395 (by decide) ?_
                          refine lv_iadd S.1 S.2.1 d_LW_law_396 ?_
                          obtain ⟨hin, hf⟩ := b_ifn hf
                          refine va_sld (i := (x3 + 1)) S.1 S.2.1 hX hbl hbA hI.2.2.1 hin d_LW_law_397 ?_
                          refine lv_aload_n S.1 S.2.1 d_LW_law_398 rfl (lv_at hl 0 rfl) ?_
                          refine lv_iload_n S.1 S.2.1 d_LW_law_399 rfl (lv_at hl 3 rfl) ?_
                          refine lv_iconst (v := 2) S.1 S.2.1 d_LW_law_400 (by decide) ?_
                          refine lv_iadd S.1 S.2.1 d_LW_law_401 ?_
                          obtain ⟨hin, hf⟩ := b_ifn hf
                          refine va_sld (i := (x3 + 2)) S.1 S.2.1 hX hbl hbA hI.2.2.1 hin d_LW_law_402 ?_
                          obtain ⟨a86, ea86, hg⟩ := b_nn_inv hf
                          have hI0 := hI
                          have hl0 := hl
                          clear hf hI hl
                          subst ea86
                          have hf := hg
                          have hI := hI0
                          have hl := hl0
                          clear hg hI0 hl0
                          obtain ⟨⟨fs90, hefs90⟩, hf⟩ := b_is_inv hf
                          obtain ⟨v87, N88, hg89, hf⟩ := b_call_inv hf
                          refine x_call hI (hm_mo hg89) (va_runV (As := [.int (xs (x3 + 1 : Int32).toNatClampNeg), .int (xs (x3 + 2 : Int32).toNatClampNeg)]) (rest := [.int v82]) S (c_MD_same l hg89) (cwV 2 S.2.2.2.2 (gi_V wd_874 wd_875 wd_876 wd_564 wd_877) rfl rfl rfl (by decide +kernel) ⟨Nat.le_trans (Nat.le_of_ble_eq_true rfl) hRf.1, Nat.le_trans (Nat.le_of_ble_eq_true rfl) hRf.2⟩) ⟨hm_B.blind, va_recv hK (hI.1.one hefs90) (ci := 1) (q0 := 0) rfl rfl, fun U hU hW => ⟨rfl, hm_B.of hK hG hI hU hW⟩⟩ rfl rfl hl.1 rfl (lv_room (Nat.le_of_ble_eq_true rfl)) d_LW_law_403 (hx_fit hI hR (hm_mo hg89) (hm_mo hf))) (fun H locs cells slots hI => ?_)
                          refine W.eq (g2 := F0 m 406 ls [.int v87, .int v82]) rfl ?_
                          refine lv_icmp_eq (tgt := 536) S.1 S.2.1 d_LW_law_406 (by decide) (fun hc => ?_) (fun hc => ?_)
                          · have hf := b_if_t hc hf
                            exact w536 (some a81) (some a86) x3 _ _ _ _ _ _ hf hI (lv_sub hl [0, 1, 2, 3] rfl)
                          · have hf := b_if_f hc hf
                            refine lv_iconst (v := 0) S.1 S.2.1 d_LW_law_409 (by decide) ?_
                            exact hret _ _ _ _ _ _ _ _ d_LW_law_410 hf hI
                        · have hf := b_if_f hc8 hf
                          by_cases hc9 : ((xs (x3 : Int32).toNatClampNeg) &&& 15) = 9
                          · have hf := b_if_t hc9 hf
                            refine lv_tableIn (tgt := 411) S.1 S.2.1 d_LW_law_32 (by rw [hc9]; decide) (by rw [hc9]; decide) (by rw [hc9] <;> rfl) (by decide) ?_
                            refine x_aload_n (r := x1) S d_LW_law_411 rfl (lv_at hl 1 rfl) ?_
                            refine lv_aload_n S.1 S.2.1 d_LW_law_412 rfl (lv_at hl 0 rfl) ?_
                            refine lv_iload_n S.1 S.2.1 d_LW_law_413 rfl (lv_at hl 3 rfl) ?_
                            refine lv_iconst (v := 1) S.1 S.2.1 d_LW_law_414 (by decide) ?_
                            refine lv_iadd S.1 S.2.1 d_LW_law_415 ?_
                            obtain ⟨hin, hf⟩ := b_ifn hf
                            refine va_sld (i := (x3 + 1)) S.1 S.2.1 hX hbl hbA hI.2.2.1 hin d_LW_law_416 ?_
                            refine lv_aload_n S.1 S.2.1 d_LW_law_417 rfl (lv_at hl 0 rfl) ?_
                            refine lv_iload_n S.1 S.2.1 d_LW_law_418 rfl (lv_at hl 3 rfl) ?_
                            refine lv_iconst (v := 2) S.1 S.2.1 d_LW_law_419 (by decide) ?_
                            refine lv_iadd S.1 S.2.1 d_LW_law_420 ?_
                            obtain ⟨hin, hf⟩ := b_ifn hf
                            refine va_sld (i := (x3 + 2)) S.1 S.2.1 hX hbl hbA hI.2.2.1 hin d_LW_law_421 ?_
                            obtain ⟨a91, ea91, hg⟩ := b_nn_inv hf
                            have hI0 := hI
                            have hl0 := hl
                            clear hf hI hl
                            subst ea91
                            have hf := hg
                            have hI := hI0
                            have hl := hl0
                            clear hg hI0 hl0
                            obtain ⟨⟨fs95, hefs95⟩, hf⟩ := b_is_inv hf
                            obtain ⟨v92, N93, hg94, hf⟩ := b_call_inv hf
                            refine x_call hI (hm_mo hg94) (va_runV (As := [.int (xs (x3 + 1 : Int32).toNatClampNeg), .int (xs (x3 + 2 : Int32).toNatClampNeg)]) (rest := []) S (c_PR_differ l hg94) (cwV 2 S.2.2.2.2 (gi_V wd_878 wd_879 wd_880 wd_362 wd_881) rfl rfl rfl (by decide +kernel) ⟨Nat.le_trans (Nat.le_of_ble_eq_true rfl) hRf.1, Nat.le_trans (Nat.le_of_ble_eq_true rfl) hRf.2⟩) ⟨hm_B.blind, va_recv hK (hI.1.one hefs95) (ci := 0) (q0 := 0) rfl rfl, fun U hU hW => ⟨rfl, hm_B.of hK hG hI hU hW⟩⟩ rfl rfl hl.1 rfl (lv_room (Nat.le_of_ble_eq_true rfl)) d_LW_law_422 (hx_fit hI hR (hm_mo hg94) (hm_mo hf))) (fun H locs cells slots hI => ?_)
                            refine W.eq (g2 := F0 m 425 ls [.int v92]) rfl ?_
                            refine x_aload_n (r := x2) S d_LW_law_425 rfl (lv_at hl 2 rfl) ?_
                            refine lv_aload_n S.1 S.2.1 d_LW_law_426 rfl (lv_at hl 0 rfl) ?_
                            refine lv_iload_n S.1 S.2.1 d_LW_law_427 rfl (lv_at hl 3 rfl) ?_
                            refine lv_iconst (v := 1) S.1 S.2.1 d_LW_law_428 (by decide) ?_
                            refine lv_iadd S.1 S.2.1 d_LW_law_429 ?_
                            obtain ⟨hin, hf⟩ := b_ifn hf
                            refine va_sld (i := (x3 + 1)) S.1 S.2.1 hX hbl hbA hI.2.2.1 hin d_LW_law_430 ?_
                            refine lv_aload_n S.1 S.2.1 d_LW_law_431 rfl (lv_at hl 0 rfl) ?_
                            refine lv_iload_n S.1 S.2.1 d_LW_law_432 rfl (lv_at hl 3 rfl) ?_
                            refine lv_iconst (v := 2) S.1 S.2.1 d_LW_law_433 (by decide) ?_
                            refine lv_iadd S.1 S.2.1 d_LW_law_434 ?_
                            obtain ⟨hin, hf⟩ := b_ifn hf
                            refine va_sld (i := (x3 + 2)) S.1 S.2.1 hX hbl hbA hI.2.2.1 hin d_LW_law_435 ?_
                            obtain ⟨a96, ea96, hg⟩ := b_nn_inv hf
                            have hI0 := hI
                            have hl0 := hl
                            clear hf hI hl
                            subst ea96
                            have hf := hg
                            have hI := hI0
                            have hl := hl0
                            clear hg hI0 hl0
                            obtain ⟨⟨fs100, hefs100⟩, hf⟩ := b_is_inv hf
                            obtain ⟨v97, N98, hg99, hf⟩ := b_call_inv hf
                            refine x_call hI (hm_mo hg99) (va_runV (As := [.int (xs (x3 + 1 : Int32).toNatClampNeg), .int (xs (x3 + 2 : Int32).toNatClampNeg)]) (rest := [.int v92]) S (c_MD_differ l hg99) (cwV 2 S.2.2.2.2 (gi_V wd_882 wd_883 wd_884 wd_564 wd_885) rfl rfl rfl (by decide +kernel) ⟨Nat.le_trans (Nat.le_of_ble_eq_true rfl) hRf.1, Nat.le_trans (Nat.le_of_ble_eq_true rfl) hRf.2⟩) ⟨hm_B.blind, va_recv hK (hI.1.one hefs100) (ci := 1) (q0 := 0) rfl rfl, fun U hU hW => ⟨rfl, hm_B.of hK hG hI hU hW⟩⟩ rfl rfl hl.1 rfl (lv_room (Nat.le_of_ble_eq_true rfl)) d_LW_law_436 (hx_fit hI hR (hm_mo hg99) (hm_mo hf))) (fun H locs cells slots hI => ?_)
                            refine W.eq (g2 := F0 m 439 ls [.int v97, .int v92]) rfl ?_
                            refine lv_icmp_eq (tgt := 536) S.1 S.2.1 d_LW_law_439 (by decide) (fun hc => ?_) (fun hc => ?_)
                            · have hf := b_if_t hc hf
                              exact w536 (some a91) (some a96) x3 _ _ _ _ _ _ hf hI (lv_sub hl [0, 1, 2, 3] rfl)
                            · have hf := b_if_f hc hf
                              refine lv_iconst (v := 0) S.1 S.2.1 d_LW_law_442 (by decide) ?_
                              exact hret _ _ _ _ _ _ _ _ d_LW_law_443 hf hI
                          · have hf := b_if_f hc9 hf
                            by_cases hc10 : ((xs (x3 : Int32).toNatClampNeg) &&& 15) = 10
                            · have hf := b_if_t hc10 hf
                              refine lv_tableIn (tgt := 444) S.1 S.2.1 d_LW_law_32 (by rw [hc10]; decide) (by rw [hc10]; decide) (by rw [hc10] <;> rfl) (by decide) ?_
                              refine x_aload_n (r := x1) S d_LW_law_444 rfl (lv_at hl 1 rfl) ?_
                              refine lv_aload_n S.1 S.2.1 d_LW_law_445 rfl (lv_at hl 0 rfl) ?_
                              refine lv_iload_n S.1 S.2.1 d_LW_law_446 rfl (lv_at hl 3 rfl) ?_
                              refine lv_iconst (v := 1) S.1 S.2.1 d_LW_law_447 (by decide) ?_
                              refine lv_iadd S.1 S.2.1 d_LW_law_448 ?_
                              obtain ⟨hin, hf⟩ := b_ifn hf
                              refine va_sld (i := (x3 + 1)) S.1 S.2.1 hX hbl hbA hI.2.2.1 hin d_LW_law_449 ?_
                              refine lv_aload_n S.1 S.2.1 d_LW_law_450 rfl (lv_at hl 0 rfl) ?_
                              refine lv_iload_n S.1 S.2.1 d_LW_law_451 rfl (lv_at hl 3 rfl) ?_
                              refine lv_iconst (v := 2) S.1 S.2.1 d_LW_law_452 (by decide) ?_
                              refine lv_iadd S.1 S.2.1 d_LW_law_453 ?_
                              obtain ⟨hin, hf⟩ := b_ifn hf
                              refine va_sld (i := (x3 + 2)) S.1 S.2.1 hX hbl hbA hI.2.2.1 hin d_LW_law_454 ?_
                              obtain ⟨a101, ea101, hg⟩ := b_nn_inv hf
                              have hI0 := hI
                              have hl0 := hl
                              clear hf hI hl
                              subst ea101
                              have hf := hg
                              have hI := hI0
                              have hl := hl0
                              clear hg hI0 hl0
                              obtain ⟨⟨fs105, hefs105⟩, hf⟩ := b_is_inv hf
                              obtain ⟨v102, N103, hg104, hf⟩ := b_call_inv hf
                              refine x_call hI (hm_mo hg104) (va_runV (As := [.int (xs (x3 + 1 : Int32).toNatClampNeg), .int (xs (x3 + 2 : Int32).toNatClampNeg)]) (rest := []) S (c_PR_change l hg104) (cwV 2 S.2.2.2.2 (gi_V wd_886 wd_887 wd_888 wd_362 wd_889) rfl rfl rfl (by decide +kernel) ⟨Nat.le_trans (Nat.le_of_ble_eq_true rfl) hRf.1, Nat.le_trans (Nat.le_of_ble_eq_true rfl) hRf.2⟩) ⟨hm_B.blind, va_recv hK (hI.1.one hefs105) (ci := 0) (q0 := 0) rfl rfl, fun U hU hW => ⟨rfl, hm_B.of hK hG hI hU hW⟩⟩ rfl rfl hl.1 rfl (lv_room (Nat.le_of_ble_eq_true rfl)) d_LW_law_455 (hx_fit hI hR (hm_mo hg104) (hm_mo hf))) (fun H locs cells slots hI => ?_)
                              refine W.eq (g2 := F0 m 458 ls [.int v102]) rfl ?_
                              refine x_aload_n (r := x2) S d_LW_law_458 rfl (lv_at hl 2 rfl) ?_
                              refine lv_aload_n S.1 S.2.1 d_LW_law_459 rfl (lv_at hl 0 rfl) ?_
                              refine lv_iload_n S.1 S.2.1 d_LW_law_460 rfl (lv_at hl 3 rfl) ?_
                              refine lv_iconst (v := 1) S.1 S.2.1 d_LW_law_461 (by decide) ?_
                              refine lv_iadd S.1 S.2.1 d_LW_law_462 ?_
                              obtain ⟨hin, hf⟩ := b_ifn hf
                              refine va_sld (i := (x3 + 1)) S.1 S.2.1 hX hbl hbA hI.2.2.1 hin d_LW_law_463 ?_
                              refine lv_aload_n S.1 S.2.1 d_LW_law_464 rfl (lv_at hl 0 rfl) ?_
                              refine lv_iload_n S.1 S.2.1 d_LW_law_465 rfl (lv_at hl 3 rfl) ?_
                              refine lv_iconst (v := 2) S.1 S.2.1 d_LW_law_466 (by decide) ?_
                              refine lv_iadd S.1 S.2.1 d_LW_law_467 ?_
                              obtain ⟨hin, hf⟩ := b_ifn hf
                              refine va_sld (i := (x3 + 2)) S.1 S.2.1 hX hbl hbA hI.2.2.1 hin d_LW_law_468 ?_
                              obtain ⟨a106, ea106, hg⟩ := b_nn_inv hf
                              have hI0 := hI
                              have hl0 := hl
                              clear hf hI hl
                              subst ea106
                              have hf := hg
                              have hI := hI0
                              have hl := hl0
                              clear hg hI0 hl0
                              obtain ⟨⟨fs110, hefs110⟩, hf⟩ := b_is_inv hf
                              obtain ⟨v107, N108, hg109, hf⟩ := b_call_inv hf
                              refine x_call hI (hm_mo hg109) (va_runV (As := [.int (xs (x3 + 1 : Int32).toNatClampNeg), .int (xs (x3 + 2 : Int32).toNatClampNeg)]) (rest := [.int v102]) S (c_MD_change l hg109) (cwV 2 S.2.2.2.2 (gi_V wd_890 wd_891 wd_892 wd_564 wd_893) rfl rfl rfl (by decide +kernel) ⟨Nat.le_trans (Nat.le_of_ble_eq_true rfl) hRf.1, Nat.le_trans (Nat.le_of_ble_eq_true rfl) hRf.2⟩) ⟨hm_B.blind, va_recv hK (hI.1.one hefs110) (ci := 1) (q0 := 0) rfl rfl, fun U hU hW => ⟨rfl, hm_B.of hK hG hI hU hW⟩⟩ rfl rfl hl.1 rfl (lv_room (Nat.le_of_ble_eq_true rfl)) d_LW_law_469 (hx_fit hI hR (hm_mo hg109) (hm_mo hf))) (fun H locs cells slots hI => ?_)
                              refine W.eq (g2 := F0 m 472 ls [.int v107, .int v102]) rfl ?_
                              refine lv_icmp_eq (tgt := 536) S.1 S.2.1 d_LW_law_472 (by decide) (fun hc => ?_) (fun hc => ?_)
                              · have hf := b_if_t hc hf
                                exact w536 (some a101) (some a106) x3 _ _ _ _ _ _ hf hI (lv_sub hl [0, 1, 2, 3] rfl)
                              · have hf := b_if_f hc hf
                                refine lv_iconst (v := 0) S.1 S.2.1 d_LW_law_475 (by decide) ?_
                                exact hret _ _ _ _ _ _ _ _ d_LW_law_476 hf hI
                            · have hf := b_if_f hc10 hf
                              by_cases hc11 : ((xs (x3 : Int32).toNatClampNeg) &&& 15) = 11
                              · have hf := b_if_t hc11 hf
                                refine lv_tableIn (tgt := 477) S.1 S.2.1 d_LW_law_32 (by rw [hc11]; decide) (by rw [hc11]; decide) (by rw [hc11] <;> rfl) (by decide) ?_
                                refine x_aload_n (r := x1) S d_LW_law_477 rfl (lv_at hl 1 rfl) ?_
                                refine lv_aload_n S.1 S.2.1 d_LW_law_478 rfl (lv_at hl 0 rfl) ?_
                                refine lv_iload_n S.1 S.2.1 d_LW_law_479 rfl (lv_at hl 3 rfl) ?_
                                refine lv_iconst (v := 1) S.1 S.2.1 d_LW_law_480 (by decide) ?_
                                refine lv_iadd S.1 S.2.1 d_LW_law_481 ?_
                                obtain ⟨hin, hf⟩ := b_ifn hf
                                refine va_sld (i := (x3 + 1)) S.1 S.2.1 hX hbl hbA hI.2.2.1 hin d_LW_law_482 ?_
                                obtain ⟨a111, ea111, hg⟩ := b_nn_inv hf
                                have hI0 := hI
                                have hl0 := hl
                                clear hf hI hl
                                subst ea111
                                have hf := hg
                                have hI := hI0
                                have hl := hl0
                                clear hg hI0 hl0
                                obtain ⟨⟨fs115, hefs115⟩, hf⟩ := b_is_inv hf
                                obtain ⟨v112, N113, hg114, hf⟩ := b_call_inv hf
                                refine x_call hI (hm_mo hg114) (va_runV (As := [.int (xs (x3 + 1 : Int32).toNatClampNeg)]) (rest := []) S (c_PR_print l hg114) (cwV 1 S.2.2.2.2 (gi_V wd_894 wd_895 wd_896 wd_362 wd_897) rfl rfl rfl (by decide +kernel) ⟨Nat.le_trans (Nat.le_of_ble_eq_true rfl) hRf.1, Nat.le_trans (Nat.le_of_ble_eq_true rfl) hRf.2⟩) ⟨hm_B.blind, va_recv hK (hI.1.one hefs115) (ci := 0) (q0 := 0) rfl rfl, fun U hU hW => ⟨rfl, hm_B.of hK hG hI hU hW⟩⟩ rfl rfl hl.1 rfl (lv_room (Nat.le_of_ble_eq_true rfl)) d_LW_law_483 (hx_fit hI hR (hm_mo hg114) (hm_mo hf))) (fun H locs cells slots hI => ?_)
                                refine W.eq (g2 := F0 m 486 ls [.int v112]) rfl ?_
                                refine x_aload_n (r := x2) S d_LW_law_486 rfl (lv_at hl 2 rfl) ?_
                                refine lv_aload_n S.1 S.2.1 d_LW_law_487 rfl (lv_at hl 0 rfl) ?_
                                refine lv_iload_n S.1 S.2.1 d_LW_law_488 rfl (lv_at hl 3 rfl) ?_
                                refine lv_iconst (v := 1) S.1 S.2.1 d_LW_law_489 (by decide) ?_
                                refine lv_iadd S.1 S.2.1 d_LW_law_490 ?_
                                obtain ⟨hin, hf⟩ := b_ifn hf
                                refine va_sld (i := (x3 + 1)) S.1 S.2.1 hX hbl hbA hI.2.2.1 hin d_LW_law_491 ?_
                                obtain ⟨a116, ea116, hg⟩ := b_nn_inv hf
                                have hI0 := hI
                                have hl0 := hl
                                clear hf hI hl
                                subst ea116
                                have hf := hg
                                have hI := hI0
                                have hl := hl0
                                clear hg hI0 hl0
                                obtain ⟨⟨fs120, hefs120⟩, hf⟩ := b_is_inv hf
                                obtain ⟨v117, N118, hg119, hf⟩ := b_call_inv hf
                                refine x_call hI (hm_mo hg119) (va_runV (As := [.int (xs (x3 + 1 : Int32).toNatClampNeg)]) (rest := [.int v112]) S (c_MD_print l hg119) (cwV 1 S.2.2.2.2 (gi_V wd_898 wd_899 wd_900 wd_564 wd_901) rfl rfl rfl (by decide +kernel) ⟨Nat.le_trans (Nat.le_of_ble_eq_true rfl) hRf.1, Nat.le_trans (Nat.le_of_ble_eq_true rfl) hRf.2⟩) ⟨hm_B.blind, va_recv hK (hI.1.one hefs120) (ci := 1) (q0 := 0) rfl rfl, fun U hU hW => ⟨rfl, hm_B.of hK hG hI hU hW⟩⟩ rfl rfl hl.1 rfl (lv_room (Nat.le_of_ble_eq_true rfl)) d_LW_law_492 (hx_fit hI hR (hm_mo hg119) (hm_mo hf))) (fun H locs cells slots hI => ?_)
                                refine W.eq (g2 := F0 m 495 ls [.int v117, .int v112]) rfl ?_
                                refine lv_icmp_eq (tgt := 536) S.1 S.2.1 d_LW_law_495 (by decide) (fun hc => ?_) (fun hc => ?_)
                                · have hf := b_if_t hc hf
                                  exact w536 (some a111) (some a116) x3 _ _ _ _ _ _ hf hI (lv_sub hl [0, 1, 2, 3] rfl)
                                · have hf := b_if_f hc hf
                                  refine lv_iconst (v := 0) S.1 S.2.1 d_LW_law_498 (by decide) ?_
                                  exact hret _ _ _ _ _ _ _ _ d_LW_law_499 hf hI
                              · have hf := b_if_f hc11 hf
                                by_cases hc12 : ((xs (x3 : Int32).toNatClampNeg) &&& 15) = 12
                                · have hf := b_if_t hc12 hf
                                  refine lv_tableIn (tgt := 500) S.1 S.2.1 d_LW_law_32 (by rw [hc12]; decide) (by rw [hc12]; decide) (by rw [hc12] <;> rfl) (by decide) ?_
                                  refine x_aload_n (r := x1) S d_LW_law_500 rfl (lv_at hl 1 rfl) ?_
                                  obtain ⟨a121, ea121, hg⟩ := b_nn_inv hf
                                  have hI0 := hI
                                  have hl0 := hl
                                  clear hf hI hl
                                  subst ea121
                                  have hf := hg
                                  have hI := hI0
                                  have hl := hl0
                                  clear hg hI0 hl0
                                  obtain ⟨⟨fs125, hefs125⟩, hf⟩ := b_is_inv hf
                                  obtain ⟨v122, N123, hg124, hf⟩ := b_call_inv hf
                                  refine x_call hI (hm_mo hg124) (va_runV (As := []) (rest := []) S (c_PR_fold l hg124) (cwV 0 S.2.2.2.2 (gi_V wd_902 wd_903 wd_904 wd_362 wd_905) rfl rfl rfl (by decide +kernel) ⟨Nat.le_trans (Nat.le_of_ble_eq_true rfl) hRf.1, Nat.le_trans (Nat.le_of_ble_eq_true rfl) hRf.2⟩) ⟨hm_B.blind, va_recv hK (hI.1.one hefs125) (ci := 0) (q0 := 0) rfl rfl, fun U hU hW => ⟨rfl, hm_B.of hK hG hI hU hW⟩⟩ rfl rfl hl.1 rfl (lv_room (Nat.le_of_ble_eq_true rfl)) d_LW_law_501 (hx_fit hI hR (hm_mo hg124) (hm_mo hf))) (fun H locs cells slots hI => ?_)
                                  refine W.eq (g2 := F0 m 504 ls [.int v122]) rfl ?_
                                  refine x_aload_n (r := x2) S d_LW_law_504 rfl (lv_at hl 2 rfl) ?_
                                  obtain ⟨a126, ea126, hg⟩ := b_nn_inv hf
                                  have hI0 := hI
                                  have hl0 := hl
                                  clear hf hI hl
                                  subst ea126
                                  have hf := hg
                                  have hI := hI0
                                  have hl := hl0
                                  clear hg hI0 hl0
                                  obtain ⟨⟨fs130, hefs130⟩, hf⟩ := b_is_inv hf
                                  obtain ⟨v127, N128, hg129, hf⟩ := b_call_inv hf
                                  refine x_call hI (hm_mo hg129) (va_runV (As := []) (rest := [.int v122]) S (c_MD_fold l hg129) (cwV 0 S.2.2.2.2 (gi_V wd_906 wd_907 wd_908 wd_564 wd_909) rfl rfl rfl (by decide +kernel) ⟨Nat.le_trans (Nat.le_of_ble_eq_true rfl) hRf.1, Nat.le_trans (Nat.le_of_ble_eq_true rfl) hRf.2⟩) ⟨hm_B.blind, va_recv hK (hI.1.one hefs130) (ci := 1) (q0 := 0) rfl rfl, fun U hU hW => ⟨rfl, hm_B.of hK hG hI hU hW⟩⟩ rfl rfl hl.1 rfl (lv_room (Nat.le_of_ble_eq_true rfl)) d_LW_law_505 (hx_fit hI hR (hm_mo hg129) (hm_mo hf))) (fun H locs cells slots hI => ?_)
                                  refine W.eq (g2 := F0 m 508 ls [.int v127, .int v122]) rfl ?_
                                  refine lv_icmp_eq (tgt := 536) S.1 S.2.1 d_LW_law_508 (by decide) (fun hc => ?_) (fun hc => ?_)
                                  · have hf := b_if_t hc hf
                                    exact w536 (some a121) (some a126) x3 _ _ _ _ _ _ hf hI (lv_sub hl [0, 1, 2, 3] rfl)
                                  · have hf := b_if_f hc hf
                                    refine lv_iconst (v := 0) S.1 S.2.1 d_LW_law_511 (by decide) ?_
                                    exact hret _ _ _ _ _ _ _ _ d_LW_law_512 hf hI
                                · have hf := b_if_f hc12 hf
                                  by_cases hc13 : ((xs (x3 : Int32).toNatClampNeg) &&& 15) = 13
                                  · have hf := b_if_t hc13 hf
                                    refine lv_tableIn (tgt := 513) S.1 S.2.1 d_LW_law_32 (by rw [hc13]; decide) (by rw [hc13]; decide) (by rw [hc13] <;> rfl) (by decide) ?_
                                    refine x_aload_n (r := x1) S d_LW_law_513 rfl (lv_at hl 1 rfl) ?_
                                    refine lv_aload_n S.1 S.2.1 d_LW_law_514 rfl (lv_at hl 0 rfl) ?_
                                    refine lv_iload_n S.1 S.2.1 d_LW_law_515 rfl (lv_at hl 3 rfl) ?_
                                    refine lv_iconst (v := 1) S.1 S.2.1 d_LW_law_516 (by decide) ?_
                                    refine lv_iadd S.1 S.2.1 d_LW_law_517 ?_
                                    obtain ⟨hin, hf⟩ := b_ifn hf
                                    refine va_sld (i := (x3 + 1)) S.1 S.2.1 hX hbl hbA hI.2.2.1 hin d_LW_law_518 ?_
                                    obtain ⟨a131, ea131, hg⟩ := b_nn_inv hf
                                    have hI0 := hI
                                    have hl0 := hl
                                    clear hf hI hl
                                    subst ea131
                                    have hf := hg
                                    have hI := hI0
                                    have hl := hl0
                                    clear hg hI0 hl0
                                    obtain ⟨⟨fs135, hefs135⟩, hf⟩ := b_is_inv hf
                                    obtain ⟨v132, N133, hg134, hf⟩ := b_call_inv hf
                                    refine x_call hI (hm_mo hg134) (va_runV (As := [.int (xs (x3 + 1 : Int32).toNatClampNeg)]) (rest := []) S (c_PR_at l hg134) (cwV 1 S.2.2.2.2 (gi_V wd_910 wd_911 wd_912 wd_362 wd_913) rfl rfl rfl (by decide +kernel) ⟨Nat.le_trans (Nat.le_of_ble_eq_true rfl) hRf.1, Nat.le_trans (Nat.le_of_ble_eq_true rfl) hRf.2⟩) ⟨hm_B.blind, va_recv hK (hI.1.one hefs135) (ci := 0) (q0 := 0) rfl rfl, fun U hU hW => ⟨rfl, hm_B.of hK hG hI hU hW⟩⟩ rfl rfl hl.1 rfl (lv_room (Nat.le_of_ble_eq_true rfl)) d_LW_law_519 (hx_fit hI hR (hm_mo hg134) (hm_mo hf))) (fun H locs cells slots hI => ?_)
                                    refine W.eq (g2 := F0 m 522 ls [.int v132]) rfl ?_
                                    refine x_aload_n (r := x2) S d_LW_law_522 rfl (lv_at hl 2 rfl) ?_
                                    refine lv_aload_n S.1 S.2.1 d_LW_law_523 rfl (lv_at hl 0 rfl) ?_
                                    refine lv_iload_n S.1 S.2.1 d_LW_law_524 rfl (lv_at hl 3 rfl) ?_
                                    refine lv_iconst (v := 1) S.1 S.2.1 d_LW_law_525 (by decide) ?_
                                    refine lv_iadd S.1 S.2.1 d_LW_law_526 ?_
                                    obtain ⟨hin, hf⟩ := b_ifn hf
                                    refine va_sld (i := (x3 + 1)) S.1 S.2.1 hX hbl hbA hI.2.2.1 hin d_LW_law_527 ?_
                                    obtain ⟨a136, ea136, hg⟩ := b_nn_inv hf
                                    have hI0 := hI
                                    have hl0 := hl
                                    clear hf hI hl
                                    subst ea136
                                    have hf := hg
                                    have hI := hI0
                                    have hl := hl0
                                    clear hg hI0 hl0
                                    obtain ⟨⟨fs140, hefs140⟩, hf⟩ := b_is_inv hf
                                    obtain ⟨v137, N138, hg139, hf⟩ := b_call_inv hf
                                    refine x_call hI (hm_mo hg139) (va_runV (As := [.int (xs (x3 + 1 : Int32).toNatClampNeg)]) (rest := [.int v132]) S (c_MD_at l hg139) (cwV 1 S.2.2.2.2 (gi_V wd_914 wd_915 wd_916 wd_564 wd_917) rfl rfl rfl (by decide +kernel) ⟨Nat.le_trans (Nat.le_of_ble_eq_true rfl) hRf.1, Nat.le_trans (Nat.le_of_ble_eq_true rfl) hRf.2⟩) ⟨hm_B.blind, va_recv hK (hI.1.one hefs140) (ci := 1) (q0 := 0) rfl rfl, fun U hU hW => ⟨rfl, hm_B.of hK hG hI hU hW⟩⟩ rfl rfl hl.1 rfl (lv_room (Nat.le_of_ble_eq_true rfl)) d_LW_law_528 (hx_fit hI hR (hm_mo hg139) (hm_mo hf))) (fun H locs cells slots hI => ?_)
                                    refine W.eq (g2 := F0 m 531 ls [.int v137, .int v132]) rfl ?_
                                    refine lv_icmp_eq (tgt := 536) S.1 S.2.1 d_LW_law_531 (by decide) (fun hc => ?_) (fun hc => ?_)
                                    · have hf := b_if_t hc hf
                                      exact w536 (some a131) (some a136) x3 _ _ _ _ _ _ hf hI (lv_sub hl [0, 1, 2, 3] rfl)
                                    · have hf := b_if_f hc hf
                                      refine lv_iconst (v := 0) S.1 S.2.1 d_LW_law_534 (by decide) ?_
                                      exact hret _ _ _ _ _ _ _ _ d_LW_law_535 hf hI
                                  · have hf := b_if_f hc13 hf
                                    refine lv_tableOut (tgt := 536) S.1 S.2.1 d_LW_law_32 (by have g0 := lv_neT (a := 0) hc0 (by decide); have g1 := lv_neT (a := 1) hc1 (by decide); have g2 := lv_neT (a := 2) hc2 (by decide); have g3 := lv_neT (a := 3) hc3 (by decide); have g4 := lv_neT (a := 4) hc4 (by decide); have g5 := lv_neT (a := 5) hc5 (by decide); have g6 := lv_neT (a := 6) hc6 (by decide); have g7 := lv_neT (a := 7) hc7 (by decide); have g8 := lv_neT (a := 8) hc8 (by decide); have g9 := lv_neT (a := 9) hc9 (by decide); have g10 := lv_neT (a := 10) hc10 (by decide); have g11 := lv_neT (a := 11) hc11 (by decide); have g12 := lv_neT (a := 12) hc12 (by decide); have g13 := lv_neT (a := 13) hc13 (by decide); omega) (by decide) ?_
                                    exact w536 x1 x2 x3 _ _ _ _ _ _ hf hI (lv_sub hl [0, 1, 2, 3] rfl)
  refine x_new (ci := 0) S hK hI hR (fun w h => List.mem_cons_of_mem _ (i_PR w h)) t_PR t_PR_ok rfl (List.mem_cons_of_mem _ wd_918) (List.mem_cons_of_mem _ wd_919) (List.mem_cons_of_mem _ wd_362) s_PR d_LW_law_0 hf (fun q141 M H hf hI => ?_)
  refine lv_dup S.1 S.2.1 d_LW_law_3 rfl ?_
  obtain ⟨r142, N143, hg144, hf⟩ := b_call_inv hf
  refine x_call hI (hm_mo hg144) (va_runI (As := []) (rest := [.ref q141]) S (c_PR_init l hg144) (cwI 0 S.2.2.2.2 (gi_I wd_920) rfl rfl rfl (S.2.2.2.2 _ (List.mem_cons_of_mem _ wd_362)) (S.2.2.2.2 _ (List.mem_cons_of_mem _ wd_921)) (S.2.2.2.2 _ (List.mem_cons_of_mem _ wd_922)) rfl (by decide +kernel) ⟨Nat.le_trans (Nat.le_of_ble_eq_true rfl) hRf.1, Nat.le_trans (Nat.le_of_ble_eq_true rfl) hRf.2⟩) ⟨hm_B.blind, fun U hU hW => ⟨rfl, hm_B.of hK hG hI hU hW⟩⟩ rfl rfl hl.1 rfl (lv_room (Nat.le_of_ble_eq_true rfl)) d_LW_law_4 (hx_fit hI hR (hm_mo hg144) (hm_mo hf))) (fun H locs cells slots hI => ?_)
  refine W.eq (g2 := F0 m 7 ls [.ref q141]) rfl ?_
  refine x_astore_n (r := (some q141)) (lv2 := [(0, .ref b)]) S d_LW_law_7 rfl hl (by decide) [0] rfl ⟨⟨(by decide : (0 : Nat) ≠ 1), fun _ => rfl⟩, trivial⟩ (fun ls hl => ?_)
  refine x_new (ci := 1) S hK hI hR (fun w h => List.mem_cons_of_mem _ (i_MD w h)) t_MD t_MD_ok rfl (List.mem_cons_of_mem _ wd_923) (List.mem_cons_of_mem _ wd_924) (List.mem_cons_of_mem _ wd_564) s_MD d_LW_law_8 hf (fun q145 M H hf hI => ?_)
  refine lv_dup S.1 S.2.1 d_LW_law_11 rfl ?_
  obtain ⟨r146, N147, hg148, hf⟩ := b_call_inv hf
  refine x_call hI (hm_mo hg148) (va_runI (As := []) (rest := [.ref q145]) S (c_MD_init l hg148) (cwI 0 S.2.2.2.2 (gi_I wd_925) rfl rfl rfl (S.2.2.2.2 _ (List.mem_cons_of_mem _ wd_564)) (S.2.2.2.2 _ (List.mem_cons_of_mem _ wd_926)) (S.2.2.2.2 _ (List.mem_cons_of_mem _ wd_927)) rfl (by decide +kernel) ⟨Nat.le_trans (Nat.le_of_ble_eq_true rfl) hRf.1, Nat.le_trans (Nat.le_of_ble_eq_true rfl) hRf.2⟩) ⟨hm_B.blind, fun U hU hW => ⟨rfl, hm_B.of hK hG hI hU hW⟩⟩ rfl rfl hl.1 rfl (lv_room (Nat.le_of_ble_eq_true rfl)) d_LW_law_12 (hx_fit hI hR (hm_mo hg148) (hm_mo hf))) (fun H locs cells slots hI => ?_)
  refine W.eq (g2 := F0 m 15 ls [.ref q145]) rfl ?_
  refine x_astore_n (r := (some q145)) (lv2 := [(1, .ref q141), (0, .ref b)]) S d_LW_law_15 rfl hl (by decide) [0, 1] rfl ⟨⟨(by decide : (1 : Nat) ≠ 2), fun _ => rfl⟩, ⟨⟨(by decide : (0 : Nat) ≠ 2), fun h => absurd (show (0 : Nat) + 1 = 2 from h) (by decide)⟩, trivial⟩⟩ (fun ls hl => ?_)
  refine lv_iconst (v := 0) S.1 S.2.1 d_LW_law_16 (by decide) ?_
  refine x_istore_n (lv2 := [(2, .ref q145), (1, .ref q141), (0, .ref b)]) S d_LW_law_17 rfl hl (by decide) [0, 1, 2] rfl ⟨⟨(by decide : (2 : Nat) ≠ 3), fun _ => rfl⟩, ⟨⟨(by decide : (1 : Nat) ≠ 3), fun h => absurd (show (1 : Nat) + 1 = 3 from h) (by decide)⟩, ⟨⟨(by decide : (0 : Nat) ≠ 3), fun h => absurd (show (0 : Nat) + 1 = 3 from h) (by decide)⟩, trivial⟩⟩⟩ (fun ls hl => ?_)
  exact w18 N (some q141) (some q145) 0 _ _ _ _ _ _ hf hI (lv_sub hl [3, 2, 1, 0] rfl)
/-- THE CLAIM, once the pure theorem stands -/
