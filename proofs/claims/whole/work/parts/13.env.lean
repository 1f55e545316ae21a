/-! THE CLAIM OUT OF ONE WALK OF THE LAW'S BODY. Your part is whole_start (and what it stands on); all else here is the same for every law, but numbers. -/
def R_law : String := "PackageRowsLaw"
def lw_P (b : Addr) (xs : List Int32) (args : Array Value) (s : State) : Prop := args = #[.ref b] ∧ s.IntsAt b xs ∧ xs.length ≤ 2560 ∧ (Jvm.Cond.and given_1 narrow_1).before args s = true
def lw_Q (_ : Array Value) (s : State) (o : Outcome) (t : State) : Prop := o = .returned (some (.int 1)) ∧ Framed s o t [] 600000 7302250
def lw_Z (below : List Frame) (a : Array Value) (s : State) : State → Prop := fun t => ∃ o, t.status = .running ∧ Ended t below o ∧ lw_Q a s o t
/-- the law's own end, with 1 on the stack, nothing written that was there before, its room as the claim has it -/
theorem lw_ret {p : Program} {l : Launch} {e : Env} {s : State} {m : MethodId} {below : List Frame} {meth : Method} {c : Code} {b : Nat} (hx : p.tables.exec = Jvm.exec) (hb : c.code = code) (hr : meth.sig.returnType = ret) (hlocks : meth.locks = false) {pc : Nat} {H : Heap} {ls : Array Slot} (hdg : decode code pc = .ok (.ireturn, 1)) : W p l e room_1 s m #[Value.ref b] below meth c H [] 600000 7302250 (lw_Z below #[Value.ref b] s) (F0 m pc ls [.int 1]) := by
  intro T hT X
  obtain ⟨fs, hret, hrun, hended, hW, hframe⟩ := X.leave (v := some (.int 1)) (hlocks := hlocks) (fun h => by rw [hr] at h; cases h)
  have hmeth' : T.vm.method? m = some meth := X.method'
  refine ⟨T.setFrames fs, ?_, .returned (some (.int 1)), hrun, hended, rfl, ⟨_, rfl⟩, hW, hframe⟩
  jvm_step X.here [X.here.top, hx, hb, hdg, hmeth', hr, ret, narrow_b1]
  (try refine ⟨rfl, ?_⟩); (try refine ⟨rfl, ?_⟩)
  first | (intro acts; rw [hret _ acts rfl rfl rfl]) | rw [hret _ _ rfl rfl rfl]
  exact Steps.refl _
/-- what holds at the law's entry: the machine, the code, the tables' words (any of lw_tbl by 'hts w (by decide +kernel)'), the script of L ints xs at the cell b, what the Statement gives of the start (any of its parts by flat_of_before) -/
def lw_At (p : Program) (s : State) (m : MethodId) (meth : Method) (c : Code) (b L : Nat) (xs : Nat → Int32) : Prop :=
  p.tables.exec = Jvm.exec ∧ c.code = code ∧ meth.sig.returnType = ret ∧ c.maxLocals = 4 ∧ s.vm.findClass R_law = some m.cls ∧ (∀ w ∈ lw_tbl, w.before #[Value.ref b] s = true) ∧ va_X b L xs s s.heap ∧ b < s.heap.size ∧ meth.locks = false ∧ (Jvm.Cond.and given_1 narrow_1).before #[Value.ref b] s = true
-- ===== YOUR PART BEGINS =====

set_option maxRecDepth 100000 in
theorem tbl_0 : wsA_0 = [76, 77, 78, 79, 80, 57, 84, 85, 86, 58, 90, 124, 91, 89, 88, 129, 125, 131, 161, 132, 127, 134, 83, 82, 195, 130, 196, 162, 197, 164, 165, 59, 169, 170, 168, 167, 199, 179, 180, 60, 184, 194, 185, 187, 183, 182, 200, 201, 227, 92, 228, 229, 230, 231, 93, 95, 96, 98, 236, 237, 238, 239, 133, 437, 444, 135, 351, 349, 487, 488, 69, 489, 483, 484, 485, 62, 486, 479, 480, 481, 482, 326, 264, 265, 266, 533, 534, 535, 536, 252, 253, 254, 255, 381, 382, 383, 384, 97, 263, 260].filterMap (fun i => lw_tbl[i]?) := by rfl
theorem inT_0 : ∀ w ∈ wsA_0, w ∈ lw_tbl := by
  intro w h
  rw [tbl_0] at h
  obtain ⟨i, -, hi⟩ := List.mem_filterMap.mp h
  exact List.mem_of_getElem? hi
set_option maxRecDepth 100000 in
theorem tbl_1 : wsA_1 = [261, 262, 267, 268, 269, 270, 271, 272, 256, 257, 258, 259, 331, 249, 250, 251, 327, 328, 329, 330, 336, 337, 346, 342, 343, 344, 345, 341, 340, 338, 339, 332, 333, 334, 335, 100, 370, 371, 366, 367, 368, 369, 372, 362, 363, 364, 365, 99, 138, 432, 433, 438, 440, 445, 448, 451, 431, 68, 429, 430, 428, 139, 424, 425, 426, 427, 420, 421, 422, 423, 377, 378, 379, 380, 373, 374, 375, 376, 490, 491, 492, 493, 498, 499, 494, 495, 496, 497, 475, 476, 477, 478, 500, 501, 502, 503, 508, 509, 504, 505].filterMap (fun i => lw_tbl[i]?) := by rfl
theorem inT_1 : ∀ w ∈ wsA_1, w ∈ lw_tbl := by
  intro w h
  rw [tbl_1] at h
  obtain ⟨i, -, hi⟩ := List.mem_filterMap.mp h
  exact List.mem_of_getElem? hi
set_option maxRecDepth 100000 in
theorem tbl_2 : wsA_2 = [506, 507, 510, 511, 67, 512, 102, 104, 522, 530, 531, 532, 527, 528, 529, 523, 524, 525, 526, 521, 517, 518, 519, 520, 101, 103, 94, 513, 514, 515, 516, 248, 393, 394, 395, 278, 288, 274, 275, 276, 277, 389, 390, 391, 392, 412, 413, 414, 408, 409, 410, 411, 385, 386, 387, 388, 136, 137, 244, 245, 246, 247, 240, 241, 242, 243, 537, 538, 539, 540, 198, 588, 589, 70, 593, 594, 596, 598, 600, 592, 590, 591, 455, 585, 586, 587, 628, 582, 583, 584, 434, 441, 633, 629, 630, 631, 632, 624, 625, 626].filterMap (fun i => lw_tbl[i]?) := by rfl
theorem inT_2 : ∀ w ∈ wsA_2, w ∈ lw_tbl := by
  intro w h
  rw [tbl_2] at h
  obtain ⟨i, -, hi⟩ := List.mem_filterMap.mp h
  exact List.mem_of_getElem? hi
set_option maxRecDepth 100000 in
theorem tbl_3 : wsA_3 = [627, 634, 635, 636, 637, 621, 622, 623, 617, 618, 619, 620, 457, 613, 614, 615, 616, 557, 553, 554, 555, 556, 549, 550, 551, 552, 569, 566, 567, 568, 570, 562, 563, 564, 565, 579, 580, 581, 575, 576, 577, 578, 454, 571, 572, 573, 574, 558, 559, 560, 561, 545, 546, 547, 548, 541, 542, 543, 544, 642, 644, 0, 56, 645, 603, 650, 652, 1, 653, 436, 439, 443, 347, 353, 456, 658, 659, 660, 661, 662, 663, 664, 665, 447, 450, 670, 453, 683, 684, 685, 686, 601, 694, 703, 699, 700, 701, 702, 695, 696].filterMap (fun i => lw_tbl[i]?) := by rfl
theorem inT_3 : ∀ w ∈ wsA_3, w ∈ lw_tbl := by
  intro w h
  rw [tbl_3] at h
  obtain ⟨i, -, hi⟩ := List.mem_filterMap.mp h
  exact List.mem_of_getElem? hi
set_option maxRecDepth 100000 in
theorem tbl_4 : wsA_4 = [697, 698, 691, 692, 693, 687, 688, 689, 690, 203, 186, 708, 710, 2, 711, 202, 188, 442, 348, 172, 731, 732, 733, 734, 735, 736, 737, 738, 435, 449, 749, 748, 744, 745, 746, 747, 774, 446, 743, 739, 740, 741, 742, 452, 779, 729, 730, 725, 726, 727, 728, 775, 776, 777, 778, 770, 771, 772, 773, 766, 767, 768, 762, 763, 764, 765, 602, 599, 791, 756, 757, 758, 787, 788, 789, 790, 783, 784, 785, 786, 754, 755, 750, 751, 752, 753, 595, 597, 720, 721, 722, 723, 173, 803, 352, 350, 804, 805, 806, 807].filterMap (fun i => lw_tbl[i]?) := by rfl
theorem inT_4 : ∀ w ∈ wsA_4, w ∈ lw_tbl := by
  intro w h
  rw [tbl_4] at h
  obtain ⟨i, -, hi⟩ := List.mem_filterMap.mp h
  exact List.mem_of_getElem? hi
set_option maxRecDepth 100000 in
theorem tbl_5 : wsA_5 = [797, 802, 798, 799, 800, 801, 171, 817, 361, 839, 977, 818, 819, 820, 821, 822, 846, 823, 824, 825, 826, 827, 828, 829, 830, 831, 832, 833, 834, 847, 848, 850, 851, 852, 853, 854, 835, 855, 856, 857, 858, 859, 860, 836, 861, 862, 863, 864, 865, 873, 874, 875, 876, 878, 879, 880, 837, 882, 840, 838, 841, 842, 994, 995, 61, 996, 997, 998, 999, 1000, 1001, 1002, 843, 844, 845, 1016, 1018, 8, 1019, 1008, 1010, 6, 1011, 990, 992, 4, 993, 1041, 1042, 1036, 1037, 1039, 13, 1040, 1028, 1030, 11, 1031, 1032, 1034].filterMap (fun i => lw_tbl[i]?) := by rfl
theorem inT_5 : ∀ w ∈ wsA_5, w ∈ lw_tbl := by
  intro w h
  rw [tbl_5] at h
  obtain ⟨i, -, hi⟩ := List.mem_filterMap.mp h
  exact List.mem_of_getElem? hi
set_option maxRecDepth 100000 in
theorem tbl_6 : wsA_6 = [12, 1035, 871, 870, 1024, 1026, 10, 1027, 1072, 1074, 21, 1075, 1063, 1064, 1066, 19, 1067, 1068, 1070, 20, 1071, 1109, 1110, 1111, 849, 1043, 1045, 14, 1046, 866, 1080, 1082, 23, 1083, 869, 867, 868, 883, 1020, 1022, 9, 1023, 1012, 1014, 7, 1015, 1059, 1061, 18, 1062, 1076, 1078, 22, 1079, 1055, 1057, 17, 1058, 1003, 1005, 5, 1006, 1096, 872, 1092, 1094, 26, 1095, 1097, 1099, 27, 1100, 1088, 1090, 25, 1091, 1084, 1086, 24, 1087, 1051, 1053, 16, 1054, 1105, 1107, 29, 1108, 1101, 1103, 28, 1104, 1047, 1049, 15, 1050, 1007, 1116, 1118, 31].filterMap (fun i => lw_tbl[i]?) := by rfl
theorem inT_6 : ∀ w ∈ wsA_6, w ∈ lw_tbl := by
  intro w h
  rw [tbl_6] at h
  obtain ⟨i, -, hi⟩ := List.mem_filterMap.mp h
  exact List.mem_of_getElem? hi
set_option maxRecDepth 100000 in
theorem tbl_7 : wsA_7 = [1119, 1120, 1122, 32, 1123, 1124, 1126, 33, 1127, 1128, 1130, 34, 1131, 986, 988, 3, 989, 1112, 1114, 30, 1115, 1136, 1138, 35, 1139, 1152, 1154, 38, 1155, 1144, 1146, 36, 1147, 1148, 1150, 37, 1151, 877, 1188, 1190, 42, 1191, 1184, 1186, 41, 1187, 1176, 1178, 39, 1179, 1180, 1182, 40, 1183, 881, 1208, 1210, 44, 1211, 1212, 1221, 1222, 1224, 47, 1225, 1217, 1219, 46, 1220, 1246, 1248, 53, 1249, 1213, 1215, 45, 1216, 1238, 1240, 51, 1241, 1204, 1206, 43, 1207, 1242, 1244, 52, 1245, 1234, 1236, 50, 1237, 1230, 1232, 49, 1233, 1250, 1252, 54].filterMap (fun i => lw_tbl[i]?) := by rfl
theorem inT_7 : ∀ w ∈ wsA_7, w ∈ lw_tbl := by
  intro w h
  rw [tbl_7] at h
  obtain ⟨i, -, hi⟩ := List.mem_filterMap.mp h
  exact List.mem_of_getElem? hi
set_option maxRecDepth 100000 in
theorem tbl_8 : wsA_8 = [1253, 1226, 1228, 48, 1229, 1262, 223, 224, 225, 226, 978, 979, 980, 981, 232, 233, 234, 235, 982, 983, 984, 985, 638, 639, 640, 641, 1132, 1133, 1134, 1135, 646, 647, 648, 649, 1140, 1141, 1142, 1143, 654, 655, 656, 657, 1156, 1157, 1158, 1159, 666, 667, 668, 669, 1160, 1161, 1162, 1163, 671, 672, 673, 674, 1164, 1165, 1166, 1167, 675, 676, 677, 678, 1168, 1169, 1170, 1171, 679, 680, 681, 682, 1172, 1173, 1174, 1175, 704, 705, 706, 707, 1192, 1193, 1194, 1195, 712, 713, 714, 715, 1196, 1197, 1198, 1199, 716, 717, 718, 719, 1200, 1201].filterMap (fun i => lw_tbl[i]?) := by rfl
theorem inT_8 : ∀ w ∈ wsA_8, w ∈ lw_tbl := by
  intro w h
  rw [tbl_8] at h
  obtain ⟨i, -, hi⟩ := List.mem_filterMap.mp h
  exact List.mem_of_getElem? hi
set_option maxRecDepth 100000 in
theorem tbl_9 : wsA_9 = [1202, 1203, 793, 794, 795, 796, 1254, 1255, 1256, 1257, 808, 809, 810, 811, 1258, 1259, 1260, 1261, 71, 72, 75, 73, 74, 812, 813, 816, 814, 815, 204, 206, 208, 210, 212, 214, 216, 218, 220, 884, 886, 888, 890, 892, 894, 896, 898, 900, 902, 904, 906, 908, 910, 912, 914, 916, 918, 920, 922, 924, 926, 928, 930, 932, 934, 936, 938, 940, 942, 944, 946, 948, 950, 952, 954, 956, 958, 960, 962, 964, 966, 968, 970, 972, 974, 354, 356, 358, 604, 606, 608, 610, 189, 191, 174, 176, 140, 142, 144, 146, 148, 150].filterMap (fun i => lw_tbl[i]?) := by rfl
theorem inT_9 : ∀ w ∈ wsA_9, w ∈ lw_tbl := by
  intro w h
  rw [tbl_9] at h
  obtain ⟨i, -, hi⟩ := List.mem_filterMap.mp h
  exact List.mem_of_getElem? hi
set_option maxRecDepth 100000 in
theorem tbl_10 : wsA_10 = [152, 154, 156, 158, 458, 460, 462, 464, 466, 468, 470, 472, 105, 107, 109, 111, 113, 115, 117, 119, 121, 283, 284, 293, 294, 279, 280, 289, 290, 282, 292, 296, 299, 304, 297, 300, 305, 285, 295, 281, 291, 298, 301, 306, 63, 64, 65, 286, 302, 1263, 1264].filterMap (fun i => lw_tbl[i]?) := by rfl
theorem inT_10 : ∀ w ∈ wsA_10, w ∈ lw_tbl := by
  intro w h
  rw [tbl_10] at h
  obtain ⟨i, -, hi⟩ := List.mem_filterMap.mp h
  exact List.mem_of_getElem? hi
theorem wsAll_in : ∀ w ∈ wsAll, w ∈ lw_tbl := List.forall_mem_append.mpr ⟨inT_0, List.forall_mem_append.mpr ⟨inT_1, List.forall_mem_append.mpr ⟨inT_2, List.forall_mem_append.mpr ⟨inT_3, List.forall_mem_append.mpr ⟨inT_4, List.forall_mem_append.mpr ⟨inT_5, List.forall_mem_append.mpr ⟨inT_6, List.forall_mem_append.mpr ⟨inT_7, List.forall_mem_append.mpr ⟨inT_8, List.forall_mem_append.mpr ⟨inT_9, inT_10⟩⟩⟩⟩⟩⟩⟩⟩⟩⟩
theorem tx_of {args : Array Value} {s : State} {own tx : String} {k z : Nat} {bs : List Int32} (hsr : (Cond.stringRef own k tx).before args s = true) (hex : (Cond.exactly (.string own k) "java/lang/String").before args s = true) (hco : (Cond.eq (.field (.string own k) "java/lang/String" "coder" "B") (.int 0)).before args s = true) (har : (Cond.arrayOf (.field (.string own k) "java/lang/String" "value" "[B") .byte).before args s = true) (hle : (Cond.eq (.length (.field (.string own k) "java/lang/String" "value" "[B")) (.int (Int32.ofNat bs.length))).before args s = true)
    (hel : ∀ j : Nat, j < bs.length → (Cond.eq (.elem (.field (.string own k) "java/lang/String" "value" "[B") (.int (Int32.ofNat j))) (.int (bs.getD j 0))).before args s = true) (hN : bs.length < 2 ^ 31) (hA : ∀ a : Nat, a < s.heap.size → ¬ z ≤ a) :
    ∃ q : Nat × Nat, vk_R own k tx q.1 s ∧ va_O "java/lang/String" q.1 (fun q => z ≤ q) s s.heap ∧ va_OF "java/lang/String" "coder" "B" (.int 0) q.1 (fun q => z ≤ q) s s.heap ∧ va_OF "java/lang/String" "value" "[B" (.ref q.2) q.1 (fun q => z ≤ q) s s.heap ∧ va_T .byte q.2 bs.length (fun j => .int (bs.getD j 0)) (fun q => z ≤ q) s s.heap := by
  obtain ⟨adK, adV, h, ht⟩ := vk_Sof (args := args) (s := s) (N := 1) (tm := fun _ => .string own k) (len := [bs.length]) (byt := [bs]) (A := fun q => z ≤ q) (fun i hi => by rw [show i = 0 by omega]; exact hN) (fun _ _ => hex) (fun _ _ => hco) (fun _ _ => har) (fun i hi => by rw [show i = 0 by omega]; exact hle) (fun i hi j hj => by
    obtain rfl : i = 0 := by omega
    exact hel j hj) (fun i j hi hj hne => absurd (show i = j by omega) hne) hA
  have h0 := h.1 0 (by omega)
  exact ⟨(adK 0, adV 0), vk_R.of hsr (ht 0 (by omega)), h0.1, h0.2.1, h0.2.2.1, h0.2.2.2⟩
set_option maxRecDepth 100000 in
theorem tx_0 {args : Array Value} {s : State} {z : Nat} (hts : ∀ w ∈ lw_tbl, w.before args s = true) (hs : ∀ w ∈ flatC (Jvm.Cond.and given_1 narrow_1), w.before args s = true) (hA : ∀ a : Nat, a < s.heap.size → ¬ z ≤ a) : ∃ q : Nat × Nat, vk_R R_Reader 64 "package" q.1 s ∧ va_O "java/lang/String" q.1 (fun q => z ≤ q) s s.heap ∧ va_OF "java/lang/String" "coder" "B" (.int 0) q.1 (fun q => z ≤ q) s s.heap ∧ va_OF "java/lang/String" "value" "[B" (.ref q.2) q.1 (fun q => z ≤ q) s s.heap ∧ va_T .byte q.2 ([112, 97, 99, 107, 97, 103, 101] : List Int32).length (fun j => .int (([112, 97, 99, 107, 97, 103, 101] : List Int32).getD j 0)) (fun q => z ≤ q) s s.heap :=
  tx_of (hts _ (List.mem_of_getElem? (i := 273) rfl)) (hs _ (by decide +kernel)) (hs _ (by decide +kernel)) (hs _ (by decide +kernel)) (hs _ (by decide +kernel)) (fun j hj => by
    have hj : j < 7 := hj
    rcases (show j = 0 ∨ j = 1 ∨ j = 2 ∨ j = 3 ∨ j = 4 ∨ j = 5 ∨ j = 6 by omega) with rfl | rfl | rfl | rfl | rfl | rfl | rfl <;> exact hs _ (by decide +kernel)) (by decide) hA
set_option maxRecDepth 100000 in
theorem tx_1 {args : Array Value} {s : State} {z : Nat} (hts : ∀ w ∈ lw_tbl, w.before args s = true) (hs : ∀ w ∈ flatC (Jvm.Cond.and given_1 narrow_1), w.before args s = true) (hA : ∀ a : Nat, a < s.heap.size → ¬ z ≤ a) : ∃ q : Nat × Nat, vk_R R_Kind 13 "conflict" q.1 s ∧ va_O "java/lang/String" q.1 (fun q => z ≤ q) s s.heap ∧ va_OF "java/lang/String" "coder" "B" (.int 0) q.1 (fun q => z ≤ q) s s.heap ∧ va_OF "java/lang/String" "value" "[B" (.ref q.2) q.1 (fun q => z ≤ q) s s.heap ∧ va_T .byte q.2 ([99, 111, 110, 102, 108, 105, 99, 116] : List Int32).length (fun j => .int (([99, 111, 110, 102, 108, 105, 99, 116] : List Int32).getD j 0)) (fun q => z ≤ q) s s.heap :=
  tx_of (hts _ (List.mem_of_getElem? (i := 396) rfl)) (hs _ (by decide +kernel)) (hs _ (by decide +kernel)) (hs _ (by decide +kernel)) (hs _ (by decide +kernel)) (fun j hj => by
    have hj : j < 8 := hj
    rcases (show j = 0 ∨ j = 1 ∨ j = 2 ∨ j = 3 ∨ j = 4 ∨ j = 5 ∨ j = 6 ∨ j = 7 by omega) with rfl | rfl | rfl | rfl | rfl | rfl | rfl | rfl <;> exact hs _ (by decide +kernel)) (by decide) hA
set_option maxRecDepth 100000 in
theorem tx_2 {args : Array Value} {s : State} {z : Nat} (hts : ∀ w ∈ lw_tbl, w.before args s = true) (hs : ∀ w ∈ flatC (Jvm.Cond.and given_1 narrow_1), w.before args s = true) (hA : ∀ a : Nat, a < s.heap.size → ¬ z ≤ a) : ∃ q : Nat × Nat, vk_R R_Kind 15 "replace" q.1 s ∧ va_O "java/lang/String" q.1 (fun q => z ≤ q) s s.heap ∧ va_OF "java/lang/String" "coder" "B" (.int 0) q.1 (fun q => z ≤ q) s s.heap ∧ va_OF "java/lang/String" "value" "[B" (.ref q.2) q.1 (fun q => z ≤ q) s s.heap ∧ va_T .byte q.2 ([114, 101, 112, 108, 97, 99, 101] : List Int32).length (fun j => .int (([114, 101, 112, 108, 97, 99, 101] : List Int32).getD j 0)) (fun q => z ≤ q) s s.heap :=
  tx_of (hts _ (List.mem_of_getElem? (i := 397) rfl)) (hs _ (by decide +kernel)) (hs _ (by decide +kernel)) (hs _ (by decide +kernel)) (hs _ (by decide +kernel)) (fun j hj => by
    have hj : j < 7 := hj
    rcases (show j = 0 ∨ j = 1 ∨ j = 2 ∨ j = 3 ∨ j = 4 ∨ j = 5 ∨ j = 6 by omega) with rfl | rfl | rfl | rfl | rfl | rfl | rfl <;> exact hs _ (by decide +kernel)) (by decide) hA
set_option maxRecDepth 100000 in
theorem tx_3 {args : Array Value} {s : State} {z : Nat} (hts : ∀ w ∈ lw_tbl, w.before args s = true) (hs : ∀ w ∈ flatC (Jvm.Cond.and given_1 narrow_1), w.before args s = true) (hA : ∀ a : Nat, a < s.heap.size → ¬ z ≤ a) : ∃ q : Nat × Nat, vk_R R_Kind 17 "provide" q.1 s ∧ va_O "java/lang/String" q.1 (fun q => z ≤ q) s s.heap ∧ va_OF "java/lang/String" "coder" "B" (.int 0) q.1 (fun q => z ≤ q) s s.heap ∧ va_OF "java/lang/String" "value" "[B" (.ref q.2) q.1 (fun q => z ≤ q) s s.heap ∧ va_T .byte q.2 ([112, 114, 111, 118, 105, 100, 101] : List Int32).length (fun j => .int (([112, 114, 111, 118, 105, 100, 101] : List Int32).getD j 0)) (fun q => z ≤ q) s s.heap :=
  tx_of (hts _ (List.mem_of_getElem? (i := 398) rfl)) (hs _ (by decide +kernel)) (hs _ (by decide +kernel)) (hs _ (by decide +kernel)) (hs _ (by decide +kernel)) (fun j hj => by
    have hj : j < 7 := hj
    rcases (show j = 0 ∨ j = 1 ∨ j = 2 ∨ j = 3 ∨ j = 4 ∨ j = 5 ∨ j = 6 by omega) with rfl | rfl | rfl | rfl | rfl | rfl | rfl <;> exact hs _ (by decide +kernel)) (by decide) hA
set_option maxRecDepth 100000 in
theorem tx_4 {args : Array Value} {s : State} {z : Nat} (hts : ∀ w ∈ lw_tbl, w.before args s = true) (hs : ∀ w ∈ flatC (Jvm.Cond.and given_1 narrow_1), w.before args s = true) (hA : ∀ a : Nat, a < s.heap.size → ¬ z ≤ a) : ∃ q : Nat × Nat, vk_R R_Kind 19 "any" q.1 s ∧ va_O "java/lang/String" q.1 (fun q => z ≤ q) s s.heap ∧ va_OF "java/lang/String" "coder" "B" (.int 0) q.1 (fun q => z ≤ q) s s.heap ∧ va_OF "java/lang/String" "value" "[B" (.ref q.2) q.1 (fun q => z ≤ q) s s.heap ∧ va_T .byte q.2 ([97, 110, 121] : List Int32).length (fun j => .int (([97, 110, 121] : List Int32).getD j 0)) (fun q => z ≤ q) s s.heap :=
  tx_of (hts _ (List.mem_of_getElem? (i := 399) rfl)) (hs _ (by decide +kernel)) (hs _ (by decide +kernel)) (hs _ (by decide +kernel)) (hs _ (by decide +kernel)) (fun j hj => by
    have hj : j < 3 := hj
    rcases (show j = 0 ∨ j = 1 ∨ j = 2 by omega) with rfl | rfl | rfl <;> exact hs _ (by decide +kernel)) (by decide) hA
set_option maxRecDepth 100000 in
theorem tx_5 {args : Array Value} {s : State} {z : Nat} (hts : ∀ w ∈ lw_tbl, w.before args s = true) (hs : ∀ w ∈ flatC (Jvm.Cond.and given_1 narrow_1), w.before args s = true) (hA : ∀ a : Nat, a < s.heap.size → ¬ z ≤ a) : ∃ q : Nat × Nat, vk_R R_Kind 21 "feature" q.1 s ∧ va_O "java/lang/String" q.1 (fun q => z ≤ q) s s.heap ∧ va_OF "java/lang/String" "coder" "B" (.int 0) q.1 (fun q => z ≤ q) s s.heap ∧ va_OF "java/lang/String" "value" "[B" (.ref q.2) q.1 (fun q => z ≤ q) s s.heap ∧ va_T .byte q.2 ([102, 101, 97, 116, 117, 114, 101] : List Int32).length (fun j => .int (([102, 101, 97, 116, 117, 114, 101] : List Int32).getD j 0)) (fun q => z ≤ q) s s.heap :=
  tx_of (hts _ (List.mem_of_getElem? (i := 400) rfl)) (hs _ (by decide +kernel)) (hs _ (by decide +kernel)) (hs _ (by decide +kernel)) (hs _ (by decide +kernel)) (fun j hj => by
    have hj : j < 7 := hj
    rcases (show j = 0 ∨ j = 1 ∨ j = 2 ∨ j = 3 ∨ j = 4 ∨ j = 5 ∨ j = 6 by omega) with rfl | rfl | rfl | rfl | rfl | rfl | rfl <;> exact hs _ (by decide +kernel)) (by decide) hA
set_option maxRecDepth 100000 in
theorem tx_6 {args : Array Value} {s : State} {z : Nat} (hts : ∀ w ∈ lw_tbl, w.before args s = true) (hs : ∀ w ∈ flatC (Jvm.Cond.and given_1 narrow_1), w.before args s = true) (hA : ∀ a : Nat, a < s.heap.size → ¬ z ≤ a) : ∃ q : Nat × Nat, vk_R R_Kind 23 "default" q.1 s ∧ va_O "java/lang/String" q.1 (fun q => z ≤ q) s s.heap ∧ va_OF "java/lang/String" "coder" "B" (.int 0) q.1 (fun q => z ≤ q) s s.heap ∧ va_OF "java/lang/String" "value" "[B" (.ref q.2) q.1 (fun q => z ≤ q) s s.heap ∧ va_T .byte q.2 ([100, 101, 102, 97, 117, 108, 116] : List Int32).length (fun j => .int (([100, 101, 102, 97, 117, 108, 116] : List Int32).getD j 0)) (fun q => z ≤ q) s s.heap :=
  tx_of (hts _ (List.mem_of_getElem? (i := 401) rfl)) (hs _ (by decide +kernel)) (hs _ (by decide +kernel)) (hs _ (by decide +kernel)) (hs _ (by decide +kernel)) (fun j hj => by
    have hj : j < 7 := hj
    rcases (show j = 0 ∨ j = 1 ∨ j = 2 ∨ j = 3 ∨ j = 4 ∨ j = 5 ∨ j = 6 by omega) with rfl | rfl | rfl | rfl | rfl | rfl | rfl <;> exact hs _ (by decide +kernel)) (by decide) hA
set_option maxRecDepth 100000 in
theorem tx_7 {args : Array Value} {s : State} {z : Nat} (hts : ∀ w ∈ lw_tbl, w.before args s = true) (hs : ∀ w ∈ flatC (Jvm.Cond.and given_1 narrow_1), w.before args s = true) (hA : ∀ a : Nat, a < s.heap.size → ¬ z ≤ a) : ∃ q : Nat × Nat, vk_R R_Kind 25 "platform" q.1 s ∧ va_O "java/lang/String" q.1 (fun q => z ≤ q) s s.heap ∧ va_OF "java/lang/String" "coder" "B" (.int 0) q.1 (fun q => z ≤ q) s s.heap ∧ va_OF "java/lang/String" "value" "[B" (.ref q.2) q.1 (fun q => z ≤ q) s s.heap ∧ va_T .byte q.2 ([112, 108, 97, 116, 102, 111, 114, 109] : List Int32).length (fun j => .int (([112, 108, 97, 116, 102, 111, 114, 109] : List Int32).getD j 0)) (fun q => z ≤ q) s s.heap :=
  tx_of (hts _ (List.mem_of_getElem? (i := 402) rfl)) (hs _ (by decide +kernel)) (hs _ (by decide +kernel)) (hs _ (by decide +kernel)) (hs _ (by decide +kernel)) (fun j hj => by
    have hj : j < 8 := hj
    rcases (show j = 0 ∨ j = 1 ∨ j = 2 ∨ j = 3 ∨ j = 4 ∨ j = 5 ∨ j = 6 ∨ j = 7 by omega) with rfl | rfl | rfl | rfl | rfl | rfl | rfl | rfl <;> exact hs _ (by decide +kernel)) (by decide) hA
set_option maxRecDepth 100000 in
theorem tx_8 {args : Array Value} {s : State} {z : Nat} (hts : ∀ w ∈ lw_tbl, w.before args s = true) (hs : ∀ w ∈ flatC (Jvm.Cond.and given_1 narrow_1), w.before args s = true) (hA : ∀ a : Nat, a < s.heap.size → ¬ z ≤ a) : ∃ q : Nat × Nat, vk_R R_Kind 27 "licence" q.1 s ∧ va_O "java/lang/String" q.1 (fun q => z ≤ q) s s.heap ∧ va_OF "java/lang/String" "coder" "B" (.int 0) q.1 (fun q => z ≤ q) s s.heap ∧ va_OF "java/lang/String" "value" "[B" (.ref q.2) q.1 (fun q => z ≤ q) s s.heap ∧ va_T .byte q.2 ([108, 105, 99, 101, 110, 99, 101] : List Int32).length (fun j => .int (([108, 105, 99, 101, 110, 99, 101] : List Int32).getD j 0)) (fun q => z ≤ q) s s.heap :=
  tx_of (hts _ (List.mem_of_getElem? (i := 403) rfl)) (hs _ (by decide +kernel)) (hs _ (by decide +kernel)) (hs _ (by decide +kernel)) (hs _ (by decide +kernel)) (fun j hj => by
    have hj : j < 7 := hj
    rcases (show j = 0 ∨ j = 1 ∨ j = 2 ∨ j = 3 ∨ j = 4 ∨ j = 5 ∨ j = 6 by omega) with rfl | rfl | rfl | rfl | rfl | rfl | rfl <;> exact hs _ (by decide +kernel)) (by decide) hA
set_option maxRecDepth 100000 in
theorem tx_9 {args : Array Value} {s : State} {z : Nat} (hts : ∀ w ∈ lw_tbl, w.before args s = true) (hs : ∀ w ∈ flatC (Jvm.Cond.and given_1 narrow_1), w.before args s = true) (hA : ∀ a : Nat, a < s.heap.size → ¬ z ≤ a) : ∃ q : Nat × Nat, vk_R R_Kind 29 "keeper" q.1 s ∧ va_O "java/lang/String" q.1 (fun q => z ≤ q) s s.heap ∧ va_OF "java/lang/String" "coder" "B" (.int 0) q.1 (fun q => z ≤ q) s s.heap ∧ va_OF "java/lang/String" "value" "[B" (.ref q.2) q.1 (fun q => z ≤ q) s s.heap ∧ va_T .byte q.2 ([107, 101, 101, 112, 101, 114] : List Int32).length (fun j => .int (([107, 101, 101, 112, 101, 114] : List Int32).getD j 0)) (fun q => z ≤ q) s s.heap :=
  tx_of (hts _ (List.mem_of_getElem? (i := 404) rfl)) (hs _ (by decide +kernel)) (hs _ (by decide +kernel)) (hs _ (by decide +kernel)) (hs _ (by decide +kernel)) (fun j hj => by
    have hj : j < 6 := hj
    rcases (show j = 0 ∨ j = 1 ∨ j = 2 ∨ j = 3 ∨ j = 4 ∨ j = 5 by omega) with rfl | rfl | rfl | rfl | rfl | rfl <;> exact hs _ (by decide +kernel)) (by decide) hA
set_option maxRecDepth 100000 in
theorem tx_10 {args : Array Value} {s : State} {z : Nat} (hts : ∀ w ∈ lw_tbl, w.before args s = true) (hs : ∀ w ∈ flatC (Jvm.Cond.and given_1 narrow_1), w.before args s = true) (hA : ∀ a : Nat, a < s.heap.size → ¬ z ≤ a) : ∃ q : Nat × Nat, vk_R R_Kind 31 "script" q.1 s ∧ va_O "java/lang/String" q.1 (fun q => z ≤ q) s s.heap ∧ va_OF "java/lang/String" "coder" "B" (.int 0) q.1 (fun q => z ≤ q) s s.heap ∧ va_OF "java/lang/String" "value" "[B" (.ref q.2) q.1 (fun q => z ≤ q) s s.heap ∧ va_T .byte q.2 ([115, 99, 114, 105, 112, 116] : List Int32).length (fun j => .int (([115, 99, 114, 105, 112, 116] : List Int32).getD j 0)) (fun q => z ≤ q) s s.heap :=
  tx_of (hts _ (List.mem_of_getElem? (i := 405) rfl)) (hs _ (by decide +kernel)) (hs _ (by decide +kernel)) (hs _ (by decide +kernel)) (hs _ (by decide +kernel)) (fun j hj => by
    have hj : j < 6 := hj
    rcases (show j = 0 ∨ j = 1 ∨ j = 2 ∨ j = 3 ∨ j = 4 ∨ j = 5 by omega) with rfl | rfl | rfl | rfl | rfl | rfl <;> exact hs _ (by decide +kernel)) (by decide) hA
set_option maxRecDepth 100000 in
theorem tx_11 {args : Array Value} {s : State} {z : Nat} (hts : ∀ w ∈ lw_tbl, w.before args s = true) (hs : ∀ w ∈ flatC (Jvm.Cond.and given_1 narrow_1), w.before args s = true) (hA : ∀ a : Nat, a < s.heap.size → ¬ z ≤ a) : ∃ q : Nat × Nat, vk_R R_Kind 33 "file" q.1 s ∧ va_O "java/lang/String" q.1 (fun q => z ≤ q) s s.heap ∧ va_OF "java/lang/String" "coder" "B" (.int 0) q.1 (fun q => z ≤ q) s s.heap ∧ va_OF "java/lang/String" "value" "[B" (.ref q.2) q.1 (fun q => z ≤ q) s s.heap ∧ va_T .byte q.2 ([102, 105, 108, 101] : List Int32).length (fun j => .int (([102, 105, 108, 101] : List Int32).getD j 0)) (fun q => z ≤ q) s s.heap :=
  tx_of (hts _ (List.mem_of_getElem? (i := 406) rfl)) (hs _ (by decide +kernel)) (hs _ (by decide +kernel)) (hs _ (by decide +kernel)) (hs _ (by decide +kernel)) (fun j hj => by
    have hj : j < 4 := hj
    rcases (show j = 0 ∨ j = 1 ∨ j = 2 ∨ j = 3 by omega) with rfl | rfl | rfl | rfl <;> exact hs _ (by decide +kernel)) (by decide) hA
set_option maxRecDepth 100000 in
theorem tx_12 {args : Array Value} {s : State} {z : Nat} (hts : ∀ w ∈ lw_tbl, w.before args s = true) (hs : ∀ w ∈ flatC (Jvm.Cond.and given_1 narrow_1), w.before args s = true) (hA : ∀ a : Nat, a < s.heap.size → ¬ z ≤ a) : ∃ q : Nat × Nat, vk_R R_Kind 35 "need" q.1 s ∧ va_O "java/lang/String" q.1 (fun q => z ≤ q) s s.heap ∧ va_OF "java/lang/String" "coder" "B" (.int 0) q.1 (fun q => z ≤ q) s s.heap ∧ va_OF "java/lang/String" "value" "[B" (.ref q.2) q.1 (fun q => z ≤ q) s s.heap ∧ va_T .byte q.2 ([110, 101, 101, 100] : List Int32).length (fun j => .int (([110, 101, 101, 100] : List Int32).getD j 0)) (fun q => z ≤ q) s s.heap :=
  tx_of (hts _ (List.mem_of_getElem? (i := 407) rfl)) (hs _ (by decide +kernel)) (hs _ (by decide +kernel)) (hs _ (by decide +kernel)) (hs _ (by decide +kernel)) (fun j hj => by
    have hj : j < 4 := hj
    rcases (show j = 0 ∨ j = 1 ∨ j = 2 ∨ j = 3 by omega) with rfl | rfl | rfl | rfl <;> exact hs _ (by decide +kernel)) (by decide) hA
set_option maxRecDepth 100000 in
theorem tx_13 {args : Array Value} {s : State} {z : Nat} (hts : ∀ w ∈ lw_tbl, w.before args s = true) (hs : ∀ w ∈ flatC (Jvm.Cond.and given_1 narrow_1), w.before args s = true) (hA : ∀ a : Nat, a < s.heap.size → ¬ z ≤ a) : ∃ q : Nat × Nat, vk_R R_Kind 37 "build" q.1 s ∧ va_O "java/lang/String" q.1 (fun q => z ≤ q) s s.heap ∧ va_OF "java/lang/String" "coder" "B" (.int 0) q.1 (fun q => z ≤ q) s s.heap ∧ va_OF "java/lang/String" "value" "[B" (.ref q.2) q.1 (fun q => z ≤ q) s s.heap ∧ va_T .byte q.2 ([98, 117, 105, 108, 100] : List Int32).length (fun j => .int (([98, 117, 105, 108, 100] : List Int32).getD j 0)) (fun q => z ≤ q) s s.heap :=
  tx_of (hts _ (List.mem_of_getElem? (i := 415) rfl)) (hs _ (by decide +kernel)) (hs _ (by decide +kernel)) (hs _ (by decide +kernel)) (hs _ (by decide +kernel)) (fun j hj => by
    have hj : j < 5 := hj
    rcases (show j = 0 ∨ j = 1 ∨ j = 2 ∨ j = 3 ∨ j = 4 by omega) with rfl | rfl | rfl | rfl | rfl <;> exact hs _ (by decide +kernel)) (by decide) hA
set_option maxRecDepth 100000 in
theorem tx_14 {args : Array Value} {s : State} {z : Nat} (hts : ∀ w ∈ lw_tbl, w.before args s = true) (hs : ∀ w ∈ flatC (Jvm.Cond.and given_1 narrow_1), w.before args s = true) (hA : ∀ a : Nat, a < s.heap.size → ¬ z ≤ a) : ∃ q : Nat × Nat, vk_R R_Kind 39 "test" q.1 s ∧ va_O "java/lang/String" q.1 (fun q => z ≤ q) s s.heap ∧ va_OF "java/lang/String" "coder" "B" (.int 0) q.1 (fun q => z ≤ q) s s.heap ∧ va_OF "java/lang/String" "value" "[B" (.ref q.2) q.1 (fun q => z ≤ q) s s.heap ∧ va_T .byte q.2 ([116, 101, 115, 116] : List Int32).length (fun j => .int (([116, 101, 115, 116] : List Int32).getD j 0)) (fun q => z ≤ q) s s.heap :=
  tx_of (hts _ (List.mem_of_getElem? (i := 416) rfl)) (hs _ (by decide +kernel)) (hs _ (by decide +kernel)) (hs _ (by decide +kernel)) (hs _ (by decide +kernel)) (fun j hj => by
    have hj : j < 4 := hj
    rcases (show j = 0 ∨ j = 1 ∨ j = 2 ∨ j = 3 by omega) with rfl | rfl | rfl | rfl <;> exact hs _ (by decide +kernel)) (by decide) hA
set_option maxRecDepth 100000 in
theorem tx_15 {args : Array Value} {s : State} {z : Nat} (hts : ∀ w ∈ lw_tbl, w.before args s = true) (hs : ∀ w ∈ flatC (Jvm.Cond.and given_1 narrow_1), w.before args s = true) (hA : ∀ a : Nat, a < s.heap.size → ¬ z ≤ a) : ∃ q : Nat × Nat, vk_R R_Kind 41 "optional" q.1 s ∧ va_O "java/lang/String" q.1 (fun q => z ≤ q) s s.heap ∧ va_OF "java/lang/String" "coder" "B" (.int 0) q.1 (fun q => z ≤ q) s s.heap ∧ va_OF "java/lang/String" "value" "[B" (.ref q.2) q.1 (fun q => z ≤ q) s s.heap ∧ va_T .byte q.2 ([111, 112, 116, 105, 111, 110, 97, 108] : List Int32).length (fun j => .int (([111, 112, 116, 105, 111, 110, 97, 108] : List Int32).getD j 0)) (fun q => z ≤ q) s s.heap :=
  tx_of (hts _ (List.mem_of_getElem? (i := 417) rfl)) (hs _ (by decide +kernel)) (hs _ (by decide +kernel)) (hs _ (by decide +kernel)) (hs _ (by decide +kernel)) (fun j hj => by
    have hj : j < 8 := hj
    rcases (show j = 0 ∨ j = 1 ∨ j = 2 ∨ j = 3 ∨ j = 4 ∨ j = 5 ∨ j = 6 ∨ j = 7 by omega) with rfl | rfl | rfl | rfl | rfl | rfl | rfl | rfl <;> exact hs _ (by decide +kernel)) (by decide) hA
set_option maxRecDepth 100000 in
theorem tx_16 {args : Array Value} {s : State} {z : Nat} (hts : ∀ w ∈ lw_tbl, w.before args s = true) (hs : ∀ w ∈ flatC (Jvm.Cond.and given_1 narrow_1), w.before args s = true) (hA : ∀ a : Nat, a < s.heap.size → ¬ z ≤ a) : ∃ q : Nat × Nat, vk_R R_Kind 43 "peer" q.1 s ∧ va_O "java/lang/String" q.1 (fun q => z ≤ q) s s.heap ∧ va_OF "java/lang/String" "coder" "B" (.int 0) q.1 (fun q => z ≤ q) s s.heap ∧ va_OF "java/lang/String" "value" "[B" (.ref q.2) q.1 (fun q => z ≤ q) s s.heap ∧ va_T .byte q.2 ([112, 101, 101, 114] : List Int32).length (fun j => .int (([112, 101, 101, 114] : List Int32).getD j 0)) (fun q => z ≤ q) s s.heap :=
  tx_of (hts _ (List.mem_of_getElem? (i := 418) rfl)) (hs _ (by decide +kernel)) (hs _ (by decide +kernel)) (hs _ (by decide +kernel)) (hs _ (by decide +kernel)) (fun j hj => by
    have hj : j < 4 := hj
    rcases (show j = 0 ∨ j = 1 ∨ j = 2 ∨ j = 3 by omega) with rfl | rfl | rfl | rfl <;> exact hs _ (by decide +kernel)) (by decide) hA
set_option maxRecDepth 100000 in
theorem tx_17 {args : Array Value} {s : State} {z : Nat} (hts : ∀ w ∈ lw_tbl, w.before args s = true) (hs : ∀ w ∈ flatC (Jvm.Cond.and given_1 narrow_1), w.before args s = true) (hA : ∀ a : Nat, a < s.heap.size → ¬ z ≤ a) : ∃ q : Nat × Nat, vk_R R_Kind 45 "run" q.1 s ∧ va_O "java/lang/String" q.1 (fun q => z ≤ q) s s.heap ∧ va_OF "java/lang/String" "coder" "B" (.int 0) q.1 (fun q => z ≤ q) s s.heap ∧ va_OF "java/lang/String" "value" "[B" (.ref q.2) q.1 (fun q => z ≤ q) s s.heap ∧ va_T .byte q.2 ([114, 117, 110] : List Int32).length (fun j => .int (([114, 117, 110] : List Int32).getD j 0)) (fun q => z ≤ q) s s.heap :=
  tx_of (hts _ (List.mem_of_getElem? (i := 419) rfl)) (hs _ (by decide +kernel)) (hs _ (by decide +kernel)) (hs _ (by decide +kernel)) (hs _ (by decide +kernel)) (fun j hj => by
    have hj : j < 3 := hj
    rcases (show j = 0 ∨ j = 1 ∨ j = 2 by omega) with rfl | rfl | rfl <;> exact hs _ (by decide +kernel)) (by decide) hA
set_option maxRecDepth 100000 in
theorem tx_18 {args : Array Value} {s : State} {z : Nat} (hts : ∀ w ∈ lw_tbl, w.before args s = true) (hs : ∀ w ∈ flatC (Jvm.Cond.and given_1 narrow_1), w.before args s = true) (hA : ∀ a : Nat, a < s.heap.size → ¬ z ≤ a) : ∃ q : Nat × Nat, vk_R R_Printer 31 "package " q.1 s ∧ va_O "java/lang/String" q.1 (fun q => z ≤ q) s s.heap ∧ va_OF "java/lang/String" "coder" "B" (.int 0) q.1 (fun q => z ≤ q) s s.heap ∧ va_OF "java/lang/String" "value" "[B" (.ref q.2) q.1 (fun q => z ≤ q) s s.heap ∧ va_T .byte q.2 ([112, 97, 99, 107, 97, 103, 101, 32] : List Int32).length (fun j => .int (([112, 97, 99, 107, 97, 103, 101, 32] : List Int32).getD j 0)) (fun q => z ≤ q) s s.heap :=
  tx_of (hts _ (List.mem_of_getElem? (i := 724) rfl)) (hs _ (by decide +kernel)) (hs _ (by decide +kernel)) (hs _ (by decide +kernel)) (hs _ (by decide +kernel)) (fun j hj => by
    have hj : j < 8 := hj
    rcases (show j = 0 ∨ j = 1 ∨ j = 2 ∨ j = 3 ∨ j = 4 ∨ j = 5 ∨ j = 6 ∨ j = 7 by omega) with rfl | rfl | rfl | rfl | rfl | rfl | rfl | rfl <;> exact hs _ (by decide +kernel)) (by decide) hA
set_option maxRecDepth 100000 in
theorem tx_19 {args : Array Value} {s : State} {z : Nat} (hts : ∀ w ∈ lw_tbl, w.before args s = true) (hs : ∀ w ∈ flatC (Jvm.Cond.and given_1 narrow_1), w.before args s = true) (hA : ∀ a : Nat, a < s.heap.size → ¬ z ≤ a) : ∃ q : Nat × Nat, vk_R R_Printer 70 " | " q.1 s ∧ va_O "java/lang/String" q.1 (fun q => z ≤ q) s s.heap ∧ va_OF "java/lang/String" "coder" "B" (.int 0) q.1 (fun q => z ≤ q) s s.heap ∧ va_OF "java/lang/String" "value" "[B" (.ref q.2) q.1 (fun q => z ≤ q) s s.heap ∧ va_T .byte q.2 ([32, 124, 32] : List Int32).length (fun j => .int (([32, 124, 32] : List Int32).getD j 0)) (fun q => z ≤ q) s s.heap :=
  tx_of (hts _ (List.mem_of_getElem? (i := 759) rfl)) (hs _ (by decide +kernel)) (hs _ (by decide +kernel)) (hs _ (by decide +kernel)) (hs _ (by decide +kernel)) (fun j hj => by
    have hj : j < 3 := hj
    rcases (show j = 0 ∨ j = 1 ∨ j = 2 by omega) with rfl | rfl | rfl <;> exact hs _ (by decide +kernel)) (by decide) hA
set_option maxRecDepth 100000 in
theorem tx_20 {args : Array Value} {s : State} {z : Nat} (hts : ∀ w ∈ lw_tbl, w.before args s = true) (hs : ∀ w ∈ flatC (Jvm.Cond.and given_1 narrow_1), w.before args s = true) (hA : ∀ a : Nat, a < s.heap.size → ¬ z ≤ a) : ∃ q : Nat × Nat, vk_R R_Printer 72 ", " q.1 s ∧ va_O "java/lang/String" q.1 (fun q => z ≤ q) s s.heap ∧ va_OF "java/lang/String" "coder" "B" (.int 0) q.1 (fun q => z ≤ q) s s.heap ∧ va_OF "java/lang/String" "value" "[B" (.ref q.2) q.1 (fun q => z ≤ q) s s.heap ∧ va_T .byte q.2 ([44, 32] : List Int32).length (fun j => .int (([44, 32] : List Int32).getD j 0)) (fun q => z ≤ q) s s.heap :=
  tx_of (hts _ (List.mem_of_getElem? (i := 760) rfl)) (hs _ (by decide +kernel)) (hs _ (by decide +kernel)) (hs _ (by decide +kernel)) (hs _ (by decide +kernel)) (fun j hj => by
    have hj : j < 2 := hj
    rcases (show j = 0 ∨ j = 1 by omega) with rfl | rfl <;> exact hs _ (by decide +kernel)) (by decide) hA
set_option maxRecDepth 100000 in
theorem tx_21 {args : Array Value} {s : State} {z : Nat} (hts : ∀ w ∈ lw_tbl, w.before args s = true) (hs : ∀ w ∈ flatC (Jvm.Cond.and given_1 narrow_1), w.before args s = true) (hA : ∀ a : Nat, a < s.heap.size → ¬ z ≤ a) : ∃ q : Nat × Nat, vk_R R_Printer 74 "; " q.1 s ∧ va_O "java/lang/String" q.1 (fun q => z ≤ q) s s.heap ∧ va_OF "java/lang/String" "coder" "B" (.int 0) q.1 (fun q => z ≤ q) s s.heap ∧ va_OF "java/lang/String" "value" "[B" (.ref q.2) q.1 (fun q => z ≤ q) s s.heap ∧ va_T .byte q.2 ([59, 32] : List Int32).length (fun j => .int (([59, 32] : List Int32).getD j 0)) (fun q => z ≤ q) s s.heap :=
  tx_of (hts _ (List.mem_of_getElem? (i := 761) rfl)) (hs _ (by decide +kernel)) (hs _ (by decide +kernel)) (hs _ (by decide +kernel)) (hs _ (by decide +kernel)) (fun j hj => by
    have hj : j < 2 := hj
    rcases (show j = 0 ∨ j = 1 by omega) with rfl | rfl <;> exact hs _ (by decide +kernel)) (by decide) hA
set_option maxRecDepth 100000 in
theorem tx_22 {args : Array Value} {s : State} {z : Nat} (hts : ∀ w ∈ lw_tbl, w.before args s = true) (hs : ∀ w ∈ flatC (Jvm.Cond.and given_1 narrow_1), w.before args s = true) (hA : ∀ a : Nat, a < s.heap.size → ¬ z ≤ a) : ∃ q : Nat × Nat, vk_R R_Printer 102 ": " q.1 s ∧ va_O "java/lang/String" q.1 (fun q => z ≤ q) s s.heap ∧ va_OF "java/lang/String" "coder" "B" (.int 0) q.1 (fun q => z ≤ q) s s.heap ∧ va_OF "java/lang/String" "value" "[B" (.ref q.2) q.1 (fun q => z ≤ q) s s.heap ∧ va_T .byte q.2 ([58, 32] : List Int32).length (fun j => .int (([58, 32] : List Int32).getD j 0)) (fun q => z ≤ q) s s.heap :=
  tx_of (hts _ (List.mem_of_getElem? (i := 769) rfl)) (hs _ (by decide +kernel)) (hs _ (by decide +kernel)) (hs _ (by decide +kernel)) (hs _ (by decide +kernel)) (fun j hj => by
    have hj : j < 2 := hj
    rcases (show j = 0 ∨ j = 1 by omega) with rfl | rfl <;> exact hs _ (by decide +kernel)) (by decide) hA
set_option maxRecDepth 100000 in
theorem tx_23 {args : Array Value} {s : State} {z : Nat} (hts : ∀ w ∈ lw_tbl, w.before args s = true) (hs : ∀ w ∈ flatC (Jvm.Cond.and given_1 narrow_1), w.before args s = true) (hA : ∀ a : Nat, a < s.heap.size → ¬ z ≤ a) : ∃ q : Nat × Nat, vk_R R_Printer 132 "= " q.1 s ∧ va_O "java/lang/String" q.1 (fun q => z ≤ q) s s.heap ∧ va_OF "java/lang/String" "coder" "B" (.int 0) q.1 (fun q => z ≤ q) s s.heap ∧ va_OF "java/lang/String" "value" "[B" (.ref q.2) q.1 (fun q => z ≤ q) s s.heap ∧ va_T .byte q.2 ([61, 32] : List Int32).length (fun j => .int (([61, 32] : List Int32).getD j 0)) (fun q => z ≤ q) s s.heap :=
  tx_of (hts _ (List.mem_of_getElem? (i := 780) rfl)) (hs _ (by decide +kernel)) (hs _ (by decide +kernel)) (hs _ (by decide +kernel)) (hs _ (by decide +kernel)) (fun j hj => by
    have hj : j < 2 := hj
    rcases (show j = 0 ∨ j = 1 by omega) with rfl | rfl <;> exact hs _ (by decide +kernel)) (by decide) hA
set_option maxRecDepth 100000 in
theorem tx_24 {args : Array Value} {s : State} {z : Nat} (hts : ∀ w ∈ lw_tbl, w.before args s = true) (hs : ∀ w ∈ flatC (Jvm.Cond.and given_1 narrow_1), w.before args s = true) (hA : ∀ a : Nat, a < s.heap.size → ¬ z ≤ a) : ∃ q : Nat × Nat, vk_R R_Printer 134 ">= " q.1 s ∧ va_O "java/lang/String" q.1 (fun q => z ≤ q) s s.heap ∧ va_OF "java/lang/String" "coder" "B" (.int 0) q.1 (fun q => z ≤ q) s s.heap ∧ va_OF "java/lang/String" "value" "[B" (.ref q.2) q.1 (fun q => z ≤ q) s s.heap ∧ va_T .byte q.2 ([62, 61, 32] : List Int32).length (fun j => .int (([62, 61, 32] : List Int32).getD j 0)) (fun q => z ≤ q) s s.heap :=
  tx_of (hts _ (List.mem_of_getElem? (i := 781) rfl)) (hs _ (by decide +kernel)) (hs _ (by decide +kernel)) (hs _ (by decide +kernel)) (hs _ (by decide +kernel)) (fun j hj => by
    have hj : j < 3 := hj
    rcases (show j = 0 ∨ j = 1 ∨ j = 2 by omega) with rfl | rfl | rfl <;> exact hs _ (by decide +kernel)) (by decide) hA
set_option maxRecDepth 100000 in
theorem tx_25 {args : Array Value} {s : State} {z : Nat} (hts : ∀ w ∈ lw_tbl, w.before args s = true) (hs : ∀ w ∈ flatC (Jvm.Cond.and given_1 narrow_1), w.before args s = true) (hA : ∀ a : Nat, a < s.heap.size → ¬ z ≤ a) : ∃ q : Nat × Nat, vk_R R_Printer 136 "< " q.1 s ∧ va_O "java/lang/String" q.1 (fun q => z ≤ q) s s.heap ∧ va_OF "java/lang/String" "coder" "B" (.int 0) q.1 (fun q => z ≤ q) s s.heap ∧ va_OF "java/lang/String" "value" "[B" (.ref q.2) q.1 (fun q => z ≤ q) s s.heap ∧ va_T .byte q.2 ([60, 32] : List Int32).length (fun j => .int (([60, 32] : List Int32).getD j 0)) (fun q => z ≤ q) s s.heap :=
  tx_of (hts _ (List.mem_of_getElem? (i := 782) rfl)) (hs _ (by decide +kernel)) (hs _ (by decide +kernel)) (hs _ (by decide +kernel)) (hs _ (by decide +kernel)) (fun j hj => by
    have hj : j < 2 := hj
    rcases (show j = 0 ∨ j = 1 by omega) with rfl | rfl <;> exact hs _ (by decide +kernel)) (by decide) hA
set_option maxRecDepth 100000 in
theorem tx_26 {args : Array Value} {s : State} {z : Nat} (hts : ∀ w ∈ lw_tbl, w.before args s = true) (hs : ∀ w ∈ flatC (Jvm.Cond.and given_1 narrow_1), w.before args s = true) (hA : ∀ a : Nat, a < s.heap.size → ¬ z ≤ a) : ∃ q : Nat × Nat, vk_R R_Printer 128 "; feature " q.1 s ∧ va_O "java/lang/String" q.1 (fun q => z ≤ q) s s.heap ∧ va_OF "java/lang/String" "coder" "B" (.int 0) q.1 (fun q => z ≤ q) s s.heap ∧ va_OF "java/lang/String" "value" "[B" (.ref q.2) q.1 (fun q => z ≤ q) s s.heap ∧ va_T .byte q.2 ([59, 32, 102, 101, 97, 116, 117, 114, 101, 32] : List Int32).length (fun j => .int (([59, 32, 102, 101, 97, 116, 117, 114, 101, 32] : List Int32).getD j 0)) (fun q => z ≤ q) s s.heap :=
  tx_of (hts _ (List.mem_of_getElem? (i := 792) rfl)) (hs _ (by decide +kernel)) (hs _ (by decide +kernel)) (hs _ (by decide +kernel)) (hs _ (by decide +kernel)) (fun j hj => by
    have hj : j < 10 := hj
    rcases (show j = 0 ∨ j = 1 ∨ j = 2 ∨ j = 3 ∨ j = 4 ∨ j = 5 ∨ j = 6 ∨ j = 7 ∨ j = 8 ∨ j = 9 by omega) with rfl | rfl | rfl | rfl | rfl | rfl | rfl | rfl | rfl | rfl <;> exact hs _ (by decide +kernel)) (by decide) hA
set_option maxHeartbeats 4000000 in
set_option maxRecDepth 100000 in
theorem law_env {s : State} {b : Nat} (hts : ∀ w ∈ lw_tbl, w.before #[Value.ref b] s = true) (hgv : (Jvm.Cond.and given_1 narrow_1).before #[Value.ref b] s = true) : ∃ (D : va_G) (dA : Nat → ClassId) (aK aV : Nat → Nat), va_K D hCl (hTy dA) s ∧ hm_G sT aK aV s.heap.size s s.heap := by
  have hs := flat_of_before _ hgv
  have hA : ∀ a : Nat, a < s.heap.size → ¬ s.heap.size ≤ a := fun a h => Nat.not_le.mpr h
  obtain ⟨c0, iS0, hK0⟩ := u_known (C := R_PR) (T := F_PR) (N := 9) (n := 9) hts (fun w h => wsAll_in w (i_PR w h)) (hts _ (wsAll_in _ wd_919))
  obtain ⟨c1, iS1, hK1⟩ := u_known (C := R_MD) (T := F_MD) (N := 46) (n := 46) hts (fun w h => wsAll_in w (i_MD w h)) (hts _ (wsAll_in _ wd_924))
  obtain ⟨c2, iS2, hK2⟩ := u_known (C := R_Name) (T := F_Name) (N := 3) (n := 3) hts (fun w h => wsAll_in w (i_Name w h)) (hts _ (wsAll_in _ wd_121))
  obtain ⟨c3, iS3, hK3⟩ := u_known (C := R_Pack) (T := F_Pack) (N := 4) (n := 4) hts (fun w h => wsAll_in w (i_Pack w h)) (hts _ (wsAll_in _ wd_272))
  obtain ⟨c4, iS4, hK4⟩ := u_known (C := R_Pairing) (T := F_Pairing) (N := 2) (n := 2) hts (fun w h => wsAll_in w (i_Pairing w h)) (hts _ (wsAll_in _ wd_38))
  obtain ⟨c5, iS5, hK5⟩ := u_known (C := R_Printer) (T := F_Printer) (N := 2) (n := 2) hts (fun w h => wsAll_in w (i_Printer w h)) (hts _ (wsAll_in _ wd_30))
  obtain ⟨c6, iS6, hK6⟩ := u_known (C := R_Reader) (T := F_Reader) (N := 10) (n := 10) hts (fun w h => wsAll_in w (i_Reader w h)) (hts _ (wsAll_in _ wd_4))
  obtain ⟨c7, iS7, hK7⟩ := u_known (C := R_Row) (T := F_Row) (N := 8) (n := 8) hts (fun w h => wsAll_in w (i_Row w h)) (hts _ (wsAll_in _ wd_160))
  obtain ⟨c8, iS8, hK8⟩ := u_known (C := R_Scan) (T := F_Scan) (N := 9) (n := 9) hts (fun w h => wsAll_in w (i_Scan w h)) (hts _ (wsAll_in _ wd_8))
  obtain ⟨a0, k0, m0, p01, p02, p03⟩ := Cond.arrayClass_spec (hts (.arrayClass .char) (List.mem_of_getElem? (i := 124) rfl))
  obtain ⟨m1, a1, k1, p11, p12, p13, p14, p15⟩ := Cond.arrayOver_spec (hts (.arrayOver (.object R_Row)) (List.mem_of_getElem? (i := 126) rfl))
  obtain ⟨a2, k2, m2, p21, p22, p23⟩ := Cond.arrayClass_spec (hts (.arrayClass .int) (List.mem_of_getElem? (i := 161) rfl))
  obtain ⟨m3, a3, k3, p31, p32, p33, p34, p35⟩ := Cond.arrayOver_spec (hts (.arrayOver (.object R_Name)) (List.mem_of_getElem? (i := 128) rfl))
  obtain ⟨m4, a4, k4, p41, p42, p43, p44, p45⟩ := Cond.arrayOver_spec (hts (.arrayOver (.object R_Pack)) (List.mem_of_getElem? (i := 163) rfl))
  obtain ⟨a5, k5, m5, p51, p52, p53⟩ := Cond.arrayClass_spec (hts (.arrayClass .boolean) (List.mem_of_getElem? (i := 194) rfl))
  obtain ⟨a6, k6, m6, p61, p62, p63⟩ := Cond.arrayClass_spec (hts (.arrayClass .byte) (List.mem_of_getElem? (i := 361) rfl))
  obtain ⟨a7, k7, m7, p71, p72, p73⟩ := Cond.arrayClass_spec (hts (.arrayClass .long) (List.mem_of_getElem? (i := 977) rfl))
  obtain ⟨t0, ht0⟩ := tx_0 hts hs hA
  obtain ⟨t1, ht1⟩ := tx_1 hts hs hA
  obtain ⟨t2, ht2⟩ := tx_2 hts hs hA
  obtain ⟨t3, ht3⟩ := tx_3 hts hs hA
  obtain ⟨t4, ht4⟩ := tx_4 hts hs hA
  obtain ⟨t5, ht5⟩ := tx_5 hts hs hA
  obtain ⟨t6, ht6⟩ := tx_6 hts hs hA
  obtain ⟨t7, ht7⟩ := tx_7 hts hs hA
  obtain ⟨t8, ht8⟩ := tx_8 hts hs hA
  obtain ⟨t9, ht9⟩ := tx_9 hts hs hA
  obtain ⟨t10, ht10⟩ := tx_10 hts hs hA
  obtain ⟨t11, ht11⟩ := tx_11 hts hs hA
  obtain ⟨t12, ht12⟩ := tx_12 hts hs hA
  obtain ⟨t13, ht13⟩ := tx_13 hts hs hA
  obtain ⟨t14, ht14⟩ := tx_14 hts hs hA
  obtain ⟨t15, ht15⟩ := tx_15 hts hs hA
  obtain ⟨t16, ht16⟩ := tx_16 hts hs hA
  obtain ⟨t17, ht17⟩ := tx_17 hts hs hA
  obtain ⟨t18, ht18⟩ := tx_18 hts hs hA
  obtain ⟨t19, ht19⟩ := tx_19 hts hs hA
  obtain ⟨t20, ht20⟩ := tx_20 hts hs hA
  obtain ⟨t21, ht21⟩ := tx_21 hts hs hA
  obtain ⟨t22, ht22⟩ := tx_22 hts hs hA
  obtain ⟨t23, ht23⟩ := tx_23 hts hs hA
  obtain ⟨t24, ht24⟩ := tx_24 hts hs hA
  obtain ⟨t25, ht25⟩ := tx_25 hts hs hA
  obtain ⟨t26, ht26⟩ := tx_26 hts hs hA
  refine ⟨(fun k => if k = 0 then c0 else if k = 1 then c1 else if k = 2 then c2 else if k = 3 then c3 else if k = 4 then c4 else if k = 5 then c5 else if k = 6 then c6 else if k = 7 then c7 else c8, fun k => if k = 0 then iS0 else if k = 1 then iS1 else if k = 2 then iS2 else if k = 3 then iS3 else if k = 4 then iS4 else if k = 5 then iS5 else if k = 6 then iS6 else if k = 7 then iS7 else iS8), fun k => if k = 0 then a0 else if k = 1 then a1 else if k = 2 then a2 else if k = 3 then a3 else if k = 4 then a4 else if k = 5 then a5 else if k = 6 then a6 else a7, fun k => (if k = 0 then t0 else if k = 1 then t1 else if k = 2 then t2 else if k = 3 then t3 else if k = 4 then t4 else if k = 5 then t5 else if k = 6 then t6 else if k = 7 then t7 else if k = 8 then t8 else if k = 9 then t9 else if k = 10 then t10 else if k = 11 then t11 else if k = 12 then t12 else if k = 13 then t13 else if k = 14 then t14 else if k = 15 then t15 else if k = 16 then t16 else if k = 17 then t17 else if k = 18 then t18 else if k = 19 then t19 else if k = 20 then t20 else if k = 21 then t21 else if k = 22 then t22 else if k = 23 then t23 else if k = 24 then t24 else if k = 25 then t25 else t26).1, fun k => (if k = 0 then t0 else if k = 1 then t1 else if k = 2 then t2 else if k = 3 then t3 else if k = 4 then t4 else if k = 5 then t5 else if k = 6 then t6 else if k = 7 then t7 else if k = 8 then t8 else if k = 9 then t9 else if k = 10 then t10 else if k = 11 then t11 else if k = 12 then t12 else if k = 13 then t13 else if k = 14 then t14 else if k = 15 then t15 else if k = 16 then t16 else if k = 17 then t17 else if k = 18 then t18 else if k = 19 then t19 else if k = 20 then t20 else if k = 21 then t21 else if k = 22 then t22 else if k = 23 then t23 else if k = 24 then t24 else if k = 25 then t25 else t26).2, ⟨?_, ?_⟩, ?_, ?_, ?_, ?_, ?_⟩
  · intro k q hq
    match k, hq with
    | 0, hq => cases hq; exact hK0
    | 1, hq => cases hq; exact hK1
    | 2, hq => cases hq; exact hK2
    | 3, hq => cases hq; exact hK3
    | 4, hq => cases hq; exact hK4
    | 5, hq => cases hq; exact hK5
    | 6, hq => cases hq; exact hK6
    | 7, hq => cases hq; exact hK7
    | 8, hq => cases hq; exact hK8
    | k + 9, hq => simp [hCl] at hq
  · intro k q hq
    match k, hq with
    | 0, hq => cases hq; exact ⟨fun n z => ⟨fun k h => (by cases h), k0, p02, m0, p03⟩, p01⟩
    | 1, hq => cases hq; exact ⟨fun n z => ⟨fun k h => (by cases h), k1, p13, m1, p14⟩, k1, m1, p13, p14, p11, p15⟩
    | 2, hq => cases hq; exact ⟨fun n z => ⟨fun k h => (by cases h), k2, p22, m2, p23⟩, p21⟩
    | 3, hq => cases hq; exact ⟨fun n z => ⟨fun k h => (by cases h), k3, p33, m3, p34⟩, k3, m3, p33, p34, p31, p35⟩
    | 4, hq => cases hq; exact ⟨fun n z => ⟨fun k h => (by cases h), k4, p43, m4, p44⟩, k4, m4, p43, p44, p41, p45⟩
    | 5, hq => cases hq; exact ⟨fun n z => ⟨fun k h => (by cases h), k5, p52, m5, p53⟩, p51⟩
    | 6, hq => cases hq; exact ⟨fun n z => ⟨fun k h => (by cases h), k6, p62, m6, p63⟩, p61⟩
    | 7, hq => cases hq; exact ⟨fun n z => ⟨fun k h => (by cases h), k7, p72, m7, p73⟩, p71⟩
    | k + 8, hq => simp [hTy] at hq
  · intro i q hq
    match i, hq with
    | 0, hq => cases hq; exact ht0
    | 1, hq => cases hq; exact ht1
    | 2, hq => cases hq; exact ht2
    | 3, hq => cases hq; exact ht3
    | 4, hq => cases hq; exact ht4
    | 5, hq => cases hq; exact ht5
    | 6, hq => cases hq; exact ht6
    | 7, hq => cases hq; exact ht7
    | 8, hq => cases hq; exact ht8
    | 9, hq => cases hq; exact ht9
    | 10, hq => cases hq; exact ht10
    | 11, hq => cases hq; exact ht11
    | 12, hq => cases hq; exact ht12
    | 13, hq => cases hq; exact ht13
    | 14, hq => cases hq; exact ht14
    | 15, hq => cases hq; exact ht15
    | 16, hq => cases hq; exact ht16
    | 17, hq => cases hq; exact ht17
    | 18, hq => cases hq; exact ht18
    | 19, hq => cases hq; exact ht19
    | 20, hq => cases hq; exact ht20
    | 21, hq => cases hq; exact ht21
    | 22, hq => cases hq; exact ht22
    | 23, hq => cases hq; exact ht23
    | 24, hq => cases hq; exact ht24
    | 25, hq => cases hq; exact ht25
    | 26, hq => cases hq; exact ht26
    | k + 27, hq => simp [sT] at hq
  · exact va_Zof (hts _ (List.mem_of_getElem? (i := 287) rfl)) (hts _ (List.mem_of_getElem? (i := 63) rfl)) (va_eqi (hs _ (by decide +kernel))) hA
  · exact va_Zqof (hts _ (List.mem_of_getElem? (i := 303) rfl)) (hts _ (List.mem_of_getElem? (i := 65) rfl)) (hs _ (by decide +kernel)) hA
  · intro C hC
    simp only [sT, List.mem_cons, List.not_mem_nil, or_false] at hC
    rcases hC with rfl | rfl | rfl
    · exact va_AO.of (hts (.arrayOver (.object R_Row)) (List.mem_of_getElem? (i := 126) rfl))
    · exact va_AO.of (hts (.arrayOver (.object R_Name)) (List.mem_of_getElem? (i := 128) rfl))
    · exact va_AO.of (hts (.arrayOver (.object R_Pack)) (List.mem_of_getElem? (i := 163) rfl))
  · intro q hq
    simp only [sT, List.mem_cons, List.not_mem_nil, or_false] at hq
    rcases hq with rfl | rfl | rfl | rfl
    · exact va_Nw.of rfl (hts (.methodLinkNest R_Reader 11 y_Scan_init R_PR) (List.mem_of_getElem? (i := 87) rfl))
    · exact va_Nw.of rfl (hts (.methodLinkNest R_PR 11 y_Reader_init R_PR) (List.mem_of_getElem? (i := 81) rfl))
    · exact va_Nw.of rfl (hts (.methodLinkNest R_PR 29 y_Printer_init R_PR) (List.mem_of_getElem? (i := 166) rfl))
    · exact va_Nw.of rfl (hts (.methodLinkNest R_PR 36 y_Pairing_init R_PR) (List.mem_of_getElem? (i := 181) rfl))
