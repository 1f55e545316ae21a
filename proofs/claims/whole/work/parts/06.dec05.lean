theorem d_MD_readAll_0 : decode b_MD_readAll 0 = .ok (.aload_n 0, 1) := by decide +kernel
theorem d_MD_readAll_1 : decode b_MD_readAll 1 = .ok (.getfield 218, 3) := by decide +kernel
theorem d_MD_readAll_4 : decode b_MD_readAll 4 = .ok (.istore_n 1, 1) := by decide +kernel
theorem d_MD_readAll_5 : decode b_MD_readAll 5 = .ok (.aload_n 0, 1) := by decide +kernel
theorem d_MD_readAll_6 : decode b_MD_readAll 6 = .ok (.iconst 0, 1) := by decide +kernel
theorem d_MD_readAll_7 : decode b_MD_readAll 7 = .ok (.putfield 141, 3) := by decide +kernel
theorem d_MD_readAll_10 : decode b_MD_readAll 10 = .ok (.aload_n 0, 1) := by decide +kernel
theorem d_MD_readAll_11 : decode b_MD_readAll 11 = .ok (.iconst 0, 1) := by decide +kernel
theorem d_MD_readAll_12 : decode b_MD_readAll 12 = .ok (.putfield 163, 3) := by decide +kernel
theorem d_MD_readAll_15 : decode b_MD_readAll 15 = .ok (.aload_n 0, 1) := by decide +kernel
theorem d_MD_readAll_16 : decode b_MD_readAll 16 = .ok (.iconst 0, 1) := by decide +kernel
theorem d_MD_readAll_17 : decode b_MD_readAll 17 = .ok (.putfield 221, 3) := by decide +kernel
theorem d_MD_readAll_20 : decode b_MD_readAll 20 = .ok (.aload_n 0, 1) := by decide +kernel
theorem d_MD_readAll_21 : decode b_MD_readAll 21 = .ok (.iconst 0, 1) := by decide +kernel
theorem d_MD_readAll_22 : decode b_MD_readAll 22 = .ok (.putfield 234, 3) := by decide +kernel
theorem d_MD_readAll_25 : decode b_MD_readAll 25 = .ok (.aload_n 0, 1) := by decide +kernel
theorem d_MD_readAll_26 : decode b_MD_readAll 26 = .ok (.iconst 0, 1) := by decide +kernel
theorem d_MD_readAll_27 : decode b_MD_readAll 27 = .ok (.putfield 269, 3) := by decide +kernel
theorem d_MD_readAll_30 : decode b_MD_readAll 30 = .ok (.aload_n 0, 1) := by decide +kernel
theorem d_MD_readAll_31 : decode b_MD_readAll 31 = .ok (.getfield 64, 3) := by decide +kernel
theorem d_MD_readAll_34 : decode b_MD_readAll 34 = .ok (.iload_n 1, 1) := by decide +kernel
theorem d_MD_readAll_35 : decode b_MD_readAll 35 = .ok (.iconst 0, 1) := by decide +kernel
theorem d_MD_readAll_36 : decode b_MD_readAll 36 = .ok (.iastore, 1) := by decide +kernel
theorem d_MD_readAll_37 : decode b_MD_readAll 37 = .ok (.aload_n 0, 1) := by decide +kernel
theorem d_MD_readAll_38 : decode b_MD_readAll 38 = .ok (.invokevirtual 170, 3) := by decide +kernel
theorem d_MD_readAll_41 : decode b_MD_readAll 41 = .ok (.aload_n 0, 1) := by decide +kernel
theorem d_MD_readAll_42 : decode b_MD_readAll 42 = .ok (.invokevirtual 247, 3) := by decide +kernel
theorem d_MD_readAll_45 : decode b_MD_readAll 45 = .ok (.ldc2_w 288, 3) := by decide +kernel
theorem d_MD_readAll_48 : decode b_MD_readAll 48 = .ok (.lcmp, 1) := by decide +kernel
theorem d_MD_readAll_49 : decode b_MD_readAll 49 = .ok (.ifCond .eq 12, 3) := by decide +kernel
theorem d_MD_readAll_52 : decode b_MD_readAll 52 = .ok (.aload_n 0, 1) := by decide +kernel
theorem d_MD_readAll_53 : decode b_MD_readAll 53 = .ok (.aload_n 0, 1) := by decide +kernel
theorem d_MD_readAll_54 : decode b_MD_readAll 54 = .ok (.getfield 147, 3) := by decide +kernel
theorem d_MD_readAll_57 : decode b_MD_readAll 57 = .ok (.invokevirtual 173, 3) := by decide +kernel
theorem d_MD_readAll_60 : decode b_MD_readAll 60 = .ok (.return_, 1) := by decide +kernel
theorem d_MD_readAll_61 : decode b_MD_readAll 61 = .ok (.aload_n 0, 1) := by decide +kernel
theorem d_MD_readAll_62 : decode b_MD_readAll 62 = .ok (.invokevirtual 170, 3) := by decide +kernel
theorem d_MD_readAll_65 : decode b_MD_readAll 65 = .ok (.aload_n 0, 1) := by decide +kernel
theorem d_MD_readAll_66 : decode b_MD_readAll 66 = .ok (.invokevirtual 253, 3) := by decide +kernel
theorem d_MD_readAll_69 : decode b_MD_readAll 69 = .ok (.istore_n 2, 1) := by decide +kernel
theorem d_MD_readAll_70 : decode b_MD_readAll 70 = .ok (.aload_n 0, 1) := by decide +kernel
theorem d_MD_readAll_71 : decode b_MD_readAll 71 = .ok (.getfield 241, 3) := by decide +kernel
theorem d_MD_readAll_74 : decode b_MD_readAll 74 = .ok (.istore_n 3, 1) := by decide +kernel
theorem d_MD_readAll_75 : decode b_MD_readAll 75 = .ok (.aload_n 0, 1) := by decide +kernel
theorem d_MD_readAll_76 : decode b_MD_readAll 76 = .ok (.getfield 70, 3) := by decide +kernel
theorem d_MD_readAll_79 : decode b_MD_readAll 79 = .ok (.iload_n 1, 1) := by decide +kernel
theorem d_MD_readAll_80 : decode b_MD_readAll 80 = .ok (.aload_n 0, 1) := by decide +kernel
theorem d_MD_readAll_81 : decode b_MD_readAll 81 = .ok (.invokevirtual 193, 3) := by decide +kernel
theorem d_MD_readAll_84 : decode b_MD_readAll 84 = .ok (.lastore, 1) := by decide +kernel
theorem d_MD_readAll_85 : decode b_MD_readAll 85 = .ok (.aload_n 0, 1) := by decide +kernel
theorem d_MD_readAll_86 : decode b_MD_readAll 86 = .ok (.bipush 59, 2) := by decide +kernel
theorem d_MD_readAll_88 : decode b_MD_readAll 88 = .ok (.invokevirtual 184, 3) := by decide +kernel
theorem d_MD_readAll_91 : decode b_MD_readAll 91 = .ok (.aload_n 0, 1) := by decide +kernel
theorem d_MD_readAll_92 : decode b_MD_readAll 92 = .ok (.invokevirtual 166, 3) := by decide +kernel
theorem d_MD_readAll_95 : decode b_MD_readAll 95 = .ok (.ifCond .ne 24, 3) := by decide +kernel
theorem d_MD_readAll_98 : decode b_MD_readAll 98 = .ok (.aload_n 0, 1) := by decide +kernel
theorem d_MD_readAll_99 : decode b_MD_readAll 99 = .ok (.getfield 58, 3) := by decide +kernel
theorem d_MD_readAll_102 : decode b_MD_readAll 102 = .ok (.iload_n 1, 1) := by decide +kernel
theorem d_MD_readAll_103 : decode b_MD_readAll 103 = .ok (.iload_n 3, 1) := by decide +kernel
theorem d_MD_readAll_104 : decode b_MD_readAll 104 = .ok (.iastore, 1) := by decide +kernel
theorem d_MD_readAll_105 : decode b_MD_readAll 105 = .ok (.aload_n 0, 1) := by decide +kernel
theorem d_MD_readAll_106 : decode b_MD_readAll 106 = .ok (.iload_n 2, 1) := by decide +kernel
theorem d_MD_readAll_107 : decode b_MD_readAll 107 = .ok (.iload_n 3, 1) := by decide +kernel
theorem d_MD_readAll_108 : decode b_MD_readAll 108 = .ok (.aload_n 0, 1) := by decide +kernel
theorem d_MD_readAll_109 : decode b_MD_readAll 109 = .ok (.getfield 67, 3) := by decide +kernel
theorem d_MD_readAll_112 : decode b_MD_readAll 112 = .ok (.bipush 20, 2) := by decide +kernel
theorem d_MD_readAll_114 : decode b_MD_readAll 114 = .ok (.iload_n 1, 1) := by decide +kernel
theorem d_MD_readAll_115 : decode b_MD_readAll 115 = .ok (.imul, 1) := by decide +kernel
theorem d_MD_readAll_116 : decode b_MD_readAll 116 = .ok (.invokevirtual 237, 3) := by decide +kernel
theorem d_MD_readAll_119 : decode b_MD_readAll 119 = .ok (.aload_n 0, 1) := by decide +kernel
theorem d_MD_readAll_120 : decode b_MD_readAll 120 = .ok (.invokevirtual 166, 3) := by decide +kernel
theorem d_MD_readAll_123 : decode b_MD_readAll 123 = .ok (.ifCond .ne 18, 3) := by decide +kernel
theorem d_MD_readAll_126 : decode b_MD_readAll 126 = .ok (.aload_n 0, 1) := by decide +kernel
theorem d_MD_readAll_127 : decode b_MD_readAll 127 = .ok (.getfield 150, 3) := by decide +kernel
theorem d_MD_readAll_130 : decode b_MD_readAll 130 = .ok (.iconst (-1), 1) := by decide +kernel
theorem d_MD_readAll_131 : decode b_MD_readAll 131 = .ok (.if_icmp .eq 10, 3) := by decide +kernel
theorem d_MD_readAll_134 : decode b_MD_readAll 134 = .ok (.aload_n 0, 1) := by decide +kernel
theorem d_MD_readAll_135 : decode b_MD_readAll 135 = .ok (.invokevirtual 290, 3) := by decide +kernel
theorem d_MD_readAll_138 : decode b_MD_readAll 138 = .ok (.goto (-19), 3) := by decide +kernel
theorem d_MD_readAll_141 : decode b_MD_readAll 141 = .ok (.iconst 0, 1) := by decide +kernel
theorem d_MD_readAll_142 : decode b_MD_readAll 142 = .ok (.istore 4, 2) := by decide +kernel
theorem d_MD_readAll_144 : decode b_MD_readAll 144 = .ok (.iload 4, 2) := by decide +kernel
theorem d_MD_readAll_146 : decode b_MD_readAll 146 = .ok (.aload_n 0, 1) := by decide +kernel
theorem d_MD_readAll_147 : decode b_MD_readAll 147 = .ok (.getfield 269, 3) := by decide +kernel
theorem d_MD_readAll_150 : decode b_MD_readAll 150 = .ok (.if_icmp .ge 53, 3) := by decide +kernel
theorem d_MD_readAll_153 : decode b_MD_readAll 153 = .ok (.aload_n 0, 1) := by decide +kernel
theorem d_MD_readAll_154 : decode b_MD_readAll 154 = .ok (.invokevirtual 166, 3) := by decide +kernel
theorem d_MD_readAll_157 : decode b_MD_readAll 157 = .ok (.ifCond .ne 46, 3) := by decide +kernel
theorem d_MD_readAll_160 : decode b_MD_readAll 160 = .ok (.aload_n 0, 1) := by decide +kernel
theorem d_MD_readAll_161 : decode b_MD_readAll 161 = .ok (.iload_n 1, 1) := by decide +kernel
theorem d_MD_readAll_162 : decode b_MD_readAll 162 = .ok (.aload_n 0, 1) := by decide +kernel
theorem d_MD_readAll_163 : decode b_MD_readAll 163 = .ok (.getfield 7, 3) := by decide +kernel
theorem d_MD_readAll_166 : decode b_MD_readAll 166 = .ok (.aload_n 0, 1) := by decide +kernel
theorem d_MD_readAll_167 : decode b_MD_readAll 167 = .ok (.getfield 109, 3) := by decide +kernel
theorem d_MD_readAll_170 : decode b_MD_readAll 170 = .ok (.iload 4, 2) := by decide +kernel
theorem d_MD_readAll_172 : decode b_MD_readAll 172 = .ok (.iaload, 1) := by decide +kernel
theorem d_MD_readAll_173 : decode b_MD_readAll 173 = .ok (.aload_n 0, 1) := by decide +kernel
theorem d_MD_readAll_174 : decode b_MD_readAll 174 = .ok (.getfield 112, 3) := by decide +kernel
theorem d_MD_readAll_177 : decode b_MD_readAll 177 = .ok (.iload 4, 2) := by decide +kernel
theorem d_MD_readAll_179 : decode b_MD_readAll 179 = .ok (.iaload, 1) := by decide +kernel
theorem d_MD_readAll_180 : decode b_MD_readAll 180 = .ok (.invokevirtual 293, 3) := by decide +kernel
theorem d_MD_readAll_183 : decode b_MD_readAll 183 = .ok (.ifCond .ne 14, 3) := by decide +kernel
theorem d_MD_readAll_186 : decode b_MD_readAll 186 = .ok (.aload_n 0, 1) := by decide +kernel
theorem d_MD_readAll_187 : decode b_MD_readAll 187 = .ok (.aload_n 0, 1) := by decide +kernel
theorem d_MD_readAll_188 : decode b_MD_readAll 188 = .ok (.getfield 109, 3) := by decide +kernel
theorem d_MD_readAll_191 : decode b_MD_readAll 191 = .ok (.iload 4, 2) := by decide +kernel
theorem d_MD_readAll_193 : decode b_MD_readAll 193 = .ok (.iaload, 1) := by decide +kernel
theorem d_MD_readAll_194 : decode b_MD_readAll 194 = .ok (.invokevirtual 173, 3) := by decide +kernel
theorem d_MD_readAll_197 : decode b_MD_readAll 197 = .ok (.iinc 4 1, 3) := by decide +kernel
theorem d_MD_readAll_200 : decode b_MD_readAll 200 = .ok (.goto (-56), 3) := by decide +kernel
theorem d_MD_readAll_203 : decode b_MD_readAll 203 = .ok (.return_, 1) := by decide +kernel
theorem d_MD_order_0 : decode b_MD_order 0 = .ok (.aload_n 0, 1) := by decide +kernel
theorem d_MD_order_1 : decode b_MD_order 1 = .ok (.getfield 80, 3) := by decide +kernel
theorem d_MD_order_4 : decode b_MD_order 4 = .ok (.iload_n 1, 1) := by decide +kernel
theorem d_MD_order_5 : decode b_MD_order 5 = .ok (.baload, 1) := by decide +kernel
theorem d_MD_order_6 : decode b_MD_order 6 = .ok (.aload_n 0, 1) := by decide +kernel
theorem d_MD_order_7 : decode b_MD_order 7 = .ok (.getfield 80, 3) := by decide +kernel
theorem d_MD_order_10 : decode b_MD_order 10 = .ok (.iload_n 2, 1) := by decide +kernel
theorem d_MD_order_11 : decode b_MD_order 11 = .ok (.baload, 1) := by decide +kernel
theorem d_MD_order_12 : decode b_MD_order 12 = .ok (.if_icmp .eq 17, 3) := by decide +kernel
theorem d_MD_order_15 : decode b_MD_order 15 = .ok (.aload_n 0, 1) := by decide +kernel
theorem d_MD_order_16 : decode b_MD_order 16 = .ok (.getfield 80, 3) := by decide +kernel
theorem d_MD_order_19 : decode b_MD_order 19 = .ok (.iload_n 1, 1) := by decide +kernel
theorem d_MD_order_20 : decode b_MD_order 20 = .ok (.baload, 1) := by decide +kernel
theorem d_MD_order_21 : decode b_MD_order 21 = .ok (.aload_n 0, 1) := by decide +kernel
theorem d_MD_order_22 : decode b_MD_order 22 = .ok (.getfield 80, 3) := by decide +kernel
theorem d_MD_order_25 : decode b_MD_order 25 = .ok (.iload_n 2, 1) := by decide +kernel
theorem d_MD_order_26 : decode b_MD_order 26 = .ok (.baload, 1) := by decide +kernel
theorem d_MD_order_27 : decode b_MD_order 27 = .ok (.isub, 1) := by decide +kernel
theorem d_MD_order_28 : decode b_MD_order 28 = .ok (.ireturn, 1) := by decide +kernel
theorem d_MD_order_29 : decode b_MD_order 29 = .ok (.aload_n 0, 1) := by decide +kernel
theorem d_MD_order_30 : decode b_MD_order 30 = .ok (.getfield 83, 3) := by decide +kernel
theorem d_MD_order_33 : decode b_MD_order 33 = .ok (.iload_n 1, 1) := by decide +kernel
theorem d_MD_order_34 : decode b_MD_order 34 = .ok (.iaload, 1) := by decide +kernel
theorem d_MD_order_35 : decode b_MD_order 35 = .ok (.aload_n 0, 1) := by decide +kernel
theorem d_MD_order_36 : decode b_MD_order 36 = .ok (.getfield 83, 3) := by decide +kernel
theorem d_MD_order_39 : decode b_MD_order 39 = .ok (.iload_n 2, 1) := by decide +kernel
theorem d_MD_order_40 : decode b_MD_order 40 = .ok (.iaload, 1) := by decide +kernel
theorem d_MD_order_41 : decode b_MD_order 41 = .ok (.if_icmp .eq 17, 3) := by decide +kernel
theorem d_MD_order_44 : decode b_MD_order 44 = .ok (.aload_n 0, 1) := by decide +kernel
theorem d_MD_order_45 : decode b_MD_order 45 = .ok (.getfield 83, 3) := by decide +kernel
theorem d_MD_order_48 : decode b_MD_order 48 = .ok (.iload_n 1, 1) := by decide +kernel
theorem d_MD_order_49 : decode b_MD_order 49 = .ok (.iaload, 1) := by decide +kernel
theorem d_MD_order_50 : decode b_MD_order 50 = .ok (.aload_n 0, 1) := by decide +kernel
theorem d_MD_order_51 : decode b_MD_order 51 = .ok (.getfield 83, 3) := by decide +kernel
theorem d_MD_order_54 : decode b_MD_order 54 = .ok (.iload_n 2, 1) := by decide +kernel
theorem d_MD_order_55 : decode b_MD_order 55 = .ok (.iaload, 1) := by decide +kernel
theorem d_MD_order_56 : decode b_MD_order 56 = .ok (.isub, 1) := by decide +kernel
theorem d_MD_order_57 : decode b_MD_order 57 = .ok (.ireturn, 1) := by decide +kernel
theorem d_MD_order_58 : decode b_MD_order 58 = .ok (.aload_n 0, 1) := by decide +kernel
theorem d_MD_order_59 : decode b_MD_order 59 = .ok (.getfield 80, 3) := by decide +kernel
theorem d_MD_order_62 : decode b_MD_order 62 = .ok (.iload_n 1, 1) := by decide +kernel
theorem d_MD_order_63 : decode b_MD_order 63 = .ok (.baload, 1) := by decide +kernel
theorem d_MD_order_64 : decode b_MD_order 64 = .ok (.bipush 9, 2) := by decide +kernel
theorem d_MD_order_66 : decode b_MD_order 66 = .ok (.if_icmp .ne 38, 3) := by decide +kernel
theorem d_MD_order_69 : decode b_MD_order 69 = .ok (.aload_n 0, 1) := by decide +kernel
theorem d_MD_order_70 : decode b_MD_order 70 = .ok (.aload_n 0, 1) := by decide +kernel
theorem d_MD_order_71 : decode b_MD_order 71 = .ok (.getfield 96, 3) := by decide +kernel
theorem d_MD_order_74 : decode b_MD_order 74 = .ok (.bipush 20, 2) := by decide +kernel
theorem d_MD_order_76 : decode b_MD_order 76 = .ok (.iload_n 1, 1) := by decide +kernel
theorem d_MD_order_77 : decode b_MD_order 77 = .ok (.imul, 1) := by decide +kernel
theorem d_MD_order_78 : decode b_MD_order 78 = .ok (.aload_n 0, 1) := by decide +kernel
theorem d_MD_order_79 : decode b_MD_order 79 = .ok (.getfield 89, 3) := by decide +kernel
theorem d_MD_order_82 : decode b_MD_order 82 = .ok (.iload_n 1, 1) := by decide +kernel
theorem d_MD_order_83 : decode b_MD_order 83 = .ok (.iaload, 1) := by decide +kernel
theorem d_MD_order_84 : decode b_MD_order 84 = .ok (.aload_n 0, 1) := by decide +kernel
theorem d_MD_order_85 : decode b_MD_order 85 = .ok (.getfield 96, 3) := by decide +kernel
theorem d_MD_order_88 : decode b_MD_order 88 = .ok (.bipush 20, 2) := by decide +kernel
theorem d_MD_order_90 : decode b_MD_order 90 = .ok (.iload_n 2, 1) := by decide +kernel
theorem d_MD_order_91 : decode b_MD_order 91 = .ok (.imul, 1) := by decide +kernel
theorem d_MD_order_92 : decode b_MD_order 92 = .ok (.aload_n 0, 1) := by decide +kernel
theorem d_MD_order_93 : decode b_MD_order 93 = .ok (.getfield 89, 3) := by decide +kernel
theorem d_MD_order_96 : decode b_MD_order 96 = .ok (.iload_n 2, 1) := by decide +kernel
theorem d_MD_order_97 : decode b_MD_order 97 = .ok (.iaload, 1) := by decide +kernel
theorem d_MD_order_98 : decode b_MD_order 98 = .ok (.invokevirtual 284, 3) := by decide +kernel
theorem d_MD_order_101 : decode b_MD_order 101 = .ok (.goto 4, 3) := by decide +kernel
theorem d_MD_order_104 : decode b_MD_order 104 = .ok (.iconst 0, 1) := by decide +kernel
theorem d_MD_order_105 : decode b_MD_order 105 = .ok (.istore_n 3, 1) := by decide +kernel
theorem d_MD_order_106 : decode b_MD_order 106 = .ok (.iload_n 3, 1) := by decide +kernel
theorem d_MD_order_107 : decode b_MD_order 107 = .ok (.ifCond .eq 7, 3) := by decide +kernel
theorem d_MD_order_110 : decode b_MD_order 110 = .ok (.iload_n 3, 1) := by decide +kernel
theorem d_MD_order_111 : decode b_MD_order 111 = .ok (.goto 35, 3) := by decide +kernel
theorem d_MD_order_114 : decode b_MD_order 114 = .ok (.aload_n 0, 1) := by decide +kernel
theorem d_MD_order_115 : decode b_MD_order 115 = .ok (.aload_n 0, 1) := by decide +kernel
theorem d_MD_order_116 : decode b_MD_order 116 = .ok (.getfield 93, 3) := by decide +kernel
theorem d_MD_order_119 : decode b_MD_order 119 = .ok (.bipush 20, 2) := by decide +kernel
theorem d_MD_order_121 : decode b_MD_order 121 = .ok (.iload_n 1, 1) := by decide +kernel
theorem d_MD_order_122 : decode b_MD_order 122 = .ok (.imul, 1) := by decide +kernel
theorem d_MD_order_123 : decode b_MD_order 123 = .ok (.aload_n 0, 1) := by decide +kernel
theorem d_MD_order_124 : decode b_MD_order 124 = .ok (.getfield 86, 3) := by decide +kernel
theorem d_MD_order_127 : decode b_MD_order 127 = .ok (.iload_n 1, 1) := by decide +kernel
theorem d_MD_order_128 : decode b_MD_order 128 = .ok (.iaload, 1) := by decide +kernel
theorem d_MD_order_129 : decode b_MD_order 129 = .ok (.aload_n 0, 1) := by decide +kernel
theorem d_MD_order_130 : decode b_MD_order 130 = .ok (.getfield 93, 3) := by decide +kernel
theorem d_MD_order_133 : decode b_MD_order 133 = .ok (.bipush 20, 2) := by decide +kernel
theorem d_MD_order_135 : decode b_MD_order 135 = .ok (.iload_n 2, 1) := by decide +kernel
theorem d_MD_order_136 : decode b_MD_order 136 = .ok (.imul, 1) := by decide +kernel
theorem d_MD_order_137 : decode b_MD_order 137 = .ok (.aload_n 0, 1) := by decide +kernel
theorem d_MD_order_138 : decode b_MD_order 138 = .ok (.getfield 86, 3) := by decide +kernel
theorem d_MD_order_141 : decode b_MD_order 141 = .ok (.iload_n 2, 1) := by decide +kernel
theorem d_MD_order_142 : decode b_MD_order 142 = .ok (.iaload, 1) := by decide +kernel
theorem d_MD_order_143 : decode b_MD_order 143 = .ok (.invokevirtual 284, 3) := by decide +kernel
theorem d_MD_order_146 : decode b_MD_order 146 = .ok (.ireturn, 1) := by decide +kernel
theorem d_MD_exchange_0 : decode b_MD_exchange 0 = .ok (.aload_n 0, 1) := by decide +kernel
theorem d_MD_exchange_1 : decode b_MD_exchange 1 = .ok (.getfield 80, 3) := by decide +kernel
theorem d_MD_exchange_4 : decode b_MD_exchange 4 = .ok (.iload_n 1, 1) := by decide +kernel
theorem d_MD_exchange_5 : decode b_MD_exchange 5 = .ok (.baload, 1) := by decide +kernel
theorem d_MD_exchange_6 : decode b_MD_exchange 6 = .ok (.istore_n 3, 1) := by decide +kernel
theorem d_MD_exchange_7 : decode b_MD_exchange 7 = .ok (.aload_n 0, 1) := by decide +kernel
theorem d_MD_exchange_8 : decode b_MD_exchange 8 = .ok (.getfield 80, 3) := by decide +kernel
theorem d_MD_exchange_11 : decode b_MD_exchange 11 = .ok (.iload_n 1, 1) := by decide +kernel
theorem d_MD_exchange_12 : decode b_MD_exchange 12 = .ok (.aload_n 0, 1) := by decide +kernel
theorem d_MD_exchange_13 : decode b_MD_exchange 13 = .ok (.getfield 80, 3) := by decide +kernel
theorem d_MD_exchange_16 : decode b_MD_exchange 16 = .ok (.iload_n 2, 1) := by decide +kernel
theorem d_MD_exchange_17 : decode b_MD_exchange 17 = .ok (.baload, 1) := by decide +kernel
theorem d_MD_exchange_18 : decode b_MD_exchange 18 = .ok (.bastore, 1) := by decide +kernel
theorem d_MD_exchange_19 : decode b_MD_exchange 19 = .ok (.aload_n 0, 1) := by decide +kernel
theorem d_MD_exchange_20 : decode b_MD_exchange 20 = .ok (.getfield 80, 3) := by decide +kernel
theorem d_MD_exchange_23 : decode b_MD_exchange 23 = .ok (.iload_n 2, 1) := by decide +kernel
theorem d_MD_exchange_24 : decode b_MD_exchange 24 = .ok (.iload_n 3, 1) := by decide +kernel
theorem d_MD_exchange_25 : decode b_MD_exchange 25 = .ok (.bastore, 1) := by decide +kernel
theorem d_MD_exchange_26 : decode b_MD_exchange 26 = .ok (.aload_n 0, 1) := by decide +kernel
theorem d_MD_exchange_27 : decode b_MD_exchange 27 = .ok (.getfield 83, 3) := by decide +kernel
theorem d_MD_exchange_30 : decode b_MD_exchange 30 = .ok (.iload_n 1, 1) := by decide +kernel
theorem d_MD_exchange_31 : decode b_MD_exchange 31 = .ok (.iaload, 1) := by decide +kernel
theorem d_MD_exchange_32 : decode b_MD_exchange 32 = .ok (.istore 4, 2) := by decide +kernel
theorem d_MD_exchange_34 : decode b_MD_exchange 34 = .ok (.aload_n 0, 1) := by decide +kernel
theorem d_MD_exchange_35 : decode b_MD_exchange 35 = .ok (.getfield 83, 3) := by decide +kernel
theorem d_MD_exchange_38 : decode b_MD_exchange 38 = .ok (.iload_n 1, 1) := by decide +kernel
theorem d_MD_exchange_39 : decode b_MD_exchange 39 = .ok (.aload_n 0, 1) := by decide +kernel
theorem d_MD_exchange_40 : decode b_MD_exchange 40 = .ok (.getfield 83, 3) := by decide +kernel
theorem d_MD_exchange_43 : decode b_MD_exchange 43 = .ok (.iload_n 2, 1) := by decide +kernel
theorem d_MD_exchange_44 : decode b_MD_exchange 44 = .ok (.iaload, 1) := by decide +kernel
theorem d_MD_exchange_45 : decode b_MD_exchange 45 = .ok (.iastore, 1) := by decide +kernel
theorem d_MD_exchange_46 : decode b_MD_exchange 46 = .ok (.aload_n 0, 1) := by decide +kernel
theorem d_MD_exchange_47 : decode b_MD_exchange 47 = .ok (.getfield 83, 3) := by decide +kernel
theorem d_MD_exchange_50 : decode b_MD_exchange 50 = .ok (.iload_n 2, 1) := by decide +kernel
theorem d_MD_exchange_51 : decode b_MD_exchange 51 = .ok (.iload 4, 2) := by decide +kernel
theorem d_MD_exchange_53 : decode b_MD_exchange 53 = .ok (.iastore, 1) := by decide +kernel
theorem d_MD_exchange_54 : decode b_MD_exchange 54 = .ok (.aload_n 0, 1) := by decide +kernel
theorem d_MD_exchange_55 : decode b_MD_exchange 55 = .ok (.getfield 86, 3) := by decide +kernel
theorem d_MD_exchange_58 : decode b_MD_exchange 58 = .ok (.iload_n 1, 1) := by decide +kernel
theorem d_MD_exchange_59 : decode b_MD_exchange 59 = .ok (.iaload, 1) := by decide +kernel
theorem d_MD_exchange_60 : decode b_MD_exchange 60 = .ok (.istore 5, 2) := by decide +kernel
theorem d_MD_exchange_62 : decode b_MD_exchange 62 = .ok (.aload_n 0, 1) := by decide +kernel
theorem d_MD_exchange_63 : decode b_MD_exchange 63 = .ok (.getfield 86, 3) := by decide +kernel
theorem d_MD_exchange_66 : decode b_MD_exchange 66 = .ok (.iload_n 1, 1) := by decide +kernel
theorem d_MD_exchange_67 : decode b_MD_exchange 67 = .ok (.aload_n 0, 1) := by decide +kernel
theorem d_MD_exchange_68 : decode b_MD_exchange 68 = .ok (.getfield 86, 3) := by decide +kernel
theorem d_MD_exchange_71 : decode b_MD_exchange 71 = .ok (.iload_n 2, 1) := by decide +kernel
theorem d_MD_exchange_72 : decode b_MD_exchange 72 = .ok (.iaload, 1) := by decide +kernel
theorem d_MD_exchange_73 : decode b_MD_exchange 73 = .ok (.iastore, 1) := by decide +kernel
theorem d_MD_exchange_74 : decode b_MD_exchange 74 = .ok (.aload_n 0, 1) := by decide +kernel
theorem d_MD_exchange_75 : decode b_MD_exchange 75 = .ok (.getfield 86, 3) := by decide +kernel
theorem d_MD_exchange_78 : decode b_MD_exchange 78 = .ok (.iload_n 2, 1) := by decide +kernel
theorem d_MD_exchange_79 : decode b_MD_exchange 79 = .ok (.iload 5, 2) := by decide +kernel
theorem d_MD_exchange_81 : decode b_MD_exchange 81 = .ok (.iastore, 1) := by decide +kernel
theorem d_MD_exchange_82 : decode b_MD_exchange 82 = .ok (.aload_n 0, 1) := by decide +kernel
theorem d_MD_exchange_83 : decode b_MD_exchange 83 = .ok (.getfield 89, 3) := by decide +kernel
theorem d_MD_exchange_86 : decode b_MD_exchange 86 = .ok (.iload_n 1, 1) := by decide +kernel
theorem d_MD_exchange_87 : decode b_MD_exchange 87 = .ok (.iaload, 1) := by decide +kernel
theorem d_MD_exchange_88 : decode b_MD_exchange 88 = .ok (.istore 6, 2) := by decide +kernel
theorem d_MD_exchange_90 : decode b_MD_exchange 90 = .ok (.aload_n 0, 1) := by decide +kernel
theorem d_MD_exchange_91 : decode b_MD_exchange 91 = .ok (.getfield 89, 3) := by decide +kernel
theorem d_MD_exchange_94 : decode b_MD_exchange 94 = .ok (.iload_n 1, 1) := by decide +kernel
theorem d_MD_exchange_95 : decode b_MD_exchange 95 = .ok (.aload_n 0, 1) := by decide +kernel
theorem d_MD_exchange_96 : decode b_MD_exchange 96 = .ok (.getfield 89, 3) := by decide +kernel
theorem d_MD_exchange_99 : decode b_MD_exchange 99 = .ok (.iload_n 2, 1) := by decide +kernel
theorem d_MD_exchange_100 : decode b_MD_exchange 100 = .ok (.iaload, 1) := by decide +kernel
theorem d_MD_exchange_101 : decode b_MD_exchange 101 = .ok (.iastore, 1) := by decide +kernel
theorem d_MD_exchange_102 : decode b_MD_exchange 102 = .ok (.aload_n 0, 1) := by decide +kernel
theorem d_MD_exchange_103 : decode b_MD_exchange 103 = .ok (.getfield 89, 3) := by decide +kernel
theorem d_MD_exchange_106 : decode b_MD_exchange 106 = .ok (.iload_n 2, 1) := by decide +kernel
theorem d_MD_exchange_107 : decode b_MD_exchange 107 = .ok (.iload 6, 2) := by decide +kernel
theorem d_MD_exchange_109 : decode b_MD_exchange 109 = .ok (.iastore, 1) := by decide +kernel
theorem d_MD_exchange_110 : decode b_MD_exchange 110 = .ok (.aload_n 0, 1) := by decide +kernel
theorem d_MD_exchange_111 : decode b_MD_exchange 111 = .ok (.getfield 99, 3) := by decide +kernel
theorem d_MD_exchange_114 : decode b_MD_exchange 114 = .ok (.iload_n 1, 1) := by decide +kernel
theorem d_MD_exchange_115 : decode b_MD_exchange 115 = .ok (.laload, 1) := by decide +kernel
theorem d_MD_exchange_116 : decode b_MD_exchange 116 = .ok (.lstore 7, 2) := by decide +kernel
theorem d_MD_exchange_118 : decode b_MD_exchange 118 = .ok (.aload_n 0, 1) := by decide +kernel
theorem d_MD_exchange_119 : decode b_MD_exchange 119 = .ok (.getfield 99, 3) := by decide +kernel
theorem d_MD_exchange_122 : decode b_MD_exchange 122 = .ok (.iload_n 1, 1) := by decide +kernel
theorem d_MD_exchange_123 : decode b_MD_exchange 123 = .ok (.aload_n 0, 1) := by decide +kernel
theorem d_MD_exchange_124 : decode b_MD_exchange 124 = .ok (.getfield 99, 3) := by decide +kernel
theorem d_MD_exchange_127 : decode b_MD_exchange 127 = .ok (.iload_n 2, 1) := by decide +kernel
theorem d_MD_exchange_128 : decode b_MD_exchange 128 = .ok (.laload, 1) := by decide +kernel
theorem d_MD_exchange_129 : decode b_MD_exchange 129 = .ok (.lastore, 1) := by decide +kernel
theorem d_MD_exchange_130 : decode b_MD_exchange 130 = .ok (.aload_n 0, 1) := by decide +kernel
theorem d_MD_exchange_131 : decode b_MD_exchange 131 = .ok (.getfield 99, 3) := by decide +kernel
theorem d_MD_exchange_134 : decode b_MD_exchange 134 = .ok (.iload_n 2, 1) := by decide +kernel
theorem d_MD_exchange_135 : decode b_MD_exchange 135 = .ok (.lload 7, 2) := by decide +kernel
theorem d_MD_exchange_137 : decode b_MD_exchange 137 = .ok (.lastore, 1) := by decide +kernel
theorem d_MD_exchange_138 : decode b_MD_exchange 138 = .ok (.aload_n 0, 1) := by decide +kernel
theorem d_MD_exchange_139 : decode b_MD_exchange 139 = .ok (.getfield 102, 3) := by decide +kernel
theorem d_MD_exchange_142 : decode b_MD_exchange 142 = .ok (.iload_n 1, 1) := by decide +kernel
theorem d_MD_exchange_143 : decode b_MD_exchange 143 = .ok (.laload, 1) := by decide +kernel
theorem d_MD_exchange_144 : decode b_MD_exchange 144 = .ok (.lstore 9, 2) := by decide +kernel
theorem d_MD_exchange_146 : decode b_MD_exchange 146 = .ok (.aload_n 0, 1) := by decide +kernel
theorem d_MD_exchange_147 : decode b_MD_exchange 147 = .ok (.getfield 102, 3) := by decide +kernel
theorem d_MD_exchange_150 : decode b_MD_exchange 150 = .ok (.iload_n 1, 1) := by decide +kernel
theorem d_MD_exchange_151 : decode b_MD_exchange 151 = .ok (.aload_n 0, 1) := by decide +kernel
theorem d_MD_exchange_152 : decode b_MD_exchange 152 = .ok (.getfield 102, 3) := by decide +kernel
theorem d_MD_exchange_155 : decode b_MD_exchange 155 = .ok (.iload_n 2, 1) := by decide +kernel
theorem d_MD_exchange_156 : decode b_MD_exchange 156 = .ok (.laload, 1) := by decide +kernel
theorem d_MD_exchange_157 : decode b_MD_exchange 157 = .ok (.lastore, 1) := by decide +kernel
theorem d_MD_exchange_158 : decode b_MD_exchange 158 = .ok (.aload_n 0, 1) := by decide +kernel
theorem d_MD_exchange_159 : decode b_MD_exchange 159 = .ok (.getfield 102, 3) := by decide +kernel
theorem d_MD_exchange_162 : decode b_MD_exchange 162 = .ok (.iload_n 2, 1) := by decide +kernel
theorem d_MD_exchange_163 : decode b_MD_exchange 163 = .ok (.lload 9, 2) := by decide +kernel
theorem d_MD_exchange_165 : decode b_MD_exchange 165 = .ok (.lastore, 1) := by decide +kernel
theorem d_MD_exchange_166 : decode b_MD_exchange 166 = .ok (.aload_n 0, 1) := by decide +kernel
theorem d_MD_exchange_167 : decode b_MD_exchange 167 = .ok (.getfield 105, 3) := by decide +kernel
theorem d_MD_exchange_170 : decode b_MD_exchange 170 = .ok (.iload_n 1, 1) := by decide +kernel
theorem d_MD_exchange_171 : decode b_MD_exchange 171 = .ok (.baload, 1) := by decide +kernel
theorem d_MD_exchange_172 : decode b_MD_exchange 172 = .ok (.istore 11, 2) := by decide +kernel
theorem d_MD_exchange_174 : decode b_MD_exchange 174 = .ok (.aload_n 0, 1) := by decide +kernel
theorem d_MD_exchange_175 : decode b_MD_exchange 175 = .ok (.getfield 105, 3) := by decide +kernel
theorem d_MD_exchange_178 : decode b_MD_exchange 178 = .ok (.iload_n 1, 1) := by decide +kernel
theorem d_MD_exchange_179 : decode b_MD_exchange 179 = .ok (.aload_n 0, 1) := by decide +kernel
theorem d_MD_exchange_180 : decode b_MD_exchange 180 = .ok (.getfield 105, 3) := by decide +kernel
theorem d_MD_exchange_183 : decode b_MD_exchange 183 = .ok (.iload_n 2, 1) := by decide +kernel
theorem d_MD_exchange_184 : decode b_MD_exchange 184 = .ok (.baload, 1) := by decide +kernel
theorem d_MD_exchange_185 : decode b_MD_exchange 185 = .ok (.bastore, 1) := by decide +kernel
theorem d_MD_exchange_186 : decode b_MD_exchange 186 = .ok (.aload_n 0, 1) := by decide +kernel
theorem d_MD_exchange_187 : decode b_MD_exchange 187 = .ok (.getfield 105, 3) := by decide +kernel
theorem d_MD_exchange_190 : decode b_MD_exchange 190 = .ok (.iload_n 2, 1) := by decide +kernel
theorem d_MD_exchange_191 : decode b_MD_exchange 191 = .ok (.iload 11, 2) := by decide +kernel
theorem d_MD_exchange_193 : decode b_MD_exchange 193 = .ok (.bastore, 1) := by decide +kernel
theorem d_MD_exchange_194 : decode b_MD_exchange 194 = .ok (.iconst 0, 1) := by decide +kernel
theorem d_MD_exchange_195 : decode b_MD_exchange 195 = .ok (.istore 12, 2) := by decide +kernel
theorem d_MD_exchange_197 : decode b_MD_exchange 197 = .ok (.iload 12, 2) := by decide +kernel
theorem d_MD_exchange_199 : decode b_MD_exchange 199 = .ok (.bipush 20, 2) := by decide +kernel
theorem d_MD_exchange_201 : decode b_MD_exchange 201 = .ok (.if_icmp .ge 113, 3) := by decide +kernel
theorem d_MD_exchange_204 : decode b_MD_exchange 204 = .ok (.aload_n 0, 1) := by decide +kernel
theorem d_MD_exchange_205 : decode b_MD_exchange 205 = .ok (.getfield 93, 3) := by decide +kernel
theorem d_MD_exchange_208 : decode b_MD_exchange 208 = .ok (.bipush 20, 2) := by decide +kernel
theorem d_MD_exchange_210 : decode b_MD_exchange 210 = .ok (.iload_n 1, 1) := by decide +kernel
theorem d_MD_exchange_211 : decode b_MD_exchange 211 = .ok (.imul, 1) := by decide +kernel
theorem d_MD_exchange_212 : decode b_MD_exchange 212 = .ok (.iload 12, 2) := by decide +kernel
theorem d_MD_exchange_214 : decode b_MD_exchange 214 = .ok (.iadd, 1) := by decide +kernel
theorem d_MD_exchange_215 : decode b_MD_exchange 215 = .ok (.baload, 1) := by decide +kernel
theorem d_MD_exchange_216 : decode b_MD_exchange 216 = .ok (.istore 13, 2) := by decide +kernel
theorem d_MD_exchange_218 : decode b_MD_exchange 218 = .ok (.aload_n 0, 1) := by decide +kernel
theorem d_MD_exchange_219 : decode b_MD_exchange 219 = .ok (.getfield 93, 3) := by decide +kernel
theorem d_MD_exchange_222 : decode b_MD_exchange 222 = .ok (.bipush 20, 2) := by decide +kernel
theorem d_MD_exchange_224 : decode b_MD_exchange 224 = .ok (.iload_n 1, 1) := by decide +kernel
theorem d_MD_exchange_225 : decode b_MD_exchange 225 = .ok (.imul, 1) := by decide +kernel
theorem d_MD_exchange_226 : decode b_MD_exchange 226 = .ok (.iload 12, 2) := by decide +kernel
theorem d_MD_exchange_228 : decode b_MD_exchange 228 = .ok (.iadd, 1) := by decide +kernel
theorem d_MD_exchange_229 : decode b_MD_exchange 229 = .ok (.aload_n 0, 1) := by decide +kernel
theorem d_MD_exchange_230 : decode b_MD_exchange 230 = .ok (.getfield 93, 3) := by decide +kernel
theorem d_MD_exchange_233 : decode b_MD_exchange 233 = .ok (.bipush 20, 2) := by decide +kernel
theorem d_MD_exchange_235 : decode b_MD_exchange 235 = .ok (.iload_n 2, 1) := by decide +kernel
theorem d_MD_exchange_236 : decode b_MD_exchange 236 = .ok (.imul, 1) := by decide +kernel
theorem d_MD_exchange_237 : decode b_MD_exchange 237 = .ok (.iload 12, 2) := by decide +kernel
theorem d_MD_exchange_239 : decode b_MD_exchange 239 = .ok (.iadd, 1) := by decide +kernel
theorem d_MD_exchange_240 : decode b_MD_exchange 240 = .ok (.baload, 1) := by decide +kernel
theorem d_MD_exchange_241 : decode b_MD_exchange 241 = .ok (.bastore, 1) := by decide +kernel
theorem d_MD_exchange_242 : decode b_MD_exchange 242 = .ok (.aload_n 0, 1) := by decide +kernel
theorem d_MD_exchange_243 : decode b_MD_exchange 243 = .ok (.getfield 93, 3) := by decide +kernel
theorem d_MD_exchange_246 : decode b_MD_exchange 246 = .ok (.bipush 20, 2) := by decide +kernel
theorem d_MD_exchange_248 : decode b_MD_exchange 248 = .ok (.iload_n 2, 1) := by decide +kernel
theorem d_MD_exchange_249 : decode b_MD_exchange 249 = .ok (.imul, 1) := by decide +kernel
theorem d_MD_exchange_250 : decode b_MD_exchange 250 = .ok (.iload 12, 2) := by decide +kernel
theorem d_MD_exchange_252 : decode b_MD_exchange 252 = .ok (.iadd, 1) := by decide +kernel
theorem d_MD_exchange_253 : decode b_MD_exchange 253 = .ok (.iload 13, 2) := by decide +kernel
theorem d_MD_exchange_255 : decode b_MD_exchange 255 = .ok (.bastore, 1) := by decide +kernel
theorem d_MD_exchange_256 : decode b_MD_exchange 256 = .ok (.aload_n 0, 1) := by decide +kernel
theorem d_MD_exchange_257 : decode b_MD_exchange 257 = .ok (.getfield 96, 3) := by decide +kernel
theorem d_MD_exchange_260 : decode b_MD_exchange 260 = .ok (.bipush 20, 2) := by decide +kernel
theorem d_MD_exchange_262 : decode b_MD_exchange 262 = .ok (.iload_n 1, 1) := by decide +kernel
theorem d_MD_exchange_263 : decode b_MD_exchange 263 = .ok (.imul, 1) := by decide +kernel
theorem d_MD_exchange_264 : decode b_MD_exchange 264 = .ok (.iload 12, 2) := by decide +kernel
theorem d_MD_exchange_266 : decode b_MD_exchange 266 = .ok (.iadd, 1) := by decide +kernel
theorem d_MD_exchange_267 : decode b_MD_exchange 267 = .ok (.baload, 1) := by decide +kernel
theorem d_MD_exchange_268 : decode b_MD_exchange 268 = .ok (.istore 14, 2) := by decide +kernel
theorem d_MD_exchange_270 : decode b_MD_exchange 270 = .ok (.aload_n 0, 1) := by decide +kernel
theorem d_MD_exchange_271 : decode b_MD_exchange 271 = .ok (.getfield 96, 3) := by decide +kernel
theorem d_MD_exchange_274 : decode b_MD_exchange 274 = .ok (.bipush 20, 2) := by decide +kernel
theorem d_MD_exchange_276 : decode b_MD_exchange 276 = .ok (.iload_n 1, 1) := by decide +kernel
theorem d_MD_exchange_277 : decode b_MD_exchange 277 = .ok (.imul, 1) := by decide +kernel
theorem d_MD_exchange_278 : decode b_MD_exchange 278 = .ok (.iload 12, 2) := by decide +kernel
theorem d_MD_exchange_280 : decode b_MD_exchange 280 = .ok (.iadd, 1) := by decide +kernel
theorem d_MD_exchange_281 : decode b_MD_exchange 281 = .ok (.aload_n 0, 1) := by decide +kernel
theorem d_MD_exchange_282 : decode b_MD_exchange 282 = .ok (.getfield 96, 3) := by decide +kernel
theorem d_MD_exchange_285 : decode b_MD_exchange 285 = .ok (.bipush 20, 2) := by decide +kernel
theorem d_MD_exchange_287 : decode b_MD_exchange 287 = .ok (.iload_n 2, 1) := by decide +kernel
theorem d_MD_exchange_288 : decode b_MD_exchange 288 = .ok (.imul, 1) := by decide +kernel
theorem d_MD_exchange_289 : decode b_MD_exchange 289 = .ok (.iload 12, 2) := by decide +kernel
theorem d_MD_exchange_291 : decode b_MD_exchange 291 = .ok (.iadd, 1) := by decide +kernel
theorem d_MD_exchange_292 : decode b_MD_exchange 292 = .ok (.baload, 1) := by decide +kernel
theorem d_MD_exchange_293 : decode b_MD_exchange 293 = .ok (.bastore, 1) := by decide +kernel
theorem d_MD_exchange_294 : decode b_MD_exchange 294 = .ok (.aload_n 0, 1) := by decide +kernel
theorem d_MD_exchange_295 : decode b_MD_exchange 295 = .ok (.getfield 96, 3) := by decide +kernel
theorem d_MD_exchange_298 : decode b_MD_exchange 298 = .ok (.bipush 20, 2) := by decide +kernel
theorem d_MD_exchange_300 : decode b_MD_exchange 300 = .ok (.iload_n 2, 1) := by decide +kernel
theorem d_MD_exchange_301 : decode b_MD_exchange 301 = .ok (.imul, 1) := by decide +kernel
theorem d_MD_exchange_302 : decode b_MD_exchange 302 = .ok (.iload 12, 2) := by decide +kernel
theorem d_MD_exchange_304 : decode b_MD_exchange 304 = .ok (.iadd, 1) := by decide +kernel
theorem d_MD_exchange_305 : decode b_MD_exchange 305 = .ok (.iload 14, 2) := by decide +kernel
theorem d_MD_exchange_307 : decode b_MD_exchange 307 = .ok (.bastore, 1) := by decide +kernel
theorem d_MD_exchange_308 : decode b_MD_exchange 308 = .ok (.iinc 12 1, 3) := by decide +kernel
theorem d_MD_exchange_311 : decode b_MD_exchange 311 = .ok (.goto (-114), 3) := by decide +kernel
theorem d_MD_exchange_314 : decode b_MD_exchange 314 = .ok (.return_, 1) := by decide +kernel
theorem d_MD_joins_0 : decode b_MD_joins 0 = .ok (.aload_n 0, 1) := by decide +kernel
theorem d_MD_joins_1 : decode b_MD_joins 1 = .ok (.getfield 80, 3) := by decide +kernel
theorem d_MD_joins_4 : decode b_MD_joins 4 = .ok (.iload_n 1, 1) := by decide +kernel
theorem d_MD_joins_5 : decode b_MD_joins 5 = .ok (.baload, 1) := by decide +kernel
theorem d_MD_joins_6 : decode b_MD_joins 6 = .ok (.istore_n 3, 1) := by decide +kernel
theorem d_MD_joins_7 : decode b_MD_joins 7 = .ok (.iload_n 3, 1) := by decide +kernel
theorem d_MD_joins_8 : decode b_MD_joins 8 = .ok (.bipush 7, 2) := by decide +kernel
theorem d_MD_joins_10 : decode b_MD_joins 10 = .ok (.if_icmp .lt 15, 3) := by decide +kernel
theorem d_MD_joins_13 : decode b_MD_joins 13 = .ok (.iload_n 3, 1) := by decide +kernel
theorem d_MD_joins_14 : decode b_MD_joins 14 = .ok (.bipush 9, 2) := by decide +kernel
theorem d_MD_joins_16 : decode b_MD_joins 16 = .ok (.if_icmp .le 22, 3) := by decide +kernel
theorem d_MD_joins_19 : decode b_MD_joins 19 = .ok (.iload_n 3, 1) := by decide +kernel
theorem d_MD_joins_20 : decode b_MD_joins 20 = .ok (.bipush 14, 2) := by decide +kernel
theorem d_MD_joins_22 : decode b_MD_joins 22 = .ok (.if_icmp .ge 16, 3) := by decide +kernel
theorem d_MD_joins_25 : decode b_MD_joins 25 = .ok (.aload_n 0, 1) := by decide +kernel
theorem d_MD_joins_26 : decode b_MD_joins 26 = .ok (.iload_n 1, 1) := by decide +kernel
theorem d_MD_joins_27 : decode b_MD_joins 27 = .ok (.iload_n 2, 1) := by decide +kernel
theorem d_MD_joins_28 : decode b_MD_joins 28 = .ok (.invokevirtual 297, 3) := by decide +kernel
theorem d_MD_joins_31 : decode b_MD_joins 31 = .ok (.ifCond .ne 7, 3) := by decide +kernel
theorem d_MD_joins_34 : decode b_MD_joins 34 = .ok (.iconst 1, 1) := by decide +kernel
theorem d_MD_joins_35 : decode b_MD_joins 35 = .ok (.goto 4, 3) := by decide +kernel
theorem d_MD_joins_38 : decode b_MD_joins 38 = .ok (.iconst 0, 1) := by decide +kernel
theorem d_MD_joins_39 : decode b_MD_joins 39 = .ok (.ireturn, 1) := by decide +kernel
theorem d_MD_isWritten_0 : decode b_MD_isWritten 0 = .ok (.aload_n 0, 1) := by decide +kernel
theorem d_MD_isWritten_1 : decode b_MD_isWritten 1 = .ok (.getfield 86, 3) := by decide +kernel
theorem d_MD_isWritten_4 : decode b_MD_isWritten 4 = .ok (.iload_n 1, 1) := by decide +kernel
theorem d_MD_isWritten_5 : decode b_MD_isWritten 5 = .ok (.iaload, 1) := by decide +kernel
theorem d_MD_isWritten_6 : decode b_MD_isWritten 6 = .ok (.aload_n 0, 1) := by decide +kernel
theorem d_MD_isWritten_7 : decode b_MD_isWritten 7 = .ok (.getfield 86, 3) := by decide +kernel
theorem d_MD_isWritten_10 : decode b_MD_isWritten 10 = .ok (.iload_n 2, 1) := by decide +kernel
theorem d_MD_isWritten_11 : decode b_MD_isWritten 11 = .ok (.iaload, 1) := by decide +kernel
theorem d_MD_isWritten_12 : decode b_MD_isWritten 12 = .ok (.if_icmp .ne 7, 3) := by decide +kernel
theorem d_MD_isWritten_15 : decode b_MD_isWritten 15 = .ok (.iconst 1, 1) := by decide +kernel
theorem d_MD_isWritten_16 : decode b_MD_isWritten 16 = .ok (.goto 4, 3) := by decide +kernel
theorem d_MD_isWritten_19 : decode b_MD_isWritten 19 = .ok (.iconst 0, 1) := by decide +kernel
theorem d_MD_isWritten_20 : decode b_MD_isWritten 20 = .ok (.istore_n 3, 1) := by decide +kernel
theorem d_MD_isWritten_21 : decode b_MD_isWritten 21 = .ok (.iconst 0, 1) := by decide +kernel
theorem d_MD_isWritten_22 : decode b_MD_isWritten 22 = .ok (.istore 4, 2) := by decide +kernel
theorem d_MD_isWritten_24 : decode b_MD_isWritten 24 = .ok (.iload 4, 2) := by decide +kernel
theorem d_MD_isWritten_26 : decode b_MD_isWritten 26 = .ok (.aload_n 0, 1) := by decide +kernel
theorem d_MD_isWritten_27 : decode b_MD_isWritten 27 = .ok (.getfield 86, 3) := by decide +kernel
theorem d_MD_isWritten_30 : decode b_MD_isWritten 30 = .ok (.iload_n 1, 1) := by decide +kernel
theorem d_MD_isWritten_31 : decode b_MD_isWritten 31 = .ok (.iaload, 1) := by decide +kernel
theorem d_MD_isWritten_32 : decode b_MD_isWritten 32 = .ok (.if_icmp .ge 46, 3) := by decide +kernel
theorem d_MD_isWritten_35 : decode b_MD_isWritten 35 = .ok (.iload_n 3, 1) := by decide +kernel
theorem d_MD_isWritten_36 : decode b_MD_isWritten 36 = .ok (.ifCond .eq 42, 3) := by decide +kernel
theorem d_MD_isWritten_39 : decode b_MD_isWritten 39 = .ok (.aload_n 0, 1) := by decide +kernel
theorem d_MD_isWritten_40 : decode b_MD_isWritten 40 = .ok (.getfield 93, 3) := by decide +kernel
theorem d_MD_isWritten_43 : decode b_MD_isWritten 43 = .ok (.bipush 20, 2) := by decide +kernel
theorem d_MD_isWritten_45 : decode b_MD_isWritten 45 = .ok (.iload_n 1, 1) := by decide +kernel
theorem d_MD_isWritten_46 : decode b_MD_isWritten 46 = .ok (.imul, 1) := by decide +kernel
theorem d_MD_isWritten_47 : decode b_MD_isWritten 47 = .ok (.iload 4, 2) := by decide +kernel
theorem d_MD_isWritten_49 : decode b_MD_isWritten 49 = .ok (.iadd, 1) := by decide +kernel
theorem d_MD_isWritten_50 : decode b_MD_isWritten 50 = .ok (.baload, 1) := by decide +kernel
theorem d_MD_isWritten_51 : decode b_MD_isWritten 51 = .ok (.aload_n 0, 1) := by decide +kernel
theorem d_MD_isWritten_52 : decode b_MD_isWritten 52 = .ok (.getfield 93, 3) := by decide +kernel
theorem d_MD_isWritten_55 : decode b_MD_isWritten 55 = .ok (.bipush 20, 2) := by decide +kernel
theorem d_MD_isWritten_57 : decode b_MD_isWritten 57 = .ok (.iload_n 2, 1) := by decide +kernel
theorem d_MD_isWritten_58 : decode b_MD_isWritten 58 = .ok (.imul, 1) := by decide +kernel
theorem d_MD_isWritten_59 : decode b_MD_isWritten 59 = .ok (.iload 4, 2) := by decide +kernel
theorem d_MD_isWritten_61 : decode b_MD_isWritten 61 = .ok (.iadd, 1) := by decide +kernel
theorem d_MD_isWritten_62 : decode b_MD_isWritten 62 = .ok (.baload, 1) := by decide +kernel
theorem d_MD_isWritten_63 : decode b_MD_isWritten 63 = .ok (.if_icmp .ne 7, 3) := by decide +kernel
theorem d_MD_isWritten_66 : decode b_MD_isWritten 66 = .ok (.iconst 1, 1) := by decide +kernel
theorem d_MD_isWritten_67 : decode b_MD_isWritten 67 = .ok (.goto 4, 3) := by decide +kernel
theorem d_MD_isWritten_70 : decode b_MD_isWritten 70 = .ok (.iconst 0, 1) := by decide +kernel
theorem d_MD_isWritten_71 : decode b_MD_isWritten 71 = .ok (.istore_n 3, 1) := by decide +kernel
theorem d_MD_isWritten_72 : decode b_MD_isWritten 72 = .ok (.iinc 4 1, 3) := by decide +kernel
theorem d_MD_isWritten_75 : decode b_MD_isWritten 75 = .ok (.goto (-51), 3) := by decide +kernel
theorem d_MD_isWritten_78 : decode b_MD_isWritten 78 = .ok (.iload_n 3, 1) := by decide +kernel
theorem d_MD_isWritten_79 : decode b_MD_isWritten 79 = .ok (.ireturn, 1) := by decide +kernel
theorem d_MD_settle_0 : decode b_MD_settle 0 = .ok (.aload_n 0, 1) := by decide +kernel
theorem d_MD_settle_1 : decode b_MD_settle 1 = .ok (.invokevirtual 227, 3) := by decide +kernel
theorem d_MD_settle_4 : decode b_MD_settle 4 = .ok (.istore_n 1, 1) := by decide +kernel
theorem d_MD_settle_5 : decode b_MD_settle 5 = .ok (.iconst 1, 1) := by decide +kernel
theorem d_MD_settle_6 : decode b_MD_settle 6 = .ok (.istore_n 2, 1) := by decide +kernel
theorem d_MD_settle_7 : decode b_MD_settle 7 = .ok (.iload_n 2, 1) := by decide +kernel
theorem d_MD_settle_8 : decode b_MD_settle 8 = .ok (.aload_n 0, 1) := by decide +kernel
theorem d_MD_settle_9 : decode b_MD_settle 9 = .ok (.getfield 221, 3) := by decide +kernel
theorem d_MD_settle_12 : decode b_MD_settle 12 = .ok (.if_icmp .ge 43, 3) := by decide +kernel
theorem d_MD_settle_15 : decode b_MD_settle 15 = .ok (.iload_n 1, 1) := by decide +kernel
theorem d_MD_settle_16 : decode b_MD_settle 16 = .ok (.iload_n 2, 1) := by decide +kernel
theorem d_MD_settle_17 : decode b_MD_settle 17 = .ok (.iadd, 1) := by decide +kernel
theorem d_MD_settle_18 : decode b_MD_settle 18 = .ok (.istore_n 3, 1) := by decide +kernel
theorem d_MD_settle_19 : decode b_MD_settle 19 = .ok (.iload_n 3, 1) := by decide +kernel
theorem d_MD_settle_20 : decode b_MD_settle 20 = .ok (.iload_n 1, 1) := by decide +kernel
theorem d_MD_settle_21 : decode b_MD_settle 21 = .ok (.if_icmp .le 28, 3) := by decide +kernel
theorem d_MD_settle_24 : decode b_MD_settle 24 = .ok (.aload_n 0, 1) := by decide +kernel
theorem d_MD_settle_25 : decode b_MD_settle 25 = .ok (.iload_n 3, 1) := by decide +kernel
theorem d_MD_settle_26 : decode b_MD_settle 26 = .ok (.iconst 1, 1) := by decide +kernel
theorem d_MD_settle_27 : decode b_MD_settle 27 = .ok (.isub, 1) := by decide +kernel
theorem d_MD_settle_28 : decode b_MD_settle 28 = .ok (.iload_n 3, 1) := by decide +kernel
theorem d_MD_settle_29 : decode b_MD_settle 29 = .ok (.invokevirtual 297, 3) := by decide +kernel
theorem d_MD_settle_32 : decode b_MD_settle 32 = .ok (.ifCond .le 17, 3) := by decide +kernel
theorem d_MD_settle_35 : decode b_MD_settle 35 = .ok (.aload_n 0, 1) := by decide +kernel
theorem d_MD_settle_36 : decode b_MD_settle 36 = .ok (.iload_n 3, 1) := by decide +kernel
theorem d_MD_settle_37 : decode b_MD_settle 37 = .ok (.iconst 1, 1) := by decide +kernel
theorem d_MD_settle_38 : decode b_MD_settle 38 = .ok (.isub, 1) := by decide +kernel
theorem d_MD_settle_39 : decode b_MD_settle 39 = .ok (.iload_n 3, 1) := by decide +kernel
theorem d_MD_settle_40 : decode b_MD_settle 40 = .ok (.invokevirtual 301, 3) := by decide +kernel
theorem d_MD_settle_43 : decode b_MD_settle 43 = .ok (.iinc 3 (-1), 3) := by decide +kernel
theorem d_MD_settle_46 : decode b_MD_settle 46 = .ok (.goto (-27), 3) := by decide +kernel
theorem d_MD_settle_49 : decode b_MD_settle 49 = .ok (.iinc 2 1, 3) := by decide +kernel
theorem d_MD_settle_52 : decode b_MD_settle 52 = .ok (.goto (-45), 3) := by decide +kernel
theorem d_MD_settle_55 : decode b_MD_settle 55 = .ok (.iconst 0, 1) := by decide +kernel
theorem d_MD_settle_56 : decode b_MD_settle 56 = .ok (.istore_n 2, 1) := by decide +kernel
theorem d_MD_settle_57 : decode b_MD_settle 57 = .ok (.iconst 0, 1) := by decide +kernel
theorem d_MD_settle_58 : decode b_MD_settle 58 = .ok (.istore_n 3, 1) := by decide +kernel
theorem d_MD_settle_59 : decode b_MD_settle 59 = .ok (.iload_n 3, 1) := by decide +kernel
theorem d_MD_settle_60 : decode b_MD_settle 60 = .ok (.aload_n 0, 1) := by decide +kernel
theorem d_MD_settle_61 : decode b_MD_settle 61 = .ok (.getfield 221, 3) := by decide +kernel
theorem d_MD_settle_64 : decode b_MD_settle 64 = .ok (.if_icmp .ge 210, 3) := by decide +kernel
theorem d_MD_settle_67 : decode b_MD_settle 67 = .ok (.iload_n 1, 1) := by decide +kernel
theorem d_MD_settle_68 : decode b_MD_settle 68 = .ok (.iload_n 2, 1) := by decide +kernel
theorem d_MD_settle_69 : decode b_MD_settle 69 = .ok (.iadd, 1) := by decide +kernel
theorem d_MD_settle_70 : decode b_MD_settle 70 = .ok (.iconst 1, 1) := by decide +kernel
theorem d_MD_settle_71 : decode b_MD_settle 71 = .ok (.isub, 1) := by decide +kernel
theorem d_MD_settle_72 : decode b_MD_settle 72 = .ok (.istore 4, 2) := by decide +kernel
theorem d_MD_settle_74 : decode b_MD_settle 74 = .ok (.iload_n 1, 1) := by decide +kernel
theorem d_MD_settle_75 : decode b_MD_settle 75 = .ok (.iload_n 3, 1) := by decide +kernel
theorem d_MD_settle_76 : decode b_MD_settle 76 = .ok (.iadd, 1) := by decide +kernel
theorem d_MD_settle_77 : decode b_MD_settle 77 = .ok (.istore 5, 2) := by decide +kernel
theorem d_MD_settle_79 : decode b_MD_settle 79 = .ok (.iload_n 2, 1) := by decide +kernel
theorem d_MD_settle_80 : decode b_MD_settle 80 = .ok (.ifCond .le 166, 3) := by decide +kernel
theorem d_MD_settle_83 : decode b_MD_settle 83 = .ok (.aload_n 0, 1) := by decide +kernel
theorem d_MD_settle_84 : decode b_MD_settle 84 = .ok (.iload 4, 2) := by decide +kernel
theorem d_MD_settle_86 : decode b_MD_settle 86 = .ok (.iload 5, 2) := by decide +kernel
theorem d_MD_settle_88 : decode b_MD_settle 88 = .ok (.invokevirtual 304, 3) := by decide +kernel
theorem d_MD_settle_91 : decode b_MD_settle 91 = .ok (.ifCond .eq 155, 3) := by decide +kernel
theorem d_MD_settle_94 : decode b_MD_settle 94 = .ok (.aload_n 0, 1) := by decide +kernel
theorem d_MD_settle_95 : decode b_MD_settle 95 = .ok (.getfield 105, 3) := by decide +kernel
theorem d_MD_settle_98 : decode b_MD_settle 98 = .ok (.iload 4, 2) := by decide +kernel
theorem d_MD_settle_100 : decode b_MD_settle 100 = .ok (.aload_n 0, 1) := by decide +kernel
theorem d_MD_settle_101 : decode b_MD_settle 101 = .ok (.getfield 105, 3) := by decide +kernel
theorem d_MD_settle_104 : decode b_MD_settle 104 = .ok (.iload 4, 2) := by decide +kernel
theorem d_MD_settle_106 : decode b_MD_settle 106 = .ok (.baload, 1) := by decide +kernel
theorem d_MD_settle_107 : decode b_MD_settle 107 = .ok (.ifCond .ne 14, 3) := by decide +kernel
theorem d_MD_settle_110 : decode b_MD_settle 110 = .ok (.aload_n 0, 1) := by decide +kernel
theorem d_MD_settle_111 : decode b_MD_settle 111 = .ok (.iload 4, 2) := by decide +kernel
theorem d_MD_settle_113 : decode b_MD_settle 113 = .ok (.iload 5, 2) := by decide +kernel
theorem d_MD_settle_115 : decode b_MD_settle 115 = .ok (.invokevirtual 308, 3) := by decide +kernel
theorem d_MD_settle_118 : decode b_MD_settle 118 = .ok (.ifCond .ne 7, 3) := by decide +kernel
theorem d_MD_settle_121 : decode b_MD_settle 121 = .ok (.iconst 1, 1) := by decide +kernel
theorem d_MD_settle_122 : decode b_MD_settle 122 = .ok (.goto 4, 3) := by decide +kernel
theorem d_MD_settle_125 : decode b_MD_settle 125 = .ok (.iconst 0, 1) := by decide +kernel
theorem d_MD_settle_126 : decode b_MD_settle 126 = .ok (.bastore, 1) := by decide +kernel
theorem d_MD_settle_127 : decode b_MD_settle 127 = .ok (.aload_n 0, 1) := by decide +kernel
theorem d_MD_settle_128 : decode b_MD_settle 128 = .ok (.getfield 80, 3) := by decide +kernel
theorem d_MD_settle_131 : decode b_MD_settle 131 = .ok (.iload 4, 2) := by decide +kernel
theorem d_MD_settle_133 : decode b_MD_settle 133 = .ok (.baload, 1) := by decide +kernel
theorem d_MD_settle_134 : decode b_MD_settle 134 = .ok (.bipush 7, 2) := by decide +kernel
theorem d_MD_settle_136 : decode b_MD_settle 136 = .ok (.if_icmp .ge 132, 3) := by decide +kernel
theorem d_MD_settle_139 : decode b_MD_settle 139 = .ok (.aload_n 0, 1) := by decide +kernel
theorem d_MD_settle_140 : decode b_MD_settle 140 = .ok (.aload_n 0, 1) := by decide +kernel
theorem d_MD_settle_141 : decode b_MD_settle 141 = .ok (.getfield 99, 3) := by decide +kernel
theorem d_MD_settle_144 : decode b_MD_settle 144 = .ok (.iload 4, 2) := by decide +kernel
theorem d_MD_settle_146 : decode b_MD_settle 146 = .ok (.laload, 1) := by decide +kernel
theorem d_MD_settle_147 : decode b_MD_settle 147 = .ok (.aload_n 0, 1) := by decide +kernel
theorem d_MD_settle_148 : decode b_MD_settle 148 = .ok (.getfield 99, 3) := by decide +kernel
theorem d_MD_settle_151 : decode b_MD_settle 151 = .ok (.iload 5, 2) := by decide +kernel
theorem d_MD_settle_153 : decode b_MD_settle 153 = .ok (.laload, 1) := by decide +kernel
theorem d_MD_settle_154 : decode b_MD_settle 154 = .ok (.lcmp, 1) := by decide +kernel
theorem d_MD_settle_155 : decode b_MD_settle 155 = .ok (.ifCond .le 13, 3) := by decide +kernel
theorem d_MD_settle_158 : decode b_MD_settle 158 = .ok (.aload_n 0, 1) := by decide +kernel
theorem d_MD_settle_159 : decode b_MD_settle 159 = .ok (.getfield 99, 3) := by decide +kernel
theorem d_MD_settle_162 : decode b_MD_settle 162 = .ok (.iload 4, 2) := by decide +kernel
theorem d_MD_settle_164 : decode b_MD_settle 164 = .ok (.laload, 1) := by decide +kernel
theorem d_MD_settle_165 : decode b_MD_settle 165 = .ok (.goto 10, 3) := by decide +kernel
theorem d_MD_settle_168 : decode b_MD_settle 168 = .ok (.aload_n 0, 1) := by decide +kernel
theorem d_MD_settle_169 : decode b_MD_settle 169 = .ok (.getfield 99, 3) := by decide +kernel
theorem d_MD_settle_172 : decode b_MD_settle 172 = .ok (.iload 5, 2) := by decide +kernel
theorem d_MD_settle_174 : decode b_MD_settle 174 = .ok (.laload, 1) := by decide +kernel
theorem d_MD_settle_175 : decode b_MD_settle 175 = .ok (.putfield 196, 3) := by decide +kernel
theorem d_MD_settle_178 : decode b_MD_settle 178 = .ok (.aload_n 0, 1) := by decide +kernel
theorem d_MD_settle_179 : decode b_MD_settle 179 = .ok (.aload_n 0, 1) := by decide +kernel
theorem d_MD_settle_180 : decode b_MD_settle 180 = .ok (.getfield 102, 3) := by decide +kernel
theorem d_MD_settle_183 : decode b_MD_settle 183 = .ok (.iload 4, 2) := by decide +kernel
theorem d_MD_settle_185 : decode b_MD_settle 185 = .ok (.laload, 1) := by decide +kernel
theorem d_MD_settle_186 : decode b_MD_settle 186 = .ok (.aload_n 0, 1) := by decide +kernel
theorem d_MD_settle_187 : decode b_MD_settle 187 = .ok (.getfield 102, 3) := by decide +kernel
theorem d_MD_settle_190 : decode b_MD_settle 190 = .ok (.iload 5, 2) := by decide +kernel
theorem d_MD_settle_192 : decode b_MD_settle 192 = .ok (.laload, 1) := by decide +kernel
theorem d_MD_settle_193 : decode b_MD_settle 193 = .ok (.lcmp, 1) := by decide +kernel
theorem d_MD_settle_194 : decode b_MD_settle 194 = .ok (.ifCond .ge 13, 3) := by decide +kernel
theorem d_MD_settle_197 : decode b_MD_settle 197 = .ok (.aload_n 0, 1) := by decide +kernel
theorem d_MD_settle_198 : decode b_MD_settle 198 = .ok (.getfield 102, 3) := by decide +kernel
theorem d_MD_settle_201 : decode b_MD_settle 201 = .ok (.iload 4, 2) := by decide +kernel
theorem d_MD_settle_203 : decode b_MD_settle 203 = .ok (.laload, 1) := by decide +kernel
theorem d_MD_settle_204 : decode b_MD_settle 204 = .ok (.goto 10, 3) := by decide +kernel
theorem d_MD_settle_207 : decode b_MD_settle 207 = .ok (.aload_n 0, 1) := by decide +kernel
theorem d_MD_settle_208 : decode b_MD_settle 208 = .ok (.getfield 102, 3) := by decide +kernel
theorem d_MD_settle_211 : decode b_MD_settle 211 = .ok (.iload 5, 2) := by decide +kernel
theorem d_MD_settle_213 : decode b_MD_settle 213 = .ok (.laload, 1) := by decide +kernel
theorem d_MD_settle_214 : decode b_MD_settle 214 = .ok (.putfield 200, 3) := by decide +kernel
theorem d_MD_settle_217 : decode b_MD_settle 217 = .ok (.aload_n 0, 1) := by decide +kernel
theorem d_MD_settle_218 : decode b_MD_settle 218 = .ok (.invokevirtual 211, 3) := by decide +kernel
theorem d_MD_settle_221 : decode b_MD_settle 221 = .ok (.aload_n 0, 1) := by decide +kernel
theorem d_MD_settle_222 : decode b_MD_settle 222 = .ok (.getfield 99, 3) := by decide +kernel
theorem d_MD_settle_225 : decode b_MD_settle 225 = .ok (.iload 4, 2) := by decide +kernel
theorem d_MD_settle_227 : decode b_MD_settle 227 = .ok (.aload_n 0, 1) := by decide +kernel
theorem d_MD_settle_228 : decode b_MD_settle 228 = .ok (.getfield 196, 3) := by decide +kernel
theorem d_MD_settle_231 : decode b_MD_settle 231 = .ok (.lastore, 1) := by decide +kernel
theorem d_MD_settle_232 : decode b_MD_settle 232 = .ok (.aload_n 0, 1) := by decide +kernel
theorem d_MD_settle_233 : decode b_MD_settle 233 = .ok (.getfield 102, 3) := by decide +kernel
theorem d_MD_settle_236 : decode b_MD_settle 236 = .ok (.iload 4, 2) := by decide +kernel
theorem d_MD_settle_238 : decode b_MD_settle 238 = .ok (.aload_n 0, 1) := by decide +kernel
theorem d_MD_settle_239 : decode b_MD_settle 239 = .ok (.getfield 200, 3) := by decide +kernel
theorem d_MD_settle_242 : decode b_MD_settle 242 = .ok (.lastore, 1) := by decide +kernel
theorem d_MD_settle_243 : decode b_MD_settle 243 = .ok (.goto 25, 3) := by decide +kernel
theorem d_MD_settle_246 : decode b_MD_settle 246 = .ok (.iload 4, 2) := by decide +kernel
theorem d_MD_settle_248 : decode b_MD_settle 248 = .ok (.iconst 1, 1) := by decide +kernel
theorem d_MD_settle_249 : decode b_MD_settle 249 = .ok (.iadd, 1) := by decide +kernel
theorem d_MD_settle_250 : decode b_MD_settle 250 = .ok (.iload 5, 2) := by decide +kernel
theorem d_MD_settle_252 : decode b_MD_settle 252 = .ok (.if_icmp .eq 13, 3) := by decide +kernel
theorem d_MD_settle_255 : decode b_MD_settle 255 = .ok (.aload_n 0, 1) := by decide +kernel
theorem d_MD_settle_256 : decode b_MD_settle 256 = .ok (.iload 4, 2) := by decide +kernel
theorem d_MD_settle_258 : decode b_MD_settle 258 = .ok (.iconst 1, 1) := by decide +kernel
theorem d_MD_settle_259 : decode b_MD_settle 259 = .ok (.iadd, 1) := by decide +kernel
theorem d_MD_settle_260 : decode b_MD_settle 260 = .ok (.iload 5, 2) := by decide +kernel
theorem d_MD_settle_262 : decode b_MD_settle 262 = .ok (.invokevirtual 301, 3) := by decide +kernel
theorem d_MD_settle_265 : decode b_MD_settle 265 = .ok (.iinc 2 1, 3) := by decide +kernel
theorem d_MD_settle_268 : decode b_MD_settle 268 = .ok (.iinc 3 1, 3) := by decide +kernel
theorem d_MD_settle_271 : decode b_MD_settle 271 = .ok (.goto (-212), 3) := by decide +kernel
theorem d_MD_settle_274 : decode b_MD_settle 274 = .ok (.aload_n 0, 1) := by decide +kernel
theorem d_MD_settle_275 : decode b_MD_settle 275 = .ok (.getfield 61, 3) := by decide +kernel
theorem d_MD_settle_278 : decode b_MD_settle 278 = .ok (.aload_n 0, 1) := by decide +kernel
theorem d_MD_settle_279 : decode b_MD_settle 279 = .ok (.getfield 218, 3) := by decide +kernel
theorem d_MD_settle_282 : decode b_MD_settle 282 = .ok (.iload_n 2, 1) := by decide +kernel
theorem d_MD_settle_283 : decode b_MD_settle 283 = .ok (.iastore, 1) := by decide +kernel
theorem d_MD_settle_284 : decode b_MD_settle 284 = .ok (.return_, 1) := by decide +kernel
theorem d_MD_read_0 : decode b_MD_read 0 = .ok (.aload_n 0, 1) := by decide +kernel
theorem d_MD_read_1 : decode b_MD_read 1 = .ok (.iconst 0, 1) := by decide +kernel
theorem d_MD_read_2 : decode b_MD_read 2 = .ok (.putfield 134, 3) := by decide +kernel
theorem d_MD_read_5 : decode b_MD_read 5 = .ok (.aload_n 0, 1) := by decide +kernel
theorem d_MD_read_6 : decode b_MD_read 6 = .ok (.invokevirtual 311, 3) := by decide +kernel
theorem d_MD_read_9 : decode b_MD_read 9 = .ok (.aload_n 0, 1) := by decide +kernel
theorem d_MD_read_10 : decode b_MD_read 10 = .ok (.iconst 0, 1) := by decide +kernel
theorem d_MD_read_11 : decode b_MD_read 11 = .ok (.putfield 138, 3) := by decide +kernel
theorem d_MD_read_14 : decode b_MD_read 14 = .ok (.aload_n 0, 1) := by decide +kernel
theorem d_MD_read_15 : decode b_MD_read 15 = .ok (.invokevirtual 166, 3) := by decide +kernel
theorem d_MD_read_18 : decode b_MD_read 18 = .ok (.ifCond .eq 8, 3) := by decide +kernel
theorem d_MD_read_21 : decode b_MD_read 21 = .ok (.aload_n 0, 1) := by decide +kernel
theorem d_MD_read_22 : decode b_MD_read 22 = .ok (.getfield 163, 3) := by decide +kernel
theorem d_MD_read_25 : decode b_MD_read 25 = .ok (.ireturn, 1) := by decide +kernel
theorem d_MD_read_26 : decode b_MD_read 26 = .ok (.aload_n 0, 1) := by decide +kernel
theorem d_MD_read_27 : decode b_MD_read 27 = .ok (.getfield 218, 3) := by decide +kernel
theorem d_MD_read_30 : decode b_MD_read 30 = .ok (.bipush 40, 2) := by decide +kernel
theorem d_MD_read_32 : decode b_MD_read 32 = .ok (.if_icmp .ne 7, 3) := by decide +kernel
theorem d_MD_read_35 : decode b_MD_read 35 = .ok (.sipush (-10000), 3) := by decide +kernel
theorem d_MD_read_38 : decode b_MD_read 38 = .ok (.ireturn, 1) := by decide +kernel
theorem d_MD_read_39 : decode b_MD_read 39 = .ok (.aload_n 0, 1) := by decide +kernel
theorem d_MD_read_40 : decode b_MD_read 40 = .ok (.invokevirtual 314, 3) := by decide +kernel
theorem d_MD_read_43 : decode b_MD_read 43 = .ok (.aload_n 0, 1) := by decide +kernel
theorem d_MD_read_44 : decode b_MD_read 44 = .ok (.dup, 1) := by decide +kernel
theorem d_MD_read_45 : decode b_MD_read 45 = .ok (.getfield 218, 3) := by decide +kernel
theorem d_MD_read_48 : decode b_MD_read 48 = .ok (.iconst 1, 1) := by decide +kernel
theorem d_MD_read_49 : decode b_MD_read 49 = .ok (.iadd, 1) := by decide +kernel
theorem d_MD_read_50 : decode b_MD_read 50 = .ok (.putfield 218, 3) := by decide +kernel
theorem d_MD_read_53 : decode b_MD_read 53 = .ok (.aload_n 0, 1) := by decide +kernel
theorem d_MD_read_54 : decode b_MD_read 54 = .ok (.getfield 218, 3) := by decide +kernel
theorem d_MD_read_57 : decode b_MD_read 57 = .ok (.iconst 1, 1) := by decide +kernel
theorem d_MD_read_58 : decode b_MD_read 58 = .ok (.isub, 1) := by decide +kernel
theorem d_MD_read_59 : decode b_MD_read 59 = .ok (.ireturn, 1) := by decide +kernel
theorem d_MD_isPackage_0 : decode b_MD_isPackage 0 = .ok (.iload_n 1, 1) := by decide +kernel
theorem d_MD_isPackage_1 : decode b_MD_isPackage 1 = .ok (.ifCond .lt 15, 3) := by decide +kernel
theorem d_MD_isPackage_4 : decode b_MD_isPackage 4 = .ok (.iload_n 1, 1) := by decide +kernel
theorem d_MD_isPackage_5 : decode b_MD_isPackage 5 = .ok (.aload_n 0, 1) := by decide +kernel
theorem d_MD_isPackage_6 : decode b_MD_isPackage 6 = .ok (.getfield 218, 3) := by decide +kernel
theorem d_MD_isPackage_9 : decode b_MD_isPackage 9 = .ok (.if_icmp .ge 7, 3) := by decide +kernel
theorem d_MD_isPackage_12 : decode b_MD_isPackage 12 = .ok (.iconst 1, 1) := by decide +kernel
theorem d_MD_isPackage_13 : decode b_MD_isPackage 13 = .ok (.goto 4, 3) := by decide +kernel
theorem d_MD_isPackage_16 : decode b_MD_isPackage 16 = .ok (.iconst 0, 1) := by decide +kernel
theorem d_MD_isPackage_17 : decode b_MD_isPackage 17 = .ok (.ireturn, 1) := by decide +kernel
theorem d_MD_isRow_0 : decode b_MD_isRow 0 = .ok (.aload_n 0, 1) := by decide +kernel
theorem d_MD_isRow_1 : decode b_MD_isRow 1 = .ok (.iload_n 1, 1) := by decide +kernel
theorem d_MD_isRow_2 : decode b_MD_isRow 2 = .ok (.invokevirtual 317, 3) := by decide +kernel
theorem d_MD_isRow_5 : decode b_MD_isRow 5 = .ok (.ifCond .eq 21, 3) := by decide +kernel
theorem d_MD_isRow_8 : decode b_MD_isRow 8 = .ok (.iload_n 2, 1) := by decide +kernel
theorem d_MD_isRow_9 : decode b_MD_isRow 9 = .ok (.ifCond .lt 17, 3) := by decide +kernel
theorem d_MD_isRow_12 : decode b_MD_isRow 12 = .ok (.iload_n 2, 1) := by decide +kernel
theorem d_MD_isRow_13 : decode b_MD_isRow 13 = .ok (.aload_n 0, 1) := by decide +kernel
theorem d_MD_isRow_14 : decode b_MD_isRow 14 = .ok (.getfield 61, 3) := by decide +kernel
theorem d_MD_isRow_17 : decode b_MD_isRow 17 = .ok (.iload_n 1, 1) := by decide +kernel
theorem d_MD_isRow_18 : decode b_MD_isRow 18 = .ok (.iaload, 1) := by decide +kernel
theorem d_MD_isRow_19 : decode b_MD_isRow 19 = .ok (.if_icmp .ge 7, 3) := by decide +kernel
theorem d_MD_isRow_22 : decode b_MD_isRow 22 = .ok (.iconst 1, 1) := by decide +kernel
theorem d_MD_isRow_23 : decode b_MD_isRow 23 = .ok (.goto 4, 3) := by decide +kernel
theorem d_MD_isRow_26 : decode b_MD_isRow 26 = .ok (.iconst 0, 1) := by decide +kernel
theorem d_MD_isRow_27 : decode b_MD_isRow 27 = .ok (.ireturn, 1) := by decide +kernel
theorem d_MD_rows_0 : decode b_MD_rows 0 = .ok (.aload_n 0, 1) := by decide +kernel
theorem d_MD_rows_1 : decode b_MD_rows 1 = .ok (.iconst 0, 1) := by decide +kernel
theorem d_MD_rows_2 : decode b_MD_rows 2 = .ok (.putfield 134, 3) := by decide +kernel
theorem d_MD_rows_5 : decode b_MD_rows 5 = .ok (.aload_n 0, 1) := by decide +kernel
theorem d_MD_rows_6 : decode b_MD_rows 6 = .ok (.iload_n 1, 1) := by decide +kernel
theorem d_MD_rows_7 : decode b_MD_rows 7 = .ok (.invokevirtual 317, 3) := by decide +kernel
theorem d_MD_rows_10 : decode b_MD_rows 10 = .ok (.ifCond .eq 12, 3) := by decide +kernel
theorem d_MD_rows_13 : decode b_MD_rows 13 = .ok (.aload_n 0, 1) := by decide +kernel
theorem d_MD_rows_14 : decode b_MD_rows 14 = .ok (.getfield 61, 3) := by decide +kernel
theorem d_MD_rows_17 : decode b_MD_rows 17 = .ok (.iload_n 1, 1) := by decide +kernel
theorem d_MD_rows_18 : decode b_MD_rows 18 = .ok (.iaload, 1) := by decide +kernel
theorem d_MD_rows_19 : decode b_MD_rows 19 = .ok (.goto 4, 3) := by decide +kernel
theorem d_MD_rows_22 : decode b_MD_rows 22 = .ok (.iconst (-1), 1) := by decide +kernel
theorem d_MD_rows_23 : decode b_MD_rows 23 = .ok (.ireturn, 1) := by decide +kernel
theorem d_MD_isOptional_0 : decode b_MD_isOptional 0 = .ok (.sipush 200, 3) := by decide +kernel
theorem d_MD_isOptional_3 : decode b_MD_isOptional 3 = .ok (.iload_n 1, 1) := by decide +kernel
theorem d_MD_isOptional_4 : decode b_MD_isOptional 4 = .ok (.imul, 1) := by decide +kernel
theorem d_MD_isOptional_5 : decode b_MD_isOptional 5 = .ok (.istore_n 3, 1) := by decide +kernel
theorem d_MD_isOptional_6 : decode b_MD_isOptional 6 = .ok (.iload_n 3, 1) := by decide +kernel
theorem d_MD_isOptional_7 : decode b_MD_isOptional 7 = .ok (.sipush 200, 3) := by decide +kernel
theorem d_MD_isOptional_10 : decode b_MD_isOptional 10 = .ok (.iload_n 1, 1) := by decide +kernel
theorem d_MD_isOptional_11 : decode b_MD_isOptional 11 = .ok (.imul, 1) := by decide +kernel
theorem d_MD_isOptional_12 : decode b_MD_isOptional 12 = .ok (.aload_n 0, 1) := by decide +kernel
theorem d_MD_isOptional_13 : decode b_MD_isOptional 13 = .ok (.getfield 61, 3) := by decide +kernel
theorem d_MD_isOptional_16 : decode b_MD_isOptional 16 = .ok (.iload_n 1, 1) := by decide +kernel
theorem d_MD_isOptional_17 : decode b_MD_isOptional 17 = .ok (.iaload, 1) := by decide +kernel
theorem d_MD_isOptional_18 : decode b_MD_isOptional 18 = .ok (.iadd, 1) := by decide +kernel
theorem d_MD_isOptional_19 : decode b_MD_isOptional 19 = .ok (.if_icmp .ge 56, 3) := by decide +kernel
theorem d_MD_isOptional_22 : decode b_MD_isOptional 22 = .ok (.aload_n 0, 1) := by decide +kernel
theorem d_MD_isOptional_23 : decode b_MD_isOptional 23 = .ok (.getfield 80, 3) := by decide +kernel
theorem d_MD_isOptional_26 : decode b_MD_isOptional 26 = .ok (.iload_n 3, 1) := by decide +kernel
theorem d_MD_isOptional_27 : decode b_MD_isOptional 27 = .ok (.baload, 1) := by decide +kernel
theorem d_MD_isOptional_28 : decode b_MD_isOptional 28 = .ok (.iconst 3, 1) := by decide +kernel
theorem d_MD_isOptional_29 : decode b_MD_isOptional 29 = .ok (.if_icmp .ne 40, 3) := by decide +kernel
theorem d_MD_isOptional_32 : decode b_MD_isOptional 32 = .ok (.aload_n 0, 1) := by decide +kernel
theorem d_MD_isOptional_33 : decode b_MD_isOptional 33 = .ok (.aload_n 0, 1) := by decide +kernel
theorem d_MD_isOptional_34 : decode b_MD_isOptional 34 = .ok (.getfield 93, 3) := by decide +kernel
theorem d_MD_isOptional_37 : decode b_MD_isOptional 37 = .ok (.bipush 20, 2) := by decide +kernel
theorem d_MD_isOptional_39 : decode b_MD_isOptional 39 = .ok (.iload_n 3, 1) := by decide +kernel
theorem d_MD_isOptional_40 : decode b_MD_isOptional 40 = .ok (.imul, 1) := by decide +kernel
theorem d_MD_isOptional_41 : decode b_MD_isOptional 41 = .ok (.aload_n 0, 1) := by decide +kernel
theorem d_MD_isOptional_42 : decode b_MD_isOptional 42 = .ok (.getfield 86, 3) := by decide +kernel
theorem d_MD_isOptional_45 : decode b_MD_isOptional 45 = .ok (.iload_n 3, 1) := by decide +kernel
theorem d_MD_isOptional_46 : decode b_MD_isOptional 46 = .ok (.iaload, 1) := by decide +kernel
theorem d_MD_isOptional_47 : decode b_MD_isOptional 47 = .ok (.aload_n 0, 1) := by decide +kernel
theorem d_MD_isOptional_48 : decode b_MD_isOptional 48 = .ok (.getfield 93, 3) := by decide +kernel
theorem d_MD_isOptional_51 : decode b_MD_isOptional 51 = .ok (.bipush 20, 2) := by decide +kernel
theorem d_MD_isOptional_53 : decode b_MD_isOptional 53 = .ok (.iload_n 2, 1) := by decide +kernel
theorem d_MD_isOptional_54 : decode b_MD_isOptional 54 = .ok (.imul, 1) := by decide +kernel
theorem d_MD_isOptional_55 : decode b_MD_isOptional 55 = .ok (.aload_n 0, 1) := by decide +kernel
theorem d_MD_isOptional_56 : decode b_MD_isOptional 56 = .ok (.getfield 86, 3) := by decide +kernel
theorem d_MD_isOptional_59 : decode b_MD_isOptional 59 = .ok (.iload_n 2, 1) := by decide +kernel
theorem d_MD_isOptional_60 : decode b_MD_isOptional 60 = .ok (.iaload, 1) := by decide +kernel
theorem d_MD_isOptional_61 : decode b_MD_isOptional 61 = .ok (.invokevirtual 284, 3) := by decide +kernel
theorem d_MD_isOptional_64 : decode b_MD_isOptional 64 = .ok (.ifCond .ne 5, 3) := by decide +kernel
theorem d_MD_isOptional_67 : decode b_MD_isOptional 67 = .ok (.iconst 1, 1) := by decide +kernel
theorem d_MD_isOptional_68 : decode b_MD_isOptional 68 = .ok (.ireturn, 1) := by decide +kernel
theorem d_MD_isOptional_69 : decode b_MD_isOptional 69 = .ok (.iinc 3 1, 3) := by decide +kernel
theorem d_MD_isOptional_72 : decode b_MD_isOptional 72 = .ok (.goto (-66), 3) := by decide +kernel
theorem d_MD_isOptional_75 : decode b_MD_isOptional 75 = .ok (.iconst 0, 1) := by decide +kernel
theorem d_MD_isOptional_76 : decode b_MD_isOptional 76 = .ok (.ireturn, 1) := by decide +kernel
theorem d_MD_why_0 : decode b_MD_why 0 = .ok (.aload_n 0, 1) := by decide +kernel
theorem d_MD_why_1 : decode b_MD_why 1 = .ok (.getfield 80, 3) := by decide +kernel
theorem d_MD_why_4 : decode b_MD_why 4 = .ok (.iload_n 2, 1) := by decide +kernel
theorem d_MD_why_5 : decode b_MD_why 5 = .ok (.baload, 1) := by decide +kernel
theorem d_MD_why_6 : decode b_MD_why 6 = .ok (.istore_n 3, 1) := by decide +kernel
theorem d_MD_why_7 : decode b_MD_why 7 = .ok (.iload_n 3, 1) := by decide +kernel
theorem d_MD_why_8 : decode b_MD_why 8 = .ok (.iconst 5, 1) := by decide +kernel
theorem d_MD_why_9 : decode b_MD_why 9 = .ok (.if_icmp .lt 9, 3) := by decide +kernel
theorem d_MD_why_12 : decode b_MD_why 12 = .ok (.iload_n 3, 1) := by decide +kernel
theorem d_MD_why_13 : decode b_MD_why 13 = .ok (.bipush 8, 2) := by decide +kernel
theorem d_MD_why_15 : decode b_MD_why 15 = .ok (.if_icmp .ne 40, 3) := by decide +kernel
theorem d_MD_why_18 : decode b_MD_why 18 = .ok (.aload_n 0, 1) := by decide +kernel
theorem d_MD_why_19 : decode b_MD_why 19 = .ok (.aload_n 0, 1) := by decide +kernel
theorem d_MD_why_20 : decode b_MD_why 20 = .ok (.getfield 93, 3) := by decide +kernel
theorem d_MD_why_23 : decode b_MD_why 23 = .ok (.bipush 20, 2) := by decide +kernel
theorem d_MD_why_25 : decode b_MD_why 25 = .ok (.iload_n 2, 1) := by decide +kernel
theorem d_MD_why_26 : decode b_MD_why 26 = .ok (.imul, 1) := by decide +kernel
theorem d_MD_why_27 : decode b_MD_why 27 = .ok (.aload_n 0, 1) := by decide +kernel
theorem d_MD_why_28 : decode b_MD_why 28 = .ok (.getfield 86, 3) := by decide +kernel
theorem d_MD_why_31 : decode b_MD_why 31 = .ok (.iload_n 2, 1) := by decide +kernel
theorem d_MD_why_32 : decode b_MD_why 32 = .ok (.iaload, 1) := by decide +kernel
theorem d_MD_why_33 : decode b_MD_why 33 = .ok (.aload_n 0, 1) := by decide +kernel
theorem d_MD_why_34 : decode b_MD_why 34 = .ok (.getfield 67, 3) := by decide +kernel
theorem d_MD_why_37 : decode b_MD_why 37 = .ok (.bipush 20, 2) := by decide +kernel
theorem d_MD_why_39 : decode b_MD_why 39 = .ok (.iload_n 1, 1) := by decide +kernel
theorem d_MD_why_40 : decode b_MD_why 40 = .ok (.imul, 1) := by decide +kernel
theorem d_MD_why_41 : decode b_MD_why 41 = .ok (.aload_n 0, 1) := by decide +kernel
theorem d_MD_why_42 : decode b_MD_why 42 = .ok (.getfield 58, 3) := by decide +kernel
theorem d_MD_why_45 : decode b_MD_why 45 = .ok (.iload_n 1, 1) := by decide +kernel
theorem d_MD_why_46 : decode b_MD_why 46 = .ok (.iaload, 1) := by decide +kernel
theorem d_MD_why_47 : decode b_MD_why 47 = .ok (.invokevirtual 284, 3) := by decide +kernel
theorem d_MD_why_50 : decode b_MD_why 50 = .ok (.ifCond .ne 5, 3) := by decide +kernel
theorem d_MD_why_53 : decode b_MD_why 53 = .ok (.iconst 1, 1) := by decide +kernel
theorem d_MD_why_54 : decode b_MD_why 54 = .ok (.ireturn, 1) := by decide +kernel
theorem d_MD_why_55 : decode b_MD_why 55 = .ok (.iload_n 3, 1) := by decide +kernel
theorem d_MD_why_56 : decode b_MD_why 56 = .ok (.bipush 7, 2) := by decide +kernel
theorem d_MD_why_58 : decode b_MD_why 58 = .ok (.if_icmp .lt 9, 3) := by decide +kernel
theorem d_MD_why_61 : decode b_MD_why 61 = .ok (.iload_n 3, 1) := by decide +kernel
theorem d_MD_why_62 : decode b_MD_why 62 = .ok (.bipush 8, 2) := by decide +kernel
theorem d_MD_why_64 : decode b_MD_why 64 = .ok (.if_icmp .ne 21, 3) := by decide +kernel
theorem d_MD_why_67 : decode b_MD_why 67 = .ok (.aload_n 0, 1) := by decide +kernel
theorem d_MD_why_68 : decode b_MD_why 68 = .ok (.getfield 99, 3) := by decide +kernel
theorem d_MD_why_71 : decode b_MD_why 71 = .ok (.iload_n 2, 1) := by decide +kernel
theorem d_MD_why_72 : decode b_MD_why 72 = .ok (.laload, 1) := by decide +kernel
theorem d_MD_why_73 : decode b_MD_why 73 = .ok (.aload_n 0, 1) := by decide +kernel
theorem d_MD_why_74 : decode b_MD_why 74 = .ok (.getfield 102, 3) := by decide +kernel
theorem d_MD_why_77 : decode b_MD_why 77 = .ok (.iload_n 2, 1) := by decide +kernel
theorem d_MD_why_78 : decode b_MD_why 78 = .ok (.laload, 1) := by decide +kernel
theorem d_MD_why_79 : decode b_MD_why 79 = .ok (.lcmp, 1) := by decide +kernel
theorem d_MD_why_80 : decode b_MD_why 80 = .ok (.ifCond .lt 5, 3) := by decide +kernel
theorem d_MD_why_83 : decode b_MD_why 83 = .ok (.iconst 2, 1) := by decide +kernel
theorem d_MD_why_84 : decode b_MD_why 84 = .ok (.ireturn, 1) := by decide +kernel
theorem d_MD_why_85 : decode b_MD_why 85 = .ok (.iload_n 3, 1) := by decide +kernel
theorem d_MD_why_86 : decode b_MD_why 86 = .ok (.bipush 9, 2) := by decide +kernel
theorem d_MD_why_88 : decode b_MD_why 88 = .ok (.if_icmp .ne 36, 3) := by decide +kernel
theorem d_MD_why_91 : decode b_MD_why 91 = .ok (.aload_n 0, 1) := by decide +kernel
theorem d_MD_why_92 : decode b_MD_why 92 = .ok (.iload_n 1, 1) := by decide +kernel
theorem d_MD_why_93 : decode b_MD_why 93 = .ok (.aload_n 0, 1) := by decide +kernel
theorem d_MD_why_94 : decode b_MD_why 94 = .ok (.getfield 93, 3) := by decide +kernel
theorem d_MD_why_97 : decode b_MD_why 97 = .ok (.bipush 20, 2) := by decide +kernel
theorem d_MD_why_99 : decode b_MD_why 99 = .ok (.iload_n 2, 1) := by decide +kernel
theorem d_MD_why_100 : decode b_MD_why 100 = .ok (.imul, 1) := by decide +kernel
theorem d_MD_why_101 : decode b_MD_why 101 = .ok (.aload_n 0, 1) := by decide +kernel
theorem d_MD_why_102 : decode b_MD_why 102 = .ok (.getfield 86, 3) := by decide +kernel
theorem d_MD_why_105 : decode b_MD_why 105 = .ok (.iload_n 2, 1) := by decide +kernel
theorem d_MD_why_106 : decode b_MD_why 106 = .ok (.iaload, 1) := by decide +kernel
theorem d_MD_why_107 : decode b_MD_why 107 = .ok (.invokevirtual 293, 3) := by decide +kernel
theorem d_MD_why_110 : decode b_MD_why 110 = .ok (.ifCond .ne 14, 3) := by decide +kernel
theorem d_MD_why_113 : decode b_MD_why 113 = .ok (.aload_n 0, 1) := by decide +kernel
theorem d_MD_why_114 : decode b_MD_why 114 = .ok (.iload_n 1, 1) := by decide +kernel
theorem d_MD_why_115 : decode b_MD_why 115 = .ok (.iload_n 2, 1) := by decide +kernel
theorem d_MD_why_116 : decode b_MD_why 116 = .ok (.invokevirtual 320, 3) := by decide +kernel
theorem d_MD_why_119 : decode b_MD_why 119 = .ok (.ifCond .ne 5, 3) := by decide +kernel
theorem d_MD_why_122 : decode b_MD_why 122 = .ok (.iconst 3, 1) := by decide +kernel
theorem d_MD_why_123 : decode b_MD_why 123 = .ok (.ireturn, 1) := by decide +kernel
theorem d_MD_why_124 : decode b_MD_why 124 = .ok (.aload_n 0, 1) := by decide +kernel
theorem d_MD_why_125 : decode b_MD_why 125 = .ok (.getfield 105, 3) := by decide +kernel
theorem d_MD_why_128 : decode b_MD_why 128 = .ok (.iload_n 2, 1) := by decide +kernel
theorem d_MD_why_129 : decode b_MD_why 129 = .ok (.baload, 1) := by decide +kernel
theorem d_MD_why_130 : decode b_MD_why 130 = .ok (.ifCond .eq 7, 3) := by decide +kernel
theorem d_MD_why_133 : decode b_MD_why 133 = .ok (.iconst 4, 1) := by decide +kernel
theorem d_MD_why_134 : decode b_MD_why 134 = .ok (.goto 4, 3) := by decide +kernel
theorem d_MD_why_137 : decode b_MD_why 137 = .ok (.iconst 0, 1) := by decide +kernel
theorem d_MD_why_138 : decode b_MD_why 138 = .ok (.ireturn, 1) := by decide +kernel
theorem d_MD_row_0 : decode b_MD_row 0 = .ok (.aload_n 0, 1) := by decide +kernel
theorem d_MD_row_1 : decode b_MD_row 1 = .ok (.iconst 0, 1) := by decide +kernel
theorem d_MD_row_2 : decode b_MD_row 2 = .ok (.putfield 134, 3) := by decide +kernel
theorem d_MD_row_5 : decode b_MD_row 5 = .ok (.aload_n 0, 1) := by decide +kernel
theorem d_MD_row_6 : decode b_MD_row 6 = .ok (.iload_n 1, 1) := by decide +kernel
theorem d_MD_row_7 : decode b_MD_row 7 = .ok (.iload_n 2, 1) := by decide +kernel
theorem d_MD_row_8 : decode b_MD_row 8 = .ok (.invokevirtual 323, 3) := by decide +kernel
theorem d_MD_row_11 : decode b_MD_row 11 = .ok (.ifCond .ne 5, 3) := by decide +kernel
theorem d_MD_row_14 : decode b_MD_row 14 = .ok (.iconst (-1), 1) := by decide +kernel
theorem d_MD_row_15 : decode b_MD_row 15 = .ok (.ireturn, 1) := by decide +kernel
theorem d_MD_row_16 : decode b_MD_row 16 = .ok (.sipush 200, 3) := by decide +kernel
theorem d_MD_row_19 : decode b_MD_row 19 = .ok (.iload_n 1, 1) := by decide +kernel
theorem d_MD_row_20 : decode b_MD_row 20 = .ok (.imul, 1) := by decide +kernel
theorem d_MD_row_21 : decode b_MD_row 21 = .ok (.iload_n 2, 1) := by decide +kernel
theorem d_MD_row_22 : decode b_MD_row 22 = .ok (.iadd, 1) := by decide +kernel
theorem d_MD_row_23 : decode b_MD_row 23 = .ok (.istore 4, 2) := by decide +kernel
theorem d_MD_row_25 : decode b_MD_row 25 = .ok (.iload_n 3, 1) := by decide +kernel
theorem d_MD_row_26 : decode b_MD_row 26 = .ok (.tableswitch 90 0 4 #[34, 42, 50, 58, 82], 34) := by decide +kernel
theorem d_MD_row_60 : decode b_MD_row 60 = .ok (.aload_n 0, 1) := by decide +kernel
theorem d_MD_row_61 : decode b_MD_row 61 = .ok (.getfield 80, 3) := by decide +kernel
theorem d_MD_row_64 : decode b_MD_row 64 = .ok (.iload 4, 2) := by decide +kernel
theorem d_MD_row_66 : decode b_MD_row 66 = .ok (.baload, 1) := by decide +kernel
theorem d_MD_row_67 : decode b_MD_row 67 = .ok (.ireturn, 1) := by decide +kernel
theorem d_MD_row_68 : decode b_MD_row 68 = .ok (.aload_n 0, 1) := by decide +kernel
theorem d_MD_row_69 : decode b_MD_row 69 = .ok (.getfield 83, 3) := by decide +kernel
theorem d_MD_row_72 : decode b_MD_row 72 = .ok (.iload 4, 2) := by decide +kernel
theorem d_MD_row_74 : decode b_MD_row 74 = .ok (.iaload, 1) := by decide +kernel
theorem d_MD_row_75 : decode b_MD_row 75 = .ok (.ireturn, 1) := by decide +kernel
theorem d_MD_row_76 : decode b_MD_row 76 = .ok (.aload_n 0, 1) := by decide +kernel
theorem d_MD_row_77 : decode b_MD_row 77 = .ok (.getfield 86, 3) := by decide +kernel
theorem d_MD_row_80 : decode b_MD_row 80 = .ok (.iload 4, 2) := by decide +kernel
theorem d_MD_row_82 : decode b_MD_row 82 = .ok (.iaload, 1) := by decide +kernel
theorem d_MD_row_83 : decode b_MD_row 83 = .ok (.ireturn, 1) := by decide +kernel
theorem d_MD_row_84 : decode b_MD_row 84 = .ok (.aload_n 0, 1) := by decide +kernel
theorem d_MD_row_85 : decode b_MD_row 85 = .ok (.getfield 93, 3) := by decide +kernel
theorem d_MD_row_88 : decode b_MD_row 88 = .ok (.bipush 20, 2) := by decide +kernel
theorem d_MD_row_90 : decode b_MD_row 90 = .ok (.iload 4, 2) := by decide +kernel
theorem d_MD_row_92 : decode b_MD_row 92 = .ok (.imul, 1) := by decide +kernel
theorem d_MD_row_93 : decode b_MD_row 93 = .ok (.aload_n 0, 1) := by decide +kernel
theorem d_MD_row_94 : decode b_MD_row 94 = .ok (.getfield 86, 3) := by decide +kernel
theorem d_MD_row_97 : decode b_MD_row 97 = .ok (.iload 4, 2) := by decide +kernel
theorem d_MD_row_99 : decode b_MD_row 99 = .ok (.iaload, 1) := by decide +kernel
theorem d_MD_row_100 : decode b_MD_row 100 = .ok (.aload_n 0, 1) := by decide +kernel
theorem d_MD_row_101 : decode b_MD_row 101 = .ok (.getfield 115, 3) := by decide +kernel
theorem d_MD_row_104 : decode b_MD_row 104 = .ok (.invokestatic 214, 3) := by decide +kernel
theorem d_MD_row_107 : decode b_MD_row 107 = .ok (.ireturn, 1) := by decide +kernel
theorem d_MD_row_108 : decode b_MD_row 108 = .ok (.aload_n 0, 1) := by decide +kernel
theorem d_MD_row_109 : decode b_MD_row 109 = .ok (.iload_n 1, 1) := by decide +kernel
theorem d_MD_row_110 : decode b_MD_row 110 = .ok (.iload 4, 2) := by decide +kernel
theorem d_MD_row_112 : decode b_MD_row 112 = .ok (.invokevirtual 326, 3) := by decide +kernel
theorem d_MD_row_115 : decode b_MD_row 115 = .ok (.ireturn, 1) := by decide +kernel
theorem d_MD_row_116 : decode b_MD_row 116 = .ok (.iconst (-1), 1) := by decide +kernel
theorem d_MD_row_117 : decode b_MD_row 117 = .ok (.ireturn, 1) := by decide +kernel
