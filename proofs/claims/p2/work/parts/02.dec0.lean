theorem dX1_init_0 : decode cX1_init 0 = .ok (.aload_n 0, 1) := by decide +kernel
theorem dX1_init_1 : decode cX1_init 1 = .ok (.invokespecial 3, 3) := by decide +kernel
theorem dX1_init_4 : decode cX1_init 4 = .ok (.aload_n 0, 1) := by decide +kernel
theorem dX1_init_5 : decode cX1_init 5 = .ok (.bipush 11, 2) := by decide +kernel
theorem dX1_init_7 : decode cX1_init 7 = .ok (.newarray .long, 2) := by decide +kernel
theorem dX1_init_9 : decode cX1_init 9 = .ok (.putfield 9, 3) := by decide +kernel
theorem dX1_init_12 : decode cX1_init 12 = .ok (.aload_n 0, 1) := by decide +kernel
theorem dX1_init_13 : decode cX1_init 13 = .ok (.lconst 1, 1) := by decide +kernel
theorem dX1_init_14 : decode cX1_init 14 = .ok (.putfield 15, 3) := by decide +kernel
theorem dX1_init_17 : decode cX1_init 17 = .ok (.aload_n 0, 1) := by decide +kernel
theorem dX1_init_18 : decode cX1_init 18 = .ok (.aload_n 1, 1) := by decide +kernel
theorem dX1_init_19 : decode cX1_init 19 = .ok (.putfield 19, 3) := by decide +kernel
theorem dX1_init_22 : decode cX1_init 22 = .ok (.aload_n 0, 1) := by decide +kernel
theorem dX1_init_23 : decode cX1_init 23 = .ok (.aload_n 2, 1) := by decide +kernel
theorem dX1_init_24 : decode cX1_init 24 = .ok (.putfield 23, 3) := by decide +kernel
theorem dX1_init_27 : decode cX1_init 27 = .ok (.return_, 1) := by decide +kernel
theorem dX1_goOn_0 : decode cX1_goOn 0 = .ok (.aload_n 0, 1) := by decide +kernel
theorem dX1_goOn_1 : decode cX1_goOn 1 = .ok (.getfield 23, 3) := by decide +kernel
theorem dX1_goOn_4 : decode cX1_goOn 4 = .ok (.iload_n 1, 1) := by decide +kernel
theorem dX1_goOn_5 : decode cX1_goOn 5 = .ok (.invokevirtual 27, 3) := by decide +kernel
theorem dX1_goOn_8 : decode cX1_goOn 8 = .ok (.aload_n 0, 1) := by decide +kernel
theorem dX1_goOn_9 : decode cX1_goOn 9 = .ok (.getfield 9, 3) := by decide +kernel
theorem dX1_goOn_12 : decode cX1_goOn 12 = .ok (.lconst 0, 1) := by decide +kernel
theorem dX1_goOn_13 : decode cX1_goOn 13 = .ok (.invokestatic 33, 3) := by decide +kernel
theorem dX1_goOn_16 : decode cX1_goOn 16 = .ok (.aload_n 0, 1) := by decide +kernel
theorem dX1_goOn_17 : decode cX1_goOn 17 = .ok (.lconst 1, 1) := by decide +kernel
theorem dX1_goOn_18 : decode cX1_goOn 18 = .ok (.putfield 15, 3) := by decide +kernel
theorem dX1_goOn_21 : decode cX1_goOn 21 = .ok (.aload_n 0, 1) := by decide +kernel
theorem dX1_goOn_22 : decode cX1_goOn 22 = .ok (.getfield 9, 3) := by decide +kernel
theorem dX1_goOn_25 : decode cX1_goOn 25 = .ok (.aload_n 0, 1) := by decide +kernel
theorem dX1_goOn_26 : decode cX1_goOn 26 = .ok (.getfield 19, 3) := by decide +kernel
theorem dX1_goOn_29 : decode cX1_goOn 29 = .ok (.getfield 39, 3) := by decide +kernel
theorem dX1_goOn_32 : decode cX1_goOn 32 = .ok (.iload_n 1, 1) := by decide +kernel
theorem dX1_goOn_33 : decode cX1_goOn 33 = .ok (.aaload, 1) := by decide +kernel
theorem dX1_goOn_34 : decode cX1_goOn 34 = .ok (.getfield 45, 3) := by decide +kernel
theorem dX1_goOn_37 : decode cX1_goOn 37 = .ok (.lconst 1, 1) := by decide +kernel
theorem dX1_goOn_38 : decode cX1_goOn 38 = .ok (.lastore, 1) := by decide +kernel
theorem dX1_goOn_39 : decode cX1_goOn 39 = .ok (.aload_n 0, 1) := by decide +kernel
theorem dX1_goOn_40 : decode cX1_goOn 40 = .ok (.aload_n 0, 1) := by decide +kernel
theorem dX1_goOn_41 : decode cX1_goOn 41 = .ok (.invokevirtual 51, 3) := by decide +kernel
theorem dX1_goOn_44 : decode cX1_goOn 44 = .ok (.putfield 55, 3) := by decide +kernel
theorem dX1_goOn_47 : decode cX1_goOn 47 = .ok (.aload_n 0, 1) := by decide +kernel
theorem dX1_goOn_48 : decode cX1_goOn 48 = .ok (.iconst 0, 1) := by decide +kernel
theorem dX1_goOn_49 : decode cX1_goOn 49 = .ok (.putfield 58, 3) := by decide +kernel
theorem dX1_goOn_52 : decode cX1_goOn 52 = .ok (.aload_n 0, 1) := by decide +kernel
theorem dX1_goOn_53 : decode cX1_goOn 53 = .ok (.iconst 0, 1) := by decide +kernel
theorem dX1_goOn_54 : decode cX1_goOn 54 = .ok (.putfield 61, 3) := by decide +kernel
theorem dX1_goOn_57 : decode cX1_goOn 57 = .ok (.aload_n 0, 1) := by decide +kernel
theorem dX1_goOn_58 : decode cX1_goOn 58 = .ok (.iconst (-1), 1) := by decide +kernel
theorem dX1_goOn_59 : decode cX1_goOn 59 = .ok (.putfield 64, 3) := by decide +kernel
theorem dX1_goOn_62 : decode cX1_goOn 62 = .ok (.aload_n 0, 1) := by decide +kernel
theorem dX1_goOn_63 : decode cX1_goOn 63 = .ok (.getfield 19, 3) := by decide +kernel
theorem dX1_goOn_66 : decode cX1_goOn 66 = .ok (.iconst (-1), 1) := by decide +kernel
theorem dX1_goOn_67 : decode cX1_goOn 67 = .ok (.invokevirtual 67, 3) := by decide +kernel
theorem dX1_goOn_70 : decode cX1_goOn 70 = .ok (.istore_n 3, 1) := by decide +kernel
theorem dX1_goOn_71 : decode cX1_goOn 71 = .ok (.iconst 0, 1) := by decide +kernel
theorem dX1_goOn_72 : decode cX1_goOn 72 = .ok (.istore 4, 2) := by decide +kernel
theorem dX1_goOn_74 : decode cX1_goOn 74 = .ok (.iload 4, 2) := by decide +kernel
theorem dX1_goOn_76 : decode cX1_goOn 76 = .ok (.bipush 10, 2) := by decide +kernel
theorem dX1_goOn_78 : decode cX1_goOn 78 = .ok (.if_icmp .ge 132, 3) := by decide +kernel
theorem dX1_goOn_81 : decode cX1_goOn 81 = .ok (.iload_n 3, 1) := by decide +kernel
theorem dX1_goOn_82 : decode cX1_goOn 82 = .ok (.iconst (-1), 1) := by decide +kernel
theorem dX1_goOn_83 : decode cX1_goOn 83 = .ok (.if_icmp .eq 127, 3) := by decide +kernel
theorem dX1_goOn_86 : decode cX1_goOn 86 = .ok (.aload_n 0, 1) := by decide +kernel
theorem dX1_goOn_87 : decode cX1_goOn 87 = .ok (.getfield 19, 3) := by decide +kernel
theorem dX1_goOn_90 : decode cX1_goOn 90 = .ok (.getfield 71, 3) := by decide +kernel
theorem dX1_goOn_93 : decode cX1_goOn 93 = .ok (.iload_n 3, 1) := by decide +kernel
theorem dX1_goOn_94 : decode cX1_goOn 94 = .ok (.aaload, 1) := by decide +kernel
theorem dX1_goOn_95 : decode cX1_goOn 95 = .ok (.getfield 75, 3) := by decide +kernel
theorem dX1_goOn_98 : decode cX1_goOn 98 = .ok (.istore 5, 2) := by decide +kernel
theorem dX1_goOn_100 : decode cX1_goOn 100 = .ok (.iload 5, 2) := by decide +kernel
theorem dX1_goOn_102 : decode cX1_goOn 102 = .ok (.iload_n 2, 1) := by decide +kernel
theorem dX1_goOn_103 : decode cX1_goOn 103 = .ok (.if_icmp .gt 92, 3) := by decide +kernel
theorem dX1_goOn_106 : decode cX1_goOn 106 = .ok (.aload_n 0, 1) := by decide +kernel
theorem dX1_goOn_107 : decode cX1_goOn 107 = .ok (.getfield 9, 3) := by decide +kernel
theorem dX1_goOn_110 : decode cX1_goOn 110 = .ok (.iload_n 3, 1) := by decide +kernel
theorem dX1_goOn_111 : decode cX1_goOn 111 = .ok (.laload, 1) := by decide +kernel
theorem dX1_goOn_112 : decode cX1_goOn 112 = .ok (.lconst 0, 1) := by decide +kernel
theorem dX1_goOn_113 : decode cX1_goOn 113 = .ok (.lcmp, 1) := by decide +kernel
theorem dX1_goOn_114 : decode cX1_goOn 114 = .ok (.ifCond .eq 81, 3) := by decide +kernel
theorem dX1_goOn_117 : decode cX1_goOn 117 = .ok (.aload_n 0, 1) := by decide +kernel
theorem dX1_goOn_118 : decode cX1_goOn 118 = .ok (.getfield 23, 3) := by decide +kernel
theorem dX1_goOn_121 : decode cX1_goOn 121 = .ok (.iload_n 3, 1) := by decide +kernel
theorem dX1_goOn_122 : decode cX1_goOn 122 = .ok (.iload_n 1, 1) := by decide +kernel
theorem dX1_goOn_123 : decode cX1_goOn 123 = .ok (.invokevirtual 80, 3) := by decide +kernel
theorem dX1_goOn_126 : decode cX1_goOn 126 = .ok (.aload_n 0, 1) := by decide +kernel
theorem dX1_goOn_127 : decode cX1_goOn 127 = .ok (.iload_n 3, 1) := by decide +kernel
theorem dX1_goOn_128 : decode cX1_goOn 128 = .ok (.aload_n 0, 1) := by decide +kernel
theorem dX1_goOn_129 : decode cX1_goOn 129 = .ok (.getfield 19, 3) := by decide +kernel
theorem dX1_goOn_132 : decode cX1_goOn 132 = .ok (.getfield 84, 3) := by decide +kernel
theorem dX1_goOn_135 : decode cX1_goOn 135 = .ok (.aload_n 0, 1) := by decide +kernel
theorem dX1_goOn_136 : decode cX1_goOn 136 = .ok (.getfield 19, 3) := by decide +kernel
theorem dX1_goOn_139 : decode cX1_goOn 139 = .ok (.getfield 39, 3) := by decide +kernel
theorem dX1_goOn_142 : decode cX1_goOn 142 = .ok (.iload_n 1, 1) := by decide +kernel
theorem dX1_goOn_143 : decode cX1_goOn 143 = .ok (.aaload, 1) := by decide +kernel
theorem dX1_goOn_144 : decode cX1_goOn 144 = .ok (.getfield 88, 3) := by decide +kernel
theorem dX1_goOn_147 : decode cX1_goOn 147 = .ok (.aaload, 1) := by decide +kernel
theorem dX1_goOn_148 : decode cX1_goOn 148 = .ok (.getfield 91, 3) := by decide +kernel
theorem dX1_goOn_151 : decode cX1_goOn 151 = .ok (.invokevirtual 97, 3) := by decide +kernel
theorem dX1_goOn_154 : decode cX1_goOn 154 = .ok (.aload_n 0, 1) := by decide +kernel
theorem dX1_goOn_155 : decode cX1_goOn 155 = .ok (.dup, 1) := by decide +kernel
theorem dX1_goOn_156 : decode cX1_goOn 156 = .ok (.getfield 58, 3) := by decide +kernel
theorem dX1_goOn_159 : decode cX1_goOn 159 = .ok (.iconst 1, 1) := by decide +kernel
theorem dX1_goOn_160 : decode cX1_goOn 160 = .ok (.iload_n 3, 1) := by decide +kernel
theorem dX1_goOn_161 : decode cX1_goOn 161 = .ok (.ishl, 1) := by decide +kernel
theorem dX1_goOn_162 : decode cX1_goOn 162 = .ok (.ior, 1) := by decide +kernel
theorem dX1_goOn_163 : decode cX1_goOn 163 = .ok (.putfield 58, 3) := by decide +kernel
theorem dX1_goOn_166 : decode cX1_goOn 166 = .ok (.aload_n 0, 1) := by decide +kernel
theorem dX1_goOn_167 : decode cX1_goOn 167 = .ok (.dup, 1) := by decide +kernel
theorem dX1_goOn_168 : decode cX1_goOn 168 = .ok (.getfield 55, 3) := by decide +kernel
theorem dX1_goOn_171 : decode cX1_goOn 171 = .ok (.aload_n 0, 1) := by decide +kernel
theorem dX1_goOn_172 : decode cX1_goOn 172 = .ok (.invokevirtual 51, 3) := by decide +kernel
theorem dX1_goOn_175 : decode cX1_goOn 175 = .ok (.ior, 1) := by decide +kernel
theorem dX1_goOn_176 : decode cX1_goOn 176 = .ok (.putfield 55, 3) := by decide +kernel
theorem dX1_goOn_179 : decode cX1_goOn 179 = .ok (.aload_n 0, 1) := by decide +kernel
theorem dX1_goOn_180 : decode cX1_goOn 180 = .ok (.dup, 1) := by decide +kernel
theorem dX1_goOn_181 : decode cX1_goOn 181 = .ok (.getfield 61, 3) := by decide +kernel
theorem dX1_goOn_184 : decode cX1_goOn 184 = .ok (.iconst 1, 1) := by decide +kernel
theorem dX1_goOn_185 : decode cX1_goOn 185 = .ok (.iadd, 1) := by decide +kernel
theorem dX1_goOn_186 : decode cX1_goOn 186 = .ok (.putfield 61, 3) := by decide +kernel
theorem dX1_goOn_189 : decode cX1_goOn 189 = .ok (.aload_n 0, 1) := by decide +kernel
theorem dX1_goOn_190 : decode cX1_goOn 190 = .ok (.iload 5, 2) := by decide +kernel
theorem dX1_goOn_192 : decode cX1_goOn 192 = .ok (.putfield 64, 3) := by decide +kernel
theorem dX1_goOn_195 : decode cX1_goOn 195 = .ok (.aload_n 0, 1) := by decide +kernel
theorem dX1_goOn_196 : decode cX1_goOn 196 = .ok (.getfield 19, 3) := by decide +kernel
theorem dX1_goOn_199 : decode cX1_goOn 199 = .ok (.iload_n 3, 1) := by decide +kernel
theorem dX1_goOn_200 : decode cX1_goOn 200 = .ok (.invokevirtual 67, 3) := by decide +kernel
theorem dX1_goOn_203 : decode cX1_goOn 203 = .ok (.istore_n 3, 1) := by decide +kernel
theorem dX1_goOn_204 : decode cX1_goOn 204 = .ok (.iinc 4 1, 3) := by decide +kernel
theorem dX1_goOn_207 : decode cX1_goOn 207 = .ok (.goto (-133), 3) := by decide +kernel
theorem dX1_goOn_210 : decode cX1_goOn 210 = .ok (.return_, 1) := by decide +kernel
theorem dX1_passOn_0 : decode cX1_passOn 0 = .ok (.aload_n 0, 1) := by decide +kernel
theorem dX1_passOn_1 : decode cX1_passOn 1 = .ok (.getfield 19, 3) := by decide +kernel
theorem dX1_passOn_4 : decode cX1_passOn 4 = .ok (.iload_n 1, 1) := by decide +kernel
theorem dX1_passOn_5 : decode cX1_passOn 5 = .ok (.invokevirtual 101, 3) := by decide +kernel
theorem dX1_passOn_8 : decode cX1_passOn 8 = .ok (.aload_n 0, 1) := by decide +kernel
theorem dX1_passOn_9 : decode cX1_passOn 9 = .ok (.getfield 19, 3) := by decide +kernel
theorem dX1_passOn_12 : decode cX1_passOn 12 = .ok (.aload_n 0, 1) := by decide +kernel
theorem dX1_passOn_13 : decode cX1_passOn 13 = .ok (.getfield 19, 3) := by decide +kernel
theorem dX1_passOn_16 : decode cX1_passOn 16 = .ok (.getfield 71, 3) := by decide +kernel
theorem dX1_passOn_19 : decode cX1_passOn 19 = .ok (.iload_n 1, 1) := by decide +kernel
theorem dX1_passOn_20 : decode cX1_passOn 20 = .ok (.aaload, 1) := by decide +kernel
theorem dX1_passOn_21 : decode cX1_passOn 21 = .ok (.getfield 75, 3) := by decide +kernel
theorem dX1_passOn_24 : decode cX1_passOn 24 = .ok (.invokevirtual 104, 3) := by decide +kernel
theorem dX1_passOn_27 : decode cX1_passOn 27 = .ok (.iand, 1) := by decide +kernel
theorem dX1_passOn_28 : decode cX1_passOn 28 = .ok (.istore_n 3, 1) := by decide +kernel
theorem dX1_passOn_29 : decode cX1_passOn 29 = .ok (.aload_n 0, 1) := by decide +kernel
theorem dX1_passOn_30 : decode cX1_passOn 30 = .ok (.getfield 19, 3) := by decide +kernel
theorem dX1_passOn_33 : decode cX1_passOn 33 = .ok (.iload_n 1, 1) := by decide +kernel
theorem dX1_passOn_34 : decode cX1_passOn 34 = .ok (.invokevirtual 107, 3) := by decide +kernel
theorem dX1_passOn_37 : decode cX1_passOn 37 = .ok (.istore 4, 2) := by decide +kernel
theorem dX1_passOn_39 : decode cX1_passOn 39 = .ok (.aload_n 0, 1) := by decide +kernel
theorem dX1_passOn_40 : decode cX1_passOn 40 = .ok (.getfield 23, 3) := by decide +kernel
theorem dX1_passOn_43 : decode cX1_passOn 43 = .ok (.getfield 110, 3) := by decide +kernel
theorem dX1_passOn_46 : decode cX1_passOn 46 = .ok (.iconst (-1), 1) := by decide +kernel
theorem dX1_passOn_47 : decode cX1_passOn 47 = .ok (.if_icmp .eq 31, 3) := by decide +kernel
theorem dX1_passOn_50 : decode cX1_passOn 50 = .ok (.iload_n 2, 1) := by decide +kernel
theorem dX1_passOn_51 : decode cX1_passOn 51 = .ok (.ifCond .eq 27, 3) := by decide +kernel
theorem dX1_passOn_54 : decode cX1_passOn 54 = .ok (.iload_n 3, 1) := by decide +kernel
theorem dX1_passOn_55 : decode cX1_passOn 55 = .ok (.ifCond .eq 23, 3) := by decide +kernel
theorem dX1_passOn_58 : decode cX1_passOn 58 = .ok (.aload_n 0, 1) := by decide +kernel
theorem dX1_passOn_59 : decode cX1_passOn 59 = .ok (.iload_n 1, 1) := by decide +kernel
theorem dX1_passOn_60 : decode cX1_passOn 60 = .ok (.iload_n 3, 1) := by decide +kernel
theorem dX1_passOn_61 : decode cX1_passOn 61 = .ok (.aload_n 0, 1) := by decide +kernel
theorem dX1_passOn_62 : decode cX1_passOn 62 = .ok (.getfield 23, 3) := by decide +kernel
theorem dX1_passOn_65 : decode cX1_passOn 65 = .ok (.getfield 110, 3) := by decide +kernel
theorem dX1_passOn_68 : decode cX1_passOn 68 = .ok (.iload_n 3, 1) := by decide +kernel
theorem dX1_passOn_69 : decode cX1_passOn 69 = .ok (.invokestatic 113, 3) := by decide +kernel
theorem dX1_passOn_72 : decode cX1_passOn 72 = .ok (.invokevirtual 118, 3) := by decide +kernel
theorem dX1_passOn_75 : decode cX1_passOn 75 = .ok (.goto 58, 3) := by decide +kernel
theorem dX1_passOn_78 : decode cX1_passOn 78 = .ok (.aload_n 0, 1) := by decide +kernel
theorem dX1_passOn_79 : decode cX1_passOn 79 = .ok (.getfield 23, 3) := by decide +kernel
theorem dX1_passOn_82 : decode cX1_passOn 82 = .ok (.getfield 110, 3) := by decide +kernel
theorem dX1_passOn_85 : decode cX1_passOn 85 = .ok (.iconst (-1), 1) := by decide +kernel
theorem dX1_passOn_86 : decode cX1_passOn 86 = .ok (.if_icmp .eq 20, 3) := by decide +kernel
theorem dX1_passOn_89 : decode cX1_passOn 89 = .ok (.aload_n 0, 1) := by decide +kernel
theorem dX1_passOn_90 : decode cX1_passOn 90 = .ok (.iload_n 1, 1) := by decide +kernel
theorem dX1_passOn_91 : decode cX1_passOn 91 = .ok (.iconst 0, 1) := by decide +kernel
theorem dX1_passOn_92 : decode cX1_passOn 92 = .ok (.aload_n 0, 1) := by decide +kernel
theorem dX1_passOn_93 : decode cX1_passOn 93 = .ok (.getfield 23, 3) := by decide +kernel
theorem dX1_passOn_96 : decode cX1_passOn 96 = .ok (.getfield 110, 3) := by decide +kernel
theorem dX1_passOn_99 : decode cX1_passOn 99 = .ok (.iconst 1, 1) := by decide +kernel
theorem dX1_passOn_100 : decode cX1_passOn 100 = .ok (.invokevirtual 118, 3) := by decide +kernel
theorem dX1_passOn_103 : decode cX1_passOn 103 = .ok (.goto 30, 3) := by decide +kernel
theorem dX1_passOn_106 : decode cX1_passOn 106 = .ok (.iload 4, 2) := by decide +kernel
theorem dX1_passOn_108 : decode cX1_passOn 108 = .ok (.ifCond .eq 16, 3) := by decide +kernel
theorem dX1_passOn_111 : decode cX1_passOn 111 = .ok (.aload_n 0, 1) := by decide +kernel
theorem dX1_passOn_112 : decode cX1_passOn 112 = .ok (.iload_n 1, 1) := by decide +kernel
theorem dX1_passOn_113 : decode cX1_passOn 113 = .ok (.iload 4, 2) := by decide +kernel
theorem dX1_passOn_115 : decode cX1_passOn 115 = .ok (.bipush 10, 2) := by decide +kernel
theorem dX1_passOn_117 : decode cX1_passOn 117 = .ok (.iconst 0, 1) := by decide +kernel
theorem dX1_passOn_118 : decode cX1_passOn 118 = .ok (.invokevirtual 118, 3) := by decide +kernel
theorem dX1_passOn_121 : decode cX1_passOn 121 = .ok (.goto 12, 3) := by decide +kernel
theorem dX1_passOn_124 : decode cX1_passOn 124 = .ok (.aload_n 0, 1) := by decide +kernel
theorem dX1_passOn_125 : decode cX1_passOn 125 = .ok (.iload_n 1, 1) := by decide +kernel
theorem dX1_passOn_126 : decode cX1_passOn 126 = .ok (.iconst 0, 1) := by decide +kernel
theorem dX1_passOn_127 : decode cX1_passOn 127 = .ok (.bipush 10, 2) := by decide +kernel
theorem dX1_passOn_129 : decode cX1_passOn 129 = .ok (.iconst 1, 1) := by decide +kernel
theorem dX1_passOn_130 : decode cX1_passOn 130 = .ok (.invokevirtual 118, 3) := by decide +kernel
theorem dX1_passOn_133 : decode cX1_passOn 133 = .ok (.return_, 1) := by decide +kernel
theorem dX1_shareOut_0 : decode cX1_shareOut 0 = .ok (.iload_n 2, 1) := by decide +kernel
theorem dX1_shareOut_1 : decode cX1_shareOut 1 = .ok (.invokestatic 113, 3) := by decide +kernel
theorem dX1_shareOut_4 : decode cX1_shareOut 4 = .ok (.iload 4, 2) := by decide +kernel
theorem dX1_shareOut_6 : decode cX1_shareOut 6 = .ok (.iadd, 1) := by decide +kernel
theorem dX1_shareOut_7 : decode cX1_shareOut 7 = .ok (.istore 5, 2) := by decide +kernel
theorem dX1_shareOut_9 : decode cX1_shareOut 9 = .ok (.aload_n 0, 1) := by decide +kernel
theorem dX1_shareOut_10 : decode cX1_shareOut 10 = .ok (.getfield 9, 3) := by decide +kernel
theorem dX1_shareOut_13 : decode cX1_shareOut 13 = .ok (.iload_n 1, 1) := by decide +kernel
theorem dX1_shareOut_14 : decode cX1_shareOut 14 = .ok (.laload, 1) := by decide +kernel
theorem dX1_shareOut_15 : decode cX1_shareOut 15 = .ok (.lstore 6, 2) := by decide +kernel
theorem dX1_shareOut_17 : decode cX1_shareOut 17 = .ok (.aload_n 0, 1) := by decide +kernel
theorem dX1_shareOut_18 : decode cX1_shareOut 18 = .ok (.getfield 9, 3) := by decide +kernel
theorem dX1_shareOut_21 : decode cX1_shareOut 21 = .ok (.iload_n 1, 1) := by decide +kernel
theorem dX1_shareOut_22 : decode cX1_shareOut 22 = .ok (.lconst 0, 1) := by decide +kernel
theorem dX1_shareOut_23 : decode cX1_shareOut 23 = .ok (.lastore, 1) := by decide +kernel
theorem dX1_shareOut_24 : decode cX1_shareOut 24 = .ok (.iconst 0, 1) := by decide +kernel
theorem dX1_shareOut_25 : decode cX1_shareOut 25 = .ok (.istore 8, 2) := by decide +kernel
theorem dX1_shareOut_27 : decode cX1_shareOut 27 = .ok (.iload 8, 2) := by decide +kernel
theorem dX1_shareOut_29 : decode cX1_shareOut 29 = .ok (.bipush 10, 2) := by decide +kernel
theorem dX1_shareOut_31 : decode cX1_shareOut 31 = .ok (.if_icmp .gt 38, 3) := by decide +kernel
theorem dX1_shareOut_34 : decode cX1_shareOut 34 = .ok (.aload_n 0, 1) := by decide +kernel
theorem dX1_shareOut_35 : decode cX1_shareOut 35 = .ok (.getfield 9, 3) := by decide +kernel
theorem dX1_shareOut_38 : decode cX1_shareOut 38 = .ok (.iload 8, 2) := by decide +kernel
theorem dX1_shareOut_40 : decode cX1_shareOut 40 = .ok (.aload_n 0, 1) := by decide +kernel
theorem dX1_shareOut_41 : decode cX1_shareOut 41 = .ok (.getfield 9, 3) := by decide +kernel
theorem dX1_shareOut_44 : decode cX1_shareOut 44 = .ok (.iload 8, 2) := by decide +kernel
theorem dX1_shareOut_46 : decode cX1_shareOut 46 = .ok (.laload, 1) := by decide +kernel
theorem dX1_shareOut_47 : decode cX1_shareOut 47 = .ok (.iload 5, 2) := by decide +kernel
theorem dX1_shareOut_49 : decode cX1_shareOut 49 = .ok (.i2l, 1) := by decide +kernel
theorem dX1_shareOut_50 : decode cX1_shareOut 50 = .ok (.lmul, 1) := by decide +kernel
theorem dX1_shareOut_51 : decode cX1_shareOut 51 = .ok (.iload_n 2, 1) := by decide +kernel
theorem dX1_shareOut_52 : decode cX1_shareOut 52 = .ok (.iload 8, 2) := by decide +kernel
theorem dX1_shareOut_54 : decode cX1_shareOut 54 = .ok (.ishr, 1) := by decide +kernel
theorem dX1_shareOut_55 : decode cX1_shareOut 55 = .ok (.iconst 1, 1) := by decide +kernel
theorem dX1_shareOut_56 : decode cX1_shareOut 56 = .ok (.iand, 1) := by decide +kernel
theorem dX1_shareOut_57 : decode cX1_shareOut 57 = .ok (.i2l, 1) := by decide +kernel
theorem dX1_shareOut_58 : decode cX1_shareOut 58 = .ok (.lload 6, 2) := by decide +kernel
theorem dX1_shareOut_60 : decode cX1_shareOut 60 = .ok (.lmul, 1) := by decide +kernel
theorem dX1_shareOut_61 : decode cX1_shareOut 61 = .ok (.ladd, 1) := by decide +kernel
theorem dX1_shareOut_62 : decode cX1_shareOut 62 = .ok (.lastore, 1) := by decide +kernel
theorem dX1_shareOut_63 : decode cX1_shareOut 63 = .ok (.iinc 8 1, 3) := by decide +kernel
theorem dX1_shareOut_66 : decode cX1_shareOut 66 = .ok (.goto (-39), 3) := by decide +kernel
theorem dX1_shareOut_69 : decode cX1_shareOut 69 = .ok (.aload_n 0, 1) := by decide +kernel
theorem dX1_shareOut_70 : decode cX1_shareOut 70 = .ok (.getfield 9, 3) := by decide +kernel
theorem dX1_shareOut_73 : decode cX1_shareOut 73 = .ok (.iload_n 3, 1) := by decide +kernel
theorem dX1_shareOut_74 : decode cX1_shareOut 74 = .ok (.dup2, 1) := by decide +kernel
theorem dX1_shareOut_75 : decode cX1_shareOut 75 = .ok (.laload, 1) := by decide +kernel
theorem dX1_shareOut_76 : decode cX1_shareOut 76 = .ok (.lload 6, 2) := by decide +kernel
theorem dX1_shareOut_78 : decode cX1_shareOut 78 = .ok (.iload 4, 2) := by decide +kernel
theorem dX1_shareOut_80 : decode cX1_shareOut 80 = .ok (.i2l, 1) := by decide +kernel
theorem dX1_shareOut_81 : decode cX1_shareOut 81 = .ok (.lmul, 1) := by decide +kernel
theorem dX1_shareOut_82 : decode cX1_shareOut 82 = .ok (.ladd, 1) := by decide +kernel
theorem dX1_shareOut_83 : decode cX1_shareOut 83 = .ok (.lastore, 1) := by decide +kernel
theorem dX1_shareOut_84 : decode cX1_shareOut 84 = .ok (.aload_n 0, 1) := by decide +kernel
theorem dX1_shareOut_85 : decode cX1_shareOut 85 = .ok (.dup, 1) := by decide +kernel
theorem dX1_shareOut_86 : decode cX1_shareOut 86 = .ok (.getfield 15, 3) := by decide +kernel
theorem dX1_shareOut_89 : decode cX1_shareOut 89 = .ok (.iload 5, 2) := by decide +kernel
theorem dX1_shareOut_91 : decode cX1_shareOut 91 = .ok (.i2l, 1) := by decide +kernel
theorem dX1_shareOut_92 : decode cX1_shareOut 92 = .ok (.lmul, 1) := by decide +kernel
theorem dX1_shareOut_93 : decode cX1_shareOut 93 = .ok (.putfield 15, 3) := by decide +kernel
theorem dX1_shareOut_96 : decode cX1_shareOut 96 = .ok (.return_, 1) := by decide +kernel
theorem dX1_holdersNow_0 : decode cX1_holdersNow 0 = .ok (.iconst 0, 1) := by decide +kernel
theorem dX1_holdersNow_1 : decode cX1_holdersNow 1 = .ok (.istore_n 1, 1) := by decide +kernel
theorem dX1_holdersNow_2 : decode cX1_holdersNow 2 = .ok (.iconst 0, 1) := by decide +kernel
theorem dX1_holdersNow_3 : decode cX1_holdersNow 3 = .ok (.istore_n 2, 1) := by decide +kernel
theorem dX1_holdersNow_4 : decode cX1_holdersNow 4 = .ok (.iload_n 2, 1) := by decide +kernel
theorem dX1_holdersNow_5 : decode cX1_holdersNow 5 = .ok (.bipush 10, 2) := by decide +kernel
theorem dX1_holdersNow_7 : decode cX1_holdersNow 7 = .ok (.if_icmp .gt 30, 3) := by decide +kernel
theorem dX1_holdersNow_10 : decode cX1_holdersNow 10 = .ok (.iload_n 1, 1) := by decide +kernel
theorem dX1_holdersNow_11 : decode cX1_holdersNow 11 = .ok (.aload_n 0, 1) := by decide +kernel
theorem dX1_holdersNow_12 : decode cX1_holdersNow 12 = .ok (.getfield 9, 3) := by decide +kernel
theorem dX1_holdersNow_15 : decode cX1_holdersNow 15 = .ok (.iload_n 2, 1) := by decide +kernel
theorem dX1_holdersNow_16 : decode cX1_holdersNow 16 = .ok (.laload, 1) := by decide +kernel
theorem dX1_holdersNow_17 : decode cX1_holdersNow 17 = .ok (.lconst 0, 1) := by decide +kernel
theorem dX1_holdersNow_18 : decode cX1_holdersNow 18 = .ok (.lcmp, 1) := by decide +kernel
theorem dX1_holdersNow_19 : decode cX1_holdersNow 19 = .ok (.ifCond .eq 7, 3) := by decide +kernel
theorem dX1_holdersNow_22 : decode cX1_holdersNow 22 = .ok (.iconst 1, 1) := by decide +kernel
theorem dX1_holdersNow_23 : decode cX1_holdersNow 23 = .ok (.goto 4, 3) := by decide +kernel
theorem dX1_holdersNow_26 : decode cX1_holdersNow 26 = .ok (.iconst 0, 1) := by decide +kernel
theorem dX1_holdersNow_27 : decode cX1_holdersNow 27 = .ok (.iload_n 2, 1) := by decide +kernel
theorem dX1_holdersNow_28 : decode cX1_holdersNow 28 = .ok (.ishl, 1) := by decide +kernel
theorem dX1_holdersNow_29 : decode cX1_holdersNow 29 = .ok (.ior, 1) := by decide +kernel
theorem dX1_holdersNow_30 : decode cX1_holdersNow 30 = .ok (.istore_n 1, 1) := by decide +kernel
theorem dX1_holdersNow_31 : decode cX1_holdersNow 31 = .ok (.iinc 2 1, 3) := by decide +kernel
theorem dX1_holdersNow_34 : decode cX1_holdersNow 34 = .ok (.goto (-30), 3) := by decide +kernel
theorem dX1_holdersNow_37 : decode cX1_holdersNow 37 = .ok (.iload_n 1, 1) := by decide +kernel
theorem dX1_holdersNow_38 : decode cX1_holdersNow 38 = .ok (.ireturn, 1) := by decide +kernel
theorem dX1_holdersOn_0 : decode cX1_holdersOn 0 = .ok (.aload_n 0, 1) := by decide +kernel
theorem dX1_holdersOn_1 : decode cX1_holdersOn 1 = .ok (.iload_n 1, 1) := by decide +kernel
theorem dX1_holdersOn_2 : decode cX1_holdersOn 2 = .ok (.iload_n 2, 1) := by decide +kernel
theorem dX1_holdersOn_3 : decode cX1_holdersOn 3 = .ok (.invokevirtual 122, 3) := by decide +kernel
theorem dX1_holdersOn_6 : decode cX1_holdersOn 6 = .ok (.aload_n 0, 1) := by decide +kernel
theorem dX1_holdersOn_7 : decode cX1_holdersOn 7 = .ok (.invokevirtual 51, 3) := by decide +kernel
theorem dX1_holdersOn_10 : decode cX1_holdersOn 10 = .ok (.ireturn, 1) := by decide +kernel
theorem dX1_wealthOf_0 : decode cX1_wealthOf 0 = .ok (.lconst 0, 1) := by decide +kernel
theorem dX1_wealthOf_1 : decode cX1_wealthOf 1 = .ok (.lstore_n 2, 1) := by decide +kernel
theorem dX1_wealthOf_2 : decode cX1_wealthOf 2 = .ok (.iconst 0, 1) := by decide +kernel
theorem dX1_wealthOf_3 : decode cX1_wealthOf 3 = .ok (.istore 4, 2) := by decide +kernel
theorem dX1_wealthOf_5 : decode cX1_wealthOf 5 = .ok (.iload 4, 2) := by decide +kernel
theorem dX1_wealthOf_7 : decode cX1_wealthOf 7 = .ok (.aload_n 0, 1) := by decide +kernel
theorem dX1_wealthOf_8 : decode cX1_wealthOf 8 = .ok (.getfield 19, 3) := by decide +kernel
theorem dX1_wealthOf_11 : decode cX1_wealthOf 11 = .ok (.getfield 125, 3) := by decide +kernel
theorem dX1_wealthOf_14 : decode cX1_wealthOf 14 = .ok (.if_icmp .ge 60, 3) := by decide +kernel
theorem dX1_wealthOf_17 : decode cX1_wealthOf 17 = .ok (.aload_n 0, 1) := by decide +kernel
theorem dX1_wealthOf_18 : decode cX1_wealthOf 18 = .ok (.iload 4, 2) := by decide +kernel
theorem dX1_wealthOf_20 : decode cX1_wealthOf 20 = .ok (.sipush 9999, 3) := by decide +kernel
theorem dX1_wealthOf_23 : decode cX1_wealthOf 23 = .ok (.invokevirtual 122, 3) := by decide +kernel
theorem dX1_wealthOf_26 : decode cX1_wealthOf 26 = .ok (.aload_n 0, 1) := by decide +kernel
theorem dX1_wealthOf_27 : decode cX1_wealthOf 27 = .ok (.getfield 15, 3) := by decide +kernel
theorem dX1_wealthOf_30 : decode cX1_wealthOf 30 = .ok (.lconst 0, 1) := by decide +kernel
theorem dX1_wealthOf_31 : decode cX1_wealthOf 31 = .ok (.lcmp, 1) := by decide +kernel
theorem dX1_wealthOf_32 : decode cX1_wealthOf 32 = .ok (.ifCond .le 36, 3) := by decide +kernel
theorem dX1_wealthOf_35 : decode cX1_wealthOf 35 = .ok (.lload_n 2, 1) := by decide +kernel
theorem dX1_wealthOf_36 : decode cX1_wealthOf 36 = .ok (.aload_n 0, 1) := by decide +kernel
theorem dX1_wealthOf_37 : decode cX1_wealthOf 37 = .ok (.getfield 9, 3) := by decide +kernel
theorem dX1_wealthOf_40 : decode cX1_wealthOf 40 = .ok (.iload_n 1, 1) := by decide +kernel
theorem dX1_wealthOf_41 : decode cX1_wealthOf 41 = .ok (.laload, 1) := by decide +kernel
theorem dX1_wealthOf_42 : decode cX1_wealthOf 42 = .ok (.ldc2_w 128, 3) := by decide +kernel
theorem dX1_wealthOf_45 : decode cX1_wealthOf 45 = .ok (.lmul, 1) := by decide +kernel
theorem dX1_wealthOf_46 : decode cX1_wealthOf 46 = .ok (.aload_n 0, 1) := by decide +kernel
theorem dX1_wealthOf_47 : decode cX1_wealthOf 47 = .ok (.getfield 19, 3) := by decide +kernel
theorem dX1_wealthOf_50 : decode cX1_wealthOf 50 = .ok (.getfield 39, 3) := by decide +kernel
theorem dX1_wealthOf_53 : decode cX1_wealthOf 53 = .ok (.iload 4, 2) := by decide +kernel
theorem dX1_wealthOf_55 : decode cX1_wealthOf 55 = .ok (.aaload, 1) := by decide +kernel
theorem dX1_wealthOf_56 : decode cX1_wealthOf 56 = .ok (.getfield 130, 3) := by decide +kernel
theorem dX1_wealthOf_59 : decode cX1_wealthOf 59 = .ok (.i2l, 1) := by decide +kernel
theorem dX1_wealthOf_60 : decode cX1_wealthOf 60 = .ok (.lmul, 1) := by decide +kernel
theorem dX1_wealthOf_61 : decode cX1_wealthOf 61 = .ok (.aload_n 0, 1) := by decide +kernel
theorem dX1_wealthOf_62 : decode cX1_wealthOf 62 = .ok (.getfield 15, 3) := by decide +kernel
theorem dX1_wealthOf_65 : decode cX1_wealthOf 65 = .ok (.ldiv, 1) := by decide +kernel
theorem dX1_wealthOf_66 : decode cX1_wealthOf 66 = .ok (.ladd, 1) := by decide +kernel
theorem dX1_wealthOf_67 : decode cX1_wealthOf 67 = .ok (.lstore_n 2, 1) := by decide +kernel
theorem dX1_wealthOf_68 : decode cX1_wealthOf 68 = .ok (.iinc 4 1, 3) := by decide +kernel
theorem dX1_wealthOf_71 : decode cX1_wealthOf 71 = .ok (.goto (-66), 3) := by decide +kernel
theorem dX1_wealthOf_74 : decode cX1_wealthOf 74 = .ok (.lload_n 2, 1) := by decide +kernel
theorem dX1_wealthOf_75 : decode cX1_wealthOf 75 = .ok (.l2i, 1) := by decide +kernel
theorem dX1_wealthOf_76 : decode cX1_wealthOf 76 = .ok (.ireturn, 1) := by decide +kernel
theorem dX1_wealthWithout_0 : decode cX1_wealthWithout 0 = .ok (.aload_n 0, 1) := by decide +kernel
theorem dX1_wealthWithout_1 : decode cX1_wealthWithout 1 = .ok (.getfield 19, 3) := by decide +kernel
theorem dX1_wealthWithout_4 : decode cX1_wealthWithout 4 = .ok (.getfield 133, 3) := by decide +kernel
theorem dX1_wealthWithout_7 : decode cX1_wealthWithout 7 = .ok (.iload_n 2, 1) := by decide +kernel
theorem dX1_wealthWithout_8 : decode cX1_wealthWithout 8 = .ok (.aaload, 1) := by decide +kernel
theorem dX1_wealthWithout_9 : decode cX1_wealthWithout 9 = .ok (.astore_n 3, 1) := by decide +kernel
theorem dX1_wealthWithout_10 : decode cX1_wealthWithout 10 = .ok (.aload_n 3, 1) := by decide +kernel
theorem dX1_wealthWithout_11 : decode cX1_wealthWithout 11 = .ok (.getfield 137, 3) := by decide +kernel
theorem dX1_wealthWithout_14 : decode cX1_wealthWithout 14 = .ok (.istore 4, 2) := by decide +kernel
theorem dX1_wealthWithout_16 : decode cX1_wealthWithout 16 = .ok (.aload_n 3, 1) := by decide +kernel
theorem dX1_wealthWithout_17 : decode cX1_wealthWithout 17 = .ok (.iconst 1, 1) := by decide +kernel
theorem dX1_wealthWithout_18 : decode cX1_wealthWithout 18 = .ok (.putfield 137, 3) := by decide +kernel
theorem dX1_wealthWithout_21 : decode cX1_wealthWithout 21 = .ok (.aload_n 0, 1) := by decide +kernel
theorem dX1_wealthWithout_22 : decode cX1_wealthWithout 22 = .ok (.iload_n 1, 1) := by decide +kernel
theorem dX1_wealthWithout_23 : decode cX1_wealthWithout 23 = .ok (.invokevirtual 142, 3) := by decide +kernel
theorem dX1_wealthWithout_26 : decode cX1_wealthWithout 26 = .ok (.istore 5, 2) := by decide +kernel
theorem dX1_wealthWithout_28 : decode cX1_wealthWithout 28 = .ok (.aload_n 3, 1) := by decide +kernel
theorem dX1_wealthWithout_29 : decode cX1_wealthWithout 29 = .ok (.iload 4, 2) := by decide +kernel
theorem dX1_wealthWithout_31 : decode cX1_wealthWithout 31 = .ok (.putfield 137, 3) := by decide +kernel
theorem dX1_wealthWithout_34 : decode cX1_wealthWithout 34 = .ok (.iload 5, 2) := by decide +kernel
theorem dX1_wealthWithout_36 : decode cX1_wealthWithout 36 = .ok (.ireturn, 1) := by decide +kernel
theorem dX1_thingsOtherWithout_0 : decode cX1_thingsOtherWithout 0 = .ok (.aload_n 0, 1) := by decide +kernel
theorem dX1_thingsOtherWithout_1 : decode cX1_thingsOtherWithout 1 = .ok (.getfield 19, 3) := by decide +kernel
theorem dX1_thingsOtherWithout_4 : decode cX1_thingsOtherWithout 4 = .ok (.getfield 133, 3) := by decide +kernel
theorem dX1_thingsOtherWithout_7 : decode cX1_thingsOtherWithout 7 = .ok (.iload_n 1, 1) := by decide +kernel
theorem dX1_thingsOtherWithout_8 : decode cX1_thingsOtherWithout 8 = .ok (.aaload, 1) := by decide +kernel
theorem dX1_thingsOtherWithout_9 : decode cX1_thingsOtherWithout 9 = .ok (.astore_n 2, 1) := by decide +kernel
theorem dX1_thingsOtherWithout_10 : decode cX1_thingsOtherWithout 10 = .ok (.aload_n 2, 1) := by decide +kernel
theorem dX1_thingsOtherWithout_11 : decode cX1_thingsOtherWithout 11 = .ok (.getfield 137, 3) := by decide +kernel
theorem dX1_thingsOtherWithout_14 : decode cX1_thingsOtherWithout 14 = .ok (.istore_n 3, 1) := by decide +kernel
theorem dX1_thingsOtherWithout_15 : decode cX1_thingsOtherWithout 15 = .ok (.iconst 0, 1) := by decide +kernel
theorem dX1_thingsOtherWithout_16 : decode cX1_thingsOtherWithout 16 = .ok (.istore 4, 2) := by decide +kernel
theorem dX1_thingsOtherWithout_18 : decode cX1_thingsOtherWithout 18 = .ok (.iconst 0, 1) := by decide +kernel
theorem dX1_thingsOtherWithout_19 : decode cX1_thingsOtherWithout 19 = .ok (.istore 5, 2) := by decide +kernel
theorem dX1_thingsOtherWithout_21 : decode cX1_thingsOtherWithout 21 = .ok (.iload 5, 2) := by decide +kernel
theorem dX1_thingsOtherWithout_23 : decode cX1_thingsOtherWithout 23 = .ok (.aload_n 0, 1) := by decide +kernel
theorem dX1_thingsOtherWithout_24 : decode cX1_thingsOtherWithout 24 = .ok (.getfield 19, 3) := by decide +kernel
theorem dX1_thingsOtherWithout_27 : decode cX1_thingsOtherWithout 27 = .ok (.getfield 125, 3) := by decide +kernel
theorem dX1_thingsOtherWithout_30 : decode cX1_thingsOtherWithout 30 = .ok (.if_icmp .ge 54, 3) := by decide +kernel
theorem dX1_thingsOtherWithout_33 : decode cX1_thingsOtherWithout 33 = .ok (.aload_n 0, 1) := by decide +kernel
theorem dX1_thingsOtherWithout_34 : decode cX1_thingsOtherWithout 34 = .ok (.iload 5, 2) := by decide +kernel
theorem dX1_thingsOtherWithout_36 : decode cX1_thingsOtherWithout 36 = .ok (.sipush 9999, 3) := by decide +kernel
theorem dX1_thingsOtherWithout_39 : decode cX1_thingsOtherWithout 39 = .ok (.invokevirtual 145, 3) := by decide +kernel
theorem dX1_thingsOtherWithout_42 : decode cX1_thingsOtherWithout 42 = .ok (.istore 6, 2) := by decide +kernel
theorem dX1_thingsOtherWithout_44 : decode cX1_thingsOtherWithout 44 = .ok (.aload_n 2, 1) := by decide +kernel
theorem dX1_thingsOtherWithout_45 : decode cX1_thingsOtherWithout 45 = .ok (.iconst 1, 1) := by decide +kernel
theorem dX1_thingsOtherWithout_46 : decode cX1_thingsOtherWithout 46 = .ok (.putfield 137, 3) := by decide +kernel
theorem dX1_thingsOtherWithout_49 : decode cX1_thingsOtherWithout 49 = .ok (.iload 4, 2) := by decide +kernel
theorem dX1_thingsOtherWithout_51 : decode cX1_thingsOtherWithout 51 = .ok (.aload_n 0, 1) := by decide +kernel
theorem dX1_thingsOtherWithout_52 : decode cX1_thingsOtherWithout 52 = .ok (.iload 5, 2) := by decide +kernel
theorem dX1_thingsOtherWithout_54 : decode cX1_thingsOtherWithout 54 = .ok (.sipush 9999, 3) := by decide +kernel
theorem dX1_thingsOtherWithout_57 : decode cX1_thingsOtherWithout 57 = .ok (.invokevirtual 145, 3) := by decide +kernel
theorem dX1_thingsOtherWithout_60 : decode cX1_thingsOtherWithout 60 = .ok (.iload 6, 2) := by decide +kernel
theorem dX1_thingsOtherWithout_62 : decode cX1_thingsOtherWithout 62 = .ok (.if_icmp .eq 7, 3) := by decide +kernel
theorem dX1_thingsOtherWithout_65 : decode cX1_thingsOtherWithout 65 = .ok (.iconst 1, 1) := by decide +kernel
theorem dX1_thingsOtherWithout_66 : decode cX1_thingsOtherWithout 66 = .ok (.goto 4, 3) := by decide +kernel
theorem dX1_thingsOtherWithout_69 : decode cX1_thingsOtherWithout 69 = .ok (.iconst 0, 1) := by decide +kernel
theorem dX1_thingsOtherWithout_70 : decode cX1_thingsOtherWithout 70 = .ok (.iadd, 1) := by decide +kernel
theorem dX1_thingsOtherWithout_71 : decode cX1_thingsOtherWithout 71 = .ok (.istore 4, 2) := by decide +kernel
theorem dX1_thingsOtherWithout_73 : decode cX1_thingsOtherWithout 73 = .ok (.aload_n 2, 1) := by decide +kernel
theorem dX1_thingsOtherWithout_74 : decode cX1_thingsOtherWithout 74 = .ok (.iload_n 3, 1) := by decide +kernel
theorem dX1_thingsOtherWithout_75 : decode cX1_thingsOtherWithout 75 = .ok (.putfield 137, 3) := by decide +kernel
theorem dX1_thingsOtherWithout_78 : decode cX1_thingsOtherWithout 78 = .ok (.iinc 5 1, 3) := by decide +kernel
theorem dX1_thingsOtherWithout_81 : decode cX1_thingsOtherWithout 81 = .ok (.goto (-60), 3) := by decide +kernel
theorem dX1_thingsOtherWithout_84 : decode cX1_thingsOtherWithout 84 = .ok (.iload 4, 2) := by decide +kernel
theorem dX1_thingsOtherWithout_86 : decode cX1_thingsOtherWithout 86 = .ok (.ireturn, 1) := by decide +kernel
theorem dX1_holdersIfDying_0 : decode cX1_holdersIfDying 0 = .ok (.aload_n 0, 1) := by decide +kernel
theorem dX1_holdersIfDying_1 : decode cX1_holdersIfDying 1 = .ok (.getfield 19, 3) := by decide +kernel
theorem dX1_holdersIfDying_4 : decode cX1_holdersIfDying 4 = .ok (.getfield 71, 3) := by decide +kernel
theorem dX1_holdersIfDying_7 : decode cX1_holdersIfDying 7 = .ok (.iload_n 1, 1) := by decide +kernel
theorem dX1_holdersIfDying_8 : decode cX1_holdersIfDying 8 = .ok (.aaload, 1) := by decide +kernel
theorem dX1_holdersIfDying_9 : decode cX1_holdersIfDying 9 = .ok (.astore 4, 2) := by decide +kernel
theorem dX1_holdersIfDying_11 : decode cX1_holdersIfDying 11 = .ok (.aload 4, 2) := by decide +kernel
theorem dX1_holdersIfDying_13 : decode cX1_holdersIfDying 13 = .ok (.getfield 75, 3) := by decide +kernel
theorem dX1_holdersIfDying_16 : decode cX1_holdersIfDying 16 = .ok (.istore 5, 2) := by decide +kernel
theorem dX1_holdersIfDying_18 : decode cX1_holdersIfDying 18 = .ok (.aload 4, 2) := by decide +kernel
theorem dX1_holdersIfDying_20 : decode cX1_holdersIfDying 20 = .ok (.iload_n 2, 1) := by decide +kernel
theorem dX1_holdersIfDying_21 : decode cX1_holdersIfDying 21 = .ok (.putfield 75, 3) := by decide +kernel
theorem dX1_holdersIfDying_24 : decode cX1_holdersIfDying 24 = .ok (.aload_n 0, 1) := by decide +kernel
theorem dX1_holdersIfDying_25 : decode cX1_holdersIfDying 25 = .ok (.iload_n 3, 1) := by decide +kernel
theorem dX1_holdersIfDying_26 : decode cX1_holdersIfDying 26 = .ok (.sipush 9999, 3) := by decide +kernel
theorem dX1_holdersIfDying_29 : decode cX1_holdersIfDying 29 = .ok (.invokevirtual 145, 3) := by decide +kernel
theorem dX1_holdersIfDying_32 : decode cX1_holdersIfDying 32 = .ok (.istore 6, 2) := by decide +kernel
theorem dX1_holdersIfDying_34 : decode cX1_holdersIfDying 34 = .ok (.aload 4, 2) := by decide +kernel
theorem dX1_holdersIfDying_36 : decode cX1_holdersIfDying 36 = .ok (.iload 5, 2) := by decide +kernel
theorem dX1_holdersIfDying_38 : decode cX1_holdersIfDying 38 = .ok (.putfield 75, 3) := by decide +kernel
theorem dX1_holdersIfDying_41 : decode cX1_holdersIfDying 41 = .ok (.iload 6, 2) := by decide +kernel
theorem dX1_holdersIfDying_43 : decode cX1_holdersIfDying 43 = .ok (.ireturn, 1) := by decide +kernel
theorem dX1_thingsLeftBy_0 : decode cX1_thingsLeftBy 0 = .ok (.iconst 0, 1) := by decide +kernel
theorem dX1_thingsLeftBy_1 : decode cX1_thingsLeftBy 1 = .ok (.istore_n 2, 1) := by decide +kernel
theorem dX1_thingsLeftBy_2 : decode cX1_thingsLeftBy 2 = .ok (.iconst 0, 1) := by decide +kernel
theorem dX1_thingsLeftBy_3 : decode cX1_thingsLeftBy 3 = .ok (.istore_n 3, 1) := by decide +kernel
theorem dX1_thingsLeftBy_4 : decode cX1_thingsLeftBy 4 = .ok (.iload_n 3, 1) := by decide +kernel
theorem dX1_thingsLeftBy_5 : decode cX1_thingsLeftBy 5 = .ok (.aload_n 0, 1) := by decide +kernel
theorem dX1_thingsLeftBy_6 : decode cX1_thingsLeftBy 6 = .ok (.getfield 19, 3) := by decide +kernel
theorem dX1_thingsLeftBy_9 : decode cX1_thingsLeftBy 9 = .ok (.getfield 125, 3) := by decide +kernel
theorem dX1_thingsLeftBy_12 : decode cX1_thingsLeftBy 12 = .ok (.if_icmp .ge 30, 3) := by decide +kernel
theorem dX1_thingsLeftBy_15 : decode cX1_thingsLeftBy 15 = .ok (.aload_n 0, 1) := by decide +kernel
theorem dX1_thingsLeftBy_16 : decode cX1_thingsLeftBy 16 = .ok (.iload_n 3, 1) := by decide +kernel
theorem dX1_thingsLeftBy_17 : decode cX1_thingsLeftBy 17 = .ok (.sipush 9999, 3) := by decide +kernel
theorem dX1_thingsLeftBy_20 : decode cX1_thingsLeftBy 20 = .ok (.invokevirtual 122, 3) := by decide +kernel
theorem dX1_thingsLeftBy_23 : decode cX1_thingsLeftBy 23 = .ok (.iload_n 2, 1) := by decide +kernel
theorem dX1_thingsLeftBy_24 : decode cX1_thingsLeftBy 24 = .ok (.aload_n 0, 1) := by decide +kernel
theorem dX1_thingsLeftBy_25 : decode cX1_thingsLeftBy 25 = .ok (.getfield 58, 3) := by decide +kernel
theorem dX1_thingsLeftBy_28 : decode cX1_thingsLeftBy 28 = .ok (.iload_n 1, 1) := by decide +kernel
theorem dX1_thingsLeftBy_29 : decode cX1_thingsLeftBy 29 = .ok (.ishr, 1) := by decide +kernel
theorem dX1_thingsLeftBy_30 : decode cX1_thingsLeftBy 30 = .ok (.iconst 1, 1) := by decide +kernel
theorem dX1_thingsLeftBy_31 : decode cX1_thingsLeftBy 31 = .ok (.iand, 1) := by decide +kernel
theorem dX1_thingsLeftBy_32 : decode cX1_thingsLeftBy 32 = .ok (.iload_n 3, 1) := by decide +kernel
theorem dX1_thingsLeftBy_33 : decode cX1_thingsLeftBy 33 = .ok (.ishl, 1) := by decide +kernel
theorem dX1_thingsLeftBy_34 : decode cX1_thingsLeftBy 34 = .ok (.ior, 1) := by decide +kernel
theorem dX1_thingsLeftBy_35 : decode cX1_thingsLeftBy 35 = .ok (.istore_n 2, 1) := by decide +kernel
theorem dX1_thingsLeftBy_36 : decode cX1_thingsLeftBy 36 = .ok (.iinc 3 1, 3) := by decide +kernel
theorem dX1_thingsLeftBy_39 : decode cX1_thingsLeftBy 39 = .ok (.goto (-35), 3) := by decide +kernel
theorem dX1_thingsLeftBy_42 : decode cX1_thingsLeftBy 42 = .ok (.iload_n 2, 1) := by decide +kernel
theorem dX1_thingsLeftBy_43 : decode cX1_thingsLeftBy 43 = .ok (.ireturn, 1) := by decide +kernel
theorem dX2_init_0 : decode cX2_init 0 = .ok (.aload_n 0, 1) := by decide +kernel
theorem dX2_init_1 : decode cX2_init 1 = .ok (.invokespecial 3, 3) := by decide +kernel
theorem dX2_init_4 : decode cX2_init 4 = .ok (.aload_n 0, 1) := by decide +kernel
theorem dX2_init_5 : decode cX2_init 5 = .ok (.bipush 16, 2) := by decide +kernel
theorem dX2_init_7 : decode cX2_init 7 = .ok (.newarray .int, 2) := by decide +kernel
theorem dX2_init_9 : decode cX2_init 9 = .ok (.putfield 9, 3) := by decide +kernel
theorem dX2_init_12 : decode cX2_init 12 = .ok (.aload_n 0, 1) := by decide +kernel
theorem dX2_init_13 : decode cX2_init 13 = .ok (.bipush 16, 2) := by decide +kernel
theorem dX2_init_15 : decode cX2_init 15 = .ok (.newarray .int, 2) := by decide +kernel
theorem dX2_init_17 : decode cX2_init 17 = .ok (.putfield 15, 3) := by decide +kernel
theorem dX2_init_20 : decode cX2_init 20 = .ok (.aload_n 0, 1) := by decide +kernel
theorem dX2_init_21 : decode cX2_init 21 = .ok (.bipush 16, 2) := by decide +kernel
theorem dX2_init_23 : decode cX2_init 23 = .ok (.newarray .int, 2) := by decide +kernel
theorem dX2_init_25 : decode cX2_init 25 = .ok (.putfield 18, 3) := by decide +kernel
theorem dX2_init_28 : decode cX2_init 28 = .ok (.aload_n 0, 1) := by decide +kernel
theorem dX2_init_29 : decode cX2_init 29 = .ok (.iconst 0, 1) := by decide +kernel
theorem dX2_init_30 : decode cX2_init 30 = .ok (.putfield 21, 3) := by decide +kernel
theorem dX2_init_33 : decode cX2_init 33 = .ok (.aload_n 0, 1) := by decide +kernel
theorem dX2_init_34 : decode cX2_init 34 = .ok (.iconst 0, 1) := by decide +kernel
theorem dX2_init_35 : decode cX2_init 35 = .ok (.putfield 25, 3) := by decide +kernel
theorem dX2_init_38 : decode cX2_init 38 = .ok (.aload_n 0, 1) := by decide +kernel
theorem dX2_init_39 : decode cX2_init 39 = .ok (.aload_n 1, 1) := by decide +kernel
theorem dX2_init_40 : decode cX2_init 40 = .ok (.putfield 28, 3) := by decide +kernel
theorem dX2_init_43 : decode cX2_init 43 = .ok (.return_, 1) := by decide +kernel
theorem dX2_forgetAll_0 : decode cX2_forgetAll 0 = .ok (.aload_n 0, 1) := by decide +kernel
theorem dX2_forgetAll_1 : decode cX2_forgetAll 1 = .ok (.iconst 0, 1) := by decide +kernel
theorem dX2_forgetAll_2 : decode cX2_forgetAll 2 = .ok (.putfield 25, 3) := by decide +kernel
theorem dX2_forgetAll_5 : decode cX2_forgetAll 5 = .ok (.return_, 1) := by decide +kernel
theorem dX2_keep_0 : decode cX2_keep 0 = .ok (.aload_n 0, 1) := by decide +kernel
theorem dX2_keep_1 : decode cX2_keep 1 = .ok (.getfield 9, 3) := by decide +kernel
theorem dX2_keep_4 : decode cX2_keep 4 = .ok (.aload_n 0, 1) := by decide +kernel
theorem dX2_keep_5 : decode cX2_keep 5 = .ok (.getfield 21, 3) := by decide +kernel
theorem dX2_keep_8 : decode cX2_keep 8 = .ok (.iload_n 1, 1) := by decide +kernel
theorem dX2_keep_9 : decode cX2_keep 9 = .ok (.iastore, 1) := by decide +kernel
theorem dX2_keep_10 : decode cX2_keep 10 = .ok (.aload_n 0, 1) := by decide +kernel
theorem dX2_keep_11 : decode cX2_keep 11 = .ok (.getfield 15, 3) := by decide +kernel
theorem dX2_keep_14 : decode cX2_keep 14 = .ok (.aload_n 0, 1) := by decide +kernel
theorem dX2_keep_15 : decode cX2_keep 15 = .ok (.getfield 21, 3) := by decide +kernel
theorem dX2_keep_18 : decode cX2_keep 18 = .ok (.iload_n 2, 1) := by decide +kernel
theorem dX2_keep_19 : decode cX2_keep 19 = .ok (.iastore, 1) := by decide +kernel
theorem dX2_keep_20 : decode cX2_keep 20 = .ok (.aload_n 0, 1) := by decide +kernel
theorem dX2_keep_21 : decode cX2_keep 21 = .ok (.getfield 18, 3) := by decide +kernel
theorem dX2_keep_24 : decode cX2_keep 24 = .ok (.aload_n 0, 1) := by decide +kernel
theorem dX2_keep_25 : decode cX2_keep 25 = .ok (.getfield 21, 3) := by decide +kernel
theorem dX2_keep_28 : decode cX2_keep 28 = .ok (.iload_n 3, 1) := by decide +kernel
theorem dX2_keep_29 : decode cX2_keep 29 = .ok (.iastore, 1) := by decide +kernel
theorem dX2_keep_30 : decode cX2_keep 30 = .ok (.aload_n 0, 1) := by decide +kernel
theorem dX2_keep_31 : decode cX2_keep 31 = .ok (.aload_n 0, 1) := by decide +kernel
theorem dX2_keep_32 : decode cX2_keep 32 = .ok (.getfield 21, 3) := by decide +kernel
theorem dX2_keep_35 : decode cX2_keep 35 = .ok (.iconst 1, 1) := by decide +kernel
theorem dX2_keep_36 : decode cX2_keep 36 = .ok (.iadd, 1) := by decide +kernel
theorem dX2_keep_37 : decode cX2_keep 37 = .ok (.bipush 16, 2) := by decide +kernel
theorem dX2_keep_39 : decode cX2_keep 39 = .ok (.irem, 1) := by decide +kernel
theorem dX2_keep_40 : decode cX2_keep 40 = .ok (.putfield 21, 3) := by decide +kernel
theorem dX2_keep_43 : decode cX2_keep 43 = .ok (.aload_n 0, 1) := by decide +kernel
theorem dX2_keep_44 : decode cX2_keep 44 = .ok (.aload_n 0, 1) := by decide +kernel
theorem dX2_keep_45 : decode cX2_keep 45 = .ok (.getfield 25, 3) := by decide +kernel
theorem dX2_keep_48 : decode cX2_keep 48 = .ok (.iconst 1, 1) := by decide +kernel
theorem dX2_keep_49 : decode cX2_keep 49 = .ok (.iadd, 1) := by decide +kernel
theorem dX2_keep_50 : decode cX2_keep 50 = .ok (.bipush 16, 2) := by decide +kernel
theorem dX2_keep_52 : decode cX2_keep 52 = .ok (.invokestatic 32, 3) := by decide +kernel
theorem dX2_keep_55 : decode cX2_keep 55 = .ok (.putfield 25, 3) := by decide +kernel
theorem dX2_keep_58 : decode cX2_keep 58 = .ok (.return_, 1) := by decide +kernel
theorem dX2_undoLatest_0 : decode cX2_undoLatest 0 = .ok (.aload_n 0, 1) := by decide +kernel
theorem dX2_undoLatest_1 : decode cX2_undoLatest 1 = .ok (.aload_n 0, 1) := by decide +kernel
theorem dX2_undoLatest_2 : decode cX2_undoLatest 2 = .ok (.getfield 21, 3) := by decide +kernel
theorem dX2_undoLatest_5 : decode cX2_undoLatest 5 = .ok (.bipush 16, 2) := by decide +kernel
theorem dX2_undoLatest_7 : decode cX2_undoLatest 7 = .ok (.iadd, 1) := by decide +kernel
theorem dX2_undoLatest_8 : decode cX2_undoLatest 8 = .ok (.iconst 1, 1) := by decide +kernel
theorem dX2_undoLatest_9 : decode cX2_undoLatest 9 = .ok (.isub, 1) := by decide +kernel
theorem dX2_undoLatest_10 : decode cX2_undoLatest 10 = .ok (.bipush 16, 2) := by decide +kernel
theorem dX2_undoLatest_12 : decode cX2_undoLatest 12 = .ok (.irem, 1) := by decide +kernel
theorem dX2_undoLatest_13 : decode cX2_undoLatest 13 = .ok (.putfield 21, 3) := by decide +kernel
theorem dX2_undoLatest_16 : decode cX2_undoLatest 16 = .ok (.aload_n 0, 1) := by decide +kernel
theorem dX2_undoLatest_17 : decode cX2_undoLatest 17 = .ok (.dup, 1) := by decide +kernel
theorem dX2_undoLatest_18 : decode cX2_undoLatest 18 = .ok (.getfield 25, 3) := by decide +kernel
theorem dX2_undoLatest_21 : decode cX2_undoLatest 21 = .ok (.iconst 1, 1) := by decide +kernel
theorem dX2_undoLatest_22 : decode cX2_undoLatest 22 = .ok (.isub, 1) := by decide +kernel
theorem dX2_undoLatest_23 : decode cX2_undoLatest 23 = .ok (.putfield 25, 3) := by decide +kernel
theorem dX2_undoLatest_26 : decode cX2_undoLatest 26 = .ok (.aload_n 0, 1) := by decide +kernel
theorem dX2_undoLatest_27 : decode cX2_undoLatest 27 = .ok (.getfield 15, 3) := by decide +kernel
theorem dX2_undoLatest_30 : decode cX2_undoLatest 30 = .ok (.aload_n 0, 1) := by decide +kernel
theorem dX2_undoLatest_31 : decode cX2_undoLatest 31 = .ok (.getfield 21, 3) := by decide +kernel
theorem dX2_undoLatest_34 : decode cX2_undoLatest 34 = .ok (.iaload, 1) := by decide +kernel
theorem dX2_undoLatest_35 : decode cX2_undoLatest 35 = .ok (.istore_n 1, 1) := by decide +kernel
theorem dX2_undoLatest_36 : decode cX2_undoLatest 36 = .ok (.aload_n 0, 1) := by decide +kernel
theorem dX2_undoLatest_37 : decode cX2_undoLatest 37 = .ok (.getfield 18, 3) := by decide +kernel
theorem dX2_undoLatest_40 : decode cX2_undoLatest 40 = .ok (.aload_n 0, 1) := by decide +kernel
theorem dX2_undoLatest_41 : decode cX2_undoLatest 41 = .ok (.getfield 21, 3) := by decide +kernel
theorem dX2_undoLatest_44 : decode cX2_undoLatest 44 = .ok (.iaload, 1) := by decide +kernel
theorem dX2_undoLatest_45 : decode cX2_undoLatest 45 = .ok (.istore_n 2, 1) := by decide +kernel
theorem dX2_undoLatest_46 : decode cX2_undoLatest 46 = .ok (.aload_n 0, 1) := by decide +kernel
theorem dX2_undoLatest_47 : decode cX2_undoLatest 47 = .ok (.getfield 9, 3) := by decide +kernel
theorem dX2_undoLatest_50 : decode cX2_undoLatest 50 = .ok (.aload_n 0, 1) := by decide +kernel
theorem dX2_undoLatest_51 : decode cX2_undoLatest 51 = .ok (.getfield 21, 3) := by decide +kernel
theorem dX2_undoLatest_54 : decode cX2_undoLatest 54 = .ok (.iaload, 1) := by decide +kernel
theorem dX2_undoLatest_55 : decode cX2_undoLatest 55 = .ok (.tableswitch 88 0 3 #[29, 45, 61, 72], 29) := by decide +kernel
theorem dX2_undoLatest_84 : decode cX2_undoLatest 84 = .ok (.aload_n 0, 1) := by decide +kernel
theorem dX2_undoLatest_85 : decode cX2_undoLatest 85 = .ok (.getfield 28, 3) := by decide +kernel
theorem dX2_undoLatest_88 : decode cX2_undoLatest 88 = .ok (.getfield 38, 3) := by decide +kernel
theorem dX2_undoLatest_91 : decode cX2_undoLatest 91 = .ok (.iload_n 1, 1) := by decide +kernel
theorem dX2_undoLatest_92 : decode cX2_undoLatest 92 = .ok (.aaload, 1) := by decide +kernel
theorem dX2_undoLatest_93 : decode cX2_undoLatest 93 = .ok (.iload_n 2, 1) := by decide +kernel
theorem dX2_undoLatest_94 : decode cX2_undoLatest 94 = .ok (.putfield 44, 3) := by decide +kernel
theorem dX2_undoLatest_97 : decode cX2_undoLatest 97 = .ok (.goto 59, 3) := by decide +kernel
theorem dX2_undoLatest_100 : decode cX2_undoLatest 100 = .ok (.aload_n 0, 1) := by decide +kernel
theorem dX2_undoLatest_101 : decode cX2_undoLatest 101 = .ok (.getfield 28, 3) := by decide +kernel
theorem dX2_undoLatest_104 : decode cX2_undoLatest 104 = .ok (.getfield 38, 3) := by decide +kernel
theorem dX2_undoLatest_107 : decode cX2_undoLatest 107 = .ok (.iload_n 1, 1) := by decide +kernel
theorem dX2_undoLatest_108 : decode cX2_undoLatest 108 = .ok (.aaload, 1) := by decide +kernel
theorem dX2_undoLatest_109 : decode cX2_undoLatest 109 = .ok (.iload_n 2, 1) := by decide +kernel
theorem dX2_undoLatest_110 : decode cX2_undoLatest 110 = .ok (.putfield 49, 3) := by decide +kernel
theorem dX2_undoLatest_113 : decode cX2_undoLatest 113 = .ok (.goto 43, 3) := by decide +kernel
theorem dX2_undoLatest_116 : decode cX2_undoLatest 116 = .ok (.aload_n 0, 1) := by decide +kernel
theorem dX2_undoLatest_117 : decode cX2_undoLatest 117 = .ok (.getfield 28, 3) := by decide +kernel
theorem dX2_undoLatest_120 : decode cX2_undoLatest 120 = .ok (.iload_n 2, 1) := by decide +kernel
theorem dX2_undoLatest_121 : decode cX2_undoLatest 121 = .ok (.putfield 52, 3) := by decide +kernel
theorem dX2_undoLatest_124 : decode cX2_undoLatest 124 = .ok (.goto 32, 3) := by decide +kernel
theorem dX2_undoLatest_127 : decode cX2_undoLatest 127 = .ok (.aload_n 0, 1) := by decide +kernel
theorem dX2_undoLatest_128 : decode cX2_undoLatest 128 = .ok (.getfield 28, 3) := by decide +kernel
theorem dX2_undoLatest_131 : decode cX2_undoLatest 131 = .ok (.getfield 55, 3) := by decide +kernel
theorem dX2_undoLatest_134 : decode cX2_undoLatest 134 = .ok (.iload_n 1, 1) := by decide +kernel
theorem dX2_undoLatest_135 : decode cX2_undoLatest 135 = .ok (.aaload, 1) := by decide +kernel
theorem dX2_undoLatest_136 : decode cX2_undoLatest 136 = .ok (.iload_n 2, 1) := by decide +kernel
theorem dX2_undoLatest_137 : decode cX2_undoLatest 137 = .ok (.putfield 59, 3) := by decide +kernel
theorem dX2_undoLatest_140 : decode cX2_undoLatest 140 = .ok (.goto 16, 3) := by decide +kernel
theorem dX2_undoLatest_143 : decode cX2_undoLatest 143 = .ok (.aload_n 0, 1) := by decide +kernel
theorem dX2_undoLatest_144 : decode cX2_undoLatest 144 = .ok (.getfield 28, 3) := by decide +kernel
theorem dX2_undoLatest_147 : decode cX2_undoLatest 147 = .ok (.getfield 38, 3) := by decide +kernel
theorem dX2_undoLatest_150 : decode cX2_undoLatest 150 = .ok (.iload_n 1, 1) := by decide +kernel
theorem dX2_undoLatest_151 : decode cX2_undoLatest 151 = .ok (.aaload, 1) := by decide +kernel
theorem dX2_undoLatest_152 : decode cX2_undoLatest 152 = .ok (.iconst 0, 1) := by decide +kernel
theorem dX2_undoLatest_153 : decode cX2_undoLatest 153 = .ok (.putfield 64, 3) := by decide +kernel
theorem dX2_undoLatest_156 : decode cX2_undoLatest 156 = .ok (.return_, 1) := by decide +kernel
theorem dX3_init_0 : decode cX3_init 0 = .ok (.aload_n 0, 1) := by decide +kernel
theorem dX3_init_1 : decode cX3_init 1 = .ok (.invokespecial 1, 3) := by decide +kernel
theorem dX3_init_4 : decode cX3_init 4 = .ok (.return_, 1) := by decide +kernel
theorem dX3_clear_0 : decode cX3_clear 0 = .ok (.aload_n 0, 1) := by decide +kernel
theorem dX3_clear_1 : decode cX3_clear 1 = .ok (.iconst 0, 1) := by decide +kernel
theorem dX3_clear_2 : decode cX3_clear 2 = .ok (.putfield 7, 3) := by decide +kernel
theorem dX3_clear_5 : decode cX3_clear 5 = .ok (.aload_n 0, 1) := by decide +kernel
theorem dX3_clear_6 : decode cX3_clear 6 = .ok (.iconst 2, 1) := by decide +kernel
theorem dX3_clear_7 : decode cX3_clear 7 = .ok (.putfield 13, 3) := by decide +kernel
theorem dX3_clear_10 : decode cX3_clear 10 = .ok (.aload_n 0, 1) := by decide +kernel
theorem dX3_clear_11 : decode cX3_clear 11 = .ok (.iconst 0, 1) := by decide +kernel
theorem dX3_clear_12 : decode cX3_clear 12 = .ok (.putfield 17, 3) := by decide +kernel
theorem dX3_clear_15 : decode cX3_clear 15 = .ok (.aload_n 0, 1) := by decide +kernel
theorem dX3_clear_16 : decode cX3_clear 16 = .ok (.iconst 0, 1) := by decide +kernel
theorem dX3_clear_17 : decode cX3_clear 17 = .ok (.putfield 20, 3) := by decide +kernel
theorem dX3_clear_20 : decode cX3_clear 20 = .ok (.aload_n 0, 1) := by decide +kernel
theorem dX3_clear_21 : decode cX3_clear 21 = .ok (.iconst 0, 1) := by decide +kernel
theorem dX3_clear_22 : decode cX3_clear 22 = .ok (.putfield 23, 3) := by decide +kernel
theorem dX3_clear_25 : decode cX3_clear 25 = .ok (.aload_n 0, 1) := by decide +kernel
theorem dX3_clear_26 : decode cX3_clear 26 = .ok (.iconst 0, 1) := by decide +kernel
theorem dX3_clear_27 : decode cX3_clear 27 = .ok (.putfield 26, 3) := by decide +kernel
theorem dX3_clear_30 : decode cX3_clear 30 = .ok (.return_, 1) := by decide +kernel
theorem dX4_init_0 : decode cX4_init 0 = .ok (.aload_n 0, 1) := by decide +kernel
theorem dX4_init_1 : decode cX4_init 1 = .ok (.invokespecial 3, 3) := by decide +kernel
theorem dX4_init_4 : decode cX4_init 4 = .ok (.aload_n 0, 1) := by decide +kernel
theorem dX4_init_5 : decode cX4_init 5 = .ok (.bipush 12, 2) := by decide +kernel
theorem dX4_init_7 : decode cX4_init 7 = .ok (.newarray .boolean, 2) := by decide +kernel
theorem dX4_init_9 : decode cX4_init 9 = .ok (.putfield 9, 3) := by decide +kernel
theorem dX4_init_12 : decode cX4_init 12 = .ok (.aload_n 0, 1) := by decide +kernel
theorem dX4_init_13 : decode cX4_init 13 = .ok (.bipush 12, 2) := by decide +kernel
theorem dX4_init_15 : decode cX4_init 15 = .ok (.newarray .int, 2) := by decide +kernel
theorem dX4_init_17 : decode cX4_init 17 = .ok (.putfield 15, 3) := by decide +kernel
theorem dX4_init_20 : decode cX4_init 20 = .ok (.aload_n 0, 1) := by decide +kernel
theorem dX4_init_21 : decode cX4_init 21 = .ok (.bipush 12, 2) := by decide +kernel
theorem dX4_init_23 : decode cX4_init 23 = .ok (.newarray .int, 2) := by decide +kernel
theorem dX4_init_25 : decode cX4_init 25 = .ok (.putfield 19, 3) := by decide +kernel
theorem dX4_init_28 : decode cX4_init 28 = .ok (.aload_n 0, 1) := by decide +kernel
theorem dX4_init_29 : decode cX4_init 29 = .ok (.aload_n 1, 1) := by decide +kernel
theorem dX4_init_30 : decode cX4_init 30 = .ok (.putfield 22, 3) := by decide +kernel
theorem dX4_init_33 : decode cX4_init 33 = .ok (.return_, 1) := by decide +kernel
theorem dX4_weigh_0 : decode cX4_weigh 0 = .ok (.aload_n 0, 1) := by decide +kernel
theorem dX4_weigh_1 : decode cX4_weigh 1 = .ok (.getfield 22, 3) := by decide +kernel
theorem dX4_weigh_4 : decode cX4_weigh 4 = .ok (.getfield 26, 3) := by decide +kernel
theorem dX4_weigh_7 : decode cX4_weigh 7 = .ok (.iload_n 1, 1) := by decide +kernel
theorem dX4_weigh_8 : decode cX4_weigh 8 = .ok (.aaload, 1) := by decide +kernel
theorem dX4_weigh_9 : decode cX4_weigh 9 = .ok (.getfield 32, 3) := by decide +kernel
theorem dX4_weigh_12 : decode cX4_weigh 12 = .ok (.istore_n 2, 1) := by decide +kernel
theorem dX4_weigh_13 : decode cX4_weigh 13 = .ok (.iconst 0, 1) := by decide +kernel
theorem dX4_weigh_14 : decode cX4_weigh 14 = .ok (.istore_n 3, 1) := by decide +kernel
theorem dX4_weigh_15 : decode cX4_weigh 15 = .ok (.iload_n 3, 1) := by decide +kernel
theorem dX4_weigh_16 : decode cX4_weigh 16 = .ok (.aload_n 0, 1) := by decide +kernel
theorem dX4_weigh_17 : decode cX4_weigh 17 = .ok (.getfield 22, 3) := by decide +kernel
theorem dX4_weigh_20 : decode cX4_weigh 20 = .ok (.getfield 38, 3) := by decide +kernel
theorem dX4_weigh_23 : decode cX4_weigh 23 = .ok (.if_icmp .ge 59, 3) := by decide +kernel
theorem dX4_weigh_26 : decode cX4_weigh 26 = .ok (.aload_n 0, 1) := by decide +kernel
theorem dX4_weigh_27 : decode cX4_weigh 27 = .ok (.getfield 22, 3) := by decide +kernel
theorem dX4_weigh_30 : decode cX4_weigh 30 = .ok (.getfield 41, 3) := by decide +kernel
theorem dX4_weigh_33 : decode cX4_weigh 33 = .ok (.iload_n 3, 1) := by decide +kernel
theorem dX4_weigh_34 : decode cX4_weigh 34 = .ok (.aaload, 1) := by decide +kernel
theorem dX4_weigh_35 : decode cX4_weigh 35 = .ok (.astore 4, 2) := by decide +kernel
theorem dX4_weigh_37 : decode cX4_weigh 37 = .ok (.aload_n 0, 1) := by decide +kernel
theorem dX4_weigh_38 : decode cX4_weigh 38 = .ok (.getfield 15, 3) := by decide +kernel
theorem dX4_weigh_41 : decode cX4_weigh 41 = .ok (.iload_n 3, 1) := by decide +kernel
theorem dX4_weigh_42 : decode cX4_weigh 42 = .ok (.aload_n 0, 1) := by decide +kernel
theorem dX4_weigh_43 : decode cX4_weigh 43 = .ok (.aload 4, 2) := by decide +kernel
theorem dX4_weigh_45 : decode cX4_weigh 45 = .ok (.iload_n 2, 1) := by decide +kernel
theorem dX4_weigh_46 : decode cX4_weigh 46 = .ok (.aload_n 0, 1) := by decide +kernel
theorem dX4_weigh_47 : decode cX4_weigh 47 = .ok (.aload 4, 2) := by decide +kernel
theorem dX4_weigh_49 : decode cX4_weigh 49 = .ok (.invokevirtual 45, 3) := by decide +kernel
theorem dX4_weigh_52 : decode cX4_weigh 52 = .ok (.invokevirtual 49, 3) := by decide +kernel
theorem dX4_weigh_55 : decode cX4_weigh 55 = .ok (.iastore, 1) := by decide +kernel
theorem dX4_weigh_56 : decode cX4_weigh 56 = .ok (.aload_n 0, 1) := by decide +kernel
theorem dX4_weigh_57 : decode cX4_weigh 57 = .ok (.getfield 9, 3) := by decide +kernel
theorem dX4_weigh_60 : decode cX4_weigh 60 = .ok (.iload_n 3, 1) := by decide +kernel
theorem dX4_weigh_61 : decode cX4_weigh 61 = .ok (.aload_n 0, 1) := by decide +kernel
theorem dX4_weigh_62 : decode cX4_weigh 62 = .ok (.getfield 15, 3) := by decide +kernel
theorem dX4_weigh_65 : decode cX4_weigh 65 = .ok (.iload_n 3, 1) := by decide +kernel
theorem dX4_weigh_66 : decode cX4_weigh 66 = .ok (.iaload, 1) := by decide +kernel
theorem dX4_weigh_67 : decode cX4_weigh 67 = .ok (.ifCond .ne 7, 3) := by decide +kernel
theorem dX4_weigh_70 : decode cX4_weigh 70 = .ok (.iconst 1, 1) := by decide +kernel
theorem dX4_weigh_71 : decode cX4_weigh 71 = .ok (.goto 4, 3) := by decide +kernel
theorem dX4_weigh_74 : decode cX4_weigh 74 = .ok (.iconst 0, 1) := by decide +kernel
theorem dX4_weigh_75 : decode cX4_weigh 75 = .ok (.bastore, 1) := by decide +kernel
theorem dX4_weigh_76 : decode cX4_weigh 76 = .ok (.iinc 3 1, 3) := by decide +kernel
theorem dX4_weigh_79 : decode cX4_weigh 79 = .ok (.goto (-64), 3) := by decide +kernel
theorem dX4_weigh_82 : decode cX4_weigh 82 = .ok (.iconst 0, 1) := by decide +kernel
theorem dX4_weigh_83 : decode cX4_weigh 83 = .ok (.istore_n 3, 1) := by decide +kernel
theorem dX4_weigh_84 : decode cX4_weigh 84 = .ok (.iload_n 3, 1) := by decide +kernel
theorem dX4_weigh_85 : decode cX4_weigh 85 = .ok (.aload_n 0, 1) := by decide +kernel
theorem dX4_weigh_86 : decode cX4_weigh 86 = .ok (.getfield 22, 3) := by decide +kernel
theorem dX4_weigh_89 : decode cX4_weigh 89 = .ok (.getfield 38, 3) := by decide +kernel
theorem dX4_weigh_92 : decode cX4_weigh 92 = .ok (.if_icmp .ge 82, 3) := by decide +kernel
theorem dX4_weigh_95 : decode cX4_weigh 95 = .ok (.aload_n 0, 1) := by decide +kernel
theorem dX4_weigh_96 : decode cX4_weigh 96 = .ok (.getfield 19, 3) := by decide +kernel
theorem dX4_weigh_99 : decode cX4_weigh 99 = .ok (.iload_n 3, 1) := by decide +kernel
theorem dX4_weigh_100 : decode cX4_weigh 100 = .ok (.aload_n 0, 1) := by decide +kernel
theorem dX4_weigh_101 : decode cX4_weigh 101 = .ok (.iload_n 3, 1) := by decide +kernel
theorem dX4_weigh_102 : decode cX4_weigh 102 = .ok (.invokevirtual 53, 3) := by decide +kernel
theorem dX4_weigh_105 : decode cX4_weigh 105 = .ok (.iastore, 1) := by decide +kernel
theorem dX4_weigh_106 : decode cX4_weigh 106 = .ok (.aload_n 0, 1) := by decide +kernel
theorem dX4_weigh_107 : decode cX4_weigh 107 = .ok (.getfield 9, 3) := by decide +kernel
theorem dX4_weigh_110 : decode cX4_weigh 110 = .ok (.iload_n 3, 1) := by decide +kernel
theorem dX4_weigh_111 : decode cX4_weigh 111 = .ok (.baload, 1) := by decide +kernel
theorem dX4_weigh_112 : decode cX4_weigh 112 = .ok (.ifCond .eq 23, 3) := by decide +kernel
theorem dX4_weigh_115 : decode cX4_weigh 115 = .ok (.aload_n 0, 1) := by decide +kernel
theorem dX4_weigh_116 : decode cX4_weigh 116 = .ok (.getfield 19, 3) := by decide +kernel
theorem dX4_weigh_119 : decode cX4_weigh 119 = .ok (.iload_n 3, 1) := by decide +kernel
theorem dX4_weigh_120 : decode cX4_weigh 120 = .ok (.iaload, 1) := by decide +kernel
theorem dX4_weigh_121 : decode cX4_weigh 121 = .ok (.iconst (-1), 1) := by decide +kernel
theorem dX4_weigh_122 : decode cX4_weigh 122 = .ok (.if_icmp .eq 13, 3) := by decide +kernel
theorem dX4_weigh_125 : decode cX4_weigh 125 = .ok (.aload_n 0, 1) := by decide +kernel
theorem dX4_weigh_126 : decode cX4_weigh 126 = .ok (.getfield 15, 3) := by decide +kernel
theorem dX4_weigh_129 : decode cX4_weigh 129 = .ok (.iload_n 3, 1) := by decide +kernel
theorem dX4_weigh_130 : decode cX4_weigh 130 = .ok (.iconst 5, 1) := by decide +kernel
theorem dX4_weigh_131 : decode cX4_weigh 131 = .ok (.iastore, 1) := by decide +kernel
theorem dX4_weigh_132 : decode cX4_weigh 132 = .ok (.goto 36, 3) := by decide +kernel
theorem dX4_weigh_135 : decode cX4_weigh 135 = .ok (.aload_n 0, 1) := by decide +kernel
theorem dX4_weigh_136 : decode cX4_weigh 136 = .ok (.getfield 9, 3) := by decide +kernel
theorem dX4_weigh_139 : decode cX4_weigh 139 = .ok (.iload_n 3, 1) := by decide +kernel
theorem dX4_weigh_140 : decode cX4_weigh 140 = .ok (.baload, 1) := by decide +kernel
theorem dX4_weigh_141 : decode cX4_weigh 141 = .ok (.ifCond .eq 27, 3) := by decide +kernel
theorem dX4_weigh_144 : decode cX4_weigh 144 = .ok (.aload_n 0, 1) := by decide +kernel
theorem dX4_weigh_145 : decode cX4_weigh 145 = .ok (.aload_n 0, 1) := by decide +kernel
theorem dX4_weigh_146 : decode cX4_weigh 146 = .ok (.getfield 22, 3) := by decide +kernel
theorem dX4_weigh_149 : decode cX4_weigh 149 = .ok (.getfield 41, 3) := by decide +kernel
theorem dX4_weigh_152 : decode cX4_weigh 152 = .ok (.iload_n 3, 1) := by decide +kernel
theorem dX4_weigh_153 : decode cX4_weigh 153 = .ok (.aaload, 1) := by decide +kernel
theorem dX4_weigh_154 : decode cX4_weigh 154 = .ok (.invokevirtual 57, 3) := by decide +kernel
theorem dX4_weigh_157 : decode cX4_weigh 157 = .ok (.ifCond .eq 11, 3) := by decide +kernel
theorem dX4_weigh_160 : decode cX4_weigh 160 = .ok (.aload_n 0, 1) := by decide +kernel
theorem dX4_weigh_161 : decode cX4_weigh 161 = .ok (.getfield 15, 3) := by decide +kernel
theorem dX4_weigh_164 : decode cX4_weigh 164 = .ok (.iload_n 3, 1) := by decide +kernel
theorem dX4_weigh_165 : decode cX4_weigh 165 = .ok (.bipush 6, 2) := by decide +kernel
theorem dX4_weigh_167 : decode cX4_weigh 167 = .ok (.iastore, 1) := by decide +kernel
theorem dX4_weigh_168 : decode cX4_weigh 168 = .ok (.iinc 3 1, 3) := by decide +kernel
theorem dX4_weigh_171 : decode cX4_weigh 171 = .ok (.goto (-87), 3) := by decide +kernel
theorem dX4_weigh_174 : decode cX4_weigh 174 = .ok (.return_, 1) := by decide +kernel
theorem dX4_countsOf_0 : decode cX4_countsOf 0 = .ok (.aload_n 0, 1) := by decide +kernel
theorem dX4_countsOf_1 : decode cX4_countsOf 1 = .ok (.getfield 22, 3) := by decide +kernel
theorem dX4_countsOf_4 : decode cX4_countsOf 4 = .ok (.getfield 41, 3) := by decide +kernel
theorem dX4_countsOf_7 : decode cX4_countsOf 7 = .ok (.iload_n 2, 1) := by decide +kernel
theorem dX4_countsOf_8 : decode cX4_countsOf 8 = .ok (.aaload, 1) := by decide +kernel
theorem dX4_countsOf_9 : decode cX4_countsOf 9 = .ok (.getfield 61, 3) := by decide +kernel
theorem dX4_countsOf_12 : decode cX4_countsOf 12 = .ok (.iload_n 1, 1) := by decide +kernel
theorem dX4_countsOf_13 : decode cX4_countsOf 13 = .ok (.if_icmp .ne 16, 3) := by decide +kernel
theorem dX4_countsOf_16 : decode cX4_countsOf 16 = .ok (.aload_n 0, 1) := by decide +kernel
theorem dX4_countsOf_17 : decode cX4_countsOf 17 = .ok (.getfield 15, 3) := by decide +kernel
theorem dX4_countsOf_20 : decode cX4_countsOf 20 = .ok (.iload_n 2, 1) := by decide +kernel
theorem dX4_countsOf_21 : decode cX4_countsOf 21 = .ok (.iaload, 1) := by decide +kernel
theorem dX4_countsOf_22 : decode cX4_countsOf 22 = .ok (.ifCond .ne 7, 3) := by decide +kernel
theorem dX4_countsOf_25 : decode cX4_countsOf 25 = .ok (.iconst 1, 1) := by decide +kernel
theorem dX4_countsOf_26 : decode cX4_countsOf 26 = .ok (.goto 4, 3) := by decide +kernel
theorem dX4_countsOf_29 : decode cX4_countsOf 29 = .ok (.iconst 0, 1) := by decide +kernel
theorem dX4_countsOf_30 : decode cX4_countsOf 30 = .ok (.ireturn, 1) := by decide +kernel
theorem dX4_whyNotGood_0 : decode cX4_whyNotGood 0 = .ok (.aload_n 0, 1) := by decide +kernel
theorem dX4_whyNotGood_1 : decode cX4_whyNotGood 1 = .ok (.getfield 22, 3) := by decide +kernel
theorem dX4_whyNotGood_4 : decode cX4_whyNotGood 4 = .ok (.getfield 66, 3) := by decide +kernel
theorem dX4_whyNotGood_7 : decode cX4_whyNotGood 7 = .ok (.aload_n 1, 1) := by decide +kernel
theorem dX4_whyNotGood_8 : decode cX4_whyNotGood 8 = .ok (.getfield 61, 3) := by decide +kernel
theorem dX4_whyNotGood_11 : decode cX4_whyNotGood 11 = .ok (.aaload, 1) := by decide +kernel
theorem dX4_whyNotGood_12 : decode cX4_whyNotGood 12 = .ok (.getfield 70, 3) := by decide +kernel
theorem dX4_whyNotGood_15 : decode cX4_whyNotGood 15 = .ok (.istore 4, 2) := by decide +kernel
theorem dX4_whyNotGood_17 : decode cX4_whyNotGood 17 = .ok (.aload_n 1, 1) := by decide +kernel
theorem dX4_whyNotGood_18 : decode cX4_whyNotGood 18 = .ok (.getfield 75, 3) := by decide +kernel
theorem dX4_whyNotGood_21 : decode cX4_whyNotGood 21 = .ok (.ifCond .eq 6, 3) := by decide +kernel
theorem dX4_whyNotGood_24 : decode cX4_whyNotGood 24 = .ok (.bipush 7, 2) := by decide +kernel
theorem dX4_whyNotGood_26 : decode cX4_whyNotGood 26 = .ok (.ireturn, 1) := by decide +kernel
theorem dX4_whyNotGood_27 : decode cX4_whyNotGood 27 = .ok (.iload 4, 2) := by decide +kernel
theorem dX4_whyNotGood_29 : decode cX4_whyNotGood 29 = .ok (.iconst (-1), 1) := by decide +kernel
theorem dX4_whyNotGood_30 : decode cX4_whyNotGood 30 = .ok (.if_icmp .ne 5, 3) := by decide +kernel
theorem dX4_whyNotGood_33 : decode cX4_whyNotGood 33 = .ok (.iconst 1, 1) := by decide +kernel
theorem dX4_whyNotGood_34 : decode cX4_whyNotGood 34 = .ok (.ireturn, 1) := by decide +kernel
theorem dX4_whyNotGood_35 : decode cX4_whyNotGood 35 = .ok (.aload_n 1, 1) := by decide +kernel
theorem dX4_whyNotGood_36 : decode cX4_whyNotGood 36 = .ok (.getfield 79, 3) := by decide +kernel
theorem dX4_whyNotGood_39 : decode cX4_whyNotGood 39 = .ok (.iload 4, 2) := by decide +kernel
theorem dX4_whyNotGood_41 : decode cX4_whyNotGood 41 = .ok (.if_icmp .lt 5, 3) := by decide +kernel
theorem dX4_whyNotGood_44 : decode cX4_whyNotGood 44 = .ok (.iconst 2, 1) := by decide +kernel
theorem dX4_whyNotGood_45 : decode cX4_whyNotGood 45 = .ok (.ireturn, 1) := by decide +kernel
theorem dX4_whyNotGood_46 : decode cX4_whyNotGood 46 = .ok (.aload_n 1, 1) := by decide +kernel
theorem dX4_whyNotGood_47 : decode cX4_whyNotGood 47 = .ok (.invokevirtual 82, 3) := by decide +kernel
theorem dX4_whyNotGood_50 : decode cX4_whyNotGood 50 = .ok (.ifCond .eq 30, 3) := by decide +kernel
theorem dX4_whyNotGood_53 : decode cX4_whyNotGood 53 = .ok (.aload_n 1, 1) := by decide +kernel
theorem dX4_whyNotGood_54 : decode cX4_whyNotGood 54 = .ok (.getfield 86, 3) := by decide +kernel
theorem dX4_whyNotGood_57 : decode cX4_whyNotGood 57 = .ok (.ifCond .eq 21, 3) := by decide +kernel
theorem dX4_whyNotGood_60 : decode cX4_whyNotGood 60 = .ok (.aload_n 0, 1) := by decide +kernel
theorem dX4_whyNotGood_61 : decode cX4_whyNotGood 61 = .ok (.getfield 22, 3) := by decide +kernel
theorem dX4_whyNotGood_64 : decode cX4_whyNotGood 64 = .ok (.getfield 89, 3) := by decide +kernel
theorem dX4_whyNotGood_67 : decode cX4_whyNotGood 67 = .ok (.aload_n 1, 1) := by decide +kernel
theorem dX4_whyNotGood_68 : decode cX4_whyNotGood 68 = .ok (.getfield 93, 3) := by decide +kernel
theorem dX4_whyNotGood_71 : decode cX4_whyNotGood 71 = .ok (.aaload, 1) := by decide +kernel
theorem dX4_whyNotGood_72 : decode cX4_whyNotGood 72 = .ok (.getfield 94, 3) := by decide +kernel
theorem dX4_whyNotGood_75 : decode cX4_whyNotGood 75 = .ok (.ifCond .ne 5, 3) := by decide +kernel
theorem dX4_whyNotGood_78 : decode cX4_whyNotGood 78 = .ok (.iconst 3, 1) := by decide +kernel
theorem dX4_whyNotGood_79 : decode cX4_whyNotGood 79 = .ok (.ireturn, 1) := by decide +kernel
theorem dX4_whyNotGood_80 : decode cX4_whyNotGood 80 = .ok (.aload_n 0, 1) := by decide +kernel
theorem dX4_whyNotGood_81 : decode cX4_whyNotGood 81 = .ok (.aload_n 1, 1) := by decide +kernel
theorem dX4_whyNotGood_82 : decode cX4_whyNotGood 82 = .ok (.aload_n 1, 1) := by decide +kernel
theorem dX4_whyNotGood_83 : decode cX4_whyNotGood 83 = .ok (.getfield 93, 3) := by decide +kernel
theorem dX4_whyNotGood_86 : decode cX4_whyNotGood 86 = .ok (.iload_n 3, 1) := by decide +kernel
theorem dX4_whyNotGood_87 : decode cX4_whyNotGood 87 = .ok (.invokevirtual 98, 3) := by decide +kernel
theorem dX4_whyNotGood_90 : decode cX4_whyNotGood 90 = .ok (.ifCond .ne 13, 3) := by decide +kernel
theorem dX4_whyNotGood_93 : decode cX4_whyNotGood 93 = .ok (.aload_n 0, 1) := by decide +kernel
theorem dX4_whyNotGood_94 : decode cX4_whyNotGood 94 = .ok (.aload_n 1, 1) := by decide +kernel
theorem dX4_whyNotGood_95 : decode cX4_whyNotGood 95 = .ok (.iload_n 2, 1) := by decide +kernel
theorem dX4_whyNotGood_96 : decode cX4_whyNotGood 96 = .ok (.iload_n 3, 1) := by decide +kernel
theorem dX4_whyNotGood_97 : decode cX4_whyNotGood 97 = .ok (.invokevirtual 98, 3) := by decide +kernel
theorem dX4_whyNotGood_100 : decode cX4_whyNotGood 100 = .ok (.ifCond .eq 7, 3) := by decide +kernel
theorem dX4_whyNotGood_103 : decode cX4_whyNotGood 103 = .ok (.iconst 0, 1) := by decide +kernel
theorem dX4_whyNotGood_104 : decode cX4_whyNotGood 104 = .ok (.goto 4, 3) := by decide +kernel
theorem dX4_whyNotGood_107 : decode cX4_whyNotGood 107 = .ok (.iconst 4, 1) := by decide +kernel
theorem dX4_whyNotGood_108 : decode cX4_whyNotGood 108 = .ok (.ireturn, 1) := by decide +kernel
theorem dX4_hasForm_0 : decode cX4_hasForm 0 = .ok (.iload_n 3, 1) := by decide +kernel
theorem dX4_hasForm_1 : decode cX4_hasForm 1 = .ok (.aload_n 0, 1) := by decide +kernel
theorem dX4_hasForm_2 : decode cX4_hasForm 2 = .ok (.getfield 22, 3) := by decide +kernel
theorem dX4_hasForm_5 : decode cX4_hasForm 5 = .ok (.getfield 89, 3) := by decide +kernel
theorem dX4_hasForm_8 : decode cX4_hasForm 8 = .ok (.iload_n 2, 1) := by decide +kernel
theorem dX4_hasForm_9 : decode cX4_hasForm 9 = .ok (.aaload, 1) := by decide +kernel
theorem dX4_hasForm_10 : decode cX4_hasForm 10 = .ok (.getfield 102, 3) := by decide +kernel
theorem dX4_hasForm_13 : decode cX4_hasForm 13 = .ok (.if_icmp .ge 12, 3) := by decide +kernel
theorem dX4_hasForm_16 : decode cX4_hasForm 16 = .ok (.aload_n 0, 1) := by decide +kernel
theorem dX4_hasForm_17 : decode cX4_hasForm 17 = .ok (.aload_n 1, 1) := by decide +kernel
theorem dX4_hasForm_18 : decode cX4_hasForm 18 = .ok (.iload_n 2, 1) := by decide +kernel
theorem dX4_hasForm_19 : decode cX4_hasForm 19 = .ok (.invokevirtual 105, 3) := by decide +kernel
theorem dX4_hasForm_22 : decode cX4_hasForm 22 = .ok (.ifCond .eq 7, 3) := by decide +kernel
theorem dX4_hasForm_25 : decode cX4_hasForm 25 = .ok (.iconst 1, 1) := by decide +kernel
theorem dX4_hasForm_26 : decode cX4_hasForm 26 = .ok (.goto 4, 3) := by decide +kernel
theorem dX4_hasForm_29 : decode cX4_hasForm 29 = .ok (.iconst 0, 1) := by decide +kernel
theorem dX4_hasForm_30 : decode cX4_hasForm 30 = .ok (.ireturn, 1) := by decide +kernel
theorem dX4_hasFormByHand_0 : decode cX4_hasFormByHand 0 = .ok (.aload_n 1, 1) := by decide +kernel
theorem dX4_hasFormByHand_1 : decode cX4_hasFormByHand 1 = .ok (.getfield 109, 3) := by decide +kernel
theorem dX4_hasFormByHand_4 : decode cX4_hasFormByHand 4 = .ok (.ifCond .eq 22, 3) := by decide +kernel
theorem dX4_hasFormByHand_7 : decode cX4_hasFormByHand 7 = .ok (.aload_n 0, 1) := by decide +kernel
theorem dX4_hasFormByHand_8 : decode cX4_hasFormByHand 8 = .ok (.getfield 22, 3) := by decide +kernel
theorem dX4_hasFormByHand_11 : decode cX4_hasFormByHand 11 = .ok (.getfield 89, 3) := by decide +kernel
theorem dX4_hasFormByHand_14 : decode cX4_hasFormByHand 14 = .ok (.iload_n 2, 1) := by decide +kernel
theorem dX4_hasFormByHand_15 : decode cX4_hasFormByHand 15 = .ok (.aaload, 1) := by decide +kernel
theorem dX4_hasFormByHand_16 : decode cX4_hasFormByHand 16 = .ok (.getfield 112, 3) := by decide +kernel
theorem dX4_hasFormByHand_19 : decode cX4_hasFormByHand 19 = .ok (.ifCond .eq 7, 3) := by decide +kernel
theorem dX4_hasFormByHand_22 : decode cX4_hasFormByHand 22 = .ok (.iconst 1, 1) := by decide +kernel
theorem dX4_hasFormByHand_23 : decode cX4_hasFormByHand 23 = .ok (.goto 4, 3) := by decide +kernel
theorem dX4_hasFormByHand_26 : decode cX4_hasFormByHand 26 = .ok (.iconst 0, 1) := by decide +kernel
theorem dX4_hasFormByHand_27 : decode cX4_hasFormByHand 27 = .ok (.ireturn, 1) := by decide +kernel
theorem dX4_witnessesWhoLived_0 : decode cX4_witnessesWhoLived 0 = .ok (.aload_n 1, 1) := by decide +kernel
theorem dX4_witnessesWhoLived_1 : decode cX4_witnessesWhoLived 1 = .ok (.getfield 115, 3) := by decide +kernel
theorem dX4_witnessesWhoLived_4 : decode cX4_witnessesWhoLived 4 = .ok (.aload_n 0, 1) := by decide +kernel
theorem dX4_witnessesWhoLived_5 : decode cX4_witnessesWhoLived 5 = .ok (.getfield 22, 3) := by decide +kernel
theorem dX4_witnessesWhoLived_8 : decode cX4_witnessesWhoLived 8 = .ok (.aload_n 1, 1) := by decide +kernel
theorem dX4_witnessesWhoLived_9 : decode cX4_witnessesWhoLived 9 = .ok (.getfield 79, 3) := by decide +kernel
theorem dX4_witnessesWhoLived_12 : decode cX4_witnessesWhoLived 12 = .ok (.invokevirtual 116, 3) := by decide +kernel
theorem dX4_witnessesWhoLived_15 : decode cX4_witnessesWhoLived 15 = .ok (.iand, 1) := by decide +kernel
theorem dX4_witnessesWhoLived_16 : decode cX4_witnessesWhoLived 16 = .ok (.invokestatic 119, 3) := by decide +kernel
theorem dX4_witnessesWhoLived_19 : decode cX4_witnessesWhoLived 19 = .ok (.ireturn, 1) := by decide +kernel
theorem dX4_latestStriker_0 : decode cX4_latestStriker 0 = .ok (.iconst 0, 1) := by decide +kernel
theorem dX4_latestStriker_1 : decode cX4_latestStriker 1 = .ok (.istore_n 2, 1) := by decide +kernel
theorem dX4_latestStriker_2 : decode cX4_latestStriker 2 = .ok (.iload_n 2, 1) := by decide +kernel
theorem dX4_latestStriker_3 : decode cX4_latestStriker 3 = .ok (.aload_n 0, 1) := by decide +kernel
theorem dX4_latestStriker_4 : decode cX4_latestStriker 4 = .ok (.getfield 22, 3) := by decide +kernel
theorem dX4_latestStriker_7 : decode cX4_latestStriker 7 = .ok (.getfield 38, 3) := by decide +kernel
theorem dX4_latestStriker_10 : decode cX4_latestStriker 10 = .ok (.if_icmp .ge 103, 3) := by decide +kernel
theorem dX4_latestStriker_13 : decode cX4_latestStriker 13 = .ok (.aload_n 0, 1) := by decide +kernel
theorem dX4_latestStriker_14 : decode cX4_latestStriker 14 = .ok (.getfield 22, 3) := by decide +kernel
theorem dX4_latestStriker_17 : decode cX4_latestStriker 17 = .ok (.getfield 124, 3) := by decide +kernel
theorem dX4_latestStriker_20 : decode cX4_latestStriker 20 = .ok (.iload_n 2, 1) := by decide +kernel
theorem dX4_latestStriker_21 : decode cX4_latestStriker 21 = .ok (.iaload, 1) := by decide +kernel
theorem dX4_latestStriker_22 : decode cX4_latestStriker 22 = .ok (.iload_n 1, 1) := by decide +kernel
theorem dX4_latestStriker_23 : decode cX4_latestStriker 23 = .ok (.if_icmp .eq 90, 3) := by decide +kernel
theorem dX4_latestStriker_26 : decode cX4_latestStriker 26 = .ok (.aload_n 0, 1) := by decide +kernel
theorem dX4_latestStriker_27 : decode cX4_latestStriker 27 = .ok (.getfield 22, 3) := by decide +kernel
theorem dX4_latestStriker_30 : decode cX4_latestStriker 30 = .ok (.getfield 124, 3) := by decide +kernel
theorem dX4_latestStriker_33 : decode cX4_latestStriker 33 = .ok (.iload_n 2, 1) := by decide +kernel
theorem dX4_latestStriker_34 : decode cX4_latestStriker 34 = .ok (.iaload, 1) := by decide +kernel
theorem dX4_latestStriker_35 : decode cX4_latestStriker 35 = .ok (.istore_n 3, 1) := by decide +kernel
theorem dX4_latestStriker_36 : decode cX4_latestStriker 36 = .ok (.aload_n 0, 1) := by decide +kernel
theorem dX4_latestStriker_37 : decode cX4_latestStriker 37 = .ok (.getfield 22, 3) := by decide +kernel
theorem dX4_latestStriker_40 : decode cX4_latestStriker 40 = .ok (.getfield 41, 3) := by decide +kernel
theorem dX4_latestStriker_43 : decode cX4_latestStriker 43 = .ok (.iload_n 3, 1) := by decide +kernel
theorem dX4_latestStriker_44 : decode cX4_latestStriker 44 = .ok (.aaload, 1) := by decide +kernel
theorem dX4_latestStriker_45 : decode cX4_latestStriker 45 = .ok (.astore 4, 2) := by decide +kernel
theorem dX4_latestStriker_47 : decode cX4_latestStriker 47 = .ok (.aload 4, 2) := by decide +kernel
theorem dX4_latestStriker_49 : decode cX4_latestStriker 49 = .ok (.getfield 127, 3) := by decide +kernel
theorem dX4_latestStriker_52 : decode cX4_latestStriker 52 = .ok (.ifCond .eq 12, 3) := by decide +kernel
theorem dX4_latestStriker_55 : decode cX4_latestStriker 55 = .ok (.aload 4, 2) := by decide +kernel
theorem dX4_latestStriker_57 : decode cX4_latestStriker 57 = .ok (.iload_n 1, 1) := by decide +kernel
theorem dX4_latestStriker_58 : decode cX4_latestStriker 58 = .ok (.invokevirtual 130, 3) := by decide +kernel
theorem dX4_latestStriker_61 : decode cX4_latestStriker 61 = .ok (.ifCond .eq 7, 3) := by decide +kernel
theorem dX4_latestStriker_64 : decode cX4_latestStriker 64 = .ok (.iconst 1, 1) := by decide +kernel
theorem dX4_latestStriker_65 : decode cX4_latestStriker 65 = .ok (.goto 4, 3) := by decide +kernel
theorem dX4_latestStriker_68 : decode cX4_latestStriker 68 = .ok (.iconst 0, 1) := by decide +kernel
theorem dX4_latestStriker_69 : decode cX4_latestStriker 69 = .ok (.istore 5, 2) := by decide +kernel
theorem dX4_latestStriker_71 : decode cX4_latestStriker 71 = .ok (.aload_n 0, 1) := by decide +kernel
theorem dX4_latestStriker_72 : decode cX4_latestStriker 72 = .ok (.getfield 9, 3) := by decide +kernel
theorem dX4_latestStriker_75 : decode cX4_latestStriker 75 = .ok (.iload_n 3, 1) := by decide +kernel
theorem dX4_latestStriker_76 : decode cX4_latestStriker 76 = .ok (.baload, 1) := by decide +kernel
theorem dX4_latestStriker_77 : decode cX4_latestStriker 77 = .ok (.ifCond .eq 30, 3) := by decide +kernel
theorem dX4_latestStriker_80 : decode cX4_latestStriker 80 = .ok (.iload 5, 2) := by decide +kernel
theorem dX4_latestStriker_82 : decode cX4_latestStriker 82 = .ok (.ifCond .eq 25, 3) := by decide +kernel
theorem dX4_latestStriker_85 : decode cX4_latestStriker 85 = .ok (.aload 4, 2) := by decide +kernel
theorem dX4_latestStriker_87 : decode cX4_latestStriker 87 = .ok (.getfield 61, 3) := by decide +kernel
theorem dX4_latestStriker_90 : decode cX4_latestStriker 90 = .ok (.aload_n 0, 1) := by decide +kernel
theorem dX4_latestStriker_91 : decode cX4_latestStriker 91 = .ok (.getfield 22, 3) := by decide +kernel
theorem dX4_latestStriker_94 : decode cX4_latestStriker 94 = .ok (.getfield 41, 3) := by decide +kernel
theorem dX4_latestStriker_97 : decode cX4_latestStriker 97 = .ok (.iload_n 1, 1) := by decide +kernel
theorem dX4_latestStriker_98 : decode cX4_latestStriker 98 = .ok (.aaload, 1) := by decide +kernel
theorem dX4_latestStriker_99 : decode cX4_latestStriker 99 = .ok (.getfield 61, 3) := by decide +kernel
theorem dX4_latestStriker_102 : decode cX4_latestStriker 102 = .ok (.if_icmp .ne 5, 3) := by decide +kernel
theorem dX4_latestStriker_105 : decode cX4_latestStriker 105 = .ok (.iload_n 3, 1) := by decide +kernel
theorem dX4_latestStriker_106 : decode cX4_latestStriker 106 = .ok (.ireturn, 1) := by decide +kernel
theorem dX4_latestStriker_107 : decode cX4_latestStriker 107 = .ok (.iinc 2 1, 3) := by decide +kernel
theorem dX4_latestStriker_110 : decode cX4_latestStriker 110 = .ok (.goto (-108), 3) := by decide +kernel
theorem dX4_latestStriker_113 : decode cX4_latestStriker 113 = .ok (.iconst (-1), 1) := by decide +kernel
theorem dX4_latestStriker_114 : decode cX4_latestStriker 114 = .ok (.ireturn, 1) := by decide +kernel
theorem dX4_isBroken_0 : decode cX4_isBroken 0 = .ok (.aload_n 0, 1) := by decide +kernel
theorem dX4_isBroken_1 : decode cX4_isBroken 1 = .ok (.getfield 22, 3) := by decide +kernel
theorem dX4_isBroken_4 : decode cX4_isBroken 4 = .ok (.getfield 66, 3) := by decide +kernel
theorem dX4_isBroken_7 : decode cX4_isBroken 7 = .ok (.aload_n 1, 1) := by decide +kernel
theorem dX4_isBroken_8 : decode cX4_isBroken 8 = .ok (.getfield 61, 3) := by decide +kernel
theorem dX4_isBroken_11 : decode cX4_isBroken 11 = .ok (.aaload, 1) := by decide +kernel
theorem dX4_isBroken_12 : decode cX4_isBroken 12 = .ok (.getfield 70, 3) := by decide +kernel
theorem dX4_isBroken_15 : decode cX4_isBroken 15 = .ok (.istore_n 2, 1) := by decide +kernel
theorem dX4_isBroken_16 : decode cX4_isBroken 16 = .ok (.aload_n 0, 1) := by decide +kernel
theorem dX4_isBroken_17 : decode cX4_isBroken 17 = .ok (.getfield 22, 3) := by decide +kernel
theorem dX4_isBroken_20 : decode cX4_isBroken 20 = .ok (.getfield 89, 3) := by decide +kernel
theorem dX4_isBroken_23 : decode cX4_isBroken 23 = .ok (.aload_n 1, 1) := by decide +kernel
theorem dX4_isBroken_24 : decode cX4_isBroken 24 = .ok (.getfield 93, 3) := by decide +kernel
theorem dX4_isBroken_27 : decode cX4_isBroken 27 = .ok (.aaload, 1) := by decide +kernel
theorem dX4_isBroken_28 : decode cX4_isBroken 28 = .ok (.getfield 134, 3) := by decide +kernel
theorem dX4_isBroken_31 : decode cX4_isBroken 31 = .ok (.ifCond .eq 26, 3) := by decide +kernel
theorem dX4_isBroken_34 : decode cX4_isBroken 34 = .ok (.aload_n 0, 1) := by decide +kernel
theorem dX4_isBroken_35 : decode cX4_isBroken 35 = .ok (.getfield 22, 3) := by decide +kernel
theorem dX4_isBroken_38 : decode cX4_isBroken 38 = .ok (.aload_n 1, 1) := by decide +kernel
theorem dX4_isBroken_39 : decode cX4_isBroken 39 = .ok (.getfield 61, 3) := by decide +kernel
theorem dX4_isBroken_42 : decode cX4_isBroken 42 = .ok (.aload_n 1, 1) := by decide +kernel
theorem dX4_isBroken_43 : decode cX4_isBroken 43 = .ok (.getfield 79, 3) := by decide +kernel
theorem dX4_isBroken_46 : decode cX4_isBroken 46 = .ok (.iload_n 2, 1) := by decide +kernel
theorem dX4_isBroken_47 : decode cX4_isBroken 47 = .ok (.invokevirtual 137, 3) := by decide +kernel
theorem dX4_isBroken_50 : decode cX4_isBroken 50 = .ok (.ifCond .eq 7, 3) := by decide +kernel
theorem dX4_isBroken_53 : decode cX4_isBroken 53 = .ok (.iconst 1, 1) := by decide +kernel
theorem dX4_isBroken_54 : decode cX4_isBroken 54 = .ok (.goto 4, 3) := by decide +kernel
theorem dX4_isBroken_57 : decode cX4_isBroken 57 = .ok (.iconst 0, 1) := by decide +kernel
theorem dX4_isBroken_58 : decode cX4_isBroken 58 = .ok (.ireturn, 1) := by decide +kernel
theorem dX4_chooseTaker_0 : decode cX4_chooseTaker 0 = .ok (.aload_n 0, 1) := by decide +kernel
theorem dX4_chooseTaker_1 : decode cX4_chooseTaker 1 = .ok (.iconst (-1), 1) := by decide +kernel
theorem dX4_chooseTaker_2 : decode cX4_chooseTaker 2 = .ok (.putfield 141, 3) := by decide +kernel
theorem dX4_chooseTaker_5 : decode cX4_chooseTaker 5 = .ok (.iconst 0, 1) := by decide +kernel
theorem dX4_chooseTaker_6 : decode cX4_chooseTaker 6 = .ok (.istore_n 3, 1) := by decide +kernel
theorem dX4_chooseTaker_7 : decode cX4_chooseTaker 7 = .ok (.iload_n 3, 1) := by decide +kernel
theorem dX4_chooseTaker_8 : decode cX4_chooseTaker 8 = .ok (.aload_n 0, 1) := by decide +kernel
theorem dX4_chooseTaker_9 : decode cX4_chooseTaker 9 = .ok (.getfield 22, 3) := by decide +kernel
theorem dX4_chooseTaker_12 : decode cX4_chooseTaker 12 = .ok (.getfield 38, 3) := by decide +kernel
theorem dX4_chooseTaker_15 : decode cX4_chooseTaker 15 = .ok (.if_icmp .ge 63, 3) := by decide +kernel
theorem dX4_chooseTaker_18 : decode cX4_chooseTaker 18 = .ok (.aload_n 0, 1) := by decide +kernel
theorem dX4_chooseTaker_19 : decode cX4_chooseTaker 19 = .ok (.getfield 141, 3) := by decide +kernel
theorem dX4_chooseTaker_22 : decode cX4_chooseTaker 22 = .ok (.iconst (-1), 1) := by decide +kernel
theorem dX4_chooseTaker_23 : decode cX4_chooseTaker 23 = .ok (.if_icmp .ne 55, 3) := by decide +kernel
theorem dX4_chooseTaker_26 : decode cX4_chooseTaker 26 = .ok (.aload_n 0, 1) := by decide +kernel
theorem dX4_chooseTaker_27 : decode cX4_chooseTaker 27 = .ok (.aload_n 0, 1) := by decide +kernel
theorem dX4_chooseTaker_28 : decode cX4_chooseTaker 28 = .ok (.getfield 22, 3) := by decide +kernel
theorem dX4_chooseTaker_31 : decode cX4_chooseTaker 31 = .ok (.getfield 124, 3) := by decide +kernel
theorem dX4_chooseTaker_34 : decode cX4_chooseTaker 34 = .ok (.iload_n 3, 1) := by decide +kernel
theorem dX4_chooseTaker_35 : decode cX4_chooseTaker 35 = .ok (.iaload, 1) := by decide +kernel
theorem dX4_chooseTaker_36 : decode cX4_chooseTaker 36 = .ok (.putfield 144, 3) := by decide +kernel
theorem dX4_chooseTaker_39 : decode cX4_chooseTaker 39 = .ok (.aload_n 0, 1) := by decide +kernel
theorem dX4_chooseTaker_40 : decode cX4_chooseTaker 40 = .ok (.iload_n 1, 1) := by decide +kernel
theorem dX4_chooseTaker_41 : decode cX4_chooseTaker 41 = .ok (.aload_n 0, 1) := by decide +kernel
theorem dX4_chooseTaker_42 : decode cX4_chooseTaker 42 = .ok (.getfield 144, 3) := by decide +kernel
theorem dX4_chooseTaker_45 : decode cX4_chooseTaker 45 = .ok (.invokevirtual 147, 3) := by decide +kernel
theorem dX4_chooseTaker_48 : decode cX4_chooseTaker 48 = .ok (.ifCond .eq 24, 3) := by decide +kernel
theorem dX4_chooseTaker_51 : decode cX4_chooseTaker 51 = .ok (.aload_n 0, 1) := by decide +kernel
theorem dX4_chooseTaker_52 : decode cX4_chooseTaker 52 = .ok (.aload_n 0, 1) := by decide +kernel
theorem dX4_chooseTaker_53 : decode cX4_chooseTaker 53 = .ok (.aload_n 0, 1) := by decide +kernel
theorem dX4_chooseTaker_54 : decode cX4_chooseTaker 54 = .ok (.getfield 22, 3) := by decide +kernel
theorem dX4_chooseTaker_57 : decode cX4_chooseTaker 57 = .ok (.getfield 41, 3) := by decide +kernel
theorem dX4_chooseTaker_60 : decode cX4_chooseTaker 60 = .ok (.aload_n 0, 1) := by decide +kernel
theorem dX4_chooseTaker_61 : decode cX4_chooseTaker 61 = .ok (.getfield 144, 3) := by decide +kernel
theorem dX4_chooseTaker_64 : decode cX4_chooseTaker 64 = .ok (.aaload, 1) := by decide +kernel
theorem dX4_chooseTaker_65 : decode cX4_chooseTaker 65 = .ok (.iload_n 2, 1) := by decide +kernel
theorem dX4_chooseTaker_66 : decode cX4_chooseTaker 66 = .ok (.invokevirtual 151, 3) := by decide +kernel
theorem dX4_chooseTaker_69 : decode cX4_chooseTaker 69 = .ok (.putfield 141, 3) := by decide +kernel
theorem dX4_chooseTaker_72 : decode cX4_chooseTaker 72 = .ok (.iinc 3 1, 3) := by decide +kernel
theorem dX4_chooseTaker_75 : decode cX4_chooseTaker 75 = .ok (.goto (-68), 3) := by decide +kernel
theorem dX4_chooseTaker_78 : decode cX4_chooseTaker 78 = .ok (.iconst 0, 1) := by decide +kernel
theorem dX4_chooseTaker_79 : decode cX4_chooseTaker 79 = .ok (.istore_n 3, 1) := by decide +kernel
theorem dX4_chooseTaker_80 : decode cX4_chooseTaker 80 = .ok (.iload_n 3, 1) := by decide +kernel
theorem dX4_chooseTaker_81 : decode cX4_chooseTaker 81 = .ok (.aload_n 0, 1) := by decide +kernel
theorem dX4_chooseTaker_82 : decode cX4_chooseTaker 82 = .ok (.getfield 22, 3) := by decide +kernel
theorem dX4_chooseTaker_85 : decode cX4_chooseTaker 85 = .ok (.getfield 38, 3) := by decide +kernel
theorem dX4_chooseTaker_88 : decode cX4_chooseTaker 88 = .ok (.if_icmp .ge 80, 3) := by decide +kernel
theorem dX4_chooseTaker_91 : decode cX4_chooseTaker 91 = .ok (.aload_n 0, 1) := by decide +kernel
theorem dX4_chooseTaker_92 : decode cX4_chooseTaker 92 = .ok (.getfield 141, 3) := by decide +kernel
theorem dX4_chooseTaker_95 : decode cX4_chooseTaker 95 = .ok (.iconst (-1), 1) := by decide +kernel
theorem dX4_chooseTaker_96 : decode cX4_chooseTaker 96 = .ok (.if_icmp .ne 72, 3) := by decide +kernel
theorem dX4_chooseTaker_99 : decode cX4_chooseTaker 99 = .ok (.aload_n 0, 1) := by decide +kernel
theorem dX4_chooseTaker_100 : decode cX4_chooseTaker 100 = .ok (.aload_n 0, 1) := by decide +kernel
theorem dX4_chooseTaker_101 : decode cX4_chooseTaker 101 = .ok (.getfield 22, 3) := by decide +kernel
theorem dX4_chooseTaker_104 : decode cX4_chooseTaker 104 = .ok (.getfield 124, 3) := by decide +kernel
theorem dX4_chooseTaker_107 : decode cX4_chooseTaker 107 = .ok (.iload_n 3, 1) := by decide +kernel
theorem dX4_chooseTaker_108 : decode cX4_chooseTaker 108 = .ok (.iaload, 1) := by decide +kernel
theorem dX4_chooseTaker_109 : decode cX4_chooseTaker 109 = .ok (.putfield 144, 3) := by decide +kernel
theorem dX4_chooseTaker_112 : decode cX4_chooseTaker 112 = .ok (.aload_n 0, 1) := by decide +kernel
theorem dX4_chooseTaker_113 : decode cX4_chooseTaker 113 = .ok (.getfield 22, 3) := by decide +kernel
theorem dX4_chooseTaker_116 : decode cX4_chooseTaker 116 = .ok (.getfield 41, 3) := by decide +kernel
theorem dX4_chooseTaker_119 : decode cX4_chooseTaker 119 = .ok (.aload_n 0, 1) := by decide +kernel
theorem dX4_chooseTaker_120 : decode cX4_chooseTaker 120 = .ok (.getfield 144, 3) := by decide +kernel
theorem dX4_chooseTaker_123 : decode cX4_chooseTaker 123 = .ok (.aaload, 1) := by decide +kernel
theorem dX4_chooseTaker_124 : decode cX4_chooseTaker 124 = .ok (.astore 4, 2) := by decide +kernel
theorem dX4_chooseTaker_126 : decode cX4_chooseTaker 126 = .ok (.aload_n 0, 1) := by decide +kernel
theorem dX4_chooseTaker_127 : decode cX4_chooseTaker 127 = .ok (.iload_n 1, 1) := by decide +kernel
theorem dX4_chooseTaker_128 : decode cX4_chooseTaker 128 = .ok (.aload_n 0, 1) := by decide +kernel
theorem dX4_chooseTaker_129 : decode cX4_chooseTaker 129 = .ok (.getfield 144, 3) := by decide +kernel
theorem dX4_chooseTaker_132 : decode cX4_chooseTaker 132 = .ok (.invokevirtual 147, 3) := by decide +kernel
theorem dX4_chooseTaker_135 : decode cX4_chooseTaker 135 = .ok (.ifCond .eq 27, 3) := by decide +kernel
theorem dX4_chooseTaker_138 : decode cX4_chooseTaker 138 = .ok (.aload_n 0, 1) := by decide +kernel
theorem dX4_chooseTaker_139 : decode cX4_chooseTaker 139 = .ok (.aload 4, 2) := by decide +kernel
theorem dX4_chooseTaker_141 : decode cX4_chooseTaker 141 = .ok (.getfield 155, 3) := by decide +kernel
theorem dX4_chooseTaker_144 : decode cX4_chooseTaker 144 = .ok (.aload 4, 2) := by decide +kernel
theorem dX4_chooseTaker_146 : decode cX4_chooseTaker 146 = .ok (.iload_n 2, 1) := by decide +kernel
theorem dX4_chooseTaker_147 : decode cX4_chooseTaker 147 = .ok (.invokevirtual 158, 3) := by decide +kernel
theorem dX4_chooseTaker_150 : decode cX4_chooseTaker 150 = .ok (.ifCond .eq 12, 3) := by decide +kernel
theorem dX4_chooseTaker_153 : decode cX4_chooseTaker 153 = .ok (.aload_n 0, 1) := by decide +kernel
theorem dX4_chooseTaker_154 : decode cX4_chooseTaker 154 = .ok (.aload 4, 2) := by decide +kernel
theorem dX4_chooseTaker_156 : decode cX4_chooseTaker 156 = .ok (.getfield 155, 3) := by decide +kernel
theorem dX4_chooseTaker_159 : decode cX4_chooseTaker 159 = .ok (.putfield 141, 3) := by decide +kernel
theorem dX4_chooseTaker_162 : decode cX4_chooseTaker 162 = .ok (.iinc 3 1, 3) := by decide +kernel
theorem dX4_chooseTaker_165 : decode cX4_chooseTaker 165 = .ok (.goto (-85), 3) := by decide +kernel
theorem dX4_chooseTaker_168 : decode cX4_chooseTaker 168 = .ok (.aload_n 0, 1) := by decide +kernel
theorem dX4_chooseTaker_169 : decode cX4_chooseTaker 169 = .ok (.getfield 141, 3) := by decide +kernel
theorem dX4_chooseTaker_172 : decode cX4_chooseTaker 172 = .ok (.iconst (-1), 1) := by decide +kernel
theorem dX4_chooseTaker_173 : decode cX4_chooseTaker 173 = .ok (.if_icmp .ne 8, 3) := by decide +kernel
theorem dX4_chooseTaker_176 : decode cX4_chooseTaker 176 = .ok (.aload_n 0, 1) := by decide +kernel
theorem dX4_chooseTaker_177 : decode cX4_chooseTaker 177 = .ok (.iconst (-1), 1) := by decide +kernel
theorem dX4_chooseTaker_178 : decode cX4_chooseTaker 178 = .ok (.putfield 144, 3) := by decide +kernel
theorem dX4_chooseTaker_181 : decode cX4_chooseTaker 181 = .ok (.return_, 1) := by decide +kernel
theorem dX4_takerByGives_0 : decode cX4_takerByGives 0 = .ok (.iconst 0, 1) := by decide +kernel
theorem dX4_takerByGives_1 : decode cX4_takerByGives 1 = .ok (.istore_n 3, 1) := by decide +kernel
theorem dX4_takerByGives_2 : decode cX4_takerByGives 2 = .ok (.iload_n 3, 1) := by decide +kernel
theorem dX4_takerByGives_3 : decode cX4_takerByGives 3 = .ok (.aload_n 1, 1) := by decide +kernel
theorem dX4_takerByGives_4 : decode cX4_takerByGives 4 = .ok (.getfield 162, 3) := by decide +kernel
theorem dX4_takerByGives_7 : decode cX4_takerByGives 7 = .ok (.if_icmp .ge 78, 3) := by decide +kernel
theorem dX4_takerByGives_10 : decode cX4_takerByGives 10 = .ok (.iload_n 3, 1) := by decide +kernel
theorem dX4_takerByGives_11 : decode cX4_takerByGives 11 = .ok (.bipush 6, 2) := by decide +kernel
theorem dX4_takerByGives_13 : decode cX4_takerByGives 13 = .ok (.if_icmp .ge 72, 3) := by decide +kernel
theorem dX4_takerByGives_16 : decode cX4_takerByGives 16 = .ok (.aload_n 1, 1) := by decide +kernel
theorem dX4_takerByGives_17 : decode cX4_takerByGives 17 = .ok (.getfield 165, 3) := by decide +kernel
theorem dX4_takerByGives_20 : decode cX4_takerByGives 20 = .ok (.iload_n 3, 1) := by decide +kernel
theorem dX4_takerByGives_21 : decode cX4_takerByGives 21 = .ok (.iaload, 1) := by decide +kernel
theorem dX4_takerByGives_22 : decode cX4_takerByGives 22 = .ok (.iload_n 2, 1) := by decide +kernel
theorem dX4_takerByGives_23 : decode cX4_takerByGives 23 = .ok (.if_icmp .ne 56, 3) := by decide +kernel
theorem dX4_takerByGives_26 : decode cX4_takerByGives 26 = .ok (.aload_n 0, 1) := by decide +kernel
theorem dX4_takerByGives_27 : decode cX4_takerByGives 27 = .ok (.aload_n 1, 1) := by decide +kernel
theorem dX4_takerByGives_28 : decode cX4_takerByGives 28 = .ok (.iload_n 3, 1) := by decide +kernel
theorem dX4_takerByGives_29 : decode cX4_takerByGives 29 = .ok (.invokevirtual 168, 3) := by decide +kernel
theorem dX4_takerByGives_32 : decode cX4_takerByGives 32 = .ok (.ifCond .eq 47, 3) := by decide +kernel
theorem dX4_takerByGives_35 : decode cX4_takerByGives 35 = .ok (.aload_n 0, 1) := by decide +kernel
theorem dX4_takerByGives_36 : decode cX4_takerByGives 36 = .ok (.aload_n 1, 1) := by decide +kernel
theorem dX4_takerByGives_37 : decode cX4_takerByGives 37 = .ok (.getfield 171, 3) := by decide +kernel
theorem dX4_takerByGives_40 : decode cX4_takerByGives 40 = .ok (.iload_n 3, 1) := by decide +kernel
theorem dX4_takerByGives_41 : decode cX4_takerByGives 41 = .ok (.iaload, 1) := by decide +kernel
theorem dX4_takerByGives_42 : decode cX4_takerByGives 42 = .ok (.aload_n 1, 1) := by decide +kernel
theorem dX4_takerByGives_43 : decode cX4_takerByGives 43 = .ok (.iload_n 2, 1) := by decide +kernel
theorem dX4_takerByGives_44 : decode cX4_takerByGives 44 = .ok (.invokevirtual 158, 3) := by decide +kernel
theorem dX4_takerByGives_47 : decode cX4_takerByGives 47 = .ok (.ifCond .eq 10, 3) := by decide +kernel
theorem dX4_takerByGives_50 : decode cX4_takerByGives 50 = .ok (.aload_n 1, 1) := by decide +kernel
theorem dX4_takerByGives_51 : decode cX4_takerByGives 51 = .ok (.getfield 171, 3) := by decide +kernel
theorem dX4_takerByGives_54 : decode cX4_takerByGives 54 = .ok (.iload_n 3, 1) := by decide +kernel
theorem dX4_takerByGives_55 : decode cX4_takerByGives 55 = .ok (.iaload, 1) := by decide +kernel
theorem dX4_takerByGives_56 : decode cX4_takerByGives 56 = .ok (.ireturn, 1) := by decide +kernel
theorem dX4_takerByGives_57 : decode cX4_takerByGives 57 = .ok (.aload_n 0, 1) := by decide +kernel
theorem dX4_takerByGives_58 : decode cX4_takerByGives 58 = .ok (.aload_n 1, 1) := by decide +kernel
theorem dX4_takerByGives_59 : decode cX4_takerByGives 59 = .ok (.getfield 174, 3) := by decide +kernel
theorem dX4_takerByGives_62 : decode cX4_takerByGives 62 = .ok (.iload_n 3, 1) := by decide +kernel
theorem dX4_takerByGives_63 : decode cX4_takerByGives 63 = .ok (.iaload, 1) := by decide +kernel
theorem dX4_takerByGives_64 : decode cX4_takerByGives 64 = .ok (.aload_n 1, 1) := by decide +kernel
theorem dX4_takerByGives_65 : decode cX4_takerByGives 65 = .ok (.iload_n 2, 1) := by decide +kernel
theorem dX4_takerByGives_66 : decode cX4_takerByGives 66 = .ok (.invokevirtual 158, 3) := by decide +kernel
theorem dX4_takerByGives_69 : decode cX4_takerByGives 69 = .ok (.ifCond .eq 10, 3) := by decide +kernel
theorem dX4_takerByGives_72 : decode cX4_takerByGives 72 = .ok (.aload_n 1, 1) := by decide +kernel
theorem dX4_takerByGives_73 : decode cX4_takerByGives 73 = .ok (.getfield 174, 3) := by decide +kernel
theorem dX4_takerByGives_76 : decode cX4_takerByGives 76 = .ok (.iload_n 3, 1) := by decide +kernel
theorem dX4_takerByGives_77 : decode cX4_takerByGives 77 = .ok (.iaload, 1) := by decide +kernel
theorem dX4_takerByGives_78 : decode cX4_takerByGives 78 = .ok (.ireturn, 1) := by decide +kernel
theorem dX4_takerByGives_79 : decode cX4_takerByGives 79 = .ok (.iinc 3 1, 3) := by decide +kernel
theorem dX4_takerByGives_82 : decode cX4_takerByGives 82 = .ok (.goto (-80), 3) := by decide +kernel
theorem dX4_takerByGives_85 : decode cX4_takerByGives 85 = .ok (.iconst (-1), 1) := by decide +kernel
theorem dX4_takerByGives_86 : decode cX4_takerByGives 86 = .ok (.ireturn, 1) := by decide +kernel
theorem dX4_isSo_0 : decode cX4_isSo 0 = .ok (.aload_n 1, 1) := by decide +kernel
theorem dX4_isSo_1 : decode cX4_isSo 1 = .ok (.getfield 177, 3) := by decide +kernel
theorem dX4_isSo_4 : decode cX4_isSo 4 = .ok (.iload_n 2, 1) := by decide +kernel
theorem dX4_isSo_5 : decode cX4_isSo 5 = .ok (.iaload, 1) := by decide +kernel
theorem dX4_isSo_6 : decode cX4_isSo 6 = .ok (.istore_n 3, 1) := by decide +kernel
theorem dX4_isSo_7 : decode cX4_isSo 7 = .ok (.aload_n 1, 1) := by decide +kernel
theorem dX4_isSo_8 : decode cX4_isSo 8 = .ok (.getfield 180, 3) := by decide +kernel
theorem dX4_isSo_11 : decode cX4_isSo 11 = .ok (.iload_n 2, 1) := by decide +kernel
theorem dX4_isSo_12 : decode cX4_isSo 12 = .ok (.iaload, 1) := by decide +kernel
theorem dX4_isSo_13 : decode cX4_isSo 13 = .ok (.ifCond .eq 14, 3) := by decide +kernel
theorem dX4_isSo_16 : decode cX4_isSo 16 = .ok (.aload_n 0, 1) := by decide +kernel
theorem dX4_isSo_17 : decode cX4_isSo 17 = .ok (.getfield 22, 3) := by decide +kernel
theorem dX4_isSo_20 : decode cX4_isSo 20 = .ok (.iload_n 3, 1) := by decide +kernel
theorem dX4_isSo_21 : decode cX4_isSo 21 = .ok (.invokevirtual 183, 3) := by decide +kernel
theorem dX4_isSo_24 : decode cX4_isSo 24 = .ok (.ifCond .ne 5, 3) := by decide +kernel
theorem dX4_isSo_27 : decode cX4_isSo 27 = .ok (.iconst 1, 1) := by decide +kernel
theorem dX4_isSo_28 : decode cX4_isSo 28 = .ok (.ireturn, 1) := by decide +kernel
theorem dX4_isSo_29 : decode cX4_isSo 29 = .ok (.aload_n 0, 1) := by decide +kernel
theorem dX4_isSo_30 : decode cX4_isSo 30 = .ok (.getfield 22, 3) := by decide +kernel
theorem dX4_isSo_33 : decode cX4_isSo 33 = .ok (.getfield 66, 3) := by decide +kernel
theorem dX4_isSo_36 : decode cX4_isSo 36 = .ok (.iload_n 3, 1) := by decide +kernel
theorem dX4_isSo_37 : decode cX4_isSo 37 = .ok (.aaload, 1) := by decide +kernel
theorem dX4_isSo_38 : decode cX4_isSo 38 = .ok (.aload_n 0, 1) := by decide +kernel
theorem dX4_isSo_39 : decode cX4_isSo 39 = .ok (.getfield 22, 3) := by decide +kernel
theorem dX4_isSo_42 : decode cX4_isSo 42 = .ok (.getfield 66, 3) := by decide +kernel
theorem dX4_isSo_45 : decode cX4_isSo 45 = .ok (.aload_n 1, 1) := by decide +kernel
theorem dX4_isSo_46 : decode cX4_isSo 46 = .ok (.getfield 61, 3) := by decide +kernel
theorem dX4_isSo_49 : decode cX4_isSo 49 = .ok (.aaload, 1) := by decide +kernel
theorem dX4_isSo_50 : decode cX4_isSo 50 = .ok (.getfield 70, 3) := by decide +kernel
theorem dX4_isSo_53 : decode cX4_isSo 53 = .ok (.invokevirtual 186, 3) := by decide +kernel
theorem dX4_isSo_56 : decode cX4_isSo 56 = .ok (.istore 4, 2) := by decide +kernel
theorem dX4_isSo_58 : decode cX4_isSo 58 = .ok (.iload 4, 2) := by decide +kernel
theorem dX4_isSo_60 : decode cX4_isSo 60 = .ok (.aload_n 1, 1) := by decide +kernel
theorem dX4_isSo_61 : decode cX4_isSo 61 = .ok (.getfield 180, 3) := by decide +kernel
theorem dX4_isSo_64 : decode cX4_isSo 64 = .ok (.iload_n 2, 1) := by decide +kernel
theorem dX4_isSo_65 : decode cX4_isSo 65 = .ok (.iaload, 1) := by decide +kernel
theorem dX4_isSo_66 : decode cX4_isSo 66 = .ok (.iconst 1, 1) := by decide +kernel
theorem dX4_isSo_67 : decode cX4_isSo 67 = .ok (.if_icmp .ne 7, 3) := by decide +kernel
theorem dX4_isSo_70 : decode cX4_isSo 70 = .ok (.iconst 1, 1) := by decide +kernel
theorem dX4_isSo_71 : decode cX4_isSo 71 = .ok (.goto 4, 3) := by decide +kernel
theorem dX4_isSo_74 : decode cX4_isSo 74 = .ok (.iconst 0, 1) := by decide +kernel
theorem dX4_isSo_75 : decode cX4_isSo 75 = .ok (.if_icmp .ne 7, 3) := by decide +kernel
theorem dX4_isSo_78 : decode cX4_isSo 78 = .ok (.iconst 1, 1) := by decide +kernel
theorem dX4_isSo_79 : decode cX4_isSo 79 = .ok (.goto 4, 3) := by decide +kernel
theorem dX4_isSo_82 : decode cX4_isSo 82 = .ok (.iconst 0, 1) := by decide +kernel
theorem dX4_isSo_83 : decode cX4_isSo 83 = .ok (.ireturn, 1) := by decide +kernel
theorem dX4_mayTake_0 : decode cX4_mayTake 0 = .ok (.aload_n 0, 1) := by decide +kernel
theorem dX4_mayTake_1 : decode cX4_mayTake 1 = .ok (.getfield 22, 3) := by decide +kernel
theorem dX4_mayTake_4 : decode cX4_mayTake 4 = .ok (.iload_n 1, 1) := by decide +kernel
theorem dX4_mayTake_5 : decode cX4_mayTake 5 = .ok (.invokevirtual 183, 3) := by decide +kernel
theorem dX4_mayTake_8 : decode cX4_mayTake 8 = .ok (.ifCond .eq 33, 3) := by decide +kernel
theorem dX4_mayTake_11 : decode cX4_mayTake 11 = .ok (.aload_n 0, 1) := by decide +kernel
theorem dX4_mayTake_12 : decode cX4_mayTake 12 = .ok (.getfield 22, 3) := by decide +kernel
theorem dX4_mayTake_15 : decode cX4_mayTake 15 = .ok (.getfield 66, 3) := by decide +kernel
theorem dX4_mayTake_18 : decode cX4_mayTake 18 = .ok (.iload_n 1, 1) := by decide +kernel
theorem dX4_mayTake_19 : decode cX4_mayTake 19 = .ok (.aaload, 1) := by decide +kernel
theorem dX4_mayTake_20 : decode cX4_mayTake 20 = .ok (.aload_n 0, 1) := by decide +kernel
theorem dX4_mayTake_21 : decode cX4_mayTake 21 = .ok (.getfield 22, 3) := by decide +kernel
theorem dX4_mayTake_24 : decode cX4_mayTake 24 = .ok (.getfield 66, 3) := by decide +kernel
theorem dX4_mayTake_27 : decode cX4_mayTake 27 = .ok (.aload_n 2, 1) := by decide +kernel
theorem dX4_mayTake_28 : decode cX4_mayTake 28 = .ok (.getfield 61, 3) := by decide +kernel
theorem dX4_mayTake_31 : decode cX4_mayTake 31 = .ok (.aaload, 1) := by decide +kernel
theorem dX4_mayTake_32 : decode cX4_mayTake 32 = .ok (.getfield 70, 3) := by decide +kernel
theorem dX4_mayTake_35 : decode cX4_mayTake 35 = .ok (.invokevirtual 186, 3) := by decide +kernel
theorem dX4_mayTake_38 : decode cX4_mayTake 38 = .ok (.ifCond .ne 5, 3) := by decide +kernel
theorem dX4_mayTake_41 : decode cX4_mayTake 41 = .ok (.iconst 0, 1) := by decide +kernel
theorem dX4_mayTake_42 : decode cX4_mayTake 42 = .ok (.ireturn, 1) := by decide +kernel
theorem dX4_mayTake_43 : decode cX4_mayTake 43 = .ok (.aload_n 2, 1) := by decide +kernel
theorem dX4_mayTake_44 : decode cX4_mayTake 44 = .ok (.iload_n 1, 1) := by decide +kernel
theorem dX4_mayTake_45 : decode cX4_mayTake 45 = .ok (.invokevirtual 189, 3) := by decide +kernel
theorem dX4_mayTake_48 : decode cX4_mayTake 48 = .ok (.ifCond .eq 35, 3) := by decide +kernel
theorem dX4_mayTake_51 : decode cX4_mayTake 51 = .ok (.aload_n 0, 1) := by decide +kernel
theorem dX4_mayTake_52 : decode cX4_mayTake 52 = .ok (.aload_n 2, 1) := by decide +kernel
theorem dX4_mayTake_53 : decode cX4_mayTake 53 = .ok (.aload_n 2, 1) := by decide +kernel
theorem dX4_mayTake_54 : decode cX4_mayTake 54 = .ok (.getfield 93, 3) := by decide +kernel
theorem dX4_mayTake_57 : decode cX4_mayTake 57 = .ok (.invokevirtual 105, 3) := by decide +kernel
theorem dX4_mayTake_60 : decode cX4_mayTake 60 = .ok (.ifCond .ne 23, 3) := by decide +kernel
theorem dX4_mayTake_63 : decode cX4_mayTake 63 = .ok (.aload_n 0, 1) := by decide +kernel
theorem dX4_mayTake_64 : decode cX4_mayTake 64 = .ok (.aload_n 2, 1) := by decide +kernel
theorem dX4_mayTake_65 : decode cX4_mayTake 65 = .ok (.aload_n 0, 1) := by decide +kernel
theorem dX4_mayTake_66 : decode cX4_mayTake 66 = .ok (.getfield 22, 3) := by decide +kernel
theorem dX4_mayTake_69 : decode cX4_mayTake 69 = .ok (.getfield 26, 3) := by decide +kernel
theorem dX4_mayTake_72 : decode cX4_mayTake 72 = .ok (.iload_n 3, 1) := by decide +kernel
theorem dX4_mayTake_73 : decode cX4_mayTake 73 = .ok (.aaload, 1) := by decide +kernel
theorem dX4_mayTake_74 : decode cX4_mayTake 74 = .ok (.getfield 32, 3) := by decide +kernel
theorem dX4_mayTake_77 : decode cX4_mayTake 77 = .ok (.invokevirtual 105, 3) := by decide +kernel
theorem dX4_mayTake_80 : decode cX4_mayTake 80 = .ok (.ifCond .eq 7, 3) := by decide +kernel
theorem dX4_mayTake_83 : decode cX4_mayTake 83 = .ok (.iconst 1, 1) := by decide +kernel
theorem dX4_mayTake_84 : decode cX4_mayTake 84 = .ok (.goto 4, 3) := by decide +kernel
theorem dX4_mayTake_87 : decode cX4_mayTake 87 = .ok (.iconst 0, 1) := by decide +kernel
theorem dX4_mayTake_88 : decode cX4_mayTake 88 = .ok (.ireturn, 1) := by decide +kernel
theorem dX5_init_0 : decode cX5_init 0 = .ok (.aload_n 0, 1) := by decide +kernel
theorem dX5_init_1 : decode cX5_init 1 = .ok (.invokespecial 3, 3) := by decide +kernel
theorem dX5_init_4 : decode cX5_init 4 = .ok (.aload_n 0, 1) := by decide +kernel
theorem dX5_init_5 : decode cX5_init 5 = .ok (.bipush 6, 2) := by decide +kernel
theorem dX5_init_7 : decode cX5_init 7 = .ok (.newarray .int, 2) := by decide +kernel
theorem dX5_init_9 : decode cX5_init 9 = .ok (.putfield 9, 3) := by decide +kernel
theorem dX5_init_12 : decode cX5_init 12 = .ok (.aload_n 0, 1) := by decide +kernel
theorem dX5_init_13 : decode cX5_init 13 = .ok (.bipush 6, 2) := by decide +kernel
theorem dX5_init_15 : decode cX5_init 15 = .ok (.newarray .int, 2) := by decide +kernel
theorem dX5_init_17 : decode cX5_init 17 = .ok (.putfield 15, 3) := by decide +kernel
theorem dX5_init_20 : decode cX5_init 20 = .ok (.aload_n 0, 1) := by decide +kernel
theorem dX5_init_21 : decode cX5_init 21 = .ok (.bipush 6, 2) := by decide +kernel
theorem dX5_init_23 : decode cX5_init 23 = .ok (.newarray .int, 2) := by decide +kernel
theorem dX5_init_25 : decode cX5_init 25 = .ok (.putfield 18, 3) := by decide +kernel
theorem dX5_init_28 : decode cX5_init 28 = .ok (.aload_n 0, 1) := by decide +kernel
theorem dX5_init_29 : decode cX5_init 29 = .ok (.bipush 6, 2) := by decide +kernel
theorem dX5_init_31 : decode cX5_init 31 = .ok (.newarray .int, 2) := by decide +kernel
theorem dX5_init_33 : decode cX5_init 33 = .ok (.putfield 21, 3) := by decide +kernel
theorem dX5_init_36 : decode cX5_init 36 = .ok (.aload_n 0, 1) := by decide +kernel
theorem dX5_init_37 : decode cX5_init 37 = .ok (.bipush 6, 2) := by decide +kernel
theorem dX5_init_39 : decode cX5_init 39 = .ok (.newarray .int, 2) := by decide +kernel
theorem dX5_init_41 : decode cX5_init 41 = .ok (.putfield 24, 3) := by decide +kernel
theorem dX5_init_44 : decode cX5_init 44 = .ok (.return_, 1) := by decide +kernel
theorem dX5_clear_0 : decode cX5_clear 0 = .ok (.aload_n 0, 1) := by decide +kernel
theorem dX5_clear_1 : decode cX5_clear 1 = .ok (.iconst 0, 1) := by decide +kernel
theorem dX5_clear_2 : decode cX5_clear 2 = .ok (.putfield 27, 3) := by decide +kernel
theorem dX5_clear_5 : decode cX5_clear 5 = .ok (.aload_n 0, 1) := by decide +kernel
theorem dX5_clear_6 : decode cX5_clear 6 = .ok (.iconst 0, 1) := by decide +kernel
theorem dX5_clear_7 : decode cX5_clear 7 = .ok (.putfield 31, 3) := by decide +kernel
theorem dX5_clear_10 : decode cX5_clear 10 = .ok (.aload_n 0, 1) := by decide +kernel
theorem dX5_clear_11 : decode cX5_clear 11 = .ok (.iconst 0, 1) := by decide +kernel
theorem dX5_clear_12 : decode cX5_clear 12 = .ok (.putfield 35, 3) := by decide +kernel
theorem dX5_clear_15 : decode cX5_clear 15 = .ok (.aload_n 0, 1) := by decide +kernel
theorem dX5_clear_16 : decode cX5_clear 16 = .ok (.iconst (-1), 1) := by decide +kernel
theorem dX5_clear_17 : decode cX5_clear 17 = .ok (.putfield 38, 3) := by decide +kernel
theorem dX5_clear_20 : decode cX5_clear 20 = .ok (.aload_n 0, 1) := by decide +kernel
theorem dX5_clear_21 : decode cX5_clear 21 = .ok (.iconst (-1), 1) := by decide +kernel
theorem dX5_clear_22 : decode cX5_clear 22 = .ok (.putfield 41, 3) := by decide +kernel
theorem dX5_clear_25 : decode cX5_clear 25 = .ok (.aload_n 0, 1) := by decide +kernel
theorem dX5_clear_26 : decode cX5_clear 26 = .ok (.iconst 0, 1) := by decide +kernel
theorem dX5_clear_27 : decode cX5_clear 27 = .ok (.putfield 44, 3) := by decide +kernel
theorem dX5_clear_30 : decode cX5_clear 30 = .ok (.aload_n 0, 1) := by decide +kernel
theorem dX5_clear_31 : decode cX5_clear 31 = .ok (.iconst 0, 1) := by decide +kernel
theorem dX5_clear_32 : decode cX5_clear 32 = .ok (.putfield 47, 3) := by decide +kernel
theorem dX5_clear_35 : decode cX5_clear 35 = .ok (.return_, 1) := by decide +kernel
theorem dX5_isLost_0 : decode cX5_isLost 0 = .ok (.aload_n 0, 1) := by decide +kernel
theorem dX5_isLost_1 : decode cX5_isLost 1 = .ok (.getfield 41, 3) := by decide +kernel
theorem dX5_isLost_4 : decode cX5_isLost 4 = .ok (.iconst (-1), 1) := by decide +kernel
theorem dX5_isLost_5 : decode cX5_isLost 5 = .ok (.if_icmp .eq 7, 3) := by decide +kernel
theorem dX5_isLost_8 : decode cX5_isLost 8 = .ok (.iconst 1, 1) := by decide +kernel
theorem dX5_isLost_9 : decode cX5_isLost 9 = .ok (.goto 4, 3) := by decide +kernel
theorem dX5_isLost_12 : decode cX5_isLost 12 = .ok (.iconst 0, 1) := by decide +kernel
theorem dX5_isLost_13 : decode cX5_isLost 13 = .ok (.ireturn, 1) := by decide +kernel
theorem dX5_isWitness_0 : decode cX5_isWitness 0 = .ok (.aload_n 0, 1) := by decide +kernel
theorem dX5_isWitness_1 : decode cX5_isWitness 1 = .ok (.getfield 31, 3) := by decide +kernel
theorem dX5_isWitness_4 : decode cX5_isWitness 4 = .ok (.iload_n 1, 1) := by decide +kernel
theorem dX5_isWitness_5 : decode cX5_isWitness 5 = .ok (.ishr, 1) := by decide +kernel
theorem dX5_isWitness_6 : decode cX5_isWitness 6 = .ok (.iconst 1, 1) := by decide +kernel
theorem dX5_isWitness_7 : decode cX5_isWitness 7 = .ok (.iand, 1) := by decide +kernel
theorem dX5_isWitness_8 : decode cX5_isWitness 8 = .ok (.ifCond .eq 7, 3) := by decide +kernel
theorem dX5_isWitness_11 : decode cX5_isWitness 11 = .ok (.iconst 1, 1) := by decide +kernel
theorem dX5_isWitness_12 : decode cX5_isWitness 12 = .ok (.goto 4, 3) := by decide +kernel
theorem dX5_isWitness_15 : decode cX5_isWitness 15 = .ok (.iconst 0, 1) := by decide +kernel
theorem dX5_isWitness_16 : decode cX5_isWitness 16 = .ok (.ireturn, 1) := by decide +kernel
theorem dX5_strikes_0 : decode cX5_strikes 0 = .ok (.aload_n 0, 1) := by decide +kernel
theorem dX5_strikes_1 : decode cX5_strikes 1 = .ok (.getfield 35, 3) := by decide +kernel
theorem dX5_strikes_4 : decode cX5_strikes 4 = .ok (.iload_n 1, 1) := by decide +kernel
theorem dX5_strikes_5 : decode cX5_strikes 5 = .ok (.ishr, 1) := by decide +kernel
theorem dX5_strikes_6 : decode cX5_strikes 6 = .ok (.iconst 1, 1) := by decide +kernel
theorem dX5_strikes_7 : decode cX5_strikes 7 = .ok (.iand, 1) := by decide +kernel
theorem dX5_strikes_8 : decode cX5_strikes 8 = .ok (.ifCond .eq 7, 3) := by decide +kernel
theorem dX5_strikes_11 : decode cX5_strikes 11 = .ok (.iconst 1, 1) := by decide +kernel
theorem dX5_strikes_12 : decode cX5_strikes 12 = .ok (.goto 4, 3) := by decide +kernel
theorem dX5_strikes_15 : decode cX5_strikes 15 = .ok (.iconst 0, 1) := by decide +kernel
theorem dX5_strikes_16 : decode cX5_strikes 16 = .ok (.ireturn, 1) := by decide +kernel
theorem dX5_givesTo_0 : decode cX5_givesTo 0 = .ok (.iconst 0, 1) := by decide +kernel
theorem dX5_givesTo_1 : decode cX5_givesTo 1 = .ok (.istore_n 2, 1) := by decide +kernel
theorem dX5_givesTo_2 : decode cX5_givesTo 2 = .ok (.iload_n 2, 1) := by decide +kernel
theorem dX5_givesTo_3 : decode cX5_givesTo 3 = .ok (.aload_n 0, 1) := by decide +kernel
theorem dX5_givesTo_4 : decode cX5_givesTo 4 = .ok (.getfield 47, 3) := by decide +kernel
theorem dX5_givesTo_7 : decode cX5_givesTo 7 = .ok (.if_icmp .ge 37, 3) := by decide +kernel
theorem dX5_givesTo_10 : decode cX5_givesTo 10 = .ok (.iload_n 2, 1) := by decide +kernel
theorem dX5_givesTo_11 : decode cX5_givesTo 11 = .ok (.bipush 6, 2) := by decide +kernel
theorem dX5_givesTo_13 : decode cX5_givesTo 13 = .ok (.if_icmp .ge 31, 3) := by decide +kernel
theorem dX5_givesTo_16 : decode cX5_givesTo 16 = .ok (.aload_n 0, 1) := by decide +kernel
theorem dX5_givesTo_17 : decode cX5_givesTo 17 = .ok (.getfield 15, 3) := by decide +kernel
theorem dX5_givesTo_20 : decode cX5_givesTo 20 = .ok (.iload_n 2, 1) := by decide +kernel
theorem dX5_givesTo_21 : decode cX5_givesTo 21 = .ok (.iaload, 1) := by decide +kernel
theorem dX5_givesTo_22 : decode cX5_givesTo 22 = .ok (.iload_n 1, 1) := by decide +kernel
theorem dX5_givesTo_23 : decode cX5_givesTo 23 = .ok (.if_icmp .eq 13, 3) := by decide +kernel
theorem dX5_givesTo_26 : decode cX5_givesTo 26 = .ok (.aload_n 0, 1) := by decide +kernel
theorem dX5_givesTo_27 : decode cX5_givesTo 27 = .ok (.getfield 24, 3) := by decide +kernel
theorem dX5_givesTo_30 : decode cX5_givesTo 30 = .ok (.iload_n 2, 1) := by decide +kernel
theorem dX5_givesTo_31 : decode cX5_givesTo 31 = .ok (.iaload, 1) := by decide +kernel
theorem dX5_givesTo_32 : decode cX5_givesTo 32 = .ok (.iload_n 1, 1) := by decide +kernel
theorem dX5_givesTo_33 : decode cX5_givesTo 33 = .ok (.if_icmp .ne 5, 3) := by decide +kernel
theorem dX5_givesTo_36 : decode cX5_givesTo 36 = .ok (.iconst 1, 1) := by decide +kernel
theorem dX5_givesTo_37 : decode cX5_givesTo 37 = .ok (.ireturn, 1) := by decide +kernel
theorem dX5_givesTo_38 : decode cX5_givesTo 38 = .ok (.iinc 2 1, 3) := by decide +kernel
theorem dX5_givesTo_41 : decode cX5_givesTo 41 = .ok (.goto (-39), 3) := by decide +kernel
theorem dX5_givesTo_44 : decode cX5_givesTo 44 = .ok (.aload_n 0, 1) := by decide +kernel
theorem dX5_givesTo_45 : decode cX5_givesTo 45 = .ok (.getfield 38, 3) := by decide +kernel
theorem dX5_givesTo_48 : decode cX5_givesTo 48 = .ok (.iload_n 1, 1) := by decide +kernel
theorem dX5_givesTo_49 : decode cX5_givesTo 49 = .ok (.if_icmp .ne 7, 3) := by decide +kernel
theorem dX5_givesTo_52 : decode cX5_givesTo 52 = .ok (.iconst 1, 1) := by decide +kernel
theorem dX5_givesTo_53 : decode cX5_givesTo 53 = .ok (.goto 4, 3) := by decide +kernel
theorem dX5_givesTo_56 : decode cX5_givesTo 56 = .ok (.iconst 0, 1) := by decide +kernel
theorem dX5_givesTo_57 : decode cX5_givesTo 57 = .ok (.ireturn, 1) := by decide +kernel
theorem dX6_init_0 : decode cX6_init 0 = .ok (.aload_n 0, 1) := by decide +kernel
theorem dX6_init_1 : decode cX6_init 1 = .ok (.invokespecial 3, 3) := by decide +kernel
theorem dX6_init_4 : decode cX6_init 4 = .ok (.return_, 1) := by decide +kernel
theorem dX6_isMortal_0 : decode cX6_isMortal 0 = .ok (.aload_n 0, 1) := by decide +kernel
theorem dX6_isMortal_1 : decode cX6_isMortal 1 = .ok (.getfield 9, 3) := by decide +kernel
theorem dX6_isMortal_4 : decode cX6_isMortal 4 = .ok (.iconst (-1), 1) := by decide +kernel
theorem dX6_isMortal_5 : decode cX6_isMortal 5 = .ok (.if_icmp .eq 7, 3) := by decide +kernel
theorem dX6_isMortal_8 : decode cX6_isMortal 8 = .ok (.iconst 1, 1) := by decide +kernel
theorem dX6_isMortal_9 : decode cX6_isMortal 9 = .ok (.goto 4, 3) := by decide +kernel
theorem dX6_isMortal_12 : decode cX6_isMortal 12 = .ok (.iconst 0, 1) := by decide +kernel
theorem dX6_isMortal_13 : decode cX6_isMortal 13 = .ok (.ireturn, 1) := by decide +kernel
theorem dX6_livesOn_0 : decode cX6_livesOn 0 = .ok (.aload_n 0, 1) := by decide +kernel
theorem dX6_livesOn_1 : decode cX6_livesOn 1 = .ok (.getfield 9, 3) := by decide +kernel
theorem dX6_livesOn_4 : decode cX6_livesOn 4 = .ok (.iconst (-1), 1) := by decide +kernel
theorem dX6_livesOn_5 : decode cX6_livesOn 5 = .ok (.if_icmp .eq 11, 3) := by decide +kernel
theorem dX6_livesOn_8 : decode cX6_livesOn 8 = .ok (.aload_n 0, 1) := by decide +kernel
theorem dX6_livesOn_9 : decode cX6_livesOn 9 = .ok (.getfield 9, 3) := by decide +kernel
theorem dX6_livesOn_12 : decode cX6_livesOn 12 = .ok (.iload_n 1, 1) := by decide +kernel
theorem dX6_livesOn_13 : decode cX6_livesOn 13 = .ok (.if_icmp .le 7, 3) := by decide +kernel
theorem dX6_livesOn_16 : decode cX6_livesOn 16 = .ok (.iconst 1, 1) := by decide +kernel
theorem dX6_livesOn_17 : decode cX6_livesOn 17 = .ok (.goto 4, 3) := by decide +kernel
theorem dX6_livesOn_20 : decode cX6_livesOn 20 = .ok (.iconst 0, 1) := by decide +kernel
theorem dX6_livesOn_21 : decode cX6_livesOn 21 = .ok (.ireturn, 1) := by decide +kernel
theorem dX7_init_0 : decode cX7_init 0 = .ok (.aload_n 0, 1) := by decide +kernel
theorem dX7_init_1 : decode cX7_init 1 = .ok (.invokespecial 3, 3) := by decide +kernel
theorem dX7_init_4 : decode cX7_init 4 = .ok (.aload_n 0, 1) := by decide +kernel
theorem dX7_init_5 : decode cX7_init 5 = .ok (.iconst 2, 1) := by decide +kernel
theorem dX7_init_6 : decode cX7_init 6 = .ok (.anewarray 9, 3) := by decide +kernel
theorem dX7_init_9 : decode cX7_init 9 = .ok (.putfield 11, 3) := by decide +kernel
theorem dX7_init_12 : decode cX7_init 12 = .ok (.aload_n 0, 1) := by decide +kernel
theorem dX7_init_13 : decode cX7_init 13 = .ok (.bipush 10, 2) := by decide +kernel
theorem dX7_init_15 : decode cX7_init 15 = .ok (.anewarray 17, 3) := by decide +kernel
theorem dX7_init_18 : decode cX7_init 18 = .ok (.putfield 19, 3) := by decide +kernel
theorem dX7_init_21 : decode cX7_init 21 = .ok (.aload_n 0, 1) := by decide +kernel
theorem dX7_init_22 : decode cX7_init 22 = .ok (.bipush 8, 2) := by decide +kernel
theorem dX7_init_24 : decode cX7_init 24 = .ok (.anewarray 23, 3) := by decide +kernel
theorem dX7_init_27 : decode cX7_init 27 = .ok (.putfield 25, 3) := by decide +kernel
theorem dX7_init_30 : decode cX7_init 30 = .ok (.aload_n 0, 1) := by decide +kernel
theorem dX7_init_31 : decode cX7_init 31 = .ok (.bipush 12, 2) := by decide +kernel
theorem dX7_init_33 : decode cX7_init 33 = .ok (.anewarray 29, 3) := by decide +kernel
theorem dX7_init_36 : decode cX7_init 36 = .ok (.putfield 31, 3) := by decide +kernel
theorem dX7_init_39 : decode cX7_init 39 = .ok (.aload_n 0, 1) := by decide +kernel
theorem dX7_init_40 : decode cX7_init 40 = .ok (.bipush 12, 2) := by decide +kernel
theorem dX7_init_42 : decode cX7_init 42 = .ok (.newarray .int, 2) := by decide +kernel
theorem dX7_init_44 : decode cX7_init 44 = .ok (.putfield 35, 3) := by decide +kernel
theorem dX7_init_47 : decode cX7_init 47 = .ok (.aload_n 0, 1) := by decide +kernel
theorem dX7_init_48 : decode cX7_init 48 = .ok (.bipush 6, 2) := by decide +kernel
theorem dX7_init_50 : decode cX7_init 50 = .ok (.newarray .int, 2) := by decide +kernel
theorem dX7_init_52 : decode cX7_init 52 = .ok (.putfield 39, 3) := by decide +kernel
theorem dX7_init_55 : decode cX7_init 55 = .ok (.aload_n 0, 1) := by decide +kernel
theorem dX7_init_56 : decode cX7_init 56 = .ok (.bipush 6, 2) := by decide +kernel
theorem dX7_init_58 : decode cX7_init 58 = .ok (.newarray .int, 2) := by decide +kernel
theorem dX7_init_60 : decode cX7_init 60 = .ok (.putfield 42, 3) := by decide +kernel
theorem dX7_init_63 : decode cX7_init 63 = .ok (.aload_n 0, 1) := by decide +kernel
theorem dX7_init_64 : decode cX7_init 64 = .ok (.bipush 6, 2) := by decide +kernel
theorem dX7_init_66 : decode cX7_init 66 = .ok (.newarray .int, 2) := by decide +kernel
theorem dX7_init_68 : decode cX7_init 68 = .ok (.putfield 45, 3) := by decide +kernel
theorem dX7_init_71 : decode cX7_init 71 = .ok (.iconst 0, 1) := by decide +kernel
theorem dX7_init_72 : decode cX7_init 72 = .ok (.istore_n 1, 1) := by decide +kernel
theorem dX7_init_73 : decode cX7_init 73 = .ok (.iload_n 1, 1) := by decide +kernel
theorem dX7_init_74 : decode cX7_init 74 = .ok (.iconst 2, 1) := by decide +kernel
theorem dX7_init_75 : decode cX7_init 75 = .ok (.if_icmp .ge 22, 3) := by decide +kernel
theorem dX7_init_78 : decode cX7_init 78 = .ok (.aload_n 0, 1) := by decide +kernel
theorem dX7_init_79 : decode cX7_init 79 = .ok (.getfield 11, 3) := by decide +kernel
theorem dX7_init_82 : decode cX7_init 82 = .ok (.iload_n 1, 1) := by decide +kernel
theorem dX7_init_83 : decode cX7_init 83 = .ok (.new 9, 3) := by decide +kernel
theorem dX7_init_86 : decode cX7_init 86 = .ok (.dup, 1) := by decide +kernel
theorem dX7_init_87 : decode cX7_init 87 = .ok (.invokespecial 48, 3) := by decide +kernel
theorem dX7_init_90 : decode cX7_init 90 = .ok (.aastore, 1) := by decide +kernel
theorem dX7_init_91 : decode cX7_init 91 = .ok (.iinc 1 1, 3) := by decide +kernel
theorem dX7_init_94 : decode cX7_init 94 = .ok (.goto (-21), 3) := by decide +kernel
theorem dX7_init_97 : decode cX7_init 97 = .ok (.iconst 0, 1) := by decide +kernel
theorem dX7_init_98 : decode cX7_init 98 = .ok (.istore_n 1, 1) := by decide +kernel
theorem dX7_init_99 : decode cX7_init 99 = .ok (.iload_n 1, 1) := by decide +kernel
theorem dX7_init_100 : decode cX7_init 100 = .ok (.bipush 10, 2) := by decide +kernel
theorem dX7_init_102 : decode cX7_init 102 = .ok (.if_icmp .ge 22, 3) := by decide +kernel
theorem dX7_init_105 : decode cX7_init 105 = .ok (.aload_n 0, 1) := by decide +kernel
theorem dX7_init_106 : decode cX7_init 106 = .ok (.getfield 19, 3) := by decide +kernel
theorem dX7_init_109 : decode cX7_init 109 = .ok (.iload_n 1, 1) := by decide +kernel
theorem dX7_init_110 : decode cX7_init 110 = .ok (.new 17, 3) := by decide +kernel
theorem dX7_init_113 : decode cX7_init 113 = .ok (.dup, 1) := by decide +kernel
theorem dX7_init_114 : decode cX7_init 114 = .ok (.invokespecial 49, 3) := by decide +kernel
theorem dX7_init_117 : decode cX7_init 117 = .ok (.aastore, 1) := by decide +kernel
theorem dX7_init_118 : decode cX7_init 118 = .ok (.iinc 1 1, 3) := by decide +kernel
theorem dX7_init_121 : decode cX7_init 121 = .ok (.goto (-22), 3) := by decide +kernel
theorem dX7_init_124 : decode cX7_init 124 = .ok (.iconst 0, 1) := by decide +kernel
theorem dX7_init_125 : decode cX7_init 125 = .ok (.istore_n 1, 1) := by decide +kernel
theorem dX7_init_126 : decode cX7_init 126 = .ok (.iload_n 1, 1) := by decide +kernel
theorem dX7_init_127 : decode cX7_init 127 = .ok (.bipush 8, 2) := by decide +kernel
theorem dX7_init_129 : decode cX7_init 129 = .ok (.if_icmp .ge 22, 3) := by decide +kernel
theorem dX7_init_132 : decode cX7_init 132 = .ok (.aload_n 0, 1) := by decide +kernel
theorem dX7_init_133 : decode cX7_init 133 = .ok (.getfield 25, 3) := by decide +kernel
theorem dX7_init_136 : decode cX7_init 136 = .ok (.iload_n 1, 1) := by decide +kernel
theorem dX7_init_137 : decode cX7_init 137 = .ok (.new 23, 3) := by decide +kernel
theorem dX7_init_140 : decode cX7_init 140 = .ok (.dup, 1) := by decide +kernel
theorem dX7_init_141 : decode cX7_init 141 = .ok (.invokespecial 50, 3) := by decide +kernel
theorem dX7_init_144 : decode cX7_init 144 = .ok (.aastore, 1) := by decide +kernel
theorem dX7_init_145 : decode cX7_init 145 = .ok (.iinc 1 1, 3) := by decide +kernel
theorem dX7_init_148 : decode cX7_init 148 = .ok (.goto (-22), 3) := by decide +kernel
theorem dX7_init_151 : decode cX7_init 151 = .ok (.iconst 0, 1) := by decide +kernel
theorem dX7_init_152 : decode cX7_init 152 = .ok (.istore_n 1, 1) := by decide +kernel
theorem dX7_init_153 : decode cX7_init 153 = .ok (.iload_n 1, 1) := by decide +kernel
theorem dX7_init_154 : decode cX7_init 154 = .ok (.bipush 12, 2) := by decide +kernel
theorem dX7_init_156 : decode cX7_init 156 = .ok (.if_icmp .ge 22, 3) := by decide +kernel
theorem dX7_init_159 : decode cX7_init 159 = .ok (.aload_n 0, 1) := by decide +kernel
theorem dX7_init_160 : decode cX7_init 160 = .ok (.getfield 31, 3) := by decide +kernel
theorem dX7_init_163 : decode cX7_init 163 = .ok (.iload_n 1, 1) := by decide +kernel
theorem dX7_init_164 : decode cX7_init 164 = .ok (.new 29, 3) := by decide +kernel
theorem dX7_init_167 : decode cX7_init 167 = .ok (.dup, 1) := by decide +kernel
theorem dX7_init_168 : decode cX7_init 168 = .ok (.invokespecial 51, 3) := by decide +kernel
theorem dX7_init_171 : decode cX7_init 171 = .ok (.aastore, 1) := by decide +kernel
theorem dX7_init_172 : decode cX7_init 172 = .ok (.iinc 1 1, 3) := by decide +kernel
theorem dX7_init_175 : decode cX7_init 175 = .ok (.goto (-22), 3) := by decide +kernel
theorem dX7_init_178 : decode cX7_init 178 = .ok (.aload_n 0, 1) := by decide +kernel
theorem dX7_init_179 : decode cX7_init 179 = .ok (.invokevirtual 52, 3) := by decide +kernel
theorem dX7_init_182 : decode cX7_init 182 = .ok (.return_, 1) := by decide +kernel
theorem dX7_clear_0 : decode cX7_clear 0 = .ok (.iconst 0, 1) := by decide +kernel
theorem dX7_clear_1 : decode cX7_clear 1 = .ok (.istore_n 1, 1) := by decide +kernel
theorem dX7_clear_2 : decode cX7_clear 2 = .ok (.iload_n 1, 1) := by decide +kernel
theorem dX7_clear_3 : decode cX7_clear 3 = .ok (.iconst 2, 1) := by decide +kernel
theorem dX7_clear_4 : decode cX7_clear 4 = .ok (.if_icmp .ge 18, 3) := by decide +kernel
theorem dX7_clear_7 : decode cX7_clear 7 = .ok (.aload_n 0, 1) := by decide +kernel
theorem dX7_clear_8 : decode cX7_clear 8 = .ok (.getfield 11, 3) := by decide +kernel
theorem dX7_clear_11 : decode cX7_clear 11 = .ok (.iload_n 1, 1) := by decide +kernel
theorem dX7_clear_12 : decode cX7_clear 12 = .ok (.aaload, 1) := by decide +kernel
theorem dX7_clear_13 : decode cX7_clear 13 = .ok (.invokevirtual 55, 3) := by decide +kernel
theorem dX7_clear_16 : decode cX7_clear 16 = .ok (.iinc 1 1, 3) := by decide +kernel
theorem dX7_clear_19 : decode cX7_clear 19 = .ok (.goto (-17), 3) := by decide +kernel
theorem dX7_clear_22 : decode cX7_clear 22 = .ok (.aload_n 0, 1) := by decide +kernel
theorem dX7_clear_23 : decode cX7_clear 23 = .ok (.iconst 0, 1) := by decide +kernel
theorem dX7_clear_24 : decode cX7_clear 24 = .ok (.putfield 56, 3) := by decide +kernel
theorem dX7_clear_27 : decode cX7_clear 27 = .ok (.aload_n 0, 1) := by decide +kernel
theorem dX7_clear_28 : decode cX7_clear 28 = .ok (.iconst 0, 1) := by decide +kernel
theorem dX7_clear_29 : decode cX7_clear 29 = .ok (.putfield 60, 3) := by decide +kernel
theorem dX7_clear_32 : decode cX7_clear 32 = .ok (.aload_n 0, 1) := by decide +kernel
theorem dX7_clear_33 : decode cX7_clear 33 = .ok (.iconst 0, 1) := by decide +kernel
theorem dX7_clear_34 : decode cX7_clear 34 = .ok (.putfield 63, 3) := by decide +kernel
theorem dX7_clear_37 : decode cX7_clear 37 = .ok (.aload_n 0, 1) := by decide +kernel
theorem dX7_clear_38 : decode cX7_clear 38 = .ok (.iconst 0, 1) := by decide +kernel
theorem dX7_clear_39 : decode cX7_clear 39 = .ok (.putfield 66, 3) := by decide +kernel
theorem dX7_clear_42 : decode cX7_clear 42 = .ok (.aload_n 0, 1) := by decide +kernel
theorem dX7_clear_43 : decode cX7_clear 43 = .ok (.iconst 0, 1) := by decide +kernel
theorem dX7_clear_44 : decode cX7_clear 44 = .ok (.putfield 69, 3) := by decide +kernel
theorem dX7_clear_47 : decode cX7_clear 47 = .ok (.return_, 1) := by decide +kernel
theorem dX7_isPerson_0 : decode cX7_isPerson 0 = .ok (.iload_n 1, 1) := by decide +kernel
theorem dX7_isPerson_1 : decode cX7_isPerson 1 = .ok (.ifCond .lt 21, 3) := by decide +kernel
theorem dX7_isPerson_4 : decode cX7_isPerson 4 = .ok (.iload_n 1, 1) := by decide +kernel
theorem dX7_isPerson_5 : decode cX7_isPerson 5 = .ok (.aload_n 0, 1) := by decide +kernel
theorem dX7_isPerson_6 : decode cX7_isPerson 6 = .ok (.getfield 60, 3) := by decide +kernel
theorem dX7_isPerson_9 : decode cX7_isPerson 9 = .ok (.if_icmp .ge 13, 3) := by decide +kernel
theorem dX7_isPerson_12 : decode cX7_isPerson 12 = .ok (.iload_n 1, 1) := by decide +kernel
theorem dX7_isPerson_13 : decode cX7_isPerson 13 = .ok (.bipush 10, 2) := by decide +kernel
theorem dX7_isPerson_15 : decode cX7_isPerson 15 = .ok (.if_icmp .ge 7, 3) := by decide +kernel
theorem dX7_isPerson_18 : decode cX7_isPerson 18 = .ok (.iconst 1, 1) := by decide +kernel
theorem dX7_isPerson_19 : decode cX7_isPerson 19 = .ok (.goto 4, 3) := by decide +kernel
theorem dX7_isPerson_22 : decode cX7_isPerson 22 = .ok (.iconst 0, 1) := by decide +kernel
theorem dX7_isPerson_23 : decode cX7_isPerson 23 = .ok (.ireturn, 1) := by decide +kernel
theorem dX7_isThing_0 : decode cX7_isThing 0 = .ok (.iload_n 1, 1) := by decide +kernel
theorem dX7_isThing_1 : decode cX7_isThing 1 = .ok (.ifCond .lt 21, 3) := by decide +kernel
theorem dX7_isThing_4 : decode cX7_isThing 4 = .ok (.iload_n 1, 1) := by decide +kernel
theorem dX7_isThing_5 : decode cX7_isThing 5 = .ok (.aload_n 0, 1) := by decide +kernel
theorem dX7_isThing_6 : decode cX7_isThing 6 = .ok (.getfield 63, 3) := by decide +kernel
theorem dX7_isThing_9 : decode cX7_isThing 9 = .ok (.if_icmp .ge 13, 3) := by decide +kernel
theorem dX7_isThing_12 : decode cX7_isThing 12 = .ok (.iload_n 1, 1) := by decide +kernel
theorem dX7_isThing_13 : decode cX7_isThing 13 = .ok (.bipush 8, 2) := by decide +kernel
theorem dX7_isThing_15 : decode cX7_isThing 15 = .ok (.if_icmp .ge 7, 3) := by decide +kernel
theorem dX7_isThing_18 : decode cX7_isThing 18 = .ok (.iconst 1, 1) := by decide +kernel
theorem dX7_isThing_19 : decode cX7_isThing 19 = .ok (.goto 4, 3) := by decide +kernel
theorem dX7_isThing_22 : decode cX7_isThing 22 = .ok (.iconst 0, 1) := by decide +kernel
theorem dX7_isThing_23 : decode cX7_isThing 23 = .ok (.ireturn, 1) := by decide +kernel
theorem dX7_isPaper_0 : decode cX7_isPaper 0 = .ok (.iload_n 1, 1) := by decide +kernel
theorem dX7_isPaper_1 : decode cX7_isPaper 1 = .ok (.ifCond .lt 21, 3) := by decide +kernel
theorem dX7_isPaper_4 : decode cX7_isPaper 4 = .ok (.iload_n 1, 1) := by decide +kernel
theorem dX7_isPaper_5 : decode cX7_isPaper 5 = .ok (.aload_n 0, 1) := by decide +kernel
theorem dX7_isPaper_6 : decode cX7_isPaper 6 = .ok (.getfield 66, 3) := by decide +kernel
theorem dX7_isPaper_9 : decode cX7_isPaper 9 = .ok (.if_icmp .ge 13, 3) := by decide +kernel
theorem dX7_isPaper_12 : decode cX7_isPaper 12 = .ok (.iload_n 1, 1) := by decide +kernel
theorem dX7_isPaper_13 : decode cX7_isPaper 13 = .ok (.bipush 12, 2) := by decide +kernel
theorem dX7_isPaper_15 : decode cX7_isPaper 15 = .ok (.if_icmp .ge 7, 3) := by decide +kernel
theorem dX7_isPaper_18 : decode cX7_isPaper 18 = .ok (.iconst 1, 1) := by decide +kernel
theorem dX7_isPaper_19 : decode cX7_isPaper 19 = .ok (.goto 4, 3) := by decide +kernel
theorem dX7_isPaper_22 : decode cX7_isPaper 22 = .ok (.iconst 0, 1) := by decide +kernel
theorem dX7_isPaper_23 : decode cX7_isPaper 23 = .ok (.ireturn, 1) := by decide +kernel
theorem dX7_addPerson_0 : decode cX7_addPerson 0 = .ok (.aload_n 0, 1) := by decide +kernel
theorem dX7_addPerson_1 : decode cX7_addPerson 1 = .ok (.getfield 60, 3) := by decide +kernel
theorem dX7_addPerson_4 : decode cX7_addPerson 4 = .ok (.bipush 10, 2) := by decide +kernel
theorem dX7_addPerson_6 : decode cX7_addPerson 6 = .ok (.if_icmp .lt 4, 3) := by decide +kernel
theorem dX7_addPerson_9 : decode cX7_addPerson 9 = .ok (.return_, 1) := by decide +kernel
theorem dX7_addPerson_10 : decode cX7_addPerson 10 = .ok (.aload_n 0, 1) := by decide +kernel
theorem dX7_addPerson_11 : decode cX7_addPerson 11 = .ok (.getfield 19, 3) := by decide +kernel
theorem dX7_addPerson_14 : decode cX7_addPerson 14 = .ok (.aload_n 0, 1) := by decide +kernel
theorem dX7_addPerson_15 : decode cX7_addPerson 15 = .ok (.getfield 60, 3) := by decide +kernel
theorem dX7_addPerson_18 : decode cX7_addPerson 18 = .ok (.aaload, 1) := by decide +kernel
theorem dX7_addPerson_19 : decode cX7_addPerson 19 = .ok (.astore_n 2, 1) := by decide +kernel
theorem dX7_addPerson_20 : decode cX7_addPerson 20 = .ok (.aload_n 2, 1) := by decide +kernel
theorem dX7_addPerson_21 : decode cX7_addPerson 21 = .ok (.iload_n 1, 1) := by decide +kernel
theorem dX7_addPerson_22 : decode cX7_addPerson 22 = .ok (.putfield 72, 3) := by decide +kernel
theorem dX7_addPerson_25 : decode cX7_addPerson 25 = .ok (.aload_n 2, 1) := by decide +kernel
theorem dX7_addPerson_26 : decode cX7_addPerson 26 = .ok (.iconst (-1), 1) := by decide +kernel
theorem dX7_addPerson_27 : decode cX7_addPerson 27 = .ok (.putfield 75, 3) := by decide +kernel
theorem dX7_addPerson_30 : decode cX7_addPerson 30 = .ok (.aload_n 2, 1) := by decide +kernel
theorem dX7_addPerson_31 : decode cX7_addPerson 31 = .ok (.iconst 0, 1) := by decide +kernel
theorem dX7_addPerson_32 : decode cX7_addPerson 32 = .ok (.putfield 78, 3) := by decide +kernel
theorem dX7_addPerson_35 : decode cX7_addPerson 35 = .ok (.aload_n 0, 1) := by decide +kernel
theorem dX7_addPerson_36 : decode cX7_addPerson 36 = .ok (.dup, 1) := by decide +kernel
theorem dX7_addPerson_37 : decode cX7_addPerson 37 = .ok (.getfield 60, 3) := by decide +kernel
theorem dX7_addPerson_40 : decode cX7_addPerson 40 = .ok (.iconst 1, 1) := by decide +kernel
theorem dX7_addPerson_41 : decode cX7_addPerson 41 = .ok (.iadd, 1) := by decide +kernel
theorem dX7_addPerson_42 : decode cX7_addPerson 42 = .ok (.putfield 60, 3) := by decide +kernel
theorem dX7_addPerson_45 : decode cX7_addPerson 45 = .ok (.return_, 1) := by decide +kernel
theorem dX7_addThing_0 : decode cX7_addThing 0 = .ok (.aload_n 0, 1) := by decide +kernel
theorem dX7_addThing_1 : decode cX7_addThing 1 = .ok (.getfield 63, 3) := by decide +kernel
theorem dX7_addThing_4 : decode cX7_addThing 4 = .ok (.bipush 8, 2) := by decide +kernel
theorem dX7_addThing_6 : decode cX7_addThing 6 = .ok (.if_icmp .lt 4, 3) := by decide +kernel
theorem dX7_addThing_9 : decode cX7_addThing 9 = .ok (.return_, 1) := by decide +kernel
theorem dX7_addThing_10 : decode cX7_addThing 10 = .ok (.aload_n 0, 1) := by decide +kernel
theorem dX7_addThing_11 : decode cX7_addThing 11 = .ok (.getfield 25, 3) := by decide +kernel
theorem dX7_addThing_14 : decode cX7_addThing 14 = .ok (.aload_n 0, 1) := by decide +kernel
theorem dX7_addThing_15 : decode cX7_addThing 15 = .ok (.getfield 63, 3) := by decide +kernel
theorem dX7_addThing_18 : decode cX7_addThing 18 = .ok (.aaload, 1) := by decide +kernel
theorem dX7_addThing_19 : decode cX7_addThing 19 = .ok (.astore 4, 2) := by decide +kernel
theorem dX7_addThing_21 : decode cX7_addThing 21 = .ok (.aload 4, 2) := by decide +kernel
theorem dX7_addThing_23 : decode cX7_addThing 23 = .ok (.iload_n 1, 1) := by decide +kernel
theorem dX7_addThing_24 : decode cX7_addThing 24 = .ok (.putfield 81, 3) := by decide +kernel
theorem dX7_addThing_27 : decode cX7_addThing 27 = .ok (.aload 4, 2) := by decide +kernel
theorem dX7_addThing_29 : decode cX7_addThing 29 = .ok (.iload_n 2, 1) := by decide +kernel
theorem dX7_addThing_30 : decode cX7_addThing 30 = .ok (.putfield 84, 3) := by decide +kernel
theorem dX7_addThing_33 : decode cX7_addThing 33 = .ok (.aload 4, 2) := by decide +kernel
theorem dX7_addThing_35 : decode cX7_addThing 35 = .ok (.iload_n 3, 1) := by decide +kernel
theorem dX7_addThing_36 : decode cX7_addThing 36 = .ok (.putfield 87, 3) := by decide +kernel
theorem dX7_addThing_39 : decode cX7_addThing 39 = .ok (.aload_n 0, 1) := by decide +kernel
theorem dX7_addThing_40 : decode cX7_addThing 40 = .ok (.dup, 1) := by decide +kernel
theorem dX7_addThing_41 : decode cX7_addThing 41 = .ok (.getfield 63, 3) := by decide +kernel
theorem dX7_addThing_44 : decode cX7_addThing 44 = .ok (.iconst 1, 1) := by decide +kernel
theorem dX7_addThing_45 : decode cX7_addThing 45 = .ok (.iadd, 1) := by decide +kernel
theorem dX7_addThing_46 : decode cX7_addThing 46 = .ok (.putfield 63, 3) := by decide +kernel
theorem dX7_addThing_49 : decode cX7_addThing 49 = .ok (.return_, 1) := by decide +kernel
theorem dX7_addWedding_0 : decode cX7_addWedding 0 = .ok (.aload_n 0, 1) := by decide +kernel
theorem dX7_addWedding_1 : decode cX7_addWedding 1 = .ok (.getfield 69, 3) := by decide +kernel
theorem dX7_addWedding_4 : decode cX7_addWedding 4 = .ok (.bipush 6, 2) := by decide +kernel
theorem dX7_addWedding_6 : decode cX7_addWedding 6 = .ok (.if_icmp .lt 4, 3) := by decide +kernel
theorem dX7_addWedding_9 : decode cX7_addWedding 9 = .ok (.return_, 1) := by decide +kernel
theorem dX7_addWedding_10 : decode cX7_addWedding 10 = .ok (.aload_n 0, 1) := by decide +kernel
theorem dX7_addWedding_11 : decode cX7_addWedding 11 = .ok (.getfield 39, 3) := by decide +kernel
theorem dX7_addWedding_14 : decode cX7_addWedding 14 = .ok (.aload_n 0, 1) := by decide +kernel
theorem dX7_addWedding_15 : decode cX7_addWedding 15 = .ok (.getfield 69, 3) := by decide +kernel
theorem dX7_addWedding_18 : decode cX7_addWedding 18 = .ok (.iload_n 1, 1) := by decide +kernel
theorem dX7_addWedding_19 : decode cX7_addWedding 19 = .ok (.iastore, 1) := by decide +kernel
theorem dX7_addWedding_20 : decode cX7_addWedding 20 = .ok (.aload_n 0, 1) := by decide +kernel
theorem dX7_addWedding_21 : decode cX7_addWedding 21 = .ok (.getfield 42, 3) := by decide +kernel
theorem dX7_addWedding_24 : decode cX7_addWedding 24 = .ok (.aload_n 0, 1) := by decide +kernel
theorem dX7_addWedding_25 : decode cX7_addWedding 25 = .ok (.getfield 69, 3) := by decide +kernel
theorem dX7_addWedding_28 : decode cX7_addWedding 28 = .ok (.iload_n 2, 1) := by decide +kernel
theorem dX7_addWedding_29 : decode cX7_addWedding 29 = .ok (.iastore, 1) := by decide +kernel
theorem dX7_addWedding_30 : decode cX7_addWedding 30 = .ok (.aload_n 0, 1) := by decide +kernel
theorem dX7_addWedding_31 : decode cX7_addWedding 31 = .ok (.getfield 45, 3) := by decide +kernel
theorem dX7_addWedding_34 : decode cX7_addWedding 34 = .ok (.aload_n 0, 1) := by decide +kernel
theorem dX7_addWedding_35 : decode cX7_addWedding 35 = .ok (.getfield 69, 3) := by decide +kernel
theorem dX7_addWedding_38 : decode cX7_addWedding 38 = .ok (.iload_n 3, 1) := by decide +kernel
theorem dX7_addWedding_39 : decode cX7_addWedding 39 = .ok (.iastore, 1) := by decide +kernel
theorem dX7_addWedding_40 : decode cX7_addWedding 40 = .ok (.aload_n 0, 1) := by decide +kernel
theorem dX7_addWedding_41 : decode cX7_addWedding 41 = .ok (.dup, 1) := by decide +kernel
theorem dX7_addWedding_42 : decode cX7_addWedding 42 = .ok (.getfield 69, 3) := by decide +kernel
theorem dX7_addWedding_45 : decode cX7_addWedding 45 = .ok (.iconst 1, 1) := by decide +kernel
theorem dX7_addWedding_46 : decode cX7_addWedding 46 = .ok (.iadd, 1) := by decide +kernel
theorem dX7_addWedding_47 : decode cX7_addWedding 47 = .ok (.putfield 69, 3) := by decide +kernel
theorem dX7_addWedding_50 : decode cX7_addWedding 50 = .ok (.return_, 1) := by decide +kernel
theorem dX7_addFilledPaper_0 : decode cX7_addFilledPaper 0 = .ok (.aload_n 0, 1) := by decide +kernel
theorem dX7_addFilledPaper_1 : decode cX7_addFilledPaper 1 = .ok (.getfield 66, 3) := by decide +kernel
theorem dX7_addFilledPaper_4 : decode cX7_addFilledPaper 4 = .ok (.bipush 12, 2) := by decide +kernel
theorem dX7_addFilledPaper_6 : decode cX7_addFilledPaper 6 = .ok (.if_icmp .lt 4, 3) := by decide +kernel
theorem dX7_addFilledPaper_9 : decode cX7_addFilledPaper 9 = .ok (.return_, 1) := by decide +kernel
theorem dX7_addFilledPaper_10 : decode cX7_addFilledPaper 10 = .ok (.iconst 0, 1) := by decide +kernel
theorem dX7_addFilledPaper_11 : decode cX7_addFilledPaper 11 = .ok (.istore_n 1, 1) := by decide +kernel
theorem dX7_addFilledPaper_12 : decode cX7_addFilledPaper 12 = .ok (.iload_n 1, 1) := by decide +kernel
theorem dX7_addFilledPaper_13 : decode cX7_addFilledPaper 13 = .ok (.aload_n 0, 1) := by decide +kernel
theorem dX7_addFilledPaper_14 : decode cX7_addFilledPaper 14 = .ok (.getfield 66, 3) := by decide +kernel
theorem dX7_addFilledPaper_17 : decode cX7_addFilledPaper 17 = .ok (.if_icmp .ge 38, 3) := by decide +kernel
theorem dX7_addFilledPaper_20 : decode cX7_addFilledPaper 20 = .ok (.aload_n 0, 1) := by decide +kernel
theorem dX7_addFilledPaper_21 : decode cX7_addFilledPaper 21 = .ok (.getfield 31, 3) := by decide +kernel
theorem dX7_addFilledPaper_24 : decode cX7_addFilledPaper 24 = .ok (.aload_n 0, 1) := by decide +kernel
theorem dX7_addFilledPaper_25 : decode cX7_addFilledPaper 25 = .ok (.getfield 35, 3) := by decide +kernel
theorem dX7_addFilledPaper_28 : decode cX7_addFilledPaper 28 = .ok (.iload_n 1, 1) := by decide +kernel
theorem dX7_addFilledPaper_29 : decode cX7_addFilledPaper 29 = .ok (.iaload, 1) := by decide +kernel
theorem dX7_addFilledPaper_30 : decode cX7_addFilledPaper 30 = .ok (.aaload, 1) := by decide +kernel
theorem dX7_addFilledPaper_31 : decode cX7_addFilledPaper 31 = .ok (.getfield 90, 3) := by decide +kernel
theorem dX7_addFilledPaper_34 : decode cX7_addFilledPaper 34 = .ok (.aload_n 0, 1) := by decide +kernel
theorem dX7_addFilledPaper_35 : decode cX7_addFilledPaper 35 = .ok (.getfield 31, 3) := by decide +kernel
theorem dX7_addFilledPaper_38 : decode cX7_addFilledPaper 38 = .ok (.aload_n 0, 1) := by decide +kernel
theorem dX7_addFilledPaper_39 : decode cX7_addFilledPaper 39 = .ok (.getfield 66, 3) := by decide +kernel
theorem dX7_addFilledPaper_42 : decode cX7_addFilledPaper 42 = .ok (.aaload, 1) := by decide +kernel
theorem dX7_addFilledPaper_43 : decode cX7_addFilledPaper 43 = .ok (.getfield 90, 3) := by decide +kernel
theorem dX7_addFilledPaper_46 : decode cX7_addFilledPaper 46 = .ok (.if_icmp .le 9, 3) := by decide +kernel
theorem dX7_addFilledPaper_49 : decode cX7_addFilledPaper 49 = .ok (.iinc 1 1, 3) := by decide +kernel
theorem dX7_addFilledPaper_52 : decode cX7_addFilledPaper 52 = .ok (.goto (-40), 3) := by decide +kernel
theorem dX7_addFilledPaper_55 : decode cX7_addFilledPaper 55 = .ok (.aload_n 0, 1) := by decide +kernel
theorem dX7_addFilledPaper_56 : decode cX7_addFilledPaper 56 = .ok (.getfield 66, 3) := by decide +kernel
theorem dX7_addFilledPaper_59 : decode cX7_addFilledPaper 59 = .ok (.istore_n 2, 1) := by decide +kernel
theorem dX7_addFilledPaper_60 : decode cX7_addFilledPaper 60 = .ok (.iload_n 2, 1) := by decide +kernel
theorem dX7_addFilledPaper_61 : decode cX7_addFilledPaper 61 = .ok (.iload_n 1, 1) := by decide +kernel
theorem dX7_addFilledPaper_62 : decode cX7_addFilledPaper 62 = .ok (.if_icmp .le 23, 3) := by decide +kernel
theorem dX7_addFilledPaper_65 : decode cX7_addFilledPaper 65 = .ok (.aload_n 0, 1) := by decide +kernel
theorem dX7_addFilledPaper_66 : decode cX7_addFilledPaper 66 = .ok (.getfield 35, 3) := by decide +kernel
theorem dX7_addFilledPaper_69 : decode cX7_addFilledPaper 69 = .ok (.iload_n 2, 1) := by decide +kernel
theorem dX7_addFilledPaper_70 : decode cX7_addFilledPaper 70 = .ok (.aload_n 0, 1) := by decide +kernel
theorem dX7_addFilledPaper_71 : decode cX7_addFilledPaper 71 = .ok (.getfield 35, 3) := by decide +kernel
theorem dX7_addFilledPaper_74 : decode cX7_addFilledPaper 74 = .ok (.iload_n 2, 1) := by decide +kernel
theorem dX7_addFilledPaper_75 : decode cX7_addFilledPaper 75 = .ok (.iconst 1, 1) := by decide +kernel
theorem dX7_addFilledPaper_76 : decode cX7_addFilledPaper 76 = .ok (.isub, 1) := by decide +kernel
theorem dX7_addFilledPaper_77 : decode cX7_addFilledPaper 77 = .ok (.iaload, 1) := by decide +kernel
theorem dX7_addFilledPaper_78 : decode cX7_addFilledPaper 78 = .ok (.iastore, 1) := by decide +kernel
theorem dX7_addFilledPaper_79 : decode cX7_addFilledPaper 79 = .ok (.iinc 2 (-1), 3) := by decide +kernel
theorem dX7_addFilledPaper_82 : decode cX7_addFilledPaper 82 = .ok (.goto (-22), 3) := by decide +kernel
theorem dX7_addFilledPaper_85 : decode cX7_addFilledPaper 85 = .ok (.aload_n 0, 1) := by decide +kernel
theorem dX7_addFilledPaper_86 : decode cX7_addFilledPaper 86 = .ok (.getfield 35, 3) := by decide +kernel
theorem dX7_addFilledPaper_89 : decode cX7_addFilledPaper 89 = .ok (.iload_n 1, 1) := by decide +kernel
theorem dX7_addFilledPaper_90 : decode cX7_addFilledPaper 90 = .ok (.aload_n 0, 1) := by decide +kernel
theorem dX7_addFilledPaper_91 : decode cX7_addFilledPaper 91 = .ok (.getfield 66, 3) := by decide +kernel
theorem dX7_addFilledPaper_94 : decode cX7_addFilledPaper 94 = .ok (.iastore, 1) := by decide +kernel
theorem dX7_addFilledPaper_95 : decode cX7_addFilledPaper 95 = .ok (.aload_n 0, 1) := by decide +kernel
theorem dX7_addFilledPaper_96 : decode cX7_addFilledPaper 96 = .ok (.dup, 1) := by decide +kernel
theorem dX7_addFilledPaper_97 : decode cX7_addFilledPaper 97 = .ok (.getfield 66, 3) := by decide +kernel
theorem dX7_addFilledPaper_100 : decode cX7_addFilledPaper 100 = .ok (.iconst 1, 1) := by decide +kernel
theorem dX7_addFilledPaper_101 : decode cX7_addFilledPaper 101 = .ok (.iadd, 1) := by decide +kernel
theorem dX7_addFilledPaper_102 : decode cX7_addFilledPaper 102 = .ok (.putfield 66, 3) := by decide +kernel
theorem dX7_addFilledPaper_105 : decode cX7_addFilledPaper 105 = .ok (.return_, 1) := by decide +kernel
theorem dX7_lostPapers_0 : decode cX7_lostPapers 0 = .ok (.iconst 0, 1) := by decide +kernel
theorem dX7_lostPapers_1 : decode cX7_lostPapers 1 = .ok (.istore_n 1, 1) := by decide +kernel
theorem dX7_lostPapers_2 : decode cX7_lostPapers 2 = .ok (.iconst 0, 1) := by decide +kernel
theorem dX7_lostPapers_3 : decode cX7_lostPapers 3 = .ok (.istore_n 2, 1) := by decide +kernel
theorem dX7_lostPapers_4 : decode cX7_lostPapers 4 = .ok (.iload_n 2, 1) := by decide +kernel
theorem dX7_lostPapers_5 : decode cX7_lostPapers 5 = .ok (.aload_n 0, 1) := by decide +kernel
theorem dX7_lostPapers_6 : decode cX7_lostPapers 6 = .ok (.getfield 66, 3) := by decide +kernel
theorem dX7_lostPapers_9 : decode cX7_lostPapers 9 = .ok (.if_icmp .ge 29, 3) := by decide +kernel
theorem dX7_lostPapers_12 : decode cX7_lostPapers 12 = .ok (.iload_n 1, 1) := by decide +kernel
theorem dX7_lostPapers_13 : decode cX7_lostPapers 13 = .ok (.aload_n 0, 1) := by decide +kernel
theorem dX7_lostPapers_14 : decode cX7_lostPapers 14 = .ok (.getfield 31, 3) := by decide +kernel
theorem dX7_lostPapers_17 : decode cX7_lostPapers 17 = .ok (.iload_n 2, 1) := by decide +kernel
theorem dX7_lostPapers_18 : decode cX7_lostPapers 18 = .ok (.aaload, 1) := by decide +kernel
theorem dX7_lostPapers_19 : decode cX7_lostPapers 19 = .ok (.invokevirtual 93, 3) := by decide +kernel
theorem dX7_lostPapers_22 : decode cX7_lostPapers 22 = .ok (.ifCond .eq 7, 3) := by decide +kernel
theorem dX7_lostPapers_25 : decode cX7_lostPapers 25 = .ok (.iconst 1, 1) := by decide +kernel
theorem dX7_lostPapers_26 : decode cX7_lostPapers 26 = .ok (.goto 4, 3) := by decide +kernel
theorem dX7_lostPapers_29 : decode cX7_lostPapers 29 = .ok (.iconst 0, 1) := by decide +kernel
theorem dX7_lostPapers_30 : decode cX7_lostPapers 30 = .ok (.iadd, 1) := by decide +kernel
theorem dX7_lostPapers_31 : decode cX7_lostPapers 31 = .ok (.istore_n 1, 1) := by decide +kernel
theorem dX7_lostPapers_32 : decode cX7_lostPapers 32 = .ok (.iinc 2 1, 3) := by decide +kernel
theorem dX7_lostPapers_35 : decode cX7_lostPapers 35 = .ok (.goto (-31), 3) := by decide +kernel
theorem dX7_lostPapers_38 : decode cX7_lostPapers 38 = .ok (.iload_n 1, 1) := by decide +kernel
theorem dX7_lostPapers_39 : decode cX7_lostPapers 39 = .ok (.ireturn, 1) := by decide +kernel
theorem dX7_deaths_0 : decode cX7_deaths 0 = .ok (.iconst 0, 1) := by decide +kernel
theorem dX7_deaths_1 : decode cX7_deaths 1 = .ok (.istore_n 1, 1) := by decide +kernel
theorem dX7_deaths_2 : decode cX7_deaths 2 = .ok (.iconst 0, 1) := by decide +kernel
theorem dX7_deaths_3 : decode cX7_deaths 3 = .ok (.istore_n 2, 1) := by decide +kernel
theorem dX7_deaths_4 : decode cX7_deaths 4 = .ok (.iload_n 2, 1) := by decide +kernel
theorem dX7_deaths_5 : decode cX7_deaths 5 = .ok (.aload_n 0, 1) := by decide +kernel
theorem dX7_deaths_6 : decode cX7_deaths 6 = .ok (.getfield 60, 3) := by decide +kernel
theorem dX7_deaths_9 : decode cX7_deaths 9 = .ok (.if_icmp .ge 29, 3) := by decide +kernel
theorem dX7_deaths_12 : decode cX7_deaths 12 = .ok (.iload_n 1, 1) := by decide +kernel
theorem dX7_deaths_13 : decode cX7_deaths 13 = .ok (.aload_n 0, 1) := by decide +kernel
theorem dX7_deaths_14 : decode cX7_deaths 14 = .ok (.getfield 19, 3) := by decide +kernel
theorem dX7_deaths_17 : decode cX7_deaths 17 = .ok (.iload_n 2, 1) := by decide +kernel
theorem dX7_deaths_18 : decode cX7_deaths 18 = .ok (.aaload, 1) := by decide +kernel
theorem dX7_deaths_19 : decode cX7_deaths 19 = .ok (.invokevirtual 97, 3) := by decide +kernel
theorem dX7_deaths_22 : decode cX7_deaths 22 = .ok (.ifCond .eq 7, 3) := by decide +kernel
theorem dX7_deaths_25 : decode cX7_deaths 25 = .ok (.iconst 1, 1) := by decide +kernel
theorem dX7_deaths_26 : decode cX7_deaths 26 = .ok (.goto 4, 3) := by decide +kernel
theorem dX7_deaths_29 : decode cX7_deaths 29 = .ok (.iconst 0, 1) := by decide +kernel
theorem dX7_deaths_30 : decode cX7_deaths 30 = .ok (.iadd, 1) := by decide +kernel
theorem dX7_deaths_31 : decode cX7_deaths 31 = .ok (.istore_n 1, 1) := by decide +kernel
theorem dX7_deaths_32 : decode cX7_deaths 32 = .ok (.iinc 2 1, 3) := by decide +kernel
theorem dX7_deaths_35 : decode cX7_deaths 35 = .ok (.goto (-31), 3) := by decide +kernel
theorem dX7_deaths_38 : decode cX7_deaths 38 = .ok (.iload_n 1, 1) := by decide +kernel
theorem dX7_deaths_39 : decode cX7_deaths 39 = .ok (.ireturn, 1) := by decide +kernel
theorem dX7_livingOn_0 : decode cX7_livingOn 0 = .ok (.iconst 0, 1) := by decide +kernel
theorem dX7_livingOn_1 : decode cX7_livingOn 1 = .ok (.istore_n 2, 1) := by decide +kernel
theorem dX7_livingOn_2 : decode cX7_livingOn 2 = .ok (.iconst 0, 1) := by decide +kernel
theorem dX7_livingOn_3 : decode cX7_livingOn 3 = .ok (.istore_n 3, 1) := by decide +kernel
theorem dX7_livingOn_4 : decode cX7_livingOn 4 = .ok (.iload_n 3, 1) := by decide +kernel
theorem dX7_livingOn_5 : decode cX7_livingOn 5 = .ok (.aload_n 0, 1) := by decide +kernel
theorem dX7_livingOn_6 : decode cX7_livingOn 6 = .ok (.getfield 60, 3) := by decide +kernel
theorem dX7_livingOn_9 : decode cX7_livingOn 9 = .ok (.if_icmp .ge 28, 3) := by decide +kernel
theorem dX7_livingOn_12 : decode cX7_livingOn 12 = .ok (.aload_n 0, 1) := by decide +kernel
theorem dX7_livingOn_13 : decode cX7_livingOn 13 = .ok (.getfield 19, 3) := by decide +kernel
theorem dX7_livingOn_16 : decode cX7_livingOn 16 = .ok (.iload_n 3, 1) := by decide +kernel
theorem dX7_livingOn_17 : decode cX7_livingOn 17 = .ok (.aaload, 1) := by decide +kernel
theorem dX7_livingOn_18 : decode cX7_livingOn 18 = .ok (.iload_n 1, 1) := by decide +kernel
theorem dX7_livingOn_19 : decode cX7_livingOn 19 = .ok (.invokevirtual 100, 3) := by decide +kernel
theorem dX7_livingOn_22 : decode cX7_livingOn 22 = .ok (.ifCond .eq 9, 3) := by decide +kernel
theorem dX7_livingOn_25 : decode cX7_livingOn 25 = .ok (.iload_n 2, 1) := by decide +kernel
theorem dX7_livingOn_26 : decode cX7_livingOn 26 = .ok (.iconst 1, 1) := by decide +kernel
theorem dX7_livingOn_27 : decode cX7_livingOn 27 = .ok (.iload_n 3, 1) := by decide +kernel
theorem dX7_livingOn_28 : decode cX7_livingOn 28 = .ok (.ishl, 1) := by decide +kernel
theorem dX7_livingOn_29 : decode cX7_livingOn 29 = .ok (.ior, 1) := by decide +kernel
theorem dX7_livingOn_30 : decode cX7_livingOn 30 = .ok (.istore_n 2, 1) := by decide +kernel
theorem dX7_livingOn_31 : decode cX7_livingOn 31 = .ok (.iinc 3 1, 3) := by decide +kernel
theorem dX7_livingOn_34 : decode cX7_livingOn 34 = .ok (.goto (-30), 3) := by decide +kernel
theorem dX7_livingOn_37 : decode cX7_livingOn 37 = .ok (.iload_n 2, 1) := by decide +kernel
theorem dX7_livingOn_38 : decode cX7_livingOn 38 = .ok (.ireturn, 1) := by decide +kernel
theorem dX7_childrenOf_0 : decode cX7_childrenOf 0 = .ok (.iconst 0, 1) := by decide +kernel
theorem dX7_childrenOf_1 : decode cX7_childrenOf 1 = .ok (.istore_n 2, 1) := by decide +kernel
theorem dX7_childrenOf_2 : decode cX7_childrenOf 2 = .ok (.iconst 0, 1) := by decide +kernel
theorem dX7_childrenOf_3 : decode cX7_childrenOf 3 = .ok (.istore_n 3, 1) := by decide +kernel
theorem dX7_childrenOf_4 : decode cX7_childrenOf 4 = .ok (.iload_n 3, 1) := by decide +kernel
theorem dX7_childrenOf_5 : decode cX7_childrenOf 5 = .ok (.aload_n 0, 1) := by decide +kernel
theorem dX7_childrenOf_6 : decode cX7_childrenOf 6 = .ok (.getfield 60, 3) := by decide +kernel
theorem dX7_childrenOf_9 : decode cX7_childrenOf 9 = .ok (.if_icmp .ge 27, 3) := by decide +kernel
theorem dX7_childrenOf_12 : decode cX7_childrenOf 12 = .ok (.iload_n 2, 1) := by decide +kernel
theorem dX7_childrenOf_13 : decode cX7_childrenOf 13 = .ok (.aload_n 0, 1) := by decide +kernel
theorem dX7_childrenOf_14 : decode cX7_childrenOf 14 = .ok (.getfield 19, 3) := by decide +kernel
theorem dX7_childrenOf_17 : decode cX7_childrenOf 17 = .ok (.iload_n 3, 1) := by decide +kernel
theorem dX7_childrenOf_18 : decode cX7_childrenOf 18 = .ok (.aaload, 1) := by decide +kernel
theorem dX7_childrenOf_19 : decode cX7_childrenOf 19 = .ok (.getfield 78, 3) := by decide +kernel
theorem dX7_childrenOf_22 : decode cX7_childrenOf 22 = .ok (.iload_n 1, 1) := by decide +kernel
theorem dX7_childrenOf_23 : decode cX7_childrenOf 23 = .ok (.ishr, 1) := by decide +kernel
theorem dX7_childrenOf_24 : decode cX7_childrenOf 24 = .ok (.iconst 1, 1) := by decide +kernel
theorem dX7_childrenOf_25 : decode cX7_childrenOf 25 = .ok (.iand, 1) := by decide +kernel
theorem dX7_childrenOf_26 : decode cX7_childrenOf 26 = .ok (.iload_n 3, 1) := by decide +kernel
theorem dX7_childrenOf_27 : decode cX7_childrenOf 27 = .ok (.ishl, 1) := by decide +kernel
theorem dX7_childrenOf_28 : decode cX7_childrenOf 28 = .ok (.ior, 1) := by decide +kernel
theorem dX7_childrenOf_29 : decode cX7_childrenOf 29 = .ok (.istore_n 2, 1) := by decide +kernel
theorem dX7_childrenOf_30 : decode cX7_childrenOf 30 = .ok (.iinc 3 1, 3) := by decide +kernel
theorem dX7_childrenOf_33 : decode cX7_childrenOf 33 = .ok (.goto (-29), 3) := by decide +kernel
theorem dX7_childrenOf_36 : decode cX7_childrenOf 36 = .ok (.iload_n 2, 1) := by decide +kernel
theorem dX7_childrenOf_37 : decode cX7_childrenOf 37 = .ok (.ireturn, 1) := by decide +kernel
theorem dX7_lastWedUpTo_0 : decode cX7_lastWedUpTo 0 = .ok (.iconst (-1), 1) := by decide +kernel
theorem dX7_lastWedUpTo_1 : decode cX7_lastWedUpTo 1 = .ok (.istore_n 3, 1) := by decide +kernel
theorem dX7_lastWedUpTo_2 : decode cX7_lastWedUpTo 2 = .ok (.iconst (-1), 1) := by decide +kernel
theorem dX7_lastWedUpTo_3 : decode cX7_lastWedUpTo 3 = .ok (.istore 4, 2) := by decide +kernel
theorem dX7_lastWedUpTo_5 : decode cX7_lastWedUpTo 5 = .ok (.iconst 0, 1) := by decide +kernel
theorem dX7_lastWedUpTo_6 : decode cX7_lastWedUpTo 6 = .ok (.istore 5, 2) := by decide +kernel
theorem dX7_lastWedUpTo_8 : decode cX7_lastWedUpTo 8 = .ok (.iload 5, 2) := by decide +kernel
theorem dX7_lastWedUpTo_10 : decode cX7_lastWedUpTo 10 = .ok (.aload_n 0, 1) := by decide +kernel
theorem dX7_lastWedUpTo_11 : decode cX7_lastWedUpTo 11 = .ok (.getfield 69, 3) := by decide +kernel
theorem dX7_lastWedUpTo_14 : decode cX7_lastWedUpTo 14 = .ok (.if_icmp .ge 104, 3) := by decide +kernel
theorem dX7_lastWedUpTo_17 : decode cX7_lastWedUpTo 17 = .ok (.aload_n 0, 1) := by decide +kernel
theorem dX7_lastWedUpTo_18 : decode cX7_lastWedUpTo 18 = .ok (.getfield 39, 3) := by decide +kernel
theorem dX7_lastWedUpTo_21 : decode cX7_lastWedUpTo 21 = .ok (.iload 5, 2) := by decide +kernel
theorem dX7_lastWedUpTo_23 : decode cX7_lastWedUpTo 23 = .ok (.iaload, 1) := by decide +kernel
theorem dX7_lastWedUpTo_24 : decode cX7_lastWedUpTo 24 = .ok (.iload_n 1, 1) := by decide +kernel
theorem dX7_lastWedUpTo_25 : decode cX7_lastWedUpTo 25 = .ok (.if_icmp .eq 14, 3) := by decide +kernel
theorem dX7_lastWedUpTo_28 : decode cX7_lastWedUpTo 28 = .ok (.aload_n 0, 1) := by decide +kernel
theorem dX7_lastWedUpTo_29 : decode cX7_lastWedUpTo 29 = .ok (.getfield 42, 3) := by decide +kernel
theorem dX7_lastWedUpTo_32 : decode cX7_lastWedUpTo 32 = .ok (.iload 5, 2) := by decide +kernel
theorem dX7_lastWedUpTo_34 : decode cX7_lastWedUpTo 34 = .ok (.iaload, 1) := by decide +kernel
theorem dX7_lastWedUpTo_35 : decode cX7_lastWedUpTo 35 = .ok (.iload_n 1, 1) := by decide +kernel
theorem dX7_lastWedUpTo_36 : decode cX7_lastWedUpTo 36 = .ok (.if_icmp .ne 7, 3) := by decide +kernel
theorem dX7_lastWedUpTo_39 : decode cX7_lastWedUpTo 39 = .ok (.iconst 1, 1) := by decide +kernel
theorem dX7_lastWedUpTo_40 : decode cX7_lastWedUpTo 40 = .ok (.goto 4, 3) := by decide +kernel
theorem dX7_lastWedUpTo_43 : decode cX7_lastWedUpTo 43 = .ok (.iconst 0, 1) := by decide +kernel
theorem dX7_lastWedUpTo_44 : decode cX7_lastWedUpTo 44 = .ok (.istore 6, 2) := by decide +kernel
theorem dX7_lastWedUpTo_46 : decode cX7_lastWedUpTo 46 = .ok (.iload 6, 2) := by decide +kernel
theorem dX7_lastWedUpTo_48 : decode cX7_lastWedUpTo 48 = .ok (.ifCond .eq 64, 3) := by decide +kernel
theorem dX7_lastWedUpTo_51 : decode cX7_lastWedUpTo 51 = .ok (.aload_n 0, 1) := by decide +kernel
theorem dX7_lastWedUpTo_52 : decode cX7_lastWedUpTo 52 = .ok (.getfield 45, 3) := by decide +kernel
theorem dX7_lastWedUpTo_55 : decode cX7_lastWedUpTo 55 = .ok (.iload 5, 2) := by decide +kernel
theorem dX7_lastWedUpTo_57 : decode cX7_lastWedUpTo 57 = .ok (.iaload, 1) := by decide +kernel
theorem dX7_lastWedUpTo_58 : decode cX7_lastWedUpTo 58 = .ok (.iload_n 2, 1) := by decide +kernel
theorem dX7_lastWedUpTo_59 : decode cX7_lastWedUpTo 59 = .ok (.if_icmp .gt 53, 3) := by decide +kernel
theorem dX7_lastWedUpTo_62 : decode cX7_lastWedUpTo 62 = .ok (.aload_n 0, 1) := by decide +kernel
theorem dX7_lastWedUpTo_63 : decode cX7_lastWedUpTo 63 = .ok (.getfield 45, 3) := by decide +kernel
theorem dX7_lastWedUpTo_66 : decode cX7_lastWedUpTo 66 = .ok (.iload 5, 2) := by decide +kernel
theorem dX7_lastWedUpTo_68 : decode cX7_lastWedUpTo 68 = .ok (.iaload, 1) := by decide +kernel
theorem dX7_lastWedUpTo_69 : decode cX7_lastWedUpTo 69 = .ok (.iload 4, 2) := by decide +kernel
theorem dX7_lastWedUpTo_71 : decode cX7_lastWedUpTo 71 = .ok (.if_icmp .lt 41, 3) := by decide +kernel
theorem dX7_lastWedUpTo_74 : decode cX7_lastWedUpTo 74 = .ok (.aload_n 0, 1) := by decide +kernel
theorem dX7_lastWedUpTo_75 : decode cX7_lastWedUpTo 75 = .ok (.getfield 45, 3) := by decide +kernel
theorem dX7_lastWedUpTo_78 : decode cX7_lastWedUpTo 78 = .ok (.iload 5, 2) := by decide +kernel
theorem dX7_lastWedUpTo_80 : decode cX7_lastWedUpTo 80 = .ok (.iaload, 1) := by decide +kernel
theorem dX7_lastWedUpTo_81 : decode cX7_lastWedUpTo 81 = .ok (.istore 4, 2) := by decide +kernel
theorem dX7_lastWedUpTo_83 : decode cX7_lastWedUpTo 83 = .ok (.aload_n 0, 1) := by decide +kernel
theorem dX7_lastWedUpTo_84 : decode cX7_lastWedUpTo 84 = .ok (.getfield 39, 3) := by decide +kernel
theorem dX7_lastWedUpTo_87 : decode cX7_lastWedUpTo 87 = .ok (.iload 5, 2) := by decide +kernel
theorem dX7_lastWedUpTo_89 : decode cX7_lastWedUpTo 89 = .ok (.iaload, 1) := by decide +kernel
theorem dX7_lastWedUpTo_90 : decode cX7_lastWedUpTo 90 = .ok (.iload_n 1, 1) := by decide +kernel
theorem dX7_lastWedUpTo_91 : decode cX7_lastWedUpTo 91 = .ok (.if_icmp .ne 13, 3) := by decide +kernel
theorem dX7_lastWedUpTo_94 : decode cX7_lastWedUpTo 94 = .ok (.aload_n 0, 1) := by decide +kernel
theorem dX7_lastWedUpTo_95 : decode cX7_lastWedUpTo 95 = .ok (.getfield 42, 3) := by decide +kernel
theorem dX7_lastWedUpTo_98 : decode cX7_lastWedUpTo 98 = .ok (.iload 5, 2) := by decide +kernel
theorem dX7_lastWedUpTo_100 : decode cX7_lastWedUpTo 100 = .ok (.iaload, 1) := by decide +kernel
theorem dX7_lastWedUpTo_101 : decode cX7_lastWedUpTo 101 = .ok (.goto 10, 3) := by decide +kernel
theorem dX7_lastWedUpTo_104 : decode cX7_lastWedUpTo 104 = .ok (.aload_n 0, 1) := by decide +kernel
theorem dX7_lastWedUpTo_105 : decode cX7_lastWedUpTo 105 = .ok (.getfield 39, 3) := by decide +kernel
theorem dX7_lastWedUpTo_108 : decode cX7_lastWedUpTo 108 = .ok (.iload 5, 2) := by decide +kernel
theorem dX7_lastWedUpTo_110 : decode cX7_lastWedUpTo 110 = .ok (.iaload, 1) := by decide +kernel
theorem dX7_lastWedUpTo_111 : decode cX7_lastWedUpTo 111 = .ok (.istore_n 3, 1) := by decide +kernel
theorem dX7_lastWedUpTo_112 : decode cX7_lastWedUpTo 112 = .ok (.iinc 5 1, 3) := by decide +kernel
theorem dX7_lastWedUpTo_115 : decode cX7_lastWedUpTo 115 = .ok (.goto (-107), 3) := by decide +kernel
theorem dX7_lastWedUpTo_118 : decode cX7_lastWedUpTo 118 = .ok (.iload_n 3, 1) := by decide +kernel
theorem dX7_lastWedUpTo_119 : decode cX7_lastWedUpTo 119 = .ok (.ireturn, 1) := by decide +kernel
theorem dX7_wasWedBetween_0 : decode cX7_wasWedBetween 0 = .ok (.iconst 0, 1) := by decide +kernel
theorem dX7_wasWedBetween_1 : decode cX7_wasWedBetween 1 = .ok (.istore 4, 2) := by decide +kernel
theorem dX7_wasWedBetween_3 : decode cX7_wasWedBetween 3 = .ok (.iload 4, 2) := by decide +kernel
theorem dX7_wasWedBetween_5 : decode cX7_wasWedBetween 5 = .ok (.aload_n 0, 1) := by decide +kernel
theorem dX7_wasWedBetween_6 : decode cX7_wasWedBetween 6 = .ok (.getfield 69, 3) := by decide +kernel
theorem dX7_wasWedBetween_9 : decode cX7_wasWedBetween 9 = .ok (.if_icmp .ge 67, 3) := by decide +kernel
theorem dX7_wasWedBetween_12 : decode cX7_wasWedBetween 12 = .ok (.aload_n 0, 1) := by decide +kernel
theorem dX7_wasWedBetween_13 : decode cX7_wasWedBetween 13 = .ok (.getfield 39, 3) := by decide +kernel
theorem dX7_wasWedBetween_16 : decode cX7_wasWedBetween 16 = .ok (.iload 4, 2) := by decide +kernel
theorem dX7_wasWedBetween_18 : decode cX7_wasWedBetween 18 = .ok (.iaload, 1) := by decide +kernel
theorem dX7_wasWedBetween_19 : decode cX7_wasWedBetween 19 = .ok (.iload_n 1, 1) := by decide +kernel
theorem dX7_wasWedBetween_20 : decode cX7_wasWedBetween 20 = .ok (.if_icmp .eq 14, 3) := by decide +kernel
theorem dX7_wasWedBetween_23 : decode cX7_wasWedBetween 23 = .ok (.aload_n 0, 1) := by decide +kernel
theorem dX7_wasWedBetween_24 : decode cX7_wasWedBetween 24 = .ok (.getfield 42, 3) := by decide +kernel
theorem dX7_wasWedBetween_27 : decode cX7_wasWedBetween 27 = .ok (.iload 4, 2) := by decide +kernel
theorem dX7_wasWedBetween_29 : decode cX7_wasWedBetween 29 = .ok (.iaload, 1) := by decide +kernel
theorem dX7_wasWedBetween_30 : decode cX7_wasWedBetween 30 = .ok (.iload_n 1, 1) := by decide +kernel
theorem dX7_wasWedBetween_31 : decode cX7_wasWedBetween 31 = .ok (.if_icmp .ne 7, 3) := by decide +kernel
theorem dX7_wasWedBetween_34 : decode cX7_wasWedBetween 34 = .ok (.iconst 1, 1) := by decide +kernel
theorem dX7_wasWedBetween_35 : decode cX7_wasWedBetween 35 = .ok (.goto 4, 3) := by decide +kernel
theorem dX7_wasWedBetween_38 : decode cX7_wasWedBetween 38 = .ok (.iconst 0, 1) := by decide +kernel
theorem dX7_wasWedBetween_39 : decode cX7_wasWedBetween 39 = .ok (.istore 5, 2) := by decide +kernel
theorem dX7_wasWedBetween_41 : decode cX7_wasWedBetween 41 = .ok (.iload 5, 2) := by decide +kernel
theorem dX7_wasWedBetween_43 : decode cX7_wasWedBetween 43 = .ok (.ifCond .eq 27, 3) := by decide +kernel
theorem dX7_wasWedBetween_46 : decode cX7_wasWedBetween 46 = .ok (.aload_n 0, 1) := by decide +kernel
theorem dX7_wasWedBetween_47 : decode cX7_wasWedBetween 47 = .ok (.getfield 45, 3) := by decide +kernel
theorem dX7_wasWedBetween_50 : decode cX7_wasWedBetween 50 = .ok (.iload 4, 2) := by decide +kernel
theorem dX7_wasWedBetween_52 : decode cX7_wasWedBetween 52 = .ok (.iaload, 1) := by decide +kernel
theorem dX7_wasWedBetween_53 : decode cX7_wasWedBetween 53 = .ok (.iload_n 2, 1) := by decide +kernel
theorem dX7_wasWedBetween_54 : decode cX7_wasWedBetween 54 = .ok (.if_icmp .le 16, 3) := by decide +kernel
theorem dX7_wasWedBetween_57 : decode cX7_wasWedBetween 57 = .ok (.aload_n 0, 1) := by decide +kernel
theorem dX7_wasWedBetween_58 : decode cX7_wasWedBetween 58 = .ok (.getfield 45, 3) := by decide +kernel
theorem dX7_wasWedBetween_61 : decode cX7_wasWedBetween 61 = .ok (.iload 4, 2) := by decide +kernel
theorem dX7_wasWedBetween_63 : decode cX7_wasWedBetween 63 = .ok (.iaload, 1) := by decide +kernel
theorem dX7_wasWedBetween_64 : decode cX7_wasWedBetween 64 = .ok (.iload_n 3, 1) := by decide +kernel
theorem dX7_wasWedBetween_65 : decode cX7_wasWedBetween 65 = .ok (.if_icmp .ge 5, 3) := by decide +kernel
theorem dX7_wasWedBetween_68 : decode cX7_wasWedBetween 68 = .ok (.iconst 1, 1) := by decide +kernel
theorem dX7_wasWedBetween_69 : decode cX7_wasWedBetween 69 = .ok (.ireturn, 1) := by decide +kernel
theorem dX7_wasWedBetween_70 : decode cX7_wasWedBetween 70 = .ok (.iinc 4 1, 3) := by decide +kernel
theorem dX7_wasWedBetween_73 : decode cX7_wasWedBetween 73 = .ok (.goto (-70), 3) := by decide +kernel
theorem dX7_wasWedBetween_76 : decode cX7_wasWedBetween 76 = .ok (.iconst 0, 1) := by decide +kernel
theorem dX7_wasWedBetween_77 : decode cX7_wasWedBetween 77 = .ok (.ireturn, 1) := by decide +kernel
theorem dX7_heirsOf_0 : decode cX7_heirsOf 0 = .ok (.aload_n 0, 1) := by decide +kernel
theorem dX7_heirsOf_1 : decode cX7_heirsOf 1 = .ok (.getfield 19, 3) := by decide +kernel
theorem dX7_heirsOf_4 : decode cX7_heirsOf 4 = .ok (.iload_n 1, 1) := by decide +kernel
theorem dX7_heirsOf_5 : decode cX7_heirsOf 5 = .ok (.aaload, 1) := by decide +kernel
theorem dX7_heirsOf_6 : decode cX7_heirsOf 6 = .ok (.getfield 75, 3) := by decide +kernel
theorem dX7_heirsOf_9 : decode cX7_heirsOf 9 = .ok (.istore_n 2, 1) := by decide +kernel
theorem dX7_heirsOf_10 : decode cX7_heirsOf 10 = .ok (.aload_n 0, 1) := by decide +kernel
theorem dX7_heirsOf_11 : decode cX7_heirsOf 11 = .ok (.iload_n 2, 1) := by decide +kernel
theorem dX7_heirsOf_12 : decode cX7_heirsOf 12 = .ok (.invokevirtual 104, 3) := by decide +kernel
theorem dX7_heirsOf_15 : decode cX7_heirsOf 15 = .ok (.istore_n 3, 1) := by decide +kernel
theorem dX7_heirsOf_16 : decode cX7_heirsOf 16 = .ok (.aload_n 0, 1) := by decide +kernel
theorem dX7_heirsOf_17 : decode cX7_heirsOf 17 = .ok (.iload_n 1, 1) := by decide +kernel
theorem dX7_heirsOf_18 : decode cX7_heirsOf 18 = .ok (.invokevirtual 108, 3) := by decide +kernel
theorem dX7_heirsOf_21 : decode cX7_heirsOf 21 = .ok (.iload_n 3, 1) := by decide +kernel
theorem dX7_heirsOf_22 : decode cX7_heirsOf 22 = .ok (.iand, 1) := by decide +kernel
theorem dX7_heirsOf_23 : decode cX7_heirsOf 23 = .ok (.istore 4, 2) := by decide +kernel
theorem dX7_heirsOf_25 : decode cX7_heirsOf 25 = .ok (.iload 4, 2) := by decide +kernel
theorem dX7_heirsOf_27 : decode cX7_heirsOf 27 = .ok (.ifCond .eq 6, 3) := by decide +kernel
theorem dX7_heirsOf_30 : decode cX7_heirsOf 30 = .ok (.iload 4, 2) := by decide +kernel
theorem dX7_heirsOf_32 : decode cX7_heirsOf 32 = .ok (.ireturn, 1) := by decide +kernel
theorem dX7_heirsOf_33 : decode cX7_heirsOf 33 = .ok (.aload_n 0, 1) := by decide +kernel
theorem dX7_heirsOf_34 : decode cX7_heirsOf 34 = .ok (.iload_n 1, 1) := by decide +kernel
theorem dX7_heirsOf_35 : decode cX7_heirsOf 35 = .ok (.iload_n 2, 1) := by decide +kernel
theorem dX7_heirsOf_36 : decode cX7_heirsOf 36 = .ok (.invokevirtual 111, 3) := by decide +kernel
theorem dX7_heirsOf_39 : decode cX7_heirsOf 39 = .ok (.istore 5, 2) := by decide +kernel
theorem dX7_heirsOf_41 : decode cX7_heirsOf 41 = .ok (.iload 5, 2) := by decide +kernel
theorem dX7_heirsOf_43 : decode cX7_heirsOf 43 = .ok (.iconst (-1), 1) := by decide +kernel
theorem dX7_heirsOf_44 : decode cX7_heirsOf 44 = .ok (.if_icmp .eq 17, 3) := by decide +kernel
theorem dX7_heirsOf_47 : decode cX7_heirsOf 47 = .ok (.iload_n 3, 1) := by decide +kernel
theorem dX7_heirsOf_48 : decode cX7_heirsOf 48 = .ok (.iload 5, 2) := by decide +kernel
theorem dX7_heirsOf_50 : decode cX7_heirsOf 50 = .ok (.ishr, 1) := by decide +kernel
theorem dX7_heirsOf_51 : decode cX7_heirsOf 51 = .ok (.iconst 1, 1) := by decide +kernel
theorem dX7_heirsOf_52 : decode cX7_heirsOf 52 = .ok (.iand, 1) := by decide +kernel
theorem dX7_heirsOf_53 : decode cX7_heirsOf 53 = .ok (.ifCond .eq 8, 3) := by decide +kernel
theorem dX7_heirsOf_56 : decode cX7_heirsOf 56 = .ok (.iconst 1, 1) := by decide +kernel
theorem dX7_heirsOf_57 : decode cX7_heirsOf 57 = .ok (.iload 5, 2) := by decide +kernel
theorem dX7_heirsOf_59 : decode cX7_heirsOf 59 = .ok (.ishl, 1) := by decide +kernel
theorem dX7_heirsOf_60 : decode cX7_heirsOf 60 = .ok (.ireturn, 1) := by decide +kernel
theorem dX7_heirsOf_61 : decode cX7_heirsOf 61 = .ok (.aload_n 0, 1) := by decide +kernel
theorem dX7_heirsOf_62 : decode cX7_heirsOf 62 = .ok (.getfield 19, 3) := by decide +kernel
theorem dX7_heirsOf_65 : decode cX7_heirsOf 65 = .ok (.iload_n 1, 1) := by decide +kernel
theorem dX7_heirsOf_66 : decode cX7_heirsOf 66 = .ok (.aaload, 1) := by decide +kernel
theorem dX7_heirsOf_67 : decode cX7_heirsOf 67 = .ok (.getfield 78, 3) := by decide +kernel
theorem dX7_heirsOf_70 : decode cX7_heirsOf 70 = .ok (.iload_n 3, 1) := by decide +kernel
theorem dX7_heirsOf_71 : decode cX7_heirsOf 71 = .ok (.iand, 1) := by decide +kernel
theorem dX7_heirsOf_72 : decode cX7_heirsOf 72 = .ok (.ireturn, 1) := by decide +kernel
theorem dX7_nextOfKin_0 : decode cX7_nextOfKin 0 = .ok (.iconst 0, 1) := by decide +kernel
theorem dX7_nextOfKin_1 : decode cX7_nextOfKin 1 = .ok (.istore_n 2, 1) := by decide +kernel
theorem dX7_nextOfKin_2 : decode cX7_nextOfKin 2 = .ok (.iconst 0, 1) := by decide +kernel
theorem dX7_nextOfKin_3 : decode cX7_nextOfKin 3 = .ok (.istore_n 3, 1) := by decide +kernel
theorem dX7_nextOfKin_4 : decode cX7_nextOfKin 4 = .ok (.iload_n 3, 1) := by decide +kernel
theorem dX7_nextOfKin_5 : decode cX7_nextOfKin 5 = .ok (.aload_n 0, 1) := by decide +kernel
theorem dX7_nextOfKin_6 : decode cX7_nextOfKin 6 = .ok (.getfield 60, 3) := by decide +kernel
theorem dX7_nextOfKin_9 : decode cX7_nextOfKin 9 = .ok (.if_icmp .ge 49, 3) := by decide +kernel
theorem dX7_nextOfKin_12 : decode cX7_nextOfKin 12 = .ok (.iload_n 1, 1) := by decide +kernel
theorem dX7_nextOfKin_13 : decode cX7_nextOfKin 13 = .ok (.iload_n 3, 1) := by decide +kernel
theorem dX7_nextOfKin_14 : decode cX7_nextOfKin 14 = .ok (.ishr, 1) := by decide +kernel
theorem dX7_nextOfKin_15 : decode cX7_nextOfKin 15 = .ok (.iconst 1, 1) := by decide +kernel
theorem dX7_nextOfKin_16 : decode cX7_nextOfKin 16 = .ok (.iand, 1) := by decide +kernel
theorem dX7_nextOfKin_17 : decode cX7_nextOfKin 17 = .ok (.ifCond .eq 15, 3) := by decide +kernel
theorem dX7_nextOfKin_20 : decode cX7_nextOfKin 20 = .ok (.iload_n 2, 1) := by decide +kernel
theorem dX7_nextOfKin_21 : decode cX7_nextOfKin 21 = .ok (.aload_n 0, 1) := by decide +kernel
theorem dX7_nextOfKin_22 : decode cX7_nextOfKin 22 = .ok (.getfield 19, 3) := by decide +kernel
theorem dX7_nextOfKin_25 : decode cX7_nextOfKin 25 = .ok (.iload_n 3, 1) := by decide +kernel
theorem dX7_nextOfKin_26 : decode cX7_nextOfKin 26 = .ok (.aaload, 1) := by decide +kernel
theorem dX7_nextOfKin_27 : decode cX7_nextOfKin 27 = .ok (.getfield 78, 3) := by decide +kernel
theorem dX7_nextOfKin_30 : decode cX7_nextOfKin 30 = .ok (.ior, 1) := by decide +kernel
theorem dX7_nextOfKin_31 : decode cX7_nextOfKin 31 = .ok (.istore_n 2, 1) := by decide +kernel
theorem dX7_nextOfKin_32 : decode cX7_nextOfKin 32 = .ok (.aload_n 0, 1) := by decide +kernel
theorem dX7_nextOfKin_33 : decode cX7_nextOfKin 33 = .ok (.getfield 19, 3) := by decide +kernel
theorem dX7_nextOfKin_36 : decode cX7_nextOfKin 36 = .ok (.iload_n 3, 1) := by decide +kernel
theorem dX7_nextOfKin_37 : decode cX7_nextOfKin 37 = .ok (.aaload, 1) := by decide +kernel
theorem dX7_nextOfKin_38 : decode cX7_nextOfKin 38 = .ok (.getfield 78, 3) := by decide +kernel
theorem dX7_nextOfKin_41 : decode cX7_nextOfKin 41 = .ok (.iload_n 1, 1) := by decide +kernel
theorem dX7_nextOfKin_42 : decode cX7_nextOfKin 42 = .ok (.iand, 1) := by decide +kernel
theorem dX7_nextOfKin_43 : decode cX7_nextOfKin 43 = .ok (.ifCond .eq 9, 3) := by decide +kernel
theorem dX7_nextOfKin_46 : decode cX7_nextOfKin 46 = .ok (.iload_n 2, 1) := by decide +kernel
theorem dX7_nextOfKin_47 : decode cX7_nextOfKin 47 = .ok (.iconst 1, 1) := by decide +kernel
theorem dX7_nextOfKin_48 : decode cX7_nextOfKin 48 = .ok (.iload_n 3, 1) := by decide +kernel
theorem dX7_nextOfKin_49 : decode cX7_nextOfKin 49 = .ok (.ishl, 1) := by decide +kernel
theorem dX7_nextOfKin_50 : decode cX7_nextOfKin 50 = .ok (.ior, 1) := by decide +kernel
theorem dX7_nextOfKin_51 : decode cX7_nextOfKin 51 = .ok (.istore_n 2, 1) := by decide +kernel
theorem dX7_nextOfKin_52 : decode cX7_nextOfKin 52 = .ok (.iinc 3 1, 3) := by decide +kernel
theorem dX7_nextOfKin_55 : decode cX7_nextOfKin 55 = .ok (.goto (-51), 3) := by decide +kernel
theorem dX7_nextOfKin_58 : decode cX7_nextOfKin 58 = .ok (.iload_n 2, 1) := by decide +kernel
theorem dX7_nextOfKin_59 : decode cX7_nextOfKin 59 = .ok (.ireturn, 1) := by decide +kernel
theorem dX7_deathBehind_0 : decode cX7_deathBehind 0 = .ok (.iconst (-1), 1) := by decide +kernel
theorem dX7_deathBehind_1 : decode cX7_deathBehind 1 = .ok (.istore_n 2, 1) := by decide +kernel
theorem dX7_deathBehind_2 : decode cX7_deathBehind 2 = .ok (.iconst 0, 1) := by decide +kernel
theorem dX7_deathBehind_3 : decode cX7_deathBehind 3 = .ok (.istore_n 3, 1) := by decide +kernel
theorem dX7_deathBehind_4 : decode cX7_deathBehind 4 = .ok (.iload_n 3, 1) := by decide +kernel
theorem dX7_deathBehind_5 : decode cX7_deathBehind 5 = .ok (.aload_n 0, 1) := by decide +kernel
theorem dX7_deathBehind_6 : decode cX7_deathBehind 6 = .ok (.getfield 60, 3) := by decide +kernel
theorem dX7_deathBehind_9 : decode cX7_deathBehind 9 = .ok (.if_icmp .ge 63, 3) := by decide +kernel
theorem dX7_deathBehind_12 : decode cX7_deathBehind 12 = .ok (.aload_n 0, 1) := by decide +kernel
theorem dX7_deathBehind_13 : decode cX7_deathBehind 13 = .ok (.getfield 19, 3) := by decide +kernel
theorem dX7_deathBehind_16 : decode cX7_deathBehind 16 = .ok (.iload_n 3, 1) := by decide +kernel
theorem dX7_deathBehind_17 : decode cX7_deathBehind 17 = .ok (.aaload, 1) := by decide +kernel
theorem dX7_deathBehind_18 : decode cX7_deathBehind 18 = .ok (.invokevirtual 97, 3) := by decide +kernel
theorem dX7_deathBehind_21 : decode cX7_deathBehind 21 = .ok (.ifCond .eq 21, 3) := by decide +kernel
theorem dX7_deathBehind_24 : decode cX7_deathBehind 24 = .ok (.iload_n 1, 1) := by decide +kernel
theorem dX7_deathBehind_25 : decode cX7_deathBehind 25 = .ok (.iconst (-1), 1) := by decide +kernel
theorem dX7_deathBehind_26 : decode cX7_deathBehind 26 = .ok (.if_icmp .eq 12, 3) := by decide +kernel
theorem dX7_deathBehind_29 : decode cX7_deathBehind 29 = .ok (.aload_n 0, 1) := by decide +kernel
theorem dX7_deathBehind_30 : decode cX7_deathBehind 30 = .ok (.iload_n 1, 1) := by decide +kernel
theorem dX7_deathBehind_31 : decode cX7_deathBehind 31 = .ok (.iload_n 3, 1) := by decide +kernel
theorem dX7_deathBehind_32 : decode cX7_deathBehind 32 = .ok (.invokevirtual 115, 3) := by decide +kernel
theorem dX7_deathBehind_35 : decode cX7_deathBehind 35 = .ok (.ifCond .eq 7, 3) := by decide +kernel
theorem dX7_deathBehind_38 : decode cX7_deathBehind 38 = .ok (.iconst 1, 1) := by decide +kernel
theorem dX7_deathBehind_39 : decode cX7_deathBehind 39 = .ok (.goto 4, 3) := by decide +kernel
theorem dX7_deathBehind_42 : decode cX7_deathBehind 42 = .ok (.iconst 0, 1) := by decide +kernel
theorem dX7_deathBehind_43 : decode cX7_deathBehind 43 = .ok (.istore 4, 2) := by decide +kernel
theorem dX7_deathBehind_45 : decode cX7_deathBehind 45 = .ok (.iload 4, 2) := by decide +kernel
theorem dX7_deathBehind_47 : decode cX7_deathBehind 47 = .ok (.ifCond .eq 19, 3) := by decide +kernel
theorem dX7_deathBehind_50 : decode cX7_deathBehind 50 = .ok (.iload_n 2, 1) := by decide +kernel
theorem dX7_deathBehind_51 : decode cX7_deathBehind 51 = .ok (.iconst (-1), 1) := by decide +kernel
theorem dX7_deathBehind_52 : decode cX7_deathBehind 52 = .ok (.if_icmp .eq 12, 3) := by decide +kernel
theorem dX7_deathBehind_55 : decode cX7_deathBehind 55 = .ok (.aload_n 0, 1) := by decide +kernel
theorem dX7_deathBehind_56 : decode cX7_deathBehind 56 = .ok (.iload_n 3, 1) := by decide +kernel
theorem dX7_deathBehind_57 : decode cX7_deathBehind 57 = .ok (.iload_n 2, 1) := by decide +kernel
theorem dX7_deathBehind_58 : decode cX7_deathBehind 58 = .ok (.invokevirtual 115, 3) := by decide +kernel
theorem dX7_deathBehind_61 : decode cX7_deathBehind 61 = .ok (.ifCond .eq 5, 3) := by decide +kernel
theorem dX7_deathBehind_64 : decode cX7_deathBehind 64 = .ok (.iload_n 3, 1) := by decide +kernel
theorem dX7_deathBehind_65 : decode cX7_deathBehind 65 = .ok (.istore_n 2, 1) := by decide +kernel
theorem dX7_deathBehind_66 : decode cX7_deathBehind 66 = .ok (.iinc 3 1, 3) := by decide +kernel
theorem dX7_deathBehind_69 : decode cX7_deathBehind 69 = .ok (.goto (-65), 3) := by decide +kernel
theorem dX7_deathBehind_72 : decode cX7_deathBehind 72 = .ok (.iload_n 2, 1) := by decide +kernel
theorem dX7_deathBehind_73 : decode cX7_deathBehind 73 = .ok (.ireturn, 1) := by decide +kernel
theorem dX7_diesAheadOf_0 : decode cX7_diesAheadOf 0 = .ok (.aload_n 0, 1) := by decide +kernel
theorem dX7_diesAheadOf_1 : decode cX7_diesAheadOf 1 = .ok (.getfield 19, 3) := by decide +kernel
theorem dX7_diesAheadOf_4 : decode cX7_diesAheadOf 4 = .ok (.iload_n 1, 1) := by decide +kernel
theorem dX7_diesAheadOf_5 : decode cX7_diesAheadOf 5 = .ok (.aaload, 1) := by decide +kernel
theorem dX7_diesAheadOf_6 : decode cX7_diesAheadOf 6 = .ok (.getfield 75, 3) := by decide +kernel
theorem dX7_diesAheadOf_9 : decode cX7_diesAheadOf 9 = .ok (.istore_n 3, 1) := by decide +kernel
theorem dX7_diesAheadOf_10 : decode cX7_diesAheadOf 10 = .ok (.aload_n 0, 1) := by decide +kernel
theorem dX7_diesAheadOf_11 : decode cX7_diesAheadOf 11 = .ok (.getfield 19, 3) := by decide +kernel
theorem dX7_diesAheadOf_14 : decode cX7_diesAheadOf 14 = .ok (.iload_n 2, 1) := by decide +kernel
theorem dX7_diesAheadOf_15 : decode cX7_diesAheadOf 15 = .ok (.aaload, 1) := by decide +kernel
theorem dX7_diesAheadOf_16 : decode cX7_diesAheadOf 16 = .ok (.getfield 75, 3) := by decide +kernel
theorem dX7_diesAheadOf_19 : decode cX7_diesAheadOf 19 = .ok (.istore 4, 2) := by decide +kernel
theorem dX7_diesAheadOf_21 : decode cX7_diesAheadOf 21 = .ok (.iload_n 3, 1) := by decide +kernel
theorem dX7_diesAheadOf_22 : decode cX7_diesAheadOf 22 = .ok (.iload 4, 2) := by decide +kernel
theorem dX7_diesAheadOf_24 : decode cX7_diesAheadOf 24 = .ok (.if_icmp .lt 14, 3) := by decide +kernel
theorem dX7_diesAheadOf_27 : decode cX7_diesAheadOf 27 = .ok (.iload_n 3, 1) := by decide +kernel
theorem dX7_diesAheadOf_28 : decode cX7_diesAheadOf 28 = .ok (.iload 4, 2) := by decide +kernel
theorem dX7_diesAheadOf_30 : decode cX7_diesAheadOf 30 = .ok (.if_icmp .ne 12, 3) := by decide +kernel
theorem dX7_diesAheadOf_33 : decode cX7_diesAheadOf 33 = .ok (.iload_n 1, 1) := by decide +kernel
theorem dX7_diesAheadOf_34 : decode cX7_diesAheadOf 34 = .ok (.iload_n 2, 1) := by decide +kernel
theorem dX7_diesAheadOf_35 : decode cX7_diesAheadOf 35 = .ok (.if_icmp .ge 7, 3) := by decide +kernel
theorem dX7_diesAheadOf_38 : decode cX7_diesAheadOf 38 = .ok (.iconst 1, 1) := by decide +kernel
theorem dX7_diesAheadOf_39 : decode cX7_diesAheadOf 39 = .ok (.goto 4, 3) := by decide +kernel
theorem dX7_diesAheadOf_42 : decode cX7_diesAheadOf 42 = .ok (.iconst 0, 1) := by decide +kernel
theorem dX7_diesAheadOf_43 : decode cX7_diesAheadOf 43 = .ok (.ireturn, 1) := by decide +kernel
theorem dX7_turnBehind_0 : decode cX7_turnBehind 0 = .ok (.sipush 10000, 3) := by decide +kernel
theorem dX7_turnBehind_3 : decode cX7_turnBehind 3 = .ok (.istore_n 3, 1) := by decide +kernel
theorem dX7_turnBehind_4 : decode cX7_turnBehind 4 = .ok (.iconst 0, 1) := by decide +kernel
theorem dX7_turnBehind_5 : decode cX7_turnBehind 5 = .ok (.istore 4, 2) := by decide +kernel
theorem dX7_turnBehind_7 : decode cX7_turnBehind 7 = .ok (.iload 4, 2) := by decide +kernel
theorem dX7_turnBehind_9 : decode cX7_turnBehind 9 = .ok (.aload_n 0, 1) := by decide +kernel
theorem dX7_turnBehind_10 : decode cX7_turnBehind 10 = .ok (.getfield 66, 3) := by decide +kernel
theorem dX7_turnBehind_13 : decode cX7_turnBehind 13 = .ok (.if_icmp .ge 25, 3) := by decide +kernel
theorem dX7_turnBehind_16 : decode cX7_turnBehind 16 = .ok (.iload_n 3, 1) := by decide +kernel
theorem dX7_turnBehind_17 : decode cX7_turnBehind 17 = .ok (.iload_n 1, 1) := by decide +kernel
theorem dX7_turnBehind_18 : decode cX7_turnBehind 18 = .ok (.aload_n 0, 1) := by decide +kernel
theorem dX7_turnBehind_19 : decode cX7_turnBehind 19 = .ok (.getfield 31, 3) := by decide +kernel
theorem dX7_turnBehind_22 : decode cX7_turnBehind 22 = .ok (.iload 4, 2) := by decide +kernel
theorem dX7_turnBehind_24 : decode cX7_turnBehind 24 = .ok (.aaload, 1) := by decide +kernel
theorem dX7_turnBehind_25 : decode cX7_turnBehind 25 = .ok (.getfield 90, 3) := by decide +kernel
theorem dX7_turnBehind_28 : decode cX7_turnBehind 28 = .ok (.invokestatic 119, 3) := by decide +kernel
theorem dX7_turnBehind_31 : decode cX7_turnBehind 31 = .ok (.istore_n 3, 1) := by decide +kernel
theorem dX7_turnBehind_32 : decode cX7_turnBehind 32 = .ok (.iinc 4 1, 3) := by decide +kernel
theorem dX7_turnBehind_35 : decode cX7_turnBehind 35 = .ok (.goto (-28), 3) := by decide +kernel
theorem dX7_turnBehind_38 : decode cX7_turnBehind 38 = .ok (.iconst 0, 1) := by decide +kernel
theorem dX7_turnBehind_39 : decode cX7_turnBehind 39 = .ok (.istore 4, 2) := by decide +kernel
theorem dX7_turnBehind_41 : decode cX7_turnBehind 41 = .ok (.iload 4, 2) := by decide +kernel
theorem dX7_turnBehind_43 : decode cX7_turnBehind 43 = .ok (.aload_n 0, 1) := by decide +kernel
theorem dX7_turnBehind_44 : decode cX7_turnBehind 44 = .ok (.getfield 69, 3) := by decide +kernel
theorem dX7_turnBehind_47 : decode cX7_turnBehind 47 = .ok (.if_icmp .ge 22, 3) := by decide +kernel
theorem dX7_turnBehind_50 : decode cX7_turnBehind 50 = .ok (.iload_n 3, 1) := by decide +kernel
theorem dX7_turnBehind_51 : decode cX7_turnBehind 51 = .ok (.iload_n 1, 1) := by decide +kernel
theorem dX7_turnBehind_52 : decode cX7_turnBehind 52 = .ok (.aload_n 0, 1) := by decide +kernel
theorem dX7_turnBehind_53 : decode cX7_turnBehind 53 = .ok (.getfield 45, 3) := by decide +kernel
theorem dX7_turnBehind_56 : decode cX7_turnBehind 56 = .ok (.iload 4, 2) := by decide +kernel
theorem dX7_turnBehind_58 : decode cX7_turnBehind 58 = .ok (.iaload, 1) := by decide +kernel
theorem dX7_turnBehind_59 : decode cX7_turnBehind 59 = .ok (.invokestatic 119, 3) := by decide +kernel
theorem dX7_turnBehind_62 : decode cX7_turnBehind 62 = .ok (.istore_n 3, 1) := by decide +kernel
theorem dX7_turnBehind_63 : decode cX7_turnBehind 63 = .ok (.iinc 4 1, 3) := by decide +kernel
theorem dX7_turnBehind_66 : decode cX7_turnBehind 66 = .ok (.goto (-25), 3) := by decide +kernel
theorem dX7_turnBehind_69 : decode cX7_turnBehind 69 = .ok (.iconst 0, 1) := by decide +kernel
theorem dX7_turnBehind_70 : decode cX7_turnBehind 70 = .ok (.istore 4, 2) := by decide +kernel
theorem dX7_turnBehind_72 : decode cX7_turnBehind 72 = .ok (.iload 4, 2) := by decide +kernel
theorem dX7_turnBehind_74 : decode cX7_turnBehind 74 = .ok (.aload_n 0, 1) := by decide +kernel
theorem dX7_turnBehind_75 : decode cX7_turnBehind 75 = .ok (.getfield 60, 3) := by decide +kernel
theorem dX7_turnBehind_78 : decode cX7_turnBehind 78 = .ok (.if_icmp .ge 44, 3) := by decide +kernel
theorem dX7_turnBehind_81 : decode cX7_turnBehind 81 = .ok (.iload 4, 2) := by decide +kernel
theorem dX7_turnBehind_83 : decode cX7_turnBehind 83 = .ok (.iload_n 2, 1) := by decide +kernel
theorem dX7_turnBehind_84 : decode cX7_turnBehind 84 = .ok (.if_icmp .eq 32, 3) := by decide +kernel
theorem dX7_turnBehind_87 : decode cX7_turnBehind 87 = .ok (.aload_n 0, 1) := by decide +kernel
theorem dX7_turnBehind_88 : decode cX7_turnBehind 88 = .ok (.getfield 19, 3) := by decide +kernel
theorem dX7_turnBehind_91 : decode cX7_turnBehind 91 = .ok (.iload 4, 2) := by decide +kernel
theorem dX7_turnBehind_93 : decode cX7_turnBehind 93 = .ok (.aaload, 1) := by decide +kernel
theorem dX7_turnBehind_94 : decode cX7_turnBehind 94 = .ok (.invokevirtual 97, 3) := by decide +kernel
theorem dX7_turnBehind_97 : decode cX7_turnBehind 97 = .ok (.ifCond .eq 19, 3) := by decide +kernel
theorem dX7_turnBehind_100 : decode cX7_turnBehind 100 = .ok (.iload_n 3, 1) := by decide +kernel
theorem dX7_turnBehind_101 : decode cX7_turnBehind 101 = .ok (.iload_n 1, 1) := by decide +kernel
theorem dX7_turnBehind_102 : decode cX7_turnBehind 102 = .ok (.aload_n 0, 1) := by decide +kernel
theorem dX7_turnBehind_103 : decode cX7_turnBehind 103 = .ok (.getfield 19, 3) := by decide +kernel
theorem dX7_turnBehind_106 : decode cX7_turnBehind 106 = .ok (.iload 4, 2) := by decide +kernel
theorem dX7_turnBehind_108 : decode cX7_turnBehind 108 = .ok (.aaload, 1) := by decide +kernel
theorem dX7_turnBehind_109 : decode cX7_turnBehind 109 = .ok (.getfield 75, 3) := by decide +kernel
theorem dX7_turnBehind_112 : decode cX7_turnBehind 112 = .ok (.invokestatic 119, 3) := by decide +kernel
theorem dX7_turnBehind_115 : decode cX7_turnBehind 115 = .ok (.istore_n 3, 1) := by decide +kernel
theorem dX7_turnBehind_116 : decode cX7_turnBehind 116 = .ok (.iinc 4 1, 3) := by decide +kernel
theorem dX7_turnBehind_119 : decode cX7_turnBehind 119 = .ok (.goto (-47), 3) := by decide +kernel
theorem dX7_turnBehind_122 : decode cX7_turnBehind 122 = .ok (.iload_n 3, 1) := by decide +kernel
theorem dX7_turnBehind_123 : decode cX7_turnBehind 123 = .ok (.ireturn, 1) := by decide +kernel
theorem dX7_nearer_0 : decode cX7_nearer 0 = .ok (.iload_n 2, 1) := by decide +kernel
theorem dX7_nearer_1 : decode cX7_nearer 1 = .ok (.iload_n 1, 1) := by decide +kernel
theorem dX7_nearer_2 : decode cX7_nearer 2 = .ok (.if_icmp .ge 7, 3) := by decide +kernel
theorem dX7_nearer_5 : decode cX7_nearer 5 = .ok (.iload_n 0, 1) := by decide +kernel
theorem dX7_nearer_6 : decode cX7_nearer 6 = .ok (.goto 14, 3) := by decide +kernel
theorem dX7_nearer_9 : decode cX7_nearer 9 = .ok (.iload_n 0, 1) := by decide +kernel
theorem dX7_nearer_10 : decode cX7_nearer 10 = .ok (.iload_n 2, 1) := by decide +kernel
theorem dX7_nearer_11 : decode cX7_nearer 11 = .ok (.iload_n 1, 1) := by decide +kernel
theorem dX7_nearer_12 : decode cX7_nearer 12 = .ok (.iconst 1, 1) := by decide +kernel
theorem dX7_nearer_13 : decode cX7_nearer 13 = .ok (.iadd, 1) := by decide +kernel
theorem dX7_nearer_14 : decode cX7_nearer 14 = .ok (.invokestatic 123, 3) := by decide +kernel
theorem dX7_nearer_17 : decode cX7_nearer 17 = .ok (.invokestatic 128, 3) := by decide +kernel
theorem dX7_nearer_20 : decode cX7_nearer 20 = .ok (.ireturn, 1) := by decide +kernel
theorem dX8_init_0 : decode cX8_init 0 = .ok (.aload_n 0, 1) := by decide +kernel
theorem dX8_init_1 : decode cX8_init 1 = .ok (.invokespecial 3, 3) := by decide +kernel
theorem dX8_init_4 : decode cX8_init 4 = .ok (.aload_n 0, 1) := by decide +kernel
theorem dX8_init_5 : decode cX8_init 5 = .ok (.bipush 10, 2) := by decide +kernel
theorem dX8_init_7 : decode cX8_init 7 = .ok (.newarray .int, 2) := by decide +kernel
theorem dX8_init_9 : decode cX8_init 9 = .ok (.putfield 9, 3) := by decide +kernel
theorem dX8_init_12 : decode cX8_init 12 = .ok (.aload_n 0, 1) := by decide +kernel
theorem dX8_init_13 : decode cX8_init 13 = .ok (.bipush 8, 2) := by decide +kernel
theorem dX8_init_15 : decode cX8_init 15 = .ok (.newarray .int, 2) := by decide +kernel
theorem dX8_init_17 : decode cX8_init 17 = .ok (.putfield 15, 3) := by decide +kernel
theorem dX8_init_20 : decode cX8_init 20 = .ok (.aload_n 0, 1) := by decide +kernel
theorem dX8_init_21 : decode cX8_init 21 = .ok (.bipush 12, 2) := by decide +kernel
theorem dX8_init_23 : decode cX8_init 23 = .ok (.newarray .int, 2) := by decide +kernel
theorem dX8_init_25 : decode cX8_init 25 = .ok (.putfield 18, 3) := by decide +kernel
theorem dX8_init_28 : decode cX8_init 28 = .ok (.aload_n 0, 1) := by decide +kernel
theorem dX8_init_29 : decode cX8_init 29 = .ok (.aload_n 1, 1) := by decide +kernel
theorem dX8_init_30 : decode cX8_init 30 = .ok (.putfield 21, 3) := by decide +kernel
theorem dX8_init_33 : decode cX8_init 33 = .ok (.aload_n 0, 1) := by decide +kernel
theorem dX8_init_34 : decode cX8_init 34 = .ok (.aload_n 2, 1) := by decide +kernel
theorem dX8_init_35 : decode cX8_init 35 = .ok (.putfield 25, 3) := by decide +kernel
theorem dX8_init_38 : decode cX8_init 38 = .ok (.return_, 1) := by decide +kernel
theorem dX8_readAll_0 : decode cX8_readAll 0 = .ok (.aload_n 0, 1) := by decide +kernel
theorem dX8_readAll_1 : decode cX8_readAll 1 = .ok (.getfield 25, 3) := by decide +kernel
theorem dX8_readAll_4 : decode cX8_readAll 4 = .ok (.invokevirtual 29, 3) := by decide +kernel
theorem dX8_readAll_7 : decode cX8_readAll 7 = .ok (.aload_n 0, 1) := by decide +kernel
theorem dX8_readAll_8 : decode cX8_readAll 8 = .ok (.iconst 0, 1) := by decide +kernel
theorem dX8_readAll_9 : decode cX8_readAll 9 = .ok (.putfield 34, 3) := by decide +kernel
theorem dX8_readAll_12 : decode cX8_readAll 12 = .ok (.aload_n 0, 1) := by decide +kernel
theorem dX8_readAll_13 : decode cX8_readAll 13 = .ok (.iconst 0, 1) := by decide +kernel
theorem dX8_readAll_14 : decode cX8_readAll 14 = .ok (.putfield 38, 3) := by decide +kernel
theorem dX8_readAll_17 : decode cX8_readAll 17 = .ok (.aload_n 0, 1) := by decide +kernel
theorem dX8_readAll_18 : decode cX8_readAll 18 = .ok (.iconst (-1), 1) := by decide +kernel
theorem dX8_readAll_19 : decode cX8_readAll 19 = .ok (.putfield 41, 3) := by decide +kernel
theorem dX8_readAll_22 : decode cX8_readAll 22 = .ok (.iconst 0, 1) := by decide +kernel
theorem dX8_readAll_23 : decode cX8_readAll 23 = .ok (.istore_n 1, 1) := by decide +kernel
theorem dX8_readAll_24 : decode cX8_readAll 24 = .ok (.iload_n 1, 1) := by decide +kernel
theorem dX8_readAll_25 : decode cX8_readAll 25 = .ok (.sipush 1200, 3) := by decide +kernel
theorem dX8_readAll_28 : decode cX8_readAll 28 = .ok (.if_icmp .gt 147, 3) := by decide +kernel
theorem dX8_readAll_31 : decode cX8_readAll 31 = .ok (.aload_n 0, 1) := by decide +kernel
theorem dX8_readAll_32 : decode cX8_readAll 32 = .ok (.getfield 38, 3) := by decide +kernel
theorem dX8_readAll_35 : decode cX8_readAll 35 = .ok (.ifCond .ne 140, 3) := by decide +kernel
theorem dX8_readAll_38 : decode cX8_readAll 38 = .ok (.aload_n 0, 1) := by decide +kernel
theorem dX8_readAll_39 : decode cX8_readAll 39 = .ok (.invokevirtual 44, 3) := by decide +kernel
theorem dX8_readAll_42 : decode cX8_readAll 42 = .ok (.getstatic 48, 3) := by decide +kernel
theorem dX8_readAll_45 : decode cX8_readAll 45 = .ok (.if_acmp .eq 130, 3) := by decide +kernel
theorem dX8_readAll_48 : decode cX8_readAll 48 = .ok (.getstatic 54, 3) := by decide +kernel
theorem dX8_readAll_51 : decode cX8_readAll 51 = .ok (.aload_n 0, 1) := by decide +kernel
theorem dX8_readAll_52 : decode cX8_readAll 52 = .ok (.invokevirtual 44, 3) := by decide +kernel
theorem dX8_readAll_55 : decode cX8_readAll 55 = .ok (.invokevirtual 59, 3) := by decide +kernel
theorem dX8_readAll_58 : decode cX8_readAll 58 = .ok (.iaload, 1) := by decide +kernel
theorem dX8_readAll_59 : decode cX8_readAll 59 = .ok (.tableswitch 101 1 8 #[45, 52, 59, 66, 73, 80, 87, 94], 45) := by decide +kernel
theorem dX8_readAll_104 : decode cX8_readAll 104 = .ok (.aload_n 0, 1) := by decide +kernel
theorem dX8_readAll_105 : decode cX8_readAll 105 = .ok (.invokevirtual 63, 3) := by decide +kernel
theorem dX8_readAll_108 : decode cX8_readAll 108 = .ok (.goto 57, 3) := by decide +kernel
theorem dX8_readAll_111 : decode cX8_readAll 111 = .ok (.aload_n 0, 1) := by decide +kernel
theorem dX8_readAll_112 : decode cX8_readAll 112 = .ok (.invokevirtual 66, 3) := by decide +kernel
theorem dX8_readAll_115 : decode cX8_readAll 115 = .ok (.goto 50, 3) := by decide +kernel
theorem dX8_readAll_118 : decode cX8_readAll 118 = .ok (.aload_n 0, 1) := by decide +kernel
theorem dX8_readAll_119 : decode cX8_readAll 119 = .ok (.invokevirtual 69, 3) := by decide +kernel
theorem dX8_readAll_122 : decode cX8_readAll 122 = .ok (.goto 43, 3) := by decide +kernel
theorem dX8_readAll_125 : decode cX8_readAll 125 = .ok (.aload_n 0, 1) := by decide +kernel
theorem dX8_readAll_126 : decode cX8_readAll 126 = .ok (.invokevirtual 72, 3) := by decide +kernel
theorem dX8_readAll_129 : decode cX8_readAll 129 = .ok (.goto 36, 3) := by decide +kernel
theorem dX8_readAll_132 : decode cX8_readAll 132 = .ok (.aload_n 0, 1) := by decide +kernel
theorem dX8_readAll_133 : decode cX8_readAll 133 = .ok (.invokevirtual 75, 3) := by decide +kernel
theorem dX8_readAll_136 : decode cX8_readAll 136 = .ok (.goto 29, 3) := by decide +kernel
theorem dX8_readAll_139 : decode cX8_readAll 139 = .ok (.aload_n 0, 1) := by decide +kernel
theorem dX8_readAll_140 : decode cX8_readAll 140 = .ok (.invokevirtual 78, 3) := by decide +kernel
theorem dX8_readAll_143 : decode cX8_readAll 143 = .ok (.goto 22, 3) := by decide +kernel
theorem dX8_readAll_146 : decode cX8_readAll 146 = .ok (.aload_n 0, 1) := by decide +kernel
theorem dX8_readAll_147 : decode cX8_readAll 147 = .ok (.invokevirtual 81, 3) := by decide +kernel
theorem dX8_readAll_150 : decode cX8_readAll 150 = .ok (.goto 15, 3) := by decide +kernel
theorem dX8_readAll_153 : decode cX8_readAll 153 = .ok (.aload_n 0, 1) := by decide +kernel
theorem dX8_readAll_154 : decode cX8_readAll 154 = .ok (.invokevirtual 84, 3) := by decide +kernel
theorem dX8_readAll_157 : decode cX8_readAll 157 = .ok (.goto 8, 3) := by decide +kernel
theorem dX8_readAll_160 : decode cX8_readAll 160 = .ok (.aload_n 0, 1) := by decide +kernel
theorem dX8_readAll_161 : decode cX8_readAll 161 = .ok (.iconst 1, 1) := by decide +kernel
theorem dX8_readAll_162 : decode cX8_readAll 162 = .ok (.invokevirtual 87, 3) := by decide +kernel
theorem dX8_readAll_165 : decode cX8_readAll 165 = .ok (.aload_n 0, 1) := by decide +kernel
theorem dX8_readAll_166 : decode cX8_readAll 166 = .ok (.invokevirtual 91, 3) := by decide +kernel
theorem dX8_readAll_169 : decode cX8_readAll 169 = .ok (.iinc 1 1, 3) := by decide +kernel
theorem dX8_readAll_172 : decode cX8_readAll 172 = .ok (.goto (-148), 3) := by decide +kernel
theorem dX8_readAll_175 : decode cX8_readAll 175 = .ok (.return_, 1) := by decide +kernel
theorem dX8_readLand_0 : decode cX8_readLand 0 = .ok (.aload_n 0, 1) := by decide +kernel
theorem dX8_readLand_1 : decode cX8_readLand 1 = .ok (.invokevirtual 94, 3) := by decide +kernel
theorem dX8_readLand_4 : decode cX8_readLand 4 = .ok (.aload_n 0, 1) := by decide +kernel
theorem dX8_readLand_5 : decode cX8_readLand 5 = .ok (.getfield 25, 3) := by decide +kernel
theorem dX8_readLand_8 : decode cX8_readLand 8 = .ok (.getfield 97, 3) := by decide +kernel
theorem dX8_readLand_11 : decode cX8_readLand 11 = .ok (.aload_n 0, 1) := by decide +kernel
theorem dX8_readLand_12 : decode cX8_readLand 12 = .ok (.iconst 0, 1) := by decide +kernel
theorem dX8_readLand_13 : decode cX8_readLand 13 = .ok (.iconst 1, 1) := by decide +kernel
theorem dX8_readLand_14 : decode cX8_readLand 14 = .ok (.invokevirtual 101, 3) := by decide +kernel
theorem dX8_readLand_17 : decode cX8_readLand 17 = .ok (.aaload, 1) := by decide +kernel
theorem dX8_readLand_18 : decode cX8_readLand 18 = .ok (.astore_n 1, 1) := by decide +kernel
theorem dX8_readLand_19 : decode cX8_readLand 19 = .ok (.aload_n 1, 1) := by decide +kernel
theorem dX8_readLand_20 : decode cX8_readLand 20 = .ok (.getfield 105, 3) := by decide +kernel
theorem dX8_readLand_23 : decode cX8_readLand 23 = .ok (.ifCond .eq 7, 3) := by decide +kernel
theorem dX8_readLand_26 : decode cX8_readLand 26 = .ok (.aload_n 0, 1) := by decide +kernel
theorem dX8_readLand_27 : decode cX8_readLand 27 = .ok (.invokevirtual 111, 3) := by decide +kernel
theorem dX8_readLand_30 : decode cX8_readLand 30 = .ok (.aload_n 1, 1) := by decide +kernel
theorem dX8_readLand_31 : decode cX8_readLand 31 = .ok (.iconst 1, 1) := by decide +kernel
theorem dX8_readLand_32 : decode cX8_readLand 32 = .ok (.putfield 105, 3) := by decide +kernel
theorem dX8_readLand_35 : decode cX8_readLand 35 = .ok (.aload_n 1, 1) := by decide +kernel
theorem dX8_readLand_36 : decode cX8_readLand 36 = .ok (.aload_n 0, 1) := by decide +kernel
theorem dX8_readLand_37 : decode cX8_readLand 37 = .ok (.iconst 0, 1) := by decide +kernel
theorem dX8_readLand_38 : decode cX8_readLand 38 = .ok (.iconst 4, 1) := by decide +kernel
theorem dX8_readLand_39 : decode cX8_readLand 39 = .ok (.invokevirtual 101, 3) := by decide +kernel
theorem dX8_readLand_42 : decode cX8_readLand 42 = .ok (.putfield 114, 3) := by decide +kernel
theorem dX8_readLand_45 : decode cX8_readLand 45 = .ok (.iconst 0, 1) := by decide +kernel
theorem dX8_readLand_46 : decode cX8_readLand 46 = .ok (.istore_n 2, 1) := by decide +kernel
theorem dX8_readLand_47 : decode cX8_readLand 47 = .ok (.iload_n 2, 1) := by decide +kernel
theorem dX8_readLand_48 : decode cX8_readLand 48 = .ok (.sipush 1200, 3) := by decide +kernel
theorem dX8_readLand_51 : decode cX8_readLand 51 = .ok (.if_icmp .gt 31, 3) := by decide +kernel
theorem dX8_readLand_54 : decode cX8_readLand 54 = .ok (.aload_n 0, 1) := by decide +kernel
theorem dX8_readLand_55 : decode cX8_readLand 55 = .ok (.getfield 38, 3) := by decide +kernel
theorem dX8_readLand_58 : decode cX8_readLand 58 = .ok (.ifCond .ne 24, 3) := by decide +kernel
theorem dX8_readLand_61 : decode cX8_readLand 61 = .ok (.aload_n 0, 1) := by decide +kernel
theorem dX8_readLand_62 : decode cX8_readLand 62 = .ok (.invokevirtual 44, 3) := by decide +kernel
theorem dX8_readLand_65 : decode cX8_readLand 65 = .ok (.getstatic 117, 3) := by decide +kernel
theorem dX8_readLand_68 : decode cX8_readLand 68 = .ok (.if_acmp .eq 14, 3) := by decide +kernel
theorem dX8_readLand_71 : decode cX8_readLand 71 = .ok (.aload_n 0, 1) := by decide +kernel
theorem dX8_readLand_72 : decode cX8_readLand 72 = .ok (.aload_n 1, 1) := by decide +kernel
theorem dX8_readLand_73 : decode cX8_readLand 73 = .ok (.invokevirtual 120, 3) := by decide +kernel
theorem dX8_readLand_76 : decode cX8_readLand 76 = .ok (.iinc 2 1, 3) := by decide +kernel
theorem dX8_readLand_79 : decode cX8_readLand 79 = .ok (.goto (-32), 3) := by decide +kernel
theorem dX8_readLand_82 : decode cX8_readLand 82 = .ok (.return_, 1) := by decide +kernel
theorem dX8_readRight_0 : decode cX8_readRight 0 = .ok (.getstatic 54, 3) := by decide +kernel
theorem dX8_readRight_3 : decode cX8_readRight 3 = .ok (.aload_n 0, 1) := by decide +kernel
theorem dX8_readRight_4 : decode cX8_readRight 4 = .ok (.invokevirtual 44, 3) := by decide +kernel
theorem dX8_readRight_7 : decode cX8_readRight 7 = .ok (.invokevirtual 59, 3) := by decide +kernel
theorem dX8_readRight_10 : decode cX8_readRight 10 = .ok (.iaload, 1) := by decide +kernel
theorem dX8_readRight_11 : decode cX8_readRight 11 = .ok (.tableswitch 109 4 11 #[61, 109, 109, 109, 109, 45, 77, 93], 45) := by decide +kernel
theorem dX8_readRight_56 : decode cX8_readRight 56 = .ok (.aload_n 0, 1) := by decide +kernel
theorem dX8_readRight_57 : decode cX8_readRight 57 = .ok (.aload_n 1, 1) := by decide +kernel
theorem dX8_readRight_58 : decode cX8_readRight 58 = .ok (.getfield 124, 3) := by decide +kernel
theorem dX8_readRight_61 : decode cX8_readRight 61 = .ok (.invokevirtual 127, 3) := by decide +kernel
theorem dX8_readRight_64 : decode cX8_readRight 64 = .ok (.aload_n 1, 1) := by decide +kernel
theorem dX8_readRight_65 : decode cX8_readRight 65 = .ok (.iconst 1, 1) := by decide +kernel
theorem dX8_readRight_66 : decode cX8_readRight 66 = .ok (.putfield 124, 3) := by decide +kernel
theorem dX8_readRight_69 : decode cX8_readRight 69 = .ok (.goto 56, 3) := by decide +kernel
theorem dX8_readRight_72 : decode cX8_readRight 72 = .ok (.aload_n 0, 1) := by decide +kernel
theorem dX8_readRight_73 : decode cX8_readRight 73 = .ok (.aload_n 1, 1) := by decide +kernel
theorem dX8_readRight_74 : decode cX8_readRight 74 = .ok (.getfield 131, 3) := by decide +kernel
theorem dX8_readRight_77 : decode cX8_readRight 77 = .ok (.invokevirtual 127, 3) := by decide +kernel
theorem dX8_readRight_80 : decode cX8_readRight 80 = .ok (.aload_n 1, 1) := by decide +kernel
theorem dX8_readRight_81 : decode cX8_readRight 81 = .ok (.iconst 1, 1) := by decide +kernel
theorem dX8_readRight_82 : decode cX8_readRight 82 = .ok (.putfield 131, 3) := by decide +kernel
theorem dX8_readRight_85 : decode cX8_readRight 85 = .ok (.goto 40, 3) := by decide +kernel
theorem dX8_readRight_88 : decode cX8_readRight 88 = .ok (.aload_n 0, 1) := by decide +kernel
theorem dX8_readRight_89 : decode cX8_readRight 89 = .ok (.aload_n 1, 1) := by decide +kernel
theorem dX8_readRight_90 : decode cX8_readRight 90 = .ok (.getfield 134, 3) := by decide +kernel
theorem dX8_readRight_93 : decode cX8_readRight 93 = .ok (.invokevirtual 127, 3) := by decide +kernel
theorem dX8_readRight_96 : decode cX8_readRight 96 = .ok (.aload_n 1, 1) := by decide +kernel
theorem dX8_readRight_97 : decode cX8_readRight 97 = .ok (.iconst 1, 1) := by decide +kernel
theorem dX8_readRight_98 : decode cX8_readRight 98 = .ok (.putfield 134, 3) := by decide +kernel
theorem dX8_readRight_101 : decode cX8_readRight 101 = .ok (.goto 24, 3) := by decide +kernel
theorem dX8_readRight_104 : decode cX8_readRight 104 = .ok (.aload_n 0, 1) := by decide +kernel
theorem dX8_readRight_105 : decode cX8_readRight 105 = .ok (.aload_n 1, 1) := by decide +kernel
theorem dX8_readRight_106 : decode cX8_readRight 106 = .ok (.getfield 137, 3) := by decide +kernel
theorem dX8_readRight_109 : decode cX8_readRight 109 = .ok (.invokevirtual 127, 3) := by decide +kernel
theorem dX8_readRight_112 : decode cX8_readRight 112 = .ok (.aload_n 1, 1) := by decide +kernel
theorem dX8_readRight_113 : decode cX8_readRight 113 = .ok (.iconst 1, 1) := by decide +kernel
theorem dX8_readRight_114 : decode cX8_readRight 114 = .ok (.putfield 137, 3) := by decide +kernel
theorem dX8_readRight_117 : decode cX8_readRight 117 = .ok (.goto 8, 3) := by decide +kernel
theorem dX8_readRight_120 : decode cX8_readRight 120 = .ok (.aload_n 0, 1) := by decide +kernel
theorem dX8_readRight_121 : decode cX8_readRight 121 = .ok (.iconst 1, 1) := by decide +kernel
theorem dX8_readRight_122 : decode cX8_readRight 122 = .ok (.invokevirtual 87, 3) := by decide +kernel
theorem dX8_readRight_125 : decode cX8_readRight 125 = .ok (.return_, 1) := by decide +kernel
theorem dX8_readPerson_0 : decode cX8_readPerson 0 = .ok (.aload_n 0, 1) := by decide +kernel
theorem dX8_readPerson_1 : decode cX8_readPerson 1 = .ok (.aload_n 0, 1) := by decide +kernel
theorem dX8_readPerson_2 : decode cX8_readPerson 2 = .ok (.getfield 25, 3) := by decide +kernel
theorem dX8_readPerson_5 : decode cX8_readPerson 5 = .ok (.getfield 140, 3) := by decide +kernel
theorem dX8_readPerson_8 : decode cX8_readPerson 8 = .ok (.bipush 10, 2) := by decide +kernel
theorem dX8_readPerson_10 : decode cX8_readPerson 10 = .ok (.invokevirtual 143, 3) := by decide +kernel
theorem dX8_readPerson_13 : decode cX8_readPerson 13 = .ok (.aload_n 0, 1) := by decide +kernel
theorem dX8_readPerson_14 : decode cX8_readPerson 14 = .ok (.aload_n 0, 1) := by decide +kernel
theorem dX8_readPerson_15 : decode cX8_readPerson 15 = .ok (.getfield 9, 3) := by decide +kernel
theorem dX8_readPerson_18 : decode cX8_readPerson 18 = .ok (.aload_n 0, 1) := by decide +kernel
theorem dX8_readPerson_19 : decode cX8_readPerson 19 = .ok (.getfield 25, 3) := by decide +kernel
theorem dX8_readPerson_22 : decode cX8_readPerson 22 = .ok (.getfield 140, 3) := by decide +kernel
theorem dX8_readPerson_25 : decode cX8_readPerson 25 = .ok (.invokevirtual 147, 3) := by decide +kernel
theorem dX8_readPerson_28 : decode cX8_readPerson 28 = .ok (.aload_n 0, 1) := by decide +kernel
theorem dX8_readPerson_29 : decode cX8_readPerson 29 = .ok (.iconst 0, 1) := by decide +kernel
theorem dX8_readPerson_30 : decode cX8_readPerson 30 = .ok (.iconst 1, 1) := by decide +kernel
theorem dX8_readPerson_31 : decode cX8_readPerson 31 = .ok (.invokevirtual 101, 3) := by decide +kernel
theorem dX8_readPerson_34 : decode cX8_readPerson 34 = .ok (.istore_n 1, 1) := by decide +kernel
theorem dX8_readPerson_35 : decode cX8_readPerson 35 = .ok (.aload_n 0, 1) := by decide +kernel
theorem dX8_readPerson_36 : decode cX8_readPerson 36 = .ok (.getfield 38, 3) := by decide +kernel
theorem dX8_readPerson_39 : decode cX8_readPerson 39 = .ok (.ifCond .ne 11, 3) := by decide +kernel
theorem dX8_readPerson_42 : decode cX8_readPerson 42 = .ok (.aload_n 0, 1) := by decide +kernel
theorem dX8_readPerson_43 : decode cX8_readPerson 43 = .ok (.getfield 25, 3) := by decide +kernel
theorem dX8_readPerson_46 : decode cX8_readPerson 46 = .ok (.iload_n 1, 1) := by decide +kernel
theorem dX8_readPerson_47 : decode cX8_readPerson 47 = .ok (.invokevirtual 151, 3) := by decide +kernel
theorem dX8_readPerson_50 : decode cX8_readPerson 50 = .ok (.return_, 1) := by decide +kernel
theorem dX8_readChild_0 : decode cX8_readChild 0 = .ok (.aload_n 0, 1) := by decide +kernel
theorem dX8_readChild_1 : decode cX8_readChild 1 = .ok (.invokevirtual 94, 3) := by decide +kernel
theorem dX8_readChild_4 : decode cX8_readChild 4 = .ok (.aload_n 0, 1) := by decide +kernel
theorem dX8_readChild_5 : decode cX8_readChild 5 = .ok (.invokevirtual 154, 3) := by decide +kernel
theorem dX8_readChild_8 : decode cX8_readChild 8 = .ok (.istore_n 1, 1) := by decide +kernel
theorem dX8_readChild_9 : decode cX8_readChild 9 = .ok (.aload_n 0, 1) := by decide +kernel
theorem dX8_readChild_10 : decode cX8_readChild 10 = .ok (.invokevirtual 154, 3) := by decide +kernel
theorem dX8_readChild_13 : decode cX8_readChild 13 = .ok (.istore_n 2, 1) := by decide +kernel
theorem dX8_readChild_14 : decode cX8_readChild 14 = .ok (.aload_n 0, 1) := by decide +kernel
theorem dX8_readChild_15 : decode cX8_readChild 15 = .ok (.getfield 25, 3) := by decide +kernel
theorem dX8_readChild_18 : decode cX8_readChild 18 = .ok (.getfield 157, 3) := by decide +kernel
theorem dX8_readChild_21 : decode cX8_readChild 21 = .ok (.iload_n 1, 1) := by decide +kernel
theorem dX8_readChild_22 : decode cX8_readChild 22 = .ok (.aaload, 1) := by decide +kernel
theorem dX8_readChild_23 : decode cX8_readChild 23 = .ok (.astore_n 3, 1) := by decide +kernel
theorem dX8_readChild_24 : decode cX8_readChild 24 = .ok (.aload_n 3, 1) := by decide +kernel
theorem dX8_readChild_25 : decode cX8_readChild 25 = .ok (.getfield 161, 3) := by decide +kernel
theorem dX8_readChild_28 : decode cX8_readChild 28 = .ok (.iload_n 2, 1) := by decide +kernel
theorem dX8_readChild_29 : decode cX8_readChild 29 = .ok (.ishr, 1) := by decide +kernel
theorem dX8_readChild_30 : decode cX8_readChild 30 = .ok (.iconst 1, 1) := by decide +kernel
theorem dX8_readChild_31 : decode cX8_readChild 31 = .ok (.iand, 1) := by decide +kernel
theorem dX8_readChild_32 : decode cX8_readChild 32 = .ok (.ifCond .eq 7, 3) := by decide +kernel
theorem dX8_readChild_35 : decode cX8_readChild 35 = .ok (.iconst 1, 1) := by decide +kernel
theorem dX8_readChild_36 : decode cX8_readChild 36 = .ok (.goto 4, 3) := by decide +kernel
theorem dX8_readChild_39 : decode cX8_readChild 39 = .ok (.iconst 0, 1) := by decide +kernel
theorem dX8_readChild_40 : decode cX8_readChild 40 = .ok (.istore 4, 2) := by decide +kernel
theorem dX8_readChild_42 : decode cX8_readChild 42 = .ok (.iload_n 1, 1) := by decide +kernel
theorem dX8_readChild_43 : decode cX8_readChild 43 = .ok (.iload_n 2, 1) := by decide +kernel
theorem dX8_readChild_44 : decode cX8_readChild 44 = .ok (.if_icmp .le 19, 3) := by decide +kernel
theorem dX8_readChild_47 : decode cX8_readChild 47 = .ok (.iload 4, 2) := by decide +kernel
theorem dX8_readChild_49 : decode cX8_readChild 49 = .ok (.ifCond .ne 14, 3) := by decide +kernel
theorem dX8_readChild_52 : decode cX8_readChild 52 = .ok (.aload_n 3, 1) := by decide +kernel
theorem dX8_readChild_53 : decode cX8_readChild 53 = .ok (.getfield 161, 3) := by decide +kernel
theorem dX8_readChild_56 : decode cX8_readChild 56 = .ok (.invokestatic 166, 3) := by decide +kernel
theorem dX8_readChild_59 : decode cX8_readChild 59 = .ok (.iconst 2, 1) := by decide +kernel
theorem dX8_readChild_60 : decode cX8_readChild 60 = .ok (.if_icmp .lt 7, 3) := by decide +kernel
theorem dX8_readChild_63 : decode cX8_readChild 63 = .ok (.aload_n 0, 1) := by decide +kernel
theorem dX8_readChild_64 : decode cX8_readChild 64 = .ok (.invokevirtual 111, 3) := by decide +kernel
theorem dX8_readChild_67 : decode cX8_readChild 67 = .ok (.aload_n 0, 1) := by decide +kernel
theorem dX8_readChild_68 : decode cX8_readChild 68 = .ok (.getfield 38, 3) := by decide +kernel
theorem dX8_readChild_71 : decode cX8_readChild 71 = .ok (.ifCond .ne 15, 3) := by decide +kernel
theorem dX8_readChild_74 : decode cX8_readChild 74 = .ok (.aload_n 3, 1) := by decide +kernel
theorem dX8_readChild_75 : decode cX8_readChild 75 = .ok (.dup, 1) := by decide +kernel
theorem dX8_readChild_76 : decode cX8_readChild 76 = .ok (.getfield 161, 3) := by decide +kernel
theorem dX8_readChild_79 : decode cX8_readChild 79 = .ok (.iconst 1, 1) := by decide +kernel
theorem dX8_readChild_80 : decode cX8_readChild 80 = .ok (.iload_n 2, 1) := by decide +kernel
theorem dX8_readChild_81 : decode cX8_readChild 81 = .ok (.ishl, 1) := by decide +kernel
theorem dX8_readChild_82 : decode cX8_readChild 82 = .ok (.ior, 1) := by decide +kernel
theorem dX8_readChild_83 : decode cX8_readChild 83 = .ok (.putfield 161, 3) := by decide +kernel
theorem dX8_readChild_86 : decode cX8_readChild 86 = .ok (.return_, 1) := by decide +kernel
theorem dX8_readWedding_0 : decode cX8_readWedding 0 = .ok (.aload_n 0, 1) := by decide +kernel
theorem dX8_readWedding_1 : decode cX8_readWedding 1 = .ok (.aload_n 0, 1) := by decide +kernel
theorem dX8_readWedding_2 : decode cX8_readWedding 2 = .ok (.getfield 25, 3) := by decide +kernel
theorem dX8_readWedding_5 : decode cX8_readWedding 5 = .ok (.getfield 172, 3) := by decide +kernel
theorem dX8_readWedding_8 : decode cX8_readWedding 8 = .ok (.bipush 6, 2) := by decide +kernel
theorem dX8_readWedding_10 : decode cX8_readWedding 10 = .ok (.invokevirtual 143, 3) := by decide +kernel
theorem dX8_readWedding_13 : decode cX8_readWedding 13 = .ok (.aload_n 0, 1) := by decide +kernel
theorem dX8_readWedding_14 : decode cX8_readWedding 14 = .ok (.invokevirtual 154, 3) := by decide +kernel
theorem dX8_readWedding_17 : decode cX8_readWedding 17 = .ok (.istore_n 1, 1) := by decide +kernel
theorem dX8_readWedding_18 : decode cX8_readWedding 18 = .ok (.aload_n 0, 1) := by decide +kernel
theorem dX8_readWedding_19 : decode cX8_readWedding 19 = .ok (.invokevirtual 154, 3) := by decide +kernel
theorem dX8_readWedding_22 : decode cX8_readWedding 22 = .ok (.istore_n 2, 1) := by decide +kernel
theorem dX8_readWedding_23 : decode cX8_readWedding 23 = .ok (.iload_n 1, 1) := by decide +kernel
theorem dX8_readWedding_24 : decode cX8_readWedding 24 = .ok (.iload_n 2, 1) := by decide +kernel
theorem dX8_readWedding_25 : decode cX8_readWedding 25 = .ok (.if_icmp .ne 7, 3) := by decide +kernel
theorem dX8_readWedding_28 : decode cX8_readWedding 28 = .ok (.aload_n 0, 1) := by decide +kernel
theorem dX8_readWedding_29 : decode cX8_readWedding 29 = .ok (.invokevirtual 111, 3) := by decide +kernel
theorem dX8_readWedding_32 : decode cX8_readWedding 32 = .ok (.aload_n 0, 1) := by decide +kernel
theorem dX8_readWedding_33 : decode cX8_readWedding 33 = .ok (.iconst 0, 1) := by decide +kernel
theorem dX8_readWedding_34 : decode cX8_readWedding 34 = .ok (.sipush 9999, 3) := by decide +kernel
theorem dX8_readWedding_37 : decode cX8_readWedding 37 = .ok (.invokevirtual 101, 3) := by decide +kernel
theorem dX8_readWedding_40 : decode cX8_readWedding 40 = .ok (.istore_n 3, 1) := by decide +kernel
theorem dX8_readWedding_41 : decode cX8_readWedding 41 = .ok (.aload_n 0, 1) := by decide +kernel
theorem dX8_readWedding_42 : decode cX8_readWedding 42 = .ok (.getfield 38, 3) := by decide +kernel
theorem dX8_readWedding_45 : decode cX8_readWedding 45 = .ok (.ifCond .ne 13, 3) := by decide +kernel
theorem dX8_readWedding_48 : decode cX8_readWedding 48 = .ok (.aload_n 0, 1) := by decide +kernel
theorem dX8_readWedding_49 : decode cX8_readWedding 49 = .ok (.getfield 25, 3) := by decide +kernel
theorem dX8_readWedding_52 : decode cX8_readWedding 52 = .ok (.iload_n 1, 1) := by decide +kernel
theorem dX8_readWedding_53 : decode cX8_readWedding 53 = .ok (.iload_n 2, 1) := by decide +kernel
theorem dX8_readWedding_54 : decode cX8_readWedding 54 = .ok (.iload_n 3, 1) := by decide +kernel
theorem dX8_readWedding_55 : decode cX8_readWedding 55 = .ok (.invokevirtual 175, 3) := by decide +kernel
theorem dX8_readWedding_58 : decode cX8_readWedding 58 = .ok (.return_, 1) := by decide +kernel
theorem dX8_readThing_0 : decode cX8_readThing 0 = .ok (.aload_n 0, 1) := by decide +kernel
theorem dX8_readThing_1 : decode cX8_readThing 1 = .ok (.aload_n 0, 1) := by decide +kernel
theorem dX8_readThing_2 : decode cX8_readThing 2 = .ok (.getfield 25, 3) := by decide +kernel
theorem dX8_readThing_5 : decode cX8_readThing 5 = .ok (.getfield 179, 3) := by decide +kernel
theorem dX8_readThing_8 : decode cX8_readThing 8 = .ok (.bipush 8, 2) := by decide +kernel
theorem dX8_readThing_10 : decode cX8_readThing 10 = .ok (.invokevirtual 143, 3) := by decide +kernel
theorem dX8_readThing_13 : decode cX8_readThing 13 = .ok (.aload_n 0, 1) := by decide +kernel
theorem dX8_readThing_14 : decode cX8_readThing 14 = .ok (.aload_n 0, 1) := by decide +kernel
theorem dX8_readThing_15 : decode cX8_readThing 15 = .ok (.getfield 15, 3) := by decide +kernel
theorem dX8_readThing_18 : decode cX8_readThing 18 = .ok (.aload_n 0, 1) := by decide +kernel
theorem dX8_readThing_19 : decode cX8_readThing 19 = .ok (.getfield 25, 3) := by decide +kernel
theorem dX8_readThing_22 : decode cX8_readThing 22 = .ok (.getfield 179, 3) := by decide +kernel
theorem dX8_readThing_25 : decode cX8_readThing 25 = .ok (.invokevirtual 147, 3) := by decide +kernel
theorem dX8_readThing_28 : decode cX8_readThing 28 = .ok (.aload_n 0, 1) := by decide +kernel
theorem dX8_readThing_29 : decode cX8_readThing 29 = .ok (.invokevirtual 154, 3) := by decide +kernel
theorem dX8_readThing_32 : decode cX8_readThing 32 = .ok (.istore_n 1, 1) := by decide +kernel
theorem dX8_readThing_33 : decode cX8_readThing 33 = .ok (.aload_n 0, 1) := by decide +kernel
theorem dX8_readThing_34 : decode cX8_readThing 34 = .ok (.iconst 0, 1) := by decide +kernel
theorem dX8_readThing_35 : decode cX8_readThing 35 = .ok (.iconst 1, 1) := by decide +kernel
theorem dX8_readThing_36 : decode cX8_readThing 36 = .ok (.invokevirtual 101, 3) := by decide +kernel
theorem dX8_readThing_39 : decode cX8_readThing 39 = .ok (.istore_n 2, 1) := by decide +kernel
theorem dX8_readThing_40 : decode cX8_readThing 40 = .ok (.aload_n 0, 1) := by decide +kernel
theorem dX8_readThing_41 : decode cX8_readThing 41 = .ok (.iconst 1, 1) := by decide +kernel
theorem dX8_readThing_42 : decode cX8_readThing 42 = .ok (.sipush 9999, 3) := by decide +kernel
theorem dX8_readThing_45 : decode cX8_readThing 45 = .ok (.invokevirtual 101, 3) := by decide +kernel
theorem dX8_readThing_48 : decode cX8_readThing 48 = .ok (.istore_n 3, 1) := by decide +kernel
theorem dX8_readThing_49 : decode cX8_readThing 49 = .ok (.aload_n 0, 1) := by decide +kernel
theorem dX8_readThing_50 : decode cX8_readThing 50 = .ok (.getfield 38, 3) := by decide +kernel
theorem dX8_readThing_53 : decode cX8_readThing 53 = .ok (.ifCond .ne 13, 3) := by decide +kernel
theorem dX8_readThing_56 : decode cX8_readThing 56 = .ok (.aload_n 0, 1) := by decide +kernel
theorem dX8_readThing_57 : decode cX8_readThing 57 = .ok (.getfield 25, 3) := by decide +kernel
theorem dX8_readThing_60 : decode cX8_readThing 60 = .ok (.iload_n 1, 1) := by decide +kernel
theorem dX8_readThing_61 : decode cX8_readThing 61 = .ok (.iload_n 2, 1) := by decide +kernel
theorem dX8_readThing_62 : decode cX8_readThing 62 = .ok (.iload_n 3, 1) := by decide +kernel
theorem dX8_readThing_63 : decode cX8_readThing 63 = .ok (.invokevirtual 182, 3) := by decide +kernel
theorem dX8_readThing_66 : decode cX8_readThing 66 = .ok (.return_, 1) := by decide +kernel
theorem dX8_readPaper_0 : decode cX8_readPaper 0 = .ok (.aload_n 0, 1) := by decide +kernel
theorem dX8_readPaper_1 : decode cX8_readPaper 1 = .ok (.aload_n 0, 1) := by decide +kernel
theorem dX8_readPaper_2 : decode cX8_readPaper 2 = .ok (.getfield 25, 3) := by decide +kernel
theorem dX8_readPaper_5 : decode cX8_readPaper 5 = .ok (.getfield 185, 3) := by decide +kernel
theorem dX8_readPaper_8 : decode cX8_readPaper 8 = .ok (.bipush 12, 2) := by decide +kernel
theorem dX8_readPaper_10 : decode cX8_readPaper 10 = .ok (.invokevirtual 143, 3) := by decide +kernel
theorem dX8_readPaper_13 : decode cX8_readPaper 13 = .ok (.aload_n 0, 1) := by decide +kernel
theorem dX8_readPaper_14 : decode cX8_readPaper 14 = .ok (.getfield 38, 3) := by decide +kernel
theorem dX8_readPaper_17 : decode cX8_readPaper 17 = .ok (.ifCond .ne 15, 3) := by decide +kernel
theorem dX8_readPaper_20 : decode cX8_readPaper 20 = .ok (.aload_n 0, 1) := by decide +kernel
theorem dX8_readPaper_21 : decode cX8_readPaper 21 = .ok (.getfield 25, 3) := by decide +kernel
theorem dX8_readPaper_24 : decode cX8_readPaper 24 = .ok (.getfield 185, 3) := by decide +kernel
theorem dX8_readPaper_27 : decode cX8_readPaper 27 = .ok (.bipush 12, 2) := by decide +kernel
theorem dX8_readPaper_29 : decode cX8_readPaper 29 = .ok (.if_icmp .lt 4, 3) := by decide +kernel
theorem dX8_readPaper_32 : decode cX8_readPaper 32 = .ok (.return_, 1) := by decide +kernel
theorem dX8_readPaper_33 : decode cX8_readPaper 33 = .ok (.aload_n 0, 1) := by decide +kernel
theorem dX8_readPaper_34 : decode cX8_readPaper 34 = .ok (.getfield 25, 3) := by decide +kernel
theorem dX8_readPaper_37 : decode cX8_readPaper 37 = .ok (.getfield 188, 3) := by decide +kernel
theorem dX8_readPaper_40 : decode cX8_readPaper 40 = .ok (.aload_n 0, 1) := by decide +kernel
theorem dX8_readPaper_41 : decode cX8_readPaper 41 = .ok (.getfield 25, 3) := by decide +kernel
theorem dX8_readPaper_44 : decode cX8_readPaper 44 = .ok (.getfield 185, 3) := by decide +kernel
theorem dX8_readPaper_47 : decode cX8_readPaper 47 = .ok (.aaload, 1) := by decide +kernel
theorem dX8_readPaper_48 : decode cX8_readPaper 48 = .ok (.astore_n 1, 1) := by decide +kernel
theorem dX8_readPaper_49 : decode cX8_readPaper 49 = .ok (.aload_n 1, 1) := by decide +kernel
theorem dX8_readPaper_50 : decode cX8_readPaper 50 = .ok (.invokevirtual 192, 3) := by decide +kernel
theorem dX8_readPaper_53 : decode cX8_readPaper 53 = .ok (.aload_n 0, 1) := by decide +kernel
theorem dX8_readPaper_54 : decode cX8_readPaper 54 = .ok (.aload_n 0, 1) := by decide +kernel
theorem dX8_readPaper_55 : decode cX8_readPaper 55 = .ok (.getfield 18, 3) := by decide +kernel
theorem dX8_readPaper_58 : decode cX8_readPaper 58 = .ok (.aload_n 0, 1) := by decide +kernel
theorem dX8_readPaper_59 : decode cX8_readPaper 59 = .ok (.getfield 25, 3) := by decide +kernel
theorem dX8_readPaper_62 : decode cX8_readPaper 62 = .ok (.getfield 185, 3) := by decide +kernel
theorem dX8_readPaper_65 : decode cX8_readPaper 65 = .ok (.invokevirtual 147, 3) := by decide +kernel
theorem dX8_readPaper_68 : decode cX8_readPaper 68 = .ok (.aload_n 1, 1) := by decide +kernel
theorem dX8_readPaper_69 : decode cX8_readPaper 69 = .ok (.aload_n 0, 1) := by decide +kernel
theorem dX8_readPaper_70 : decode cX8_readPaper 70 = .ok (.invokevirtual 154, 3) := by decide +kernel
theorem dX8_readPaper_73 : decode cX8_readPaper 73 = .ok (.putfield 195, 3) := by decide +kernel
theorem dX8_readPaper_76 : decode cX8_readPaper 76 = .ok (.aload_n 1, 1) := by decide +kernel
theorem dX8_readPaper_77 : decode cX8_readPaper 77 = .ok (.aload_n 0, 1) := by decide +kernel
theorem dX8_readPaper_78 : decode cX8_readPaper 78 = .ok (.iconst 0, 1) := by decide +kernel
theorem dX8_readPaper_79 : decode cX8_readPaper 79 = .ok (.sipush 9999, 3) := by decide +kernel
theorem dX8_readPaper_82 : decode cX8_readPaper 82 = .ok (.invokevirtual 101, 3) := by decide +kernel
theorem dX8_readPaper_85 : decode cX8_readPaper 85 = .ok (.putfield 198, 3) := by decide +kernel
theorem dX8_readPaper_88 : decode cX8_readPaper 88 = .ok (.aload_n 1, 1) := by decide +kernel
theorem dX8_readPaper_89 : decode cX8_readPaper 89 = .ok (.aload_n 0, 1) := by decide +kernel
theorem dX8_readPaper_90 : decode cX8_readPaper 90 = .ok (.iconst 0, 1) := by decide +kernel
theorem dX8_readPaper_91 : decode cX8_readPaper 91 = .ok (.iconst 1, 1) := by decide +kernel
theorem dX8_readPaper_92 : decode cX8_readPaper 92 = .ok (.invokevirtual 101, 3) := by decide +kernel
theorem dX8_readPaper_95 : decode cX8_readPaper 95 = .ok (.putfield 201, 3) := by decide +kernel
theorem dX8_readPaper_98 : decode cX8_readPaper 98 = .ok (.aload_n 1, 1) := by decide +kernel
theorem dX8_readPaper_99 : decode cX8_readPaper 99 = .ok (.aload_n 0, 1) := by decide +kernel
theorem dX8_readPaper_100 : decode cX8_readPaper 100 = .ok (.invokevirtual 204, 3) := by decide +kernel
theorem dX8_readPaper_103 : decode cX8_readPaper 103 = .ok (.putfield 207, 3) := by decide +kernel
theorem dX8_readPaper_106 : decode cX8_readPaper 106 = .ok (.iconst 0, 1) := by decide +kernel
theorem dX8_readPaper_107 : decode cX8_readPaper 107 = .ok (.istore_n 2, 1) := by decide +kernel
theorem dX8_readPaper_108 : decode cX8_readPaper 108 = .ok (.iload_n 2, 1) := by decide +kernel
theorem dX8_readPaper_109 : decode cX8_readPaper 109 = .ok (.sipush 1200, 3) := by decide +kernel
theorem dX8_readPaper_112 : decode cX8_readPaper 112 = .ok (.if_icmp .gt 31, 3) := by decide +kernel
theorem dX8_readPaper_115 : decode cX8_readPaper 115 = .ok (.aload_n 0, 1) := by decide +kernel
theorem dX8_readPaper_116 : decode cX8_readPaper 116 = .ok (.getfield 38, 3) := by decide +kernel
theorem dX8_readPaper_119 : decode cX8_readPaper 119 = .ok (.ifCond .ne 24, 3) := by decide +kernel
theorem dX8_readPaper_122 : decode cX8_readPaper 122 = .ok (.aload_n 0, 1) := by decide +kernel
theorem dX8_readPaper_123 : decode cX8_readPaper 123 = .ok (.invokevirtual 44, 3) := by decide +kernel
theorem dX8_readPaper_126 : decode cX8_readPaper 126 = .ok (.getstatic 117, 3) := by decide +kernel
theorem dX8_readPaper_129 : decode cX8_readPaper 129 = .ok (.if_acmp .eq 14, 3) := by decide +kernel
theorem dX8_readPaper_132 : decode cX8_readPaper 132 = .ok (.aload_n 0, 1) := by decide +kernel
theorem dX8_readPaper_133 : decode cX8_readPaper 133 = .ok (.aload_n 1, 1) := by decide +kernel
theorem dX8_readPaper_134 : decode cX8_readPaper 134 = .ok (.invokevirtual 210, 3) := by decide +kernel
theorem dX8_readPaper_137 : decode cX8_readPaper 137 = .ok (.iinc 2 1, 3) := by decide +kernel
theorem dX8_readPaper_140 : decode cX8_readPaper 140 = .ok (.goto (-32), 3) := by decide +kernel
theorem dX8_readPaper_143 : decode cX8_readPaper 143 = .ok (.aload_n 0, 1) := by decide +kernel
theorem dX8_readPaper_144 : decode cX8_readPaper 144 = .ok (.getfield 38, 3) := by decide +kernel
theorem dX8_readPaper_147 : decode cX8_readPaper 147 = .ok (.ifCond .ne 10, 3) := by decide +kernel
theorem dX8_readPaper_150 : decode cX8_readPaper 150 = .ok (.aload_n 0, 1) := by decide +kernel
theorem dX8_readPaper_151 : decode cX8_readPaper 151 = .ok (.getfield 25, 3) := by decide +kernel
theorem dX8_readPaper_154 : decode cX8_readPaper 154 = .ok (.invokevirtual 214, 3) := by decide +kernel
theorem dX8_readPaper_157 : decode cX8_readPaper 157 = .ok (.return_, 1) := by decide +kernel
theorem dX8_takePaperKind_0 : decode cX8_takePaperKind 0 = .ok (.iconst 0, 1) := by decide +kernel
theorem dX8_takePaperKind_1 : decode cX8_takePaperKind 1 = .ok (.istore_n 1, 1) := by decide +kernel
theorem dX8_takePaperKind_2 : decode cX8_takePaperKind 2 = .ok (.getstatic 54, 3) := by decide +kernel
theorem dX8_takePaperKind_5 : decode cX8_takePaperKind 5 = .ok (.aload_n 0, 1) := by decide +kernel
theorem dX8_takePaperKind_6 : decode cX8_takePaperKind 6 = .ok (.invokevirtual 44, 3) := by decide +kernel
theorem dX8_takePaperKind_9 : decode cX8_takePaperKind 9 = .ok (.invokevirtual 59, 3) := by decide +kernel
theorem dX8_takePaperKind_12 : decode cX8_takePaperKind 12 = .ok (.iaload, 1) := by decide +kernel
theorem dX8_takePaperKind_13 : decode cX8_takePaperKind 13 = .ok (.tableswitch 40 12 14 #[27, 30, 35], 27) := by decide +kernel
theorem dX8_takePaperKind_40 : decode cX8_takePaperKind 40 = .ok (.goto 18, 3) := by decide +kernel
theorem dX8_takePaperKind_43 : decode cX8_takePaperKind 43 = .ok (.iconst 1, 1) := by decide +kernel
theorem dX8_takePaperKind_44 : decode cX8_takePaperKind 44 = .ok (.istore_n 1, 1) := by decide +kernel
theorem dX8_takePaperKind_45 : decode cX8_takePaperKind 45 = .ok (.goto 13, 3) := by decide +kernel
theorem dX8_takePaperKind_48 : decode cX8_takePaperKind 48 = .ok (.iconst 2, 1) := by decide +kernel
theorem dX8_takePaperKind_49 : decode cX8_takePaperKind 49 = .ok (.istore_n 1, 1) := by decide +kernel
theorem dX8_takePaperKind_50 : decode cX8_takePaperKind 50 = .ok (.goto 8, 3) := by decide +kernel
theorem dX8_takePaperKind_53 : decode cX8_takePaperKind 53 = .ok (.aload_n 0, 1) := by decide +kernel
theorem dX8_takePaperKind_54 : decode cX8_takePaperKind 54 = .ok (.iconst 1, 1) := by decide +kernel
theorem dX8_takePaperKind_55 : decode cX8_takePaperKind 55 = .ok (.invokevirtual 87, 3) := by decide +kernel
theorem dX8_takePaperKind_58 : decode cX8_takePaperKind 58 = .ok (.aload_n 0, 1) := by decide +kernel
theorem dX8_takePaperKind_59 : decode cX8_takePaperKind 59 = .ok (.invokevirtual 94, 3) := by decide +kernel
theorem dX8_takePaperKind_62 : decode cX8_takePaperKind 62 = .ok (.iload_n 1, 1) := by decide +kernel
theorem dX8_takePaperKind_63 : decode cX8_takePaperKind 63 = .ok (.ireturn, 1) := by decide +kernel
theorem dX8_readPart_0 : decode cX8_readPart 0 = .ok (.getstatic 54, 3) := by decide +kernel
theorem dX8_readPart_3 : decode cX8_readPart 3 = .ok (.aload_n 0, 1) := by decide +kernel
theorem dX8_readPart_4 : decode cX8_readPart 4 = .ok (.invokevirtual 44, 3) := by decide +kernel
theorem dX8_readPart_7 : decode cX8_readPart 7 = .ok (.invokevirtual 59, 3) := by decide +kernel
theorem dX8_readPart_10 : decode cX8_readPart 10 = .ok (.iaload, 1) := by decide +kernel
theorem dX8_readPart_11 : decode cX8_readPart 11 = .ok (.tableswitch 121 9 18 #[53, 121, 121, 121, 121, 121, 69, 77, 85, 113], 53) := by decide +kernel
theorem dX8_readPart_64 : decode cX8_readPart 64 = .ok (.aload_n 0, 1) := by decide +kernel
theorem dX8_readPart_65 : decode cX8_readPart 65 = .ok (.aload_n 1, 1) := by decide +kernel
theorem dX8_readPart_66 : decode cX8_readPart 66 = .ok (.getfield 217, 3) := by decide +kernel
theorem dX8_readPart_69 : decode cX8_readPart 69 = .ok (.invokevirtual 127, 3) := by decide +kernel
theorem dX8_readPart_72 : decode cX8_readPart 72 = .ok (.aload_n 1, 1) := by decide +kernel
theorem dX8_readPart_73 : decode cX8_readPart 73 = .ok (.iconst 1, 1) := by decide +kernel
theorem dX8_readPart_74 : decode cX8_readPart 74 = .ok (.putfield 217, 3) := by decide +kernel
theorem dX8_readPart_77 : decode cX8_readPart 77 = .ok (.goto 60, 3) := by decide +kernel
theorem dX8_readPart_80 : decode cX8_readPart 80 = .ok (.aload_n 0, 1) := by decide +kernel
theorem dX8_readPart_81 : decode cX8_readPart 81 = .ok (.aload_n 1, 1) := by decide +kernel
theorem dX8_readPart_82 : decode cX8_readPart 82 = .ok (.invokevirtual 220, 3) := by decide +kernel
theorem dX8_readPart_85 : decode cX8_readPart 85 = .ok (.goto 52, 3) := by decide +kernel
theorem dX8_readPart_88 : decode cX8_readPart 88 = .ok (.aload_n 0, 1) := by decide +kernel
theorem dX8_readPart_89 : decode cX8_readPart 89 = .ok (.aload_n 1, 1) := by decide +kernel
theorem dX8_readPart_90 : decode cX8_readPart 90 = .ok (.invokevirtual 223, 3) := by decide +kernel
theorem dX8_readPart_93 : decode cX8_readPart 93 = .ok (.goto 44, 3) := by decide +kernel
theorem dX8_readPart_96 : decode cX8_readPart 96 = .ok (.aload_n 0, 1) := by decide +kernel
theorem dX8_readPart_97 : decode cX8_readPart 97 = .ok (.aload_n 1, 1) := by decide +kernel
theorem dX8_readPart_98 : decode cX8_readPart 98 = .ok (.getfield 226, 3) := by decide +kernel
theorem dX8_readPart_101 : decode cX8_readPart 101 = .ok (.iconst (-1), 1) := by decide +kernel
theorem dX8_readPart_102 : decode cX8_readPart 102 = .ok (.if_icmp .eq 7, 3) := by decide +kernel
theorem dX8_readPart_105 : decode cX8_readPart 105 = .ok (.iconst 1, 1) := by decide +kernel
theorem dX8_readPart_106 : decode cX8_readPart 106 = .ok (.goto 4, 3) := by decide +kernel
theorem dX8_readPart_109 : decode cX8_readPart 109 = .ok (.iconst 0, 1) := by decide +kernel
theorem dX8_readPart_110 : decode cX8_readPart 110 = .ok (.invokevirtual 127, 3) := by decide +kernel
theorem dX8_readPart_113 : decode cX8_readPart 113 = .ok (.aload_n 1, 1) := by decide +kernel
theorem dX8_readPart_114 : decode cX8_readPart 114 = .ok (.aload_n 0, 1) := by decide +kernel
theorem dX8_readPart_115 : decode cX8_readPart 115 = .ok (.invokevirtual 154, 3) := by decide +kernel
theorem dX8_readPart_118 : decode cX8_readPart 118 = .ok (.putfield 226, 3) := by decide +kernel
theorem dX8_readPart_121 : decode cX8_readPart 121 = .ok (.goto 16, 3) := by decide +kernel
theorem dX8_readPart_124 : decode cX8_readPart 124 = .ok (.aload_n 0, 1) := by decide +kernel
theorem dX8_readPart_125 : decode cX8_readPart 125 = .ok (.aload_n 1, 1) := by decide +kernel
theorem dX8_readPart_126 : decode cX8_readPart 126 = .ok (.invokevirtual 229, 3) := by decide +kernel
theorem dX8_readPart_129 : decode cX8_readPart 129 = .ok (.goto 8, 3) := by decide +kernel
theorem dX8_readPart_132 : decode cX8_readPart 132 = .ok (.aload_n 0, 1) := by decide +kernel
theorem dX8_readPart_133 : decode cX8_readPart 133 = .ok (.iconst 1, 1) := by decide +kernel
theorem dX8_readPart_134 : decode cX8_readPart 134 = .ok (.invokevirtual 87, 3) := by decide +kernel
theorem dX8_readPart_137 : decode cX8_readPart 137 = .ok (.return_, 1) := by decide +kernel
theorem dX8_readWitness_0 : decode cX8_readWitness 0 = .ok (.aload_n 0, 1) := by decide +kernel
theorem dX8_readWitness_1 : decode cX8_readWitness 1 = .ok (.aload_n 1, 1) := by decide +kernel
theorem dX8_readWitness_2 : decode cX8_readWitness 2 = .ok (.getfield 232, 3) := by decide +kernel
theorem dX8_readWitness_5 : decode cX8_readWitness 5 = .ok (.invokestatic 166, 3) := by decide +kernel
theorem dX8_readWitness_8 : decode cX8_readWitness 8 = .ok (.iconst 4, 1) := by decide +kernel
theorem dX8_readWitness_9 : decode cX8_readWitness 9 = .ok (.invokevirtual 143, 3) := by decide +kernel
theorem dX8_readWitness_12 : decode cX8_readWitness 12 = .ok (.aload_n 0, 1) := by decide +kernel
theorem dX8_readWitness_13 : decode cX8_readWitness 13 = .ok (.invokevirtual 154, 3) := by decide +kernel
theorem dX8_readWitness_16 : decode cX8_readWitness 16 = .ok (.istore_n 2, 1) := by decide +kernel
theorem dX8_readWitness_17 : decode cX8_readWitness 17 = .ok (.aload_n 1, 1) := by decide +kernel
theorem dX8_readWitness_18 : decode cX8_readWitness 18 = .ok (.iload_n 2, 1) := by decide +kernel
theorem dX8_readWitness_19 : decode cX8_readWitness 19 = .ok (.invokevirtual 233, 3) := by decide +kernel
theorem dX8_readWitness_22 : decode cX8_readWitness 22 = .ok (.ifCond .ne 11, 3) := by decide +kernel
theorem dX8_readWitness_25 : decode cX8_readWitness 25 = .ok (.aload_n 1, 1) := by decide +kernel
theorem dX8_readWitness_26 : decode cX8_readWitness 26 = .ok (.getfield 195, 3) := by decide +kernel
theorem dX8_readWitness_29 : decode cX8_readWitness 29 = .ok (.iload_n 2, 1) := by decide +kernel
theorem dX8_readWitness_30 : decode cX8_readWitness 30 = .ok (.if_icmp .ne 7, 3) := by decide +kernel
theorem dX8_readWitness_33 : decode cX8_readWitness 33 = .ok (.aload_n 0, 1) := by decide +kernel
theorem dX8_readWitness_34 : decode cX8_readWitness 34 = .ok (.invokevirtual 111, 3) := by decide +kernel
theorem dX8_readWitness_37 : decode cX8_readWitness 37 = .ok (.aload_n 1, 1) := by decide +kernel
theorem dX8_readWitness_38 : decode cX8_readWitness 38 = .ok (.dup, 1) := by decide +kernel
theorem dX8_readWitness_39 : decode cX8_readWitness 39 = .ok (.getfield 232, 3) := by decide +kernel
theorem dX8_readWitness_42 : decode cX8_readWitness 42 = .ok (.iconst 1, 1) := by decide +kernel
theorem dX8_readWitness_43 : decode cX8_readWitness 43 = .ok (.iload_n 2, 1) := by decide +kernel
theorem dX8_readWitness_44 : decode cX8_readWitness 44 = .ok (.ishl, 1) := by decide +kernel
theorem dX8_readWitness_45 : decode cX8_readWitness 45 = .ok (.ior, 1) := by decide +kernel
theorem dX8_readWitness_46 : decode cX8_readWitness 46 = .ok (.putfield 232, 3) := by decide +kernel
theorem dX8_readWitness_49 : decode cX8_readWitness 49 = .ok (.return_, 1) := by decide +kernel
theorem dX8_readGive_0 : decode cX8_readGive 0 = .ok (.aload_n 1, 1) := by decide +kernel
theorem dX8_readGive_1 : decode cX8_readGive 1 = .ok (.getfield 237, 3) := by decide +kernel
theorem dX8_readGive_4 : decode cX8_readGive 4 = .ok (.istore_n 2, 1) := by decide +kernel
theorem dX8_readGive_5 : decode cX8_readGive 5 = .ok (.aload_n 0, 1) := by decide +kernel
theorem dX8_readGive_6 : decode cX8_readGive 6 = .ok (.iload_n 2, 1) := by decide +kernel
theorem dX8_readGive_7 : decode cX8_readGive 7 = .ok (.bipush 6, 2) := by decide +kernel
theorem dX8_readGive_9 : decode cX8_readGive 9 = .ok (.invokevirtual 143, 3) := by decide +kernel
theorem dX8_readGive_12 : decode cX8_readGive 12 = .ok (.aload_n 0, 1) := by decide +kernel
theorem dX8_readGive_13 : decode cX8_readGive 13 = .ok (.getfield 38, 3) := by decide +kernel
theorem dX8_readGive_16 : decode cX8_readGive 16 = .ok (.ifCond .ne 9, 3) := by decide +kernel
theorem dX8_readGive_19 : decode cX8_readGive 19 = .ok (.iload_n 2, 1) := by decide +kernel
theorem dX8_readGive_20 : decode cX8_readGive 20 = .ok (.bipush 6, 2) := by decide +kernel
theorem dX8_readGive_22 : decode cX8_readGive 22 = .ok (.if_icmp .lt 4, 3) := by decide +kernel
theorem dX8_readGive_25 : decode cX8_readGive 25 = .ok (.return_, 1) := by decide +kernel
theorem dX8_readGive_26 : decode cX8_readGive 26 = .ok (.aload_n 1, 1) := by decide +kernel
theorem dX8_readGive_27 : decode cX8_readGive 27 = .ok (.getfield 240, 3) := by decide +kernel
theorem dX8_readGive_30 : decode cX8_readGive 30 = .ok (.iload_n 2, 1) := by decide +kernel
theorem dX8_readGive_31 : decode cX8_readGive 31 = .ok (.aload_n 0, 1) := by decide +kernel
theorem dX8_readGive_32 : decode cX8_readGive 32 = .ok (.invokevirtual 243, 3) := by decide +kernel
theorem dX8_readGive_35 : decode cX8_readGive 35 = .ok (.iastore, 1) := by decide +kernel
theorem dX8_readGive_36 : decode cX8_readGive 36 = .ok (.aload_n 1, 1) := by decide +kernel
theorem dX8_readGive_37 : decode cX8_readGive 37 = .ok (.getfield 246, 3) := by decide +kernel
theorem dX8_readGive_40 : decode cX8_readGive 40 = .ok (.iload_n 2, 1) := by decide +kernel
theorem dX8_readGive_41 : decode cX8_readGive 41 = .ok (.aload_n 0, 1) := by decide +kernel
theorem dX8_readGive_42 : decode cX8_readGive 42 = .ok (.invokevirtual 154, 3) := by decide +kernel
theorem dX8_readGive_45 : decode cX8_readGive 45 = .ok (.iastore, 1) := by decide +kernel
theorem dX8_readGive_46 : decode cX8_readGive 46 = .ok (.aload_n 1, 1) := by decide +kernel
theorem dX8_readGive_47 : decode cX8_readGive 47 = .ok (.getfield 249, 3) := by decide +kernel
theorem dX8_readGive_50 : decode cX8_readGive 50 = .ok (.iload_n 2, 1) := by decide +kernel
theorem dX8_readGive_51 : decode cX8_readGive 51 = .ok (.iconst 0, 1) := by decide +kernel
theorem dX8_readGive_52 : decode cX8_readGive 52 = .ok (.iastore, 1) := by decide +kernel
theorem dX8_readGive_53 : decode cX8_readGive 53 = .ok (.aload_n 1, 1) := by decide +kernel
theorem dX8_readGive_54 : decode cX8_readGive 54 = .ok (.getfield 252, 3) := by decide +kernel
theorem dX8_readGive_57 : decode cX8_readGive 57 = .ok (.iload_n 2, 1) := by decide +kernel
theorem dX8_readGive_58 : decode cX8_readGive 58 = .ok (.iconst (-1), 1) := by decide +kernel
theorem dX8_readGive_59 : decode cX8_readGive 59 = .ok (.iastore, 1) := by decide +kernel
theorem dX8_readGive_60 : decode cX8_readGive 60 = .ok (.aload_n 1, 1) := by decide +kernel
theorem dX8_readGive_61 : decode cX8_readGive 61 = .ok (.getfield 255, 3) := by decide +kernel
theorem dX8_readGive_64 : decode cX8_readGive 64 = .ok (.iload_n 2, 1) := by decide +kernel
theorem dX8_readGive_65 : decode cX8_readGive 65 = .ok (.iconst (-1), 1) := by decide +kernel
theorem dX8_readGive_66 : decode cX8_readGive 66 = .ok (.iastore, 1) := by decide +kernel
theorem dX8_readGive_67 : decode cX8_readGive 67 = .ok (.aload_n 0, 1) := by decide +kernel
theorem dX8_readGive_68 : decode cX8_readGive 68 = .ok (.invokevirtual 44, 3) := by decide +kernel
theorem dX8_readGive_71 : decode cX8_readGive 71 = .ok (.getstatic 258, 3) := by decide +kernel
theorem dX8_readGive_74 : decode cX8_readGive 74 = .ok (.if_acmp .eq 13, 3) := by decide +kernel
theorem dX8_readGive_77 : decode cX8_readGive 77 = .ok (.aload_n 0, 1) := by decide +kernel
theorem dX8_readGive_78 : decode cX8_readGive 78 = .ok (.invokevirtual 44, 3) := by decide +kernel
theorem dX8_readGive_81 : decode cX8_readGive 81 = .ok (.getstatic 261, 3) := by decide +kernel
theorem dX8_readGive_84 : decode cX8_readGive 84 = .ok (.if_acmp .ne 38, 3) := by decide +kernel
theorem dX8_readGive_87 : decode cX8_readGive 87 = .ok (.aload_n 1, 1) := by decide +kernel
theorem dX8_readGive_88 : decode cX8_readGive 88 = .ok (.getfield 249, 3) := by decide +kernel
theorem dX8_readGive_91 : decode cX8_readGive 91 = .ok (.iload_n 2, 1) := by decide +kernel
theorem dX8_readGive_92 : decode cX8_readGive 92 = .ok (.aload_n 0, 1) := by decide +kernel
theorem dX8_readGive_93 : decode cX8_readGive 93 = .ok (.invokevirtual 44, 3) := by decide +kernel
theorem dX8_readGive_96 : decode cX8_readGive 96 = .ok (.getstatic 258, 3) := by decide +kernel
theorem dX8_readGive_99 : decode cX8_readGive 99 = .ok (.if_acmp .ne 7, 3) := by decide +kernel
theorem dX8_readGive_102 : decode cX8_readGive 102 = .ok (.iconst 1, 1) := by decide +kernel
theorem dX8_readGive_103 : decode cX8_readGive 103 = .ok (.goto 4, 3) := by decide +kernel
theorem dX8_readGive_106 : decode cX8_readGive 106 = .ok (.iconst 2, 1) := by decide +kernel
theorem dX8_readGive_107 : decode cX8_readGive 107 = .ok (.iastore, 1) := by decide +kernel
theorem dX8_readGive_108 : decode cX8_readGive 108 = .ok (.aload_n 0, 1) := by decide +kernel
theorem dX8_readGive_109 : decode cX8_readGive 109 = .ok (.invokevirtual 94, 3) := by decide +kernel
theorem dX8_readGive_112 : decode cX8_readGive 112 = .ok (.aload_n 1, 1) := by decide +kernel
theorem dX8_readGive_113 : decode cX8_readGive 113 = .ok (.getfield 252, 3) := by decide +kernel
theorem dX8_readGive_116 : decode cX8_readGive 116 = .ok (.iload_n 2, 1) := by decide +kernel
theorem dX8_readGive_117 : decode cX8_readGive 117 = .ok (.aload_n 0, 1) := by decide +kernel
theorem dX8_readGive_118 : decode cX8_readGive 118 = .ok (.invokevirtual 154, 3) := by decide +kernel
theorem dX8_readGive_121 : decode cX8_readGive 121 = .ok (.iastore, 1) := by decide +kernel
theorem dX8_readGive_122 : decode cX8_readGive 122 = .ok (.aload_n 0, 1) := by decide +kernel
theorem dX8_readGive_123 : decode cX8_readGive 123 = .ok (.invokevirtual 44, 3) := by decide +kernel
theorem dX8_readGive_126 : decode cX8_readGive 126 = .ok (.getstatic 264, 3) := by decide +kernel
theorem dX8_readGive_129 : decode cX8_readGive 129 = .ok (.if_acmp .ne 36, 3) := by decide +kernel
theorem dX8_readGive_132 : decode cX8_readGive 132 = .ok (.aload_n 0, 1) := by decide +kernel
theorem dX8_readGive_133 : decode cX8_readGive 133 = .ok (.invokevirtual 94, 3) := by decide +kernel
theorem dX8_readGive_136 : decode cX8_readGive 136 = .ok (.aload_n 1, 1) := by decide +kernel
theorem dX8_readGive_137 : decode cX8_readGive 137 = .ok (.getfield 255, 3) := by decide +kernel
theorem dX8_readGive_140 : decode cX8_readGive 140 = .ok (.iload_n 2, 1) := by decide +kernel
theorem dX8_readGive_141 : decode cX8_readGive 141 = .ok (.aload_n 0, 1) := by decide +kernel
theorem dX8_readGive_142 : decode cX8_readGive 142 = .ok (.invokevirtual 154, 3) := by decide +kernel
theorem dX8_readGive_145 : decode cX8_readGive 145 = .ok (.iastore, 1) := by decide +kernel
theorem dX8_readGive_146 : decode cX8_readGive 146 = .ok (.aload_n 1, 1) := by decide +kernel
theorem dX8_readGive_147 : decode cX8_readGive 147 = .ok (.getfield 255, 3) := by decide +kernel
theorem dX8_readGive_150 : decode cX8_readGive 150 = .ok (.iload_n 2, 1) := by decide +kernel
theorem dX8_readGive_151 : decode cX8_readGive 151 = .ok (.iaload, 1) := by decide +kernel
theorem dX8_readGive_152 : decode cX8_readGive 152 = .ok (.aload_n 1, 1) := by decide +kernel
theorem dX8_readGive_153 : decode cX8_readGive 153 = .ok (.getfield 246, 3) := by decide +kernel
theorem dX8_readGive_156 : decode cX8_readGive 156 = .ok (.iload_n 2, 1) := by decide +kernel
theorem dX8_readGive_157 : decode cX8_readGive 157 = .ok (.iaload, 1) := by decide +kernel
theorem dX8_readGive_158 : decode cX8_readGive 158 = .ok (.if_icmp .ne 7, 3) := by decide +kernel
theorem dX8_readGive_161 : decode cX8_readGive 161 = .ok (.aload_n 0, 1) := by decide +kernel
theorem dX8_readGive_162 : decode cX8_readGive 162 = .ok (.invokevirtual 111, 3) := by decide +kernel
theorem dX8_readGive_165 : decode cX8_readGive 165 = .ok (.aload_n 1, 1) := by decide +kernel
theorem dX8_readGive_166 : decode cX8_readGive 166 = .ok (.dup, 1) := by decide +kernel
theorem dX8_readGive_167 : decode cX8_readGive 167 = .ok (.getfield 237, 3) := by decide +kernel
theorem dX8_readGive_170 : decode cX8_readGive 170 = .ok (.iconst 1, 1) := by decide +kernel
theorem dX8_readGive_171 : decode cX8_readGive 171 = .ok (.iadd, 1) := by decide +kernel
theorem dX8_readGive_172 : decode cX8_readGive 172 = .ok (.putfield 237, 3) := by decide +kernel
theorem dX8_readGive_175 : decode cX8_readGive 175 = .ok (.return_, 1) := by decide +kernel
theorem dX8_readStrike_0 : decode cX8_readStrike 0 = .ok (.aload_n 0, 1) := by decide +kernel
theorem dX8_readStrike_1 : decode cX8_readStrike 1 = .ok (.aload_n 1, 1) := by decide +kernel
theorem dX8_readStrike_2 : decode cX8_readStrike 2 = .ok (.getfield 267, 3) := by decide +kernel
theorem dX8_readStrike_5 : decode cX8_readStrike 5 = .ok (.invokestatic 166, 3) := by decide +kernel
theorem dX8_readStrike_8 : decode cX8_readStrike 8 = .ok (.iconst 3, 1) := by decide +kernel
theorem dX8_readStrike_9 : decode cX8_readStrike 9 = .ok (.invokevirtual 143, 3) := by decide +kernel
theorem dX8_readStrike_12 : decode cX8_readStrike 12 = .ok (.aload_n 0, 1) := by decide +kernel
theorem dX8_readStrike_13 : decode cX8_readStrike 13 = .ok (.invokevirtual 270, 3) := by decide +kernel
theorem dX8_readStrike_16 : decode cX8_readStrike 16 = .ok (.istore_n 2, 1) := by decide +kernel
theorem dX8_readStrike_17 : decode cX8_readStrike 17 = .ok (.aload_n 1, 1) := by decide +kernel
theorem dX8_readStrike_18 : decode cX8_readStrike 18 = .ok (.iload_n 2, 1) := by decide +kernel
theorem dX8_readStrike_19 : decode cX8_readStrike 19 = .ok (.invokevirtual 273, 3) := by decide +kernel
theorem dX8_readStrike_22 : decode cX8_readStrike 22 = .ok (.ifCond .ne 22, 3) := by decide +kernel
theorem dX8_readStrike_25 : decode cX8_readStrike 25 = .ok (.aload_n 0, 1) := by decide +kernel
theorem dX8_readStrike_26 : decode cX8_readStrike 26 = .ok (.getfield 25, 3) := by decide +kernel
theorem dX8_readStrike_29 : decode cX8_readStrike 29 = .ok (.getfield 188, 3) := by decide +kernel
theorem dX8_readStrike_32 : decode cX8_readStrike 32 = .ok (.iload_n 2, 1) := by decide +kernel
theorem dX8_readStrike_33 : decode cX8_readStrike 33 = .ok (.aaload, 1) := by decide +kernel
theorem dX8_readStrike_34 : decode cX8_readStrike 34 = .ok (.getfield 195, 3) := by decide +kernel
theorem dX8_readStrike_37 : decode cX8_readStrike 37 = .ok (.aload_n 1, 1) := by decide +kernel
theorem dX8_readStrike_38 : decode cX8_readStrike 38 = .ok (.getfield 195, 3) := by decide +kernel
theorem dX8_readStrike_41 : decode cX8_readStrike 41 = .ok (.if_icmp .eq 7, 3) := by decide +kernel
theorem dX8_readStrike_44 : decode cX8_readStrike 44 = .ok (.aload_n 0, 1) := by decide +kernel
theorem dX8_readStrike_45 : decode cX8_readStrike 45 = .ok (.invokevirtual 111, 3) := by decide +kernel
theorem dX8_readStrike_48 : decode cX8_readStrike 48 = .ok (.aload_n 1, 1) := by decide +kernel
theorem dX8_readStrike_49 : decode cX8_readStrike 49 = .ok (.dup, 1) := by decide +kernel
theorem dX8_readStrike_50 : decode cX8_readStrike 50 = .ok (.getfield 267, 3) := by decide +kernel
theorem dX8_readStrike_53 : decode cX8_readStrike 53 = .ok (.iconst 1, 1) := by decide +kernel
theorem dX8_readStrike_54 : decode cX8_readStrike 54 = .ok (.iload_n 2, 1) := by decide +kernel
theorem dX8_readStrike_55 : decode cX8_readStrike 55 = .ok (.ishl, 1) := by decide +kernel
theorem dX8_readStrike_56 : decode cX8_readStrike 56 = .ok (.ior, 1) := by decide +kernel
theorem dX8_readStrike_57 : decode cX8_readStrike 57 = .ok (.putfield 267, 3) := by decide +kernel
theorem dX8_readStrike_60 : decode cX8_readStrike 60 = .ok (.return_, 1) := by decide +kernel
theorem dX8_readLost_0 : decode cX8_readLost 0 = .ok (.aload_n 0, 1) := by decide +kernel
theorem dX8_readLost_1 : decode cX8_readLost 1 = .ok (.invokevirtual 94, 3) := by decide +kernel
theorem dX8_readLost_4 : decode cX8_readLost 4 = .ok (.aload_n 0, 1) := by decide +kernel
theorem dX8_readLost_5 : decode cX8_readLost 5 = .ok (.getfield 25, 3) := by decide +kernel
theorem dX8_readLost_8 : decode cX8_readLost 8 = .ok (.getfield 188, 3) := by decide +kernel
theorem dX8_readLost_11 : decode cX8_readLost 11 = .ok (.aload_n 0, 1) := by decide +kernel
theorem dX8_readLost_12 : decode cX8_readLost 12 = .ok (.invokevirtual 270, 3) := by decide +kernel
theorem dX8_readLost_15 : decode cX8_readLost 15 = .ok (.aaload, 1) := by decide +kernel
theorem dX8_readLost_16 : decode cX8_readLost 16 = .ok (.astore_n 1, 1) := by decide +kernel
theorem dX8_readLost_17 : decode cX8_readLost 17 = .ok (.aload_n 1, 1) := by decide +kernel
theorem dX8_readLost_18 : decode cX8_readLost 18 = .ok (.invokevirtual 276, 3) := by decide +kernel
theorem dX8_readLost_21 : decode cX8_readLost 21 = .ok (.ifCond .eq 7, 3) := by decide +kernel
theorem dX8_readLost_24 : decode cX8_readLost 24 = .ok (.aload_n 0, 1) := by decide +kernel
theorem dX8_readLost_25 : decode cX8_readLost 25 = .ok (.invokevirtual 111, 3) := by decide +kernel
theorem dX8_readLost_28 : decode cX8_readLost 28 = .ok (.aload_n 0, 1) := by decide +kernel
theorem dX8_readLost_29 : decode cX8_readLost 29 = .ok (.iconst 0, 1) := by decide +kernel
theorem dX8_readLost_30 : decode cX8_readLost 30 = .ok (.iconst 3, 1) := by decide +kernel
theorem dX8_readLost_31 : decode cX8_readLost 31 = .ok (.invokevirtual 101, 3) := by decide +kernel
theorem dX8_readLost_34 : decode cX8_readLost 34 = .ok (.istore_n 2, 1) := by decide +kernel
theorem dX8_readLost_35 : decode cX8_readLost 35 = .ok (.aload_n 0, 1) := by decide +kernel
theorem dX8_readLost_36 : decode cX8_readLost 36 = .ok (.getfield 38, 3) := by decide +kernel
theorem dX8_readLost_39 : decode cX8_readLost 39 = .ok (.ifCond .ne 8, 3) := by decide +kernel
theorem dX8_readLost_42 : decode cX8_readLost 42 = .ok (.aload_n 1, 1) := by decide +kernel
theorem dX8_readLost_43 : decode cX8_readLost 43 = .ok (.iload_n 2, 1) := by decide +kernel
theorem dX8_readLost_44 : decode cX8_readLost 44 = .ok (.putfield 280, 3) := by decide +kernel
theorem dX8_readLost_47 : decode cX8_readLost 47 = .ok (.return_, 1) := by decide +kernel
theorem dX8_readDeath_0 : decode cX8_readDeath 0 = .ok (.aload_n 0, 1) := by decide +kernel
theorem dX8_readDeath_1 : decode cX8_readDeath 1 = .ok (.invokevirtual 94, 3) := by decide +kernel
theorem dX8_readDeath_4 : decode cX8_readDeath 4 = .ok (.aload_n 0, 1) := by decide +kernel
theorem dX8_readDeath_5 : decode cX8_readDeath 5 = .ok (.getfield 25, 3) := by decide +kernel
theorem dX8_readDeath_8 : decode cX8_readDeath 8 = .ok (.getfield 157, 3) := by decide +kernel
theorem dX8_readDeath_11 : decode cX8_readDeath 11 = .ok (.aload_n 0, 1) := by decide +kernel
theorem dX8_readDeath_12 : decode cX8_readDeath 12 = .ok (.invokevirtual 154, 3) := by decide +kernel
theorem dX8_readDeath_15 : decode cX8_readDeath 15 = .ok (.aaload, 1) := by decide +kernel
theorem dX8_readDeath_16 : decode cX8_readDeath 16 = .ok (.astore_n 1, 1) := by decide +kernel
theorem dX8_readDeath_17 : decode cX8_readDeath 17 = .ok (.aload_n 1, 1) := by decide +kernel
theorem dX8_readDeath_18 : decode cX8_readDeath 18 = .ok (.invokevirtual 282, 3) := by decide +kernel
theorem dX8_readDeath_21 : decode cX8_readDeath 21 = .ok (.ifCond .eq 7, 3) := by decide +kernel
theorem dX8_readDeath_24 : decode cX8_readDeath 24 = .ok (.aload_n 0, 1) := by decide +kernel
theorem dX8_readDeath_25 : decode cX8_readDeath 25 = .ok (.invokevirtual 111, 3) := by decide +kernel
theorem dX8_readDeath_28 : decode cX8_readDeath 28 = .ok (.aload_n 0, 1) := by decide +kernel
theorem dX8_readDeath_29 : decode cX8_readDeath 29 = .ok (.iconst 0, 1) := by decide +kernel
theorem dX8_readDeath_30 : decode cX8_readDeath 30 = .ok (.sipush 9999, 3) := by decide +kernel
theorem dX8_readDeath_33 : decode cX8_readDeath 33 = .ok (.invokevirtual 101, 3) := by decide +kernel
theorem dX8_readDeath_36 : decode cX8_readDeath 36 = .ok (.istore_n 2, 1) := by decide +kernel
theorem dX8_readDeath_37 : decode cX8_readDeath 37 = .ok (.aload_n 0, 1) := by decide +kernel
theorem dX8_readDeath_38 : decode cX8_readDeath 38 = .ok (.getfield 38, 3) := by decide +kernel
theorem dX8_readDeath_41 : decode cX8_readDeath 41 = .ok (.ifCond .ne 8, 3) := by decide +kernel
theorem dX8_readDeath_44 : decode cX8_readDeath 44 = .ok (.aload_n 1, 1) := by decide +kernel
theorem dX8_readDeath_45 : decode cX8_readDeath 45 = .ok (.iload_n 2, 1) := by decide +kernel
theorem dX8_readDeath_46 : decode cX8_readDeath 46 = .ok (.putfield 285, 3) := by decide +kernel
theorem dX8_readDeath_49 : decode cX8_readDeath 49 = .ok (.return_, 1) := by decide +kernel
theorem dX8_takePerson_0 : decode cX8_takePerson 0 = .ok (.aload_n 0, 1) := by decide +kernel
theorem dX8_takePerson_1 : decode cX8_takePerson 1 = .ok (.aload_n 0, 1) := by decide +kernel
theorem dX8_takePerson_2 : decode cX8_takePerson 2 = .ok (.getfield 9, 3) := by decide +kernel
theorem dX8_takePerson_5 : decode cX8_takePerson 5 = .ok (.aload_n 0, 1) := by decide +kernel
theorem dX8_takePerson_6 : decode cX8_takePerson 6 = .ok (.getfield 25, 3) := by decide +kernel
theorem dX8_takePerson_9 : decode cX8_takePerson 9 = .ok (.getfield 140, 3) := by decide +kernel
theorem dX8_takePerson_12 : decode cX8_takePerson 12 = .ok (.invokevirtual 288, 3) := by decide +kernel
theorem dX8_takePerson_15 : decode cX8_takePerson 15 = .ok (.ireturn, 1) := by decide +kernel
theorem dX8_takeThing_0 : decode cX8_takeThing 0 = .ok (.aload_n 0, 1) := by decide +kernel
theorem dX8_takeThing_1 : decode cX8_takeThing 1 = .ok (.aload_n 0, 1) := by decide +kernel
theorem dX8_takeThing_2 : decode cX8_takeThing 2 = .ok (.getfield 15, 3) := by decide +kernel
theorem dX8_takeThing_5 : decode cX8_takeThing 5 = .ok (.aload_n 0, 1) := by decide +kernel
theorem dX8_takeThing_6 : decode cX8_takeThing 6 = .ok (.getfield 25, 3) := by decide +kernel
theorem dX8_takeThing_9 : decode cX8_takeThing 9 = .ok (.getfield 179, 3) := by decide +kernel
theorem dX8_takeThing_12 : decode cX8_takeThing 12 = .ok (.invokevirtual 288, 3) := by decide +kernel
theorem dX8_takeThing_15 : decode cX8_takeThing 15 = .ok (.ireturn, 1) := by decide +kernel
theorem dX8_takePaper_0 : decode cX8_takePaper 0 = .ok (.aload_n 0, 1) := by decide +kernel
theorem dX8_takePaper_1 : decode cX8_takePaper 1 = .ok (.aload_n 0, 1) := by decide +kernel
theorem dX8_takePaper_2 : decode cX8_takePaper 2 = .ok (.getfield 18, 3) := by decide +kernel
theorem dX8_takePaper_5 : decode cX8_takePaper 5 = .ok (.aload_n 0, 1) := by decide +kernel
theorem dX8_takePaper_6 : decode cX8_takePaper 6 = .ok (.getfield 25, 3) := by decide +kernel
theorem dX8_takePaper_9 : decode cX8_takePaper 9 = .ok (.getfield 185, 3) := by decide +kernel
theorem dX8_takePaper_12 : decode cX8_takePaper 12 = .ok (.invokevirtual 288, 3) := by decide +kernel
theorem dX8_takePaper_15 : decode cX8_takePaper 15 = .ok (.ireturn, 1) := by decide +kernel
theorem dX8_takeKnownName_0 : decode cX8_takeKnownName 0 = .ok (.aload_n 0, 1) := by decide +kernel
theorem dX8_takeKnownName_1 : decode cX8_takeKnownName 1 = .ok (.aload_n 1, 1) := by decide +kernel
theorem dX8_takeKnownName_2 : decode cX8_takeKnownName 2 = .ok (.iload_n 2, 1) := by decide +kernel
theorem dX8_takeKnownName_3 : decode cX8_takeKnownName 3 = .ok (.invokevirtual 292, 3) := by decide +kernel
theorem dX8_takeKnownName_6 : decode cX8_takeKnownName 6 = .ok (.istore_n 3, 1) := by decide +kernel
theorem dX8_takeKnownName_7 : decode cX8_takeKnownName 7 = .ok (.iload_n 3, 1) := by decide +kernel
theorem dX8_takeKnownName_8 : decode cX8_takeKnownName 8 = .ok (.iconst (-1), 1) := by decide +kernel
theorem dX8_takeKnownName_9 : decode cX8_takeKnownName 9 = .ok (.if_icmp .ne 8, 3) := by decide +kernel
theorem dX8_takeKnownName_12 : decode cX8_takeKnownName 12 = .ok (.aload_n 0, 1) := by decide +kernel
theorem dX8_takeKnownName_13 : decode cX8_takeKnownName 13 = .ok (.iconst 1, 1) := by decide +kernel
theorem dX8_takeKnownName_14 : decode cX8_takeKnownName 14 = .ok (.invokevirtual 87, 3) := by decide +kernel
theorem dX8_takeKnownName_17 : decode cX8_takeKnownName 17 = .ok (.aload_n 0, 1) := by decide +kernel
theorem dX8_takeKnownName_18 : decode cX8_takeKnownName 18 = .ok (.invokevirtual 94, 3) := by decide +kernel
theorem dX8_takeKnownName_21 : decode cX8_takeKnownName 21 = .ok (.aload_n 0, 1) := by decide +kernel
theorem dX8_takeKnownName_22 : decode cX8_takeKnownName 22 = .ok (.getfield 38, 3) := by decide +kernel
theorem dX8_takeKnownName_25 : decode cX8_takeKnownName 25 = .ok (.ifCond .ne 7, 3) := by decide +kernel
theorem dX8_takeKnownName_28 : decode cX8_takeKnownName 28 = .ok (.iload_n 3, 1) := by decide +kernel
theorem dX8_takeKnownName_29 : decode cX8_takeKnownName 29 = .ok (.goto 4, 3) := by decide +kernel
theorem dX8_takeKnownName_32 : decode cX8_takeKnownName 32 = .ok (.iconst 0, 1) := by decide +kernel
theorem dX8_takeKnownName_33 : decode cX8_takeKnownName 33 = .ok (.ireturn, 1) := by decide +kernel
theorem dX8_takeNewName_0 : decode cX8_takeNewName 0 = .ok (.aload_n 0, 1) := by decide +kernel
theorem dX8_takeNewName_1 : decode cX8_takeNewName 1 = .ok (.invokevirtual 44, 3) := by decide +kernel
theorem dX8_takeNewName_4 : decode cX8_takeNewName 4 = .ok (.getstatic 295, 3) := by decide +kernel
theorem dX8_takeNewName_7 : decode cX8_takeNewName 7 = .ok (.if_acmp .eq 11, 3) := by decide +kernel
theorem dX8_takeNewName_10 : decode cX8_takeNewName 10 = .ok (.aload_n 0, 1) := by decide +kernel
theorem dX8_takeNewName_11 : decode cX8_takeNewName 11 = .ok (.iconst 1, 1) := by decide +kernel
theorem dX8_takeNewName_12 : decode cX8_takeNewName 12 = .ok (.invokevirtual 87, 3) := by decide +kernel
theorem dX8_takeNewName_15 : decode cX8_takeNewName 15 = .ok (.goto 18, 3) := by decide +kernel
theorem dX8_takeNewName_18 : decode cX8_takeNewName 18 = .ok (.aload_n 0, 1) := by decide +kernel
theorem dX8_takeNewName_19 : decode cX8_takeNewName 19 = .ok (.aload_n 1, 1) := by decide +kernel
theorem dX8_takeNewName_20 : decode cX8_takeNewName 20 = .ok (.iload_n 2, 1) := by decide +kernel
theorem dX8_takeNewName_21 : decode cX8_takeNewName 21 = .ok (.invokevirtual 292, 3) := by decide +kernel
theorem dX8_takeNewName_24 : decode cX8_takeNewName 24 = .ok (.iconst (-1), 1) := by decide +kernel
theorem dX8_takeNewName_25 : decode cX8_takeNewName 25 = .ok (.if_icmp .eq 8, 3) := by decide +kernel
theorem dX8_takeNewName_28 : decode cX8_takeNewName 28 = .ok (.aload_n 0, 1) := by decide +kernel
theorem dX8_takeNewName_29 : decode cX8_takeNewName 29 = .ok (.iconst 3, 1) := by decide +kernel
theorem dX8_takeNewName_30 : decode cX8_takeNewName 30 = .ok (.invokevirtual 87, 3) := by decide +kernel
theorem dX8_takeNewName_33 : decode cX8_takeNewName 33 = .ok (.aload_n 0, 1) := by decide +kernel
theorem dX8_takeNewName_34 : decode cX8_takeNewName 34 = .ok (.getfield 38, 3) := by decide +kernel
theorem dX8_takeNewName_37 : decode cX8_takeNewName 37 = .ok (.ifCond .ne 24, 3) := by decide +kernel
theorem dX8_takeNewName_40 : decode cX8_takeNewName 40 = .ok (.iload_n 2, 1) := by decide +kernel
theorem dX8_takeNewName_41 : decode cX8_takeNewName 41 = .ok (.aload_n 1, 1) := by decide +kernel
theorem dX8_takeNewName_42 : decode cX8_takeNewName 42 = .ok (.arraylength, 1) := by decide +kernel
theorem dX8_takeNewName_43 : decode cX8_takeNewName 43 = .ok (.if_icmp .ge 18, 3) := by decide +kernel
theorem dX8_takeNewName_46 : decode cX8_takeNewName 46 = .ok (.aload_n 1, 1) := by decide +kernel
theorem dX8_takeNewName_47 : decode cX8_takeNewName 47 = .ok (.iload_n 2, 1) := by decide +kernel
theorem dX8_takeNewName_48 : decode cX8_takeNewName 48 = .ok (.aload_n 0, 1) := by decide +kernel
theorem dX8_takeNewName_49 : decode cX8_takeNewName 49 = .ok (.getfield 21, 3) := by decide +kernel
theorem dX8_takeNewName_52 : decode cX8_takeNewName 52 = .ok (.getfield 298, 3) := by decide +kernel
theorem dX8_takeNewName_55 : decode cX8_takeNewName 55 = .ok (.aload_n 0, 1) := by decide +kernel
theorem dX8_takeNewName_56 : decode cX8_takeNewName 56 = .ok (.getfield 34, 3) := by decide +kernel
theorem dX8_takeNewName_59 : decode cX8_takeNewName 59 = .ok (.iaload, 1) := by decide +kernel
theorem dX8_takeNewName_60 : decode cX8_takeNewName 60 = .ok (.iastore, 1) := by decide +kernel
theorem dX8_takeNewName_61 : decode cX8_takeNewName 61 = .ok (.aload_n 0, 1) := by decide +kernel
theorem dX8_takeNewName_62 : decode cX8_takeNewName 62 = .ok (.invokevirtual 94, 3) := by decide +kernel
theorem dX8_takeNewName_65 : decode cX8_takeNewName 65 = .ok (.return_, 1) := by decide +kernel
theorem dX8_indexOfName_0 : decode cX8_indexOfName 0 = .ok (.iconst 0, 1) := by decide +kernel
theorem dX8_indexOfName_1 : decode cX8_indexOfName 1 = .ok (.istore_n 3, 1) := by decide +kernel
theorem dX8_indexOfName_2 : decode cX8_indexOfName 2 = .ok (.iload_n 3, 1) := by decide +kernel
theorem dX8_indexOfName_3 : decode cX8_indexOfName 3 = .ok (.iload_n 2, 1) := by decide +kernel
theorem dX8_indexOfName_4 : decode cX8_indexOfName 4 = .ok (.if_icmp .ge 53, 3) := by decide +kernel
theorem dX8_indexOfName_7 : decode cX8_indexOfName 7 = .ok (.iload_n 3, 1) := by decide +kernel
theorem dX8_indexOfName_8 : decode cX8_indexOfName 8 = .ok (.aload_n 1, 1) := by decide +kernel
theorem dX8_indexOfName_9 : decode cX8_indexOfName 9 = .ok (.arraylength, 1) := by decide +kernel
theorem dX8_indexOfName_10 : decode cX8_indexOfName 10 = .ok (.if_icmp .ge 47, 3) := by decide +kernel
theorem dX8_indexOfName_13 : decode cX8_indexOfName 13 = .ok (.aload_n 0, 1) := by decide +kernel
theorem dX8_indexOfName_14 : decode cX8_indexOfName 14 = .ok (.getfield 21, 3) := by decide +kernel
theorem dX8_indexOfName_17 : decode cX8_indexOfName 17 = .ok (.getfield 303, 3) := by decide +kernel
theorem dX8_indexOfName_20 : decode cX8_indexOfName 20 = .ok (.aload_n 0, 1) := by decide +kernel
theorem dX8_indexOfName_21 : decode cX8_indexOfName 21 = .ok (.getfield 34, 3) := by decide +kernel
theorem dX8_indexOfName_24 : decode cX8_indexOfName 24 = .ok (.aaload, 1) := by decide +kernel
theorem dX8_indexOfName_25 : decode cX8_indexOfName 25 = .ok (.getstatic 295, 3) := by decide +kernel
theorem dX8_indexOfName_28 : decode cX8_indexOfName 28 = .ok (.if_acmp .ne 23, 3) := by decide +kernel
theorem dX8_indexOfName_31 : decode cX8_indexOfName 31 = .ok (.aload_n 1, 1) := by decide +kernel
theorem dX8_indexOfName_32 : decode cX8_indexOfName 32 = .ok (.iload_n 3, 1) := by decide +kernel
theorem dX8_indexOfName_33 : decode cX8_indexOfName 33 = .ok (.iaload, 1) := by decide +kernel
theorem dX8_indexOfName_34 : decode cX8_indexOfName 34 = .ok (.aload_n 0, 1) := by decide +kernel
theorem dX8_indexOfName_35 : decode cX8_indexOfName 35 = .ok (.getfield 21, 3) := by decide +kernel
theorem dX8_indexOfName_38 : decode cX8_indexOfName 38 = .ok (.getfield 298, 3) := by decide +kernel
theorem dX8_indexOfName_41 : decode cX8_indexOfName 41 = .ok (.aload_n 0, 1) := by decide +kernel
theorem dX8_indexOfName_42 : decode cX8_indexOfName 42 = .ok (.getfield 34, 3) := by decide +kernel
theorem dX8_indexOfName_45 : decode cX8_indexOfName 45 = .ok (.iaload, 1) := by decide +kernel
theorem dX8_indexOfName_46 : decode cX8_indexOfName 46 = .ok (.if_icmp .ne 5, 3) := by decide +kernel
theorem dX8_indexOfName_49 : decode cX8_indexOfName 49 = .ok (.iload_n 3, 1) := by decide +kernel
theorem dX8_indexOfName_50 : decode cX8_indexOfName 50 = .ok (.ireturn, 1) := by decide +kernel
theorem dX8_indexOfName_51 : decode cX8_indexOfName 51 = .ok (.iinc 3 1, 3) := by decide +kernel
theorem dX8_indexOfName_54 : decode cX8_indexOfName 54 = .ok (.goto (-52), 3) := by decide +kernel
theorem dX8_indexOfName_57 : decode cX8_indexOfName 57 = .ok (.iconst (-1), 1) := by decide +kernel
theorem dX8_indexOfName_58 : decode cX8_indexOfName 58 = .ok (.ireturn, 1) := by decide +kernel
theorem dX8_takeNumber_0 : decode cX8_takeNumber 0 = .ok (.aload_n 0, 1) := by decide +kernel
theorem dX8_takeNumber_1 : decode cX8_takeNumber 1 = .ok (.getfield 21, 3) := by decide +kernel
theorem dX8_takeNumber_4 : decode cX8_takeNumber 4 = .ok (.getfield 298, 3) := by decide +kernel
theorem dX8_takeNumber_7 : decode cX8_takeNumber 7 = .ok (.aload_n 0, 1) := by decide +kernel
theorem dX8_takeNumber_8 : decode cX8_takeNumber 8 = .ok (.getfield 34, 3) := by decide +kernel
theorem dX8_takeNumber_11 : decode cX8_takeNumber 11 = .ok (.iaload, 1) := by decide +kernel
theorem dX8_takeNumber_12 : decode cX8_takeNumber 12 = .ok (.istore_n 3, 1) := by decide +kernel
theorem dX8_takeNumber_13 : decode cX8_takeNumber 13 = .ok (.aload_n 0, 1) := by decide +kernel
theorem dX8_takeNumber_14 : decode cX8_takeNumber 14 = .ok (.invokevirtual 44, 3) := by decide +kernel
theorem dX8_takeNumber_17 : decode cX8_takeNumber 17 = .ok (.getstatic 307, 3) := by decide +kernel
theorem dX8_takeNumber_20 : decode cX8_takeNumber 20 = .ok (.if_acmp .eq 11, 3) := by decide +kernel
theorem dX8_takeNumber_23 : decode cX8_takeNumber 23 = .ok (.aload_n 0, 1) := by decide +kernel
theorem dX8_takeNumber_24 : decode cX8_takeNumber 24 = .ok (.iconst 1, 1) := by decide +kernel
theorem dX8_takeNumber_25 : decode cX8_takeNumber 25 = .ok (.invokevirtual 87, 3) := by decide +kernel
theorem dX8_takeNumber_28 : decode cX8_takeNumber 28 = .ok (.goto 18, 3) := by decide +kernel
theorem dX8_takeNumber_31 : decode cX8_takeNumber 31 = .ok (.iload_n 3, 1) := by decide +kernel
theorem dX8_takeNumber_32 : decode cX8_takeNumber 32 = .ok (.iload_n 1, 1) := by decide +kernel
theorem dX8_takeNumber_33 : decode cX8_takeNumber 33 = .ok (.if_icmp .lt 8, 3) := by decide +kernel
theorem dX8_takeNumber_36 : decode cX8_takeNumber 36 = .ok (.iload_n 3, 1) := by decide +kernel
theorem dX8_takeNumber_37 : decode cX8_takeNumber 37 = .ok (.iload_n 2, 1) := by decide +kernel
theorem dX8_takeNumber_38 : decode cX8_takeNumber 38 = .ok (.if_icmp .le 8, 3) := by decide +kernel
theorem dX8_takeNumber_41 : decode cX8_takeNumber 41 = .ok (.aload_n 0, 1) := by decide +kernel
theorem dX8_takeNumber_42 : decode cX8_takeNumber 42 = .ok (.iconst 2, 1) := by decide +kernel
theorem dX8_takeNumber_43 : decode cX8_takeNumber 43 = .ok (.invokevirtual 87, 3) := by decide +kernel
theorem dX8_takeNumber_46 : decode cX8_takeNumber 46 = .ok (.aload_n 0, 1) := by decide +kernel
theorem dX8_takeNumber_47 : decode cX8_takeNumber 47 = .ok (.invokevirtual 94, 3) := by decide +kernel
theorem dX8_takeNumber_50 : decode cX8_takeNumber 50 = .ok (.aload_n 0, 1) := by decide +kernel
theorem dX8_takeNumber_51 : decode cX8_takeNumber 51 = .ok (.getfield 38, 3) := by decide +kernel
theorem dX8_takeNumber_54 : decode cX8_takeNumber 54 = .ok (.ifCond .ne 7, 3) := by decide +kernel
theorem dX8_takeNumber_57 : decode cX8_takeNumber 57 = .ok (.iload_n 3, 1) := by decide +kernel
theorem dX8_takeNumber_58 : decode cX8_takeNumber 58 = .ok (.goto 4, 3) := by decide +kernel
theorem dX8_takeNumber_61 : decode cX8_takeNumber 61 = .ok (.iconst 0, 1) := by decide +kernel
theorem dX8_takeNumber_62 : decode cX8_takeNumber 62 = .ok (.ireturn, 1) := by decide +kernel
theorem dX8_takeOneMore_0 : decode cX8_takeOneMore 0 = .ok (.iload_n 1, 1) := by decide +kernel
theorem dX8_takeOneMore_1 : decode cX8_takeOneMore 1 = .ok (.iload_n 2, 1) := by decide +kernel
theorem dX8_takeOneMore_2 : decode cX8_takeOneMore 2 = .ok (.if_icmp .lt 8, 3) := by decide +kernel
theorem dX8_takeOneMore_5 : decode cX8_takeOneMore 5 = .ok (.aload_n 0, 1) := by decide +kernel
theorem dX8_takeOneMore_6 : decode cX8_takeOneMore 6 = .ok (.iconst 2, 1) := by decide +kernel
theorem dX8_takeOneMore_7 : decode cX8_takeOneMore 7 = .ok (.invokevirtual 87, 3) := by decide +kernel
theorem dX8_takeOneMore_10 : decode cX8_takeOneMore 10 = .ok (.aload_n 0, 1) := by decide +kernel
theorem dX8_takeOneMore_11 : decode cX8_takeOneMore 11 = .ok (.invokevirtual 94, 3) := by decide +kernel
theorem dX8_takeOneMore_14 : decode cX8_takeOneMore 14 = .ok (.return_, 1) := by decide +kernel
theorem dX8_takeOnce_0 : decode cX8_takeOnce 0 = .ok (.iload_n 1, 1) := by decide +kernel
theorem dX8_takeOnce_1 : decode cX8_takeOnce 1 = .ok (.ifCond .eq 8, 3) := by decide +kernel
theorem dX8_takeOnce_4 : decode cX8_takeOnce 4 = .ok (.aload_n 0, 1) := by decide +kernel
theorem dX8_takeOnce_5 : decode cX8_takeOnce 5 = .ok (.iconst 3, 1) := by decide +kernel
theorem dX8_takeOnce_6 : decode cX8_takeOnce 6 = .ok (.invokevirtual 87, 3) := by decide +kernel
theorem dX8_takeOnce_9 : decode cX8_takeOnce 9 = .ok (.aload_n 0, 1) := by decide +kernel
theorem dX8_takeOnce_10 : decode cX8_takeOnce 10 = .ok (.invokevirtual 94, 3) := by decide +kernel
theorem dX8_takeOnce_13 : decode cX8_takeOnce 13 = .ok (.return_, 1) := by decide +kernel
theorem dX8_takeSemicolon_0 : decode cX8_takeSemicolon 0 = .ok (.aload_n 0, 1) := by decide +kernel
theorem dX8_takeSemicolon_1 : decode cX8_takeSemicolon 1 = .ok (.invokevirtual 44, 3) := by decide +kernel
theorem dX8_takeSemicolon_4 : decode cX8_takeSemicolon 4 = .ok (.getstatic 117, 3) := by decide +kernel
theorem dX8_takeSemicolon_7 : decode cX8_takeSemicolon 7 = .ok (.if_acmp .eq 8, 3) := by decide +kernel
theorem dX8_takeSemicolon_10 : decode cX8_takeSemicolon 10 = .ok (.aload_n 0, 1) := by decide +kernel
theorem dX8_takeSemicolon_11 : decode cX8_takeSemicolon 11 = .ok (.iconst 1, 1) := by decide +kernel
theorem dX8_takeSemicolon_12 : decode cX8_takeSemicolon 12 = .ok (.invokevirtual 87, 3) := by decide +kernel
theorem dX8_takeSemicolon_15 : decode cX8_takeSemicolon 15 = .ok (.aload_n 0, 1) := by decide +kernel
theorem dX8_takeSemicolon_16 : decode cX8_takeSemicolon 16 = .ok (.invokevirtual 94, 3) := by decide +kernel
theorem dX8_takeSemicolon_19 : decode cX8_takeSemicolon 19 = .ok (.aload_n 0, 1) := by decide +kernel
theorem dX8_takeSemicolon_20 : decode cX8_takeSemicolon 20 = .ok (.getfield 38, 3) := by decide +kernel
theorem dX8_takeSemicolon_23 : decode cX8_takeSemicolon 23 = .ok (.ifCond .ne 16, 3) := by decide +kernel
theorem dX8_takeSemicolon_26 : decode cX8_takeSemicolon 26 = .ok (.aload_n 0, 1) := by decide +kernel
theorem dX8_takeSemicolon_27 : decode cX8_takeSemicolon 27 = .ok (.getfield 25, 3) := by decide +kernel
theorem dX8_takeSemicolon_30 : decode cX8_takeSemicolon 30 = .ok (.dup, 1) := by decide +kernel
theorem dX8_takeSemicolon_31 : decode cX8_takeSemicolon 31 = .ok (.getfield 310, 3) := by decide +kernel
theorem dX8_takeSemicolon_34 : decode cX8_takeSemicolon 34 = .ok (.iconst 1, 1) := by decide +kernel
theorem dX8_takeSemicolon_35 : decode cX8_takeSemicolon 35 = .ok (.iadd, 1) := by decide +kernel
theorem dX8_takeSemicolon_36 : decode cX8_takeSemicolon 36 = .ok (.putfield 310, 3) := by decide +kernel
theorem dX8_takeSemicolon_39 : decode cX8_takeSemicolon 39 = .ok (.return_, 1) := by decide +kernel
theorem dX8_comes_0 : decode cX8_comes 0 = .ok (.aload_n 0, 1) := by decide +kernel
theorem dX8_comes_1 : decode cX8_comes 1 = .ok (.getfield 21, 3) := by decide +kernel
theorem dX8_comes_4 : decode cX8_comes 4 = .ok (.getfield 303, 3) := by decide +kernel
theorem dX8_comes_7 : decode cX8_comes 7 = .ok (.aload_n 0, 1) := by decide +kernel
theorem dX8_comes_8 : decode cX8_comes 8 = .ok (.getfield 34, 3) := by decide +kernel
theorem dX8_comes_11 : decode cX8_comes 11 = .ok (.aaload, 1) := by decide +kernel
theorem dX8_comes_12 : decode cX8_comes 12 = .ok (.areturn, 1) := by decide +kernel
theorem dX8_takeToken_0 : decode cX8_takeToken 0 = .ok (.aload_n 0, 1) := by decide +kernel
theorem dX8_takeToken_1 : decode cX8_takeToken 1 = .ok (.getfield 38, 3) := by decide +kernel
theorem dX8_takeToken_4 : decode cX8_takeToken 4 = .ok (.ifCond .ne 27, 3) := by decide +kernel
theorem dX8_takeToken_7 : decode cX8_takeToken 7 = .ok (.aload_n 0, 1) := by decide +kernel
theorem dX8_takeToken_8 : decode cX8_takeToken 8 = .ok (.getfield 34, 3) := by decide +kernel
theorem dX8_takeToken_11 : decode cX8_takeToken 11 = .ok (.aload_n 0, 1) := by decide +kernel
theorem dX8_takeToken_12 : decode cX8_takeToken 12 = .ok (.getfield 21, 3) := by decide +kernel
theorem dX8_takeToken_15 : decode cX8_takeToken 15 = .ok (.getfield 313, 3) := by decide +kernel
theorem dX8_takeToken_18 : decode cX8_takeToken 18 = .ok (.if_icmp .ge 13, 3) := by decide +kernel
theorem dX8_takeToken_21 : decode cX8_takeToken 21 = .ok (.aload_n 0, 1) := by decide +kernel
theorem dX8_takeToken_22 : decode cX8_takeToken 22 = .ok (.dup, 1) := by decide +kernel
theorem dX8_takeToken_23 : decode cX8_takeToken 23 = .ok (.getfield 34, 3) := by decide +kernel
theorem dX8_takeToken_26 : decode cX8_takeToken 26 = .ok (.iconst 1, 1) := by decide +kernel
theorem dX8_takeToken_27 : decode cX8_takeToken 27 = .ok (.iadd, 1) := by decide +kernel
theorem dX8_takeToken_28 : decode cX8_takeToken 28 = .ok (.putfield 34, 3) := by decide +kernel
theorem dX8_takeToken_31 : decode cX8_takeToken 31 = .ok (.return_, 1) := by decide +kernel
theorem dX8_fail_0 : decode cX8_fail 0 = .ok (.aload_n 0, 1) := by decide +kernel
theorem dX8_fail_1 : decode cX8_fail 1 = .ok (.getfield 38, 3) := by decide +kernel
theorem dX8_fail_4 : decode cX8_fail 4 = .ok (.ifCond .ne 24, 3) := by decide +kernel
theorem dX8_fail_7 : decode cX8_fail 7 = .ok (.aload_n 0, 1) := by decide +kernel
theorem dX8_fail_8 : decode cX8_fail 8 = .ok (.iload_n 1, 1) := by decide +kernel
theorem dX8_fail_9 : decode cX8_fail 9 = .ok (.putfield 38, 3) := by decide +kernel
theorem dX8_fail_12 : decode cX8_fail 12 = .ok (.aload_n 0, 1) := by decide +kernel
theorem dX8_fail_13 : decode cX8_fail 13 = .ok (.aload_n 0, 1) := by decide +kernel
theorem dX8_fail_14 : decode cX8_fail 14 = .ok (.getfield 21, 3) := by decide +kernel
theorem dX8_fail_17 : decode cX8_fail 17 = .ok (.getfield 316, 3) := by decide +kernel
theorem dX8_fail_20 : decode cX8_fail 20 = .ok (.aload_n 0, 1) := by decide +kernel
theorem dX8_fail_21 : decode cX8_fail 21 = .ok (.getfield 34, 3) := by decide +kernel
theorem dX8_fail_24 : decode cX8_fail 24 = .ok (.iaload, 1) := by decide +kernel
theorem dX8_fail_25 : decode cX8_fail 25 = .ok (.putfield 41, 3) := by decide +kernel
theorem dX8_fail_28 : decode cX8_fail 28 = .ok (.return_, 1) := by decide +kernel
theorem dX8_failAtTaken_0 : decode cX8_failAtTaken 0 = .ok (.aload_n 0, 1) := by decide +kernel
theorem dX8_failAtTaken_1 : decode cX8_failAtTaken 1 = .ok (.getfield 38, 3) := by decide +kernel
theorem dX8_failAtTaken_4 : decode cX8_failAtTaken 4 = .ok (.ifCond .ne 33, 3) := by decide +kernel
theorem dX8_failAtTaken_7 : decode cX8_failAtTaken 7 = .ok (.aload_n 0, 1) := by decide +kernel
theorem dX8_failAtTaken_8 : decode cX8_failAtTaken 8 = .ok (.getfield 34, 3) := by decide +kernel
theorem dX8_failAtTaken_11 : decode cX8_failAtTaken 11 = .ok (.ifCond .le 26, 3) := by decide +kernel
theorem dX8_failAtTaken_14 : decode cX8_failAtTaken 14 = .ok (.aload_n 0, 1) := by decide +kernel
theorem dX8_failAtTaken_15 : decode cX8_failAtTaken 15 = .ok (.iconst 3, 1) := by decide +kernel
theorem dX8_failAtTaken_16 : decode cX8_failAtTaken 16 = .ok (.putfield 38, 3) := by decide +kernel
theorem dX8_failAtTaken_19 : decode cX8_failAtTaken 19 = .ok (.aload_n 0, 1) := by decide +kernel
theorem dX8_failAtTaken_20 : decode cX8_failAtTaken 20 = .ok (.aload_n 0, 1) := by decide +kernel
theorem dX8_failAtTaken_21 : decode cX8_failAtTaken 21 = .ok (.getfield 21, 3) := by decide +kernel
theorem dX8_failAtTaken_24 : decode cX8_failAtTaken 24 = .ok (.getfield 316, 3) := by decide +kernel
theorem dX8_failAtTaken_27 : decode cX8_failAtTaken 27 = .ok (.aload_n 0, 1) := by decide +kernel
theorem dX8_failAtTaken_28 : decode cX8_failAtTaken 28 = .ok (.getfield 34, 3) := by decide +kernel
theorem dX8_failAtTaken_31 : decode cX8_failAtTaken 31 = .ok (.iconst 1, 1) := by decide +kernel
theorem dX8_failAtTaken_32 : decode cX8_failAtTaken 32 = .ok (.isub, 1) := by decide +kernel
theorem dX8_failAtTaken_33 : decode cX8_failAtTaken 33 = .ok (.iaload, 1) := by decide +kernel
theorem dX8_failAtTaken_34 : decode cX8_failAtTaken 34 = .ok (.putfield 41, 3) := by decide +kernel
theorem dX8_failAtTaken_37 : decode cX8_failAtTaken 37 = .ok (.return_, 1) := by decide +kernel
theorem dX9_init_0 : decode cX9_init 0 = .ok (.aload_n 0, 1) := by decide +kernel
theorem dX9_init_1 : decode cX9_init 1 = .ok (.invokespecial 1, 3) := by decide +kernel
theorem dX9_init_4 : decode cX9_init 4 = .ok (.return_, 1) := by decide +kernel
theorem dX11_init_0 : decode cX11_init 0 = .ok (.aload_n 0, 1) := by decide +kernel
theorem dX11_init_1 : decode cX11_init 1 = .ok (.invokespecial 3, 3) := by decide +kernel
theorem dX11_init_4 : decode cX11_init 4 = .ok (.aload_n 0, 1) := by decide +kernel
theorem dX11_init_5 : decode cX11_init 5 = .ok (.sipush 1201, 3) := by decide +kernel
theorem dX11_init_8 : decode cX11_init 8 = .ok (.anewarray 9, 3) := by decide +kernel
theorem dX11_init_11 : decode cX11_init 11 = .ok (.putfield 11, 3) := by decide +kernel
theorem dX11_init_14 : decode cX11_init 14 = .ok (.aload_n 0, 1) := by decide +kernel
theorem dX11_init_15 : decode cX11_init 15 = .ok (.sipush 1201, 3) := by decide +kernel
theorem dX11_init_18 : decode cX11_init 18 = .ok (.newarray .int, 2) := by decide +kernel
theorem dX11_init_20 : decode cX11_init 20 = .ok (.putfield 17, 3) := by decide +kernel
theorem dX11_init_23 : decode cX11_init 23 = .ok (.aload_n 0, 1) := by decide +kernel
theorem dX11_init_24 : decode cX11_init 24 = .ok (.sipush 1201, 3) := by decide +kernel
theorem dX11_init_27 : decode cX11_init 27 = .ok (.newarray .int, 2) := by decide +kernel
theorem dX11_init_29 : decode cX11_init 29 = .ok (.putfield 21, 3) := by decide +kernel
theorem dX11_init_32 : decode cX11_init 32 = .ok (.aload_n 0, 1) := by decide +kernel
theorem dX11_init_33 : decode cX11_init 33 = .ok (.aload_n 1, 1) := by decide +kernel
theorem dX11_init_34 : decode cX11_init 34 = .ok (.putfield 24, 3) := by decide +kernel
theorem dX11_init_37 : decode cX11_init 37 = .ok (.iconst 0, 1) := by decide +kernel
theorem dX11_init_38 : decode cX11_init 38 = .ok (.istore_n 2, 1) := by decide +kernel
theorem dX11_init_39 : decode cX11_init 39 = .ok (.iload_n 2, 1) := by decide +kernel
theorem dX11_init_40 : decode cX11_init 40 = .ok (.sipush 1200, 3) := by decide +kernel
theorem dX11_init_43 : decode cX11_init 43 = .ok (.if_icmp .gt 18, 3) := by decide +kernel
theorem dX11_init_46 : decode cX11_init 46 = .ok (.aload_n 0, 1) := by decide +kernel
theorem dX11_init_47 : decode cX11_init 47 = .ok (.getfield 11, 3) := by decide +kernel
theorem dX11_init_50 : decode cX11_init 50 = .ok (.iload_n 2, 1) := by decide +kernel
theorem dX11_init_51 : decode cX11_init 51 = .ok (.getstatic 28, 3) := by decide +kernel
theorem dX11_init_54 : decode cX11_init 54 = .ok (.aastore, 1) := by decide +kernel
theorem dX11_init_55 : decode cX11_init 55 = .ok (.iinc 2 1, 3) := by decide +kernel
theorem dX11_init_58 : decode cX11_init 58 = .ok (.goto (-19), 3) := by decide +kernel
theorem dX11_init_61 : decode cX11_init 61 = .ok (.return_, 1) := by decide +kernel
theorem dX11_cutTape_0 : decode cX11_cutTape 0 = .ok (.aload_n 0, 1) := by decide +kernel
theorem dX11_cutTape_1 : decode cX11_cutTape 1 = .ok (.iload_n 1, 1) := by decide +kernel
theorem dX11_cutTape_2 : decode cX11_cutTape 2 = .ok (.sipush 1200, 3) := by decide +kernel
theorem dX11_cutTape_5 : decode cX11_cutTape 5 = .ok (.invokestatic 32, 3) := by decide +kernel
theorem dX11_cutTape_8 : decode cX11_cutTape 8 = .ok (.putfield 38, 3) := by decide +kernel
theorem dX11_cutTape_11 : decode cX11_cutTape 11 = .ok (.aload_n 0, 1) := by decide +kernel
theorem dX11_cutTape_12 : decode cX11_cutTape 12 = .ok (.iconst 0, 1) := by decide +kernel
theorem dX11_cutTape_13 : decode cX11_cutTape 13 = .ok (.putfield 42, 3) := by decide +kernel
theorem dX11_cutTape_16 : decode cX11_cutTape 16 = .ok (.aload_n 0, 1) := by decide +kernel
theorem dX11_cutTape_17 : decode cX11_cutTape 17 = .ok (.iconst 0, 1) := by decide +kernel
theorem dX11_cutTape_18 : decode cX11_cutTape 18 = .ok (.putfield 45, 3) := by decide +kernel
theorem dX11_cutTape_21 : decode cX11_cutTape 21 = .ok (.aload_n 0, 1) := by decide +kernel
theorem dX11_cutTape_22 : decode cX11_cutTape 22 = .ok (.invokevirtual 48, 3) := by decide +kernel
theorem dX11_cutTape_25 : decode cX11_cutTape 25 = .ok (.aload_n 0, 1) := by decide +kernel
theorem dX11_cutTape_26 : decode cX11_cutTape 26 = .ok (.getfield 42, 3) := by decide +kernel
theorem dX11_cutTape_29 : decode cX11_cutTape 29 = .ok (.aload_n 0, 1) := by decide +kernel
theorem dX11_cutTape_30 : decode cX11_cutTape 30 = .ok (.getfield 38, 3) := by decide +kernel
theorem dX11_cutTape_33 : decode cX11_cutTape 33 = .ok (.if_icmp .ge 139, 3) := by decide +kernel
theorem dX11_cutTape_36 : decode cX11_cutTape 36 = .ok (.aload_n 0, 1) := by decide +kernel
theorem dX11_cutTape_37 : decode cX11_cutTape 37 = .ok (.getfield 45, 3) := by decide +kernel
theorem dX11_cutTape_40 : decode cX11_cutTape 40 = .ok (.sipush 1200, 3) := by decide +kernel
theorem dX11_cutTape_43 : decode cX11_cutTape 43 = .ok (.if_icmp .ge 129, 3) := by decide +kernel
theorem dX11_cutTape_46 : decode cX11_cutTape 46 = .ok (.aload_n 0, 1) := by decide +kernel
theorem dX11_cutTape_47 : decode cX11_cutTape 47 = .ok (.getfield 17, 3) := by decide +kernel
theorem dX11_cutTape_50 : decode cX11_cutTape 50 = .ok (.aload_n 0, 1) := by decide +kernel
theorem dX11_cutTape_51 : decode cX11_cutTape 51 = .ok (.getfield 45, 3) := by decide +kernel
theorem dX11_cutTape_54 : decode cX11_cutTape 54 = .ok (.aload_n 0, 1) := by decide +kernel
theorem dX11_cutTape_55 : decode cX11_cutTape 55 = .ok (.getfield 42, 3) := by decide +kernel
theorem dX11_cutTape_58 : decode cX11_cutTape 58 = .ok (.iastore, 1) := by decide +kernel
theorem dX11_cutTape_59 : decode cX11_cutTape 59 = .ok (.aload_n 0, 1) := by decide +kernel
theorem dX11_cutTape_60 : decode cX11_cutTape 60 = .ok (.getfield 21, 3) := by decide +kernel
theorem dX11_cutTape_63 : decode cX11_cutTape 63 = .ok (.aload_n 0, 1) := by decide +kernel
theorem dX11_cutTape_64 : decode cX11_cutTape 64 = .ok (.getfield 45, 3) := by decide +kernel
theorem dX11_cutTape_67 : decode cX11_cutTape 67 = .ok (.iconst 0, 1) := by decide +kernel
theorem dX11_cutTape_68 : decode cX11_cutTape 68 = .ok (.iastore, 1) := by decide +kernel
theorem dX11_cutTape_69 : decode cX11_cutTape 69 = .ok (.aload_n 0, 1) := by decide +kernel
theorem dX11_cutTape_70 : decode cX11_cutTape 70 = .ok (.getfield 24, 3) := by decide +kernel
theorem dX11_cutTape_73 : decode cX11_cutTape 73 = .ok (.aload_n 0, 1) := by decide +kernel
theorem dX11_cutTape_74 : decode cX11_cutTape 74 = .ok (.getfield 42, 3) := by decide +kernel
theorem dX11_cutTape_77 : decode cX11_cutTape 77 = .ok (.baload, 1) := by decide +kernel
theorem dX11_cutTape_78 : decode cX11_cutTape 78 = .ok (.invokestatic 51, 3) := by decide +kernel
theorem dX11_cutTape_81 : decode cX11_cutTape 81 = .ok (.ifCond .eq 10, 3) := by decide +kernel
theorem dX11_cutTape_84 : decode cX11_cutTape 84 = .ok (.aload_n 0, 1) := by decide +kernel
theorem dX11_cutTape_85 : decode cX11_cutTape 85 = .ok (.invokevirtual 55, 3) := by decide +kernel
theorem dX11_cutTape_88 : decode cX11_cutTape 88 = .ok (.goto 67, 3) := by decide +kernel
theorem dX11_cutTape_91 : decode cX11_cutTape 91 = .ok (.aload_n 0, 1) := by decide +kernel
theorem dX11_cutTape_92 : decode cX11_cutTape 92 = .ok (.getfield 24, 3) := by decide +kernel
theorem dX11_cutTape_95 : decode cX11_cutTape 95 = .ok (.aload_n 0, 1) := by decide +kernel
theorem dX11_cutTape_96 : decode cX11_cutTape 96 = .ok (.getfield 42, 3) := by decide +kernel
theorem dX11_cutTape_99 : decode cX11_cutTape 99 = .ok (.baload, 1) := by decide +kernel
theorem dX11_cutTape_100 : decode cX11_cutTape 100 = .ok (.invokestatic 58, 3) := by decide +kernel
theorem dX11_cutTape_103 : decode cX11_cutTape 103 = .ok (.ifCond .eq 10, 3) := by decide +kernel
theorem dX11_cutTape_106 : decode cX11_cutTape 106 = .ok (.aload_n 0, 1) := by decide +kernel
theorem dX11_cutTape_107 : decode cX11_cutTape 107 = .ok (.invokevirtual 61, 3) := by decide +kernel
theorem dX11_cutTape_110 : decode cX11_cutTape 110 = .ok (.goto 45, 3) := by decide +kernel
theorem dX11_cutTape_113 : decode cX11_cutTape 113 = .ok (.aload_n 0, 1) := by decide +kernel
theorem dX11_cutTape_114 : decode cX11_cutTape 114 = .ok (.getfield 11, 3) := by decide +kernel
theorem dX11_cutTape_117 : decode cX11_cutTape 117 = .ok (.aload_n 0, 1) := by decide +kernel
theorem dX11_cutTape_118 : decode cX11_cutTape 118 = .ok (.getfield 45, 3) := by decide +kernel
theorem dX11_cutTape_121 : decode cX11_cutTape 121 = .ok (.aload_n 0, 1) := by decide +kernel
theorem dX11_cutTape_122 : decode cX11_cutTape 122 = .ok (.getfield 24, 3) := by decide +kernel
theorem dX11_cutTape_125 : decode cX11_cutTape 125 = .ok (.aload_n 0, 1) := by decide +kernel
theorem dX11_cutTape_126 : decode cX11_cutTape 126 = .ok (.getfield 42, 3) := by decide +kernel
theorem dX11_cutTape_129 : decode cX11_cutTape 129 = .ok (.baload, 1) := by decide +kernel
theorem dX11_cutTape_130 : decode cX11_cutTape 130 = .ok (.bipush 59, 2) := by decide +kernel
theorem dX11_cutTape_132 : decode cX11_cutTape 132 = .ok (.if_icmp .ne 9, 3) := by decide +kernel
theorem dX11_cutTape_135 : decode cX11_cutTape 135 = .ok (.getstatic 64, 3) := by decide +kernel
theorem dX11_cutTape_138 : decode cX11_cutTape 138 = .ok (.goto 6, 3) := by decide +kernel
theorem dX11_cutTape_141 : decode cX11_cutTape 141 = .ok (.getstatic 67, 3) := by decide +kernel
theorem dX11_cutTape_144 : decode cX11_cutTape 144 = .ok (.aastore, 1) := by decide +kernel
theorem dX11_cutTape_145 : decode cX11_cutTape 145 = .ok (.aload_n 0, 1) := by decide +kernel
theorem dX11_cutTape_146 : decode cX11_cutTape 146 = .ok (.dup, 1) := by decide +kernel
theorem dX11_cutTape_147 : decode cX11_cutTape 147 = .ok (.getfield 42, 3) := by decide +kernel
theorem dX11_cutTape_150 : decode cX11_cutTape 150 = .ok (.iconst 1, 1) := by decide +kernel
theorem dX11_cutTape_151 : decode cX11_cutTape 151 = .ok (.iadd, 1) := by decide +kernel
theorem dX11_cutTape_152 : decode cX11_cutTape 152 = .ok (.putfield 42, 3) := by decide +kernel
theorem dX11_cutTape_155 : decode cX11_cutTape 155 = .ok (.aload_n 0, 1) := by decide +kernel
theorem dX11_cutTape_156 : decode cX11_cutTape 156 = .ok (.dup, 1) := by decide +kernel
theorem dX11_cutTape_157 : decode cX11_cutTape 157 = .ok (.getfield 45, 3) := by decide +kernel
theorem dX11_cutTape_160 : decode cX11_cutTape 160 = .ok (.iconst 1, 1) := by decide +kernel
theorem dX11_cutTape_161 : decode cX11_cutTape 161 = .ok (.iadd, 1) := by decide +kernel
theorem dX11_cutTape_162 : decode cX11_cutTape 162 = .ok (.putfield 45, 3) := by decide +kernel
theorem dX11_cutTape_165 : decode cX11_cutTape 165 = .ok (.aload_n 0, 1) := by decide +kernel
theorem dX11_cutTape_166 : decode cX11_cutTape 166 = .ok (.invokevirtual 48, 3) := by decide +kernel
theorem dX11_cutTape_169 : decode cX11_cutTape 169 = .ok (.goto (-144), 3) := by decide +kernel
theorem dX11_cutTape_172 : decode cX11_cutTape 172 = .ok (.aload_n 0, 1) := by decide +kernel
theorem dX11_cutTape_173 : decode cX11_cutTape 173 = .ok (.getfield 11, 3) := by decide +kernel
theorem dX11_cutTape_176 : decode cX11_cutTape 176 = .ok (.aload_n 0, 1) := by decide +kernel
theorem dX11_cutTape_177 : decode cX11_cutTape 177 = .ok (.getfield 45, 3) := by decide +kernel
theorem dX11_cutTape_180 : decode cX11_cutTape 180 = .ok (.getstatic 28, 3) := by decide +kernel
theorem dX11_cutTape_183 : decode cX11_cutTape 183 = .ok (.aastore, 1) := by decide +kernel
theorem dX11_cutTape_184 : decode cX11_cutTape 184 = .ok (.aload_n 0, 1) := by decide +kernel
theorem dX11_cutTape_185 : decode cX11_cutTape 185 = .ok (.getfield 17, 3) := by decide +kernel
theorem dX11_cutTape_188 : decode cX11_cutTape 188 = .ok (.aload_n 0, 1) := by decide +kernel
theorem dX11_cutTape_189 : decode cX11_cutTape 189 = .ok (.getfield 45, 3) := by decide +kernel
theorem dX11_cutTape_192 : decode cX11_cutTape 192 = .ok (.aload_n 0, 1) := by decide +kernel
theorem dX11_cutTape_193 : decode cX11_cutTape 193 = .ok (.getfield 38, 3) := by decide +kernel
theorem dX11_cutTape_196 : decode cX11_cutTape 196 = .ok (.iastore, 1) := by decide +kernel
theorem dX11_cutTape_197 : decode cX11_cutTape 197 = .ok (.aload_n 0, 1) := by decide +kernel
theorem dX11_cutTape_198 : decode cX11_cutTape 198 = .ok (.getfield 21, 3) := by decide +kernel
theorem dX11_cutTape_201 : decode cX11_cutTape 201 = .ok (.aload_n 0, 1) := by decide +kernel
theorem dX11_cutTape_202 : decode cX11_cutTape 202 = .ok (.getfield 45, 3) := by decide +kernel
theorem dX11_cutTape_205 : decode cX11_cutTape 205 = .ok (.iconst 0, 1) := by decide +kernel
theorem dX11_cutTape_206 : decode cX11_cutTape 206 = .ok (.iastore, 1) := by decide +kernel
theorem dX11_cutTape_207 : decode cX11_cutTape 207 = .ok (.return_, 1) := by decide +kernel
theorem dX11_skipBlanks_0 : decode cX11_skipBlanks 0 = .ok (.aload_n 0, 1) := by decide +kernel
theorem dX11_skipBlanks_1 : decode cX11_skipBlanks 1 = .ok (.getfield 42, 3) := by decide +kernel
theorem dX11_skipBlanks_4 : decode cX11_skipBlanks 4 = .ok (.aload_n 0, 1) := by decide +kernel
theorem dX11_skipBlanks_5 : decode cX11_skipBlanks 5 = .ok (.getfield 38, 3) := by decide +kernel
theorem dX11_skipBlanks_8 : decode cX11_skipBlanks 8 = .ok (.if_icmp .ge 44, 3) := by decide +kernel
theorem dX11_skipBlanks_11 : decode cX11_skipBlanks 11 = .ok (.aload_n 0, 1) := by decide +kernel
theorem dX11_skipBlanks_12 : decode cX11_skipBlanks 12 = .ok (.getfield 24, 3) := by decide +kernel
theorem dX11_skipBlanks_15 : decode cX11_skipBlanks 15 = .ok (.aload_n 0, 1) := by decide +kernel
theorem dX11_skipBlanks_16 : decode cX11_skipBlanks 16 = .ok (.getfield 42, 3) := by decide +kernel
theorem dX11_skipBlanks_19 : decode cX11_skipBlanks 19 = .ok (.baload, 1) := by decide +kernel
theorem dX11_skipBlanks_20 : decode cX11_skipBlanks 20 = .ok (.bipush 10, 2) := by decide +kernel
theorem dX11_skipBlanks_22 : decode cX11_skipBlanks 22 = .ok (.if_icmp .eq 17, 3) := by decide +kernel
theorem dX11_skipBlanks_25 : decode cX11_skipBlanks 25 = .ok (.aload_n 0, 1) := by decide +kernel
theorem dX11_skipBlanks_26 : decode cX11_skipBlanks 26 = .ok (.getfield 24, 3) := by decide +kernel
theorem dX11_skipBlanks_29 : decode cX11_skipBlanks 29 = .ok (.aload_n 0, 1) := by decide +kernel
theorem dX11_skipBlanks_30 : decode cX11_skipBlanks 30 = .ok (.getfield 42, 3) := by decide +kernel
theorem dX11_skipBlanks_33 : decode cX11_skipBlanks 33 = .ok (.baload, 1) := by decide +kernel
theorem dX11_skipBlanks_34 : decode cX11_skipBlanks 34 = .ok (.bipush 32, 2) := by decide +kernel
theorem dX11_skipBlanks_36 : decode cX11_skipBlanks 36 = .ok (.if_icmp .ne 16, 3) := by decide +kernel
theorem dX11_skipBlanks_39 : decode cX11_skipBlanks 39 = .ok (.aload_n 0, 1) := by decide +kernel
theorem dX11_skipBlanks_40 : decode cX11_skipBlanks 40 = .ok (.dup, 1) := by decide +kernel
theorem dX11_skipBlanks_41 : decode cX11_skipBlanks 41 = .ok (.getfield 42, 3) := by decide +kernel
theorem dX11_skipBlanks_44 : decode cX11_skipBlanks 44 = .ok (.iconst 1, 1) := by decide +kernel
theorem dX11_skipBlanks_45 : decode cX11_skipBlanks 45 = .ok (.iadd, 1) := by decide +kernel
theorem dX11_skipBlanks_46 : decode cX11_skipBlanks 46 = .ok (.putfield 42, 3) := by decide +kernel
theorem dX11_skipBlanks_49 : decode cX11_skipBlanks 49 = .ok (.goto (-49), 3) := by decide +kernel
theorem dX11_skipBlanks_52 : decode cX11_skipBlanks 52 = .ok (.return_, 1) := by decide +kernel
theorem dX11_cutNumber_0 : decode cX11_cutNumber 0 = .ok (.iconst 0, 1) := by decide +kernel
theorem dX11_cutNumber_1 : decode cX11_cutNumber 1 = .ok (.istore_n 1, 1) := by decide +kernel
theorem dX11_cutNumber_2 : decode cX11_cutNumber 2 = .ok (.aload_n 0, 1) := by decide +kernel
theorem dX11_cutNumber_3 : decode cX11_cutNumber 3 = .ok (.getfield 42, 3) := by decide +kernel
theorem dX11_cutNumber_6 : decode cX11_cutNumber 6 = .ok (.aload_n 0, 1) := by decide +kernel
theorem dX11_cutNumber_7 : decode cX11_cutNumber 7 = .ok (.getfield 38, 3) := by decide +kernel
theorem dX11_cutNumber_10 : decode cX11_cutNumber 10 = .ok (.if_icmp .ge 54, 3) := by decide +kernel
theorem dX11_cutNumber_13 : decode cX11_cutNumber 13 = .ok (.aload_n 0, 1) := by decide +kernel
theorem dX11_cutNumber_14 : decode cX11_cutNumber 14 = .ok (.getfield 24, 3) := by decide +kernel
theorem dX11_cutNumber_17 : decode cX11_cutNumber 17 = .ok (.aload_n 0, 1) := by decide +kernel
theorem dX11_cutNumber_18 : decode cX11_cutNumber 18 = .ok (.getfield 42, 3) := by decide +kernel
theorem dX11_cutNumber_21 : decode cX11_cutNumber 21 = .ok (.baload, 1) := by decide +kernel
theorem dX11_cutNumber_22 : decode cX11_cutNumber 22 = .ok (.invokestatic 51, 3) := by decide +kernel
theorem dX11_cutNumber_25 : decode cX11_cutNumber 25 = .ok (.ifCond .eq 39, 3) := by decide +kernel
theorem dX11_cutNumber_28 : decode cX11_cutNumber 28 = .ok (.iload_n 1, 1) := by decide +kernel
theorem dX11_cutNumber_29 : decode cX11_cutNumber 29 = .ok (.bipush 10, 2) := by decide +kernel
theorem dX11_cutNumber_31 : decode cX11_cutNumber 31 = .ok (.imul, 1) := by decide +kernel
theorem dX11_cutNumber_32 : decode cX11_cutNumber 32 = .ok (.aload_n 0, 1) := by decide +kernel
theorem dX11_cutNumber_33 : decode cX11_cutNumber 33 = .ok (.getfield 24, 3) := by decide +kernel
theorem dX11_cutNumber_36 : decode cX11_cutNumber 36 = .ok (.aload_n 0, 1) := by decide +kernel
theorem dX11_cutNumber_37 : decode cX11_cutNumber 37 = .ok (.getfield 42, 3) := by decide +kernel
theorem dX11_cutNumber_40 : decode cX11_cutNumber 40 = .ok (.baload, 1) := by decide +kernel
theorem dX11_cutNumber_41 : decode cX11_cutNumber 41 = .ok (.iadd, 1) := by decide +kernel
theorem dX11_cutNumber_42 : decode cX11_cutNumber 42 = .ok (.bipush 48, 2) := by decide +kernel
theorem dX11_cutNumber_44 : decode cX11_cutNumber 44 = .ok (.isub, 1) := by decide +kernel
theorem dX11_cutNumber_45 : decode cX11_cutNumber 45 = .ok (.ldc 70, 2) := by decide +kernel
theorem dX11_cutNumber_47 : decode cX11_cutNumber 47 = .ok (.invokestatic 32, 3) := by decide +kernel
theorem dX11_cutNumber_50 : decode cX11_cutNumber 50 = .ok (.istore_n 1, 1) := by decide +kernel
theorem dX11_cutNumber_51 : decode cX11_cutNumber 51 = .ok (.aload_n 0, 1) := by decide +kernel
theorem dX11_cutNumber_52 : decode cX11_cutNumber 52 = .ok (.dup, 1) := by decide +kernel
theorem dX11_cutNumber_53 : decode cX11_cutNumber 53 = .ok (.getfield 42, 3) := by decide +kernel
theorem dX11_cutNumber_56 : decode cX11_cutNumber 56 = .ok (.iconst 1, 1) := by decide +kernel
theorem dX11_cutNumber_57 : decode cX11_cutNumber 57 = .ok (.iadd, 1) := by decide +kernel
theorem dX11_cutNumber_58 : decode cX11_cutNumber 58 = .ok (.putfield 42, 3) := by decide +kernel
theorem dX11_cutNumber_61 : decode cX11_cutNumber 61 = .ok (.goto (-59), 3) := by decide +kernel
theorem dX11_cutNumber_64 : decode cX11_cutNumber 64 = .ok (.aload_n 0, 1) := by decide +kernel
theorem dX11_cutNumber_65 : decode cX11_cutNumber 65 = .ok (.getfield 11, 3) := by decide +kernel
theorem dX11_cutNumber_68 : decode cX11_cutNumber 68 = .ok (.aload_n 0, 1) := by decide +kernel
theorem dX11_cutNumber_69 : decode cX11_cutNumber 69 = .ok (.getfield 45, 3) := by decide +kernel
theorem dX11_cutNumber_72 : decode cX11_cutNumber 72 = .ok (.getstatic 71, 3) := by decide +kernel
theorem dX11_cutNumber_75 : decode cX11_cutNumber 75 = .ok (.aastore, 1) := by decide +kernel
theorem dX11_cutNumber_76 : decode cX11_cutNumber 76 = .ok (.aload_n 0, 1) := by decide +kernel
theorem dX11_cutNumber_77 : decode cX11_cutNumber 77 = .ok (.getfield 21, 3) := by decide +kernel
theorem dX11_cutNumber_80 : decode cX11_cutNumber 80 = .ok (.aload_n 0, 1) := by decide +kernel
theorem dX11_cutNumber_81 : decode cX11_cutNumber 81 = .ok (.getfield 45, 3) := by decide +kernel
theorem dX11_cutNumber_84 : decode cX11_cutNumber 84 = .ok (.iload_n 1, 1) := by decide +kernel
theorem dX11_cutNumber_85 : decode cX11_cutNumber 85 = .ok (.iastore, 1) := by decide +kernel
theorem dX11_cutNumber_86 : decode cX11_cutNumber 86 = .ok (.return_, 1) := by decide +kernel
theorem dX11_cutWord_0 : decode cX11_cutWord 0 = .ok (.aload_n 0, 1) := by decide +kernel
theorem dX11_cutWord_1 : decode cX11_cutWord 1 = .ok (.getfield 42, 3) := by decide +kernel
theorem dX11_cutWord_4 : decode cX11_cutWord 4 = .ok (.istore_n 1, 1) := by decide +kernel
theorem dX11_cutWord_5 : decode cX11_cutWord 5 = .ok (.aload_n 0, 1) := by decide +kernel
theorem dX11_cutWord_6 : decode cX11_cutWord 6 = .ok (.getfield 42, 3) := by decide +kernel
theorem dX11_cutWord_9 : decode cX11_cutWord 9 = .ok (.aload_n 0, 1) := by decide +kernel
theorem dX11_cutWord_10 : decode cX11_cutWord 10 = .ok (.getfield 38, 3) := by decide +kernel
theorem dX11_cutWord_13 : decode cX11_cutWord 13 = .ok (.if_icmp .ge 31, 3) := by decide +kernel
theorem dX11_cutWord_16 : decode cX11_cutWord 16 = .ok (.aload_n 0, 1) := by decide +kernel
theorem dX11_cutWord_17 : decode cX11_cutWord 17 = .ok (.getfield 24, 3) := by decide +kernel
theorem dX11_cutWord_20 : decode cX11_cutWord 20 = .ok (.aload_n 0, 1) := by decide +kernel
theorem dX11_cutWord_21 : decode cX11_cutWord 21 = .ok (.getfield 42, 3) := by decide +kernel
theorem dX11_cutWord_24 : decode cX11_cutWord 24 = .ok (.baload, 1) := by decide +kernel
theorem dX11_cutWord_25 : decode cX11_cutWord 25 = .ok (.invokestatic 58, 3) := by decide +kernel
theorem dX11_cutWord_28 : decode cX11_cutWord 28 = .ok (.ifCond .eq 16, 3) := by decide +kernel
theorem dX11_cutWord_31 : decode cX11_cutWord 31 = .ok (.aload_n 0, 1) := by decide +kernel
theorem dX11_cutWord_32 : decode cX11_cutWord 32 = .ok (.dup, 1) := by decide +kernel
theorem dX11_cutWord_33 : decode cX11_cutWord 33 = .ok (.getfield 42, 3) := by decide +kernel
theorem dX11_cutWord_36 : decode cX11_cutWord 36 = .ok (.iconst 1, 1) := by decide +kernel
theorem dX11_cutWord_37 : decode cX11_cutWord 37 = .ok (.iadd, 1) := by decide +kernel
theorem dX11_cutWord_38 : decode cX11_cutWord 38 = .ok (.putfield 42, 3) := by decide +kernel
theorem dX11_cutWord_41 : decode cX11_cutWord 41 = .ok (.goto (-36), 3) := by decide +kernel
theorem dX11_cutWord_44 : decode cX11_cutWord 44 = .ok (.aload_n 0, 1) := by decide +kernel
theorem dX11_cutWord_45 : decode cX11_cutWord 45 = .ok (.getfield 11, 3) := by decide +kernel
theorem dX11_cutWord_48 : decode cX11_cutWord 48 = .ok (.aload_n 0, 1) := by decide +kernel
theorem dX11_cutWord_49 : decode cX11_cutWord 49 = .ok (.getfield 45, 3) := by decide +kernel
theorem dX11_cutWord_52 : decode cX11_cutWord 52 = .ok (.aload_n 0, 1) := by decide +kernel
theorem dX11_cutWord_53 : decode cX11_cutWord 53 = .ok (.iload_n 1, 1) := by decide +kernel
theorem dX11_cutWord_54 : decode cX11_cutWord 54 = .ok (.invokevirtual 74, 3) := by decide +kernel
theorem dX11_cutWord_57 : decode cX11_cutWord 57 = .ok (.aastore, 1) := by decide +kernel
theorem dX11_cutWord_58 : decode cX11_cutWord 58 = .ok (.aload_n 0, 1) := by decide +kernel
theorem dX11_cutWord_59 : decode cX11_cutWord 59 = .ok (.getfield 11, 3) := by decide +kernel
theorem dX11_cutWord_62 : decode cX11_cutWord 62 = .ok (.aload_n 0, 1) := by decide +kernel
theorem dX11_cutWord_63 : decode cX11_cutWord 63 = .ok (.getfield 45, 3) := by decide +kernel
theorem dX11_cutWord_66 : decode cX11_cutWord 66 = .ok (.aaload, 1) := by decide +kernel
theorem dX11_cutWord_67 : decode cX11_cutWord 67 = .ok (.getstatic 78, 3) := by decide +kernel
theorem dX11_cutWord_70 : decode cX11_cutWord 70 = .ok (.if_acmp .ne 52, 3) := by decide +kernel
theorem dX11_cutWord_73 : decode cX11_cutWord 73 = .ok (.iload_n 1, 1) := by decide +kernel
theorem dX11_cutWord_74 : decode cX11_cutWord 74 = .ok (.istore_n 2, 1) := by decide +kernel
theorem dX11_cutWord_75 : decode cX11_cutWord 75 = .ok (.iload_n 2, 1) := by decide +kernel
theorem dX11_cutWord_76 : decode cX11_cutWord 76 = .ok (.aload_n 0, 1) := by decide +kernel
theorem dX11_cutWord_77 : decode cX11_cutWord 77 = .ok (.getfield 42, 3) := by decide +kernel
theorem dX11_cutWord_80 : decode cX11_cutWord 80 = .ok (.if_icmp .ge 42, 3) := by decide +kernel
theorem dX11_cutWord_83 : decode cX11_cutWord 83 = .ok (.aload_n 0, 1) := by decide +kernel
theorem dX11_cutWord_84 : decode cX11_cutWord 84 = .ok (.getfield 21, 3) := by decide +kernel
theorem dX11_cutWord_87 : decode cX11_cutWord 87 = .ok (.aload_n 0, 1) := by decide +kernel
theorem dX11_cutWord_88 : decode cX11_cutWord 88 = .ok (.getfield 45, 3) := by decide +kernel
theorem dX11_cutWord_91 : decode cX11_cutWord 91 = .ok (.aload_n 0, 1) := by decide +kernel
theorem dX11_cutWord_92 : decode cX11_cutWord 92 = .ok (.getfield 21, 3) := by decide +kernel
theorem dX11_cutWord_95 : decode cX11_cutWord 95 = .ok (.aload_n 0, 1) := by decide +kernel
theorem dX11_cutWord_96 : decode cX11_cutWord 96 = .ok (.getfield 45, 3) := by decide +kernel
theorem dX11_cutWord_99 : decode cX11_cutWord 99 = .ok (.iaload, 1) := by decide +kernel
theorem dX11_cutWord_100 : decode cX11_cutWord 100 = .ok (.bipush 27, 2) := by decide +kernel
theorem dX11_cutWord_102 : decode cX11_cutWord 102 = .ok (.imul, 1) := by decide +kernel
theorem dX11_cutWord_103 : decode cX11_cutWord 103 = .ok (.aload_n 0, 1) := by decide +kernel
theorem dX11_cutWord_104 : decode cX11_cutWord 104 = .ok (.getfield 24, 3) := by decide +kernel
theorem dX11_cutWord_107 : decode cX11_cutWord 107 = .ok (.iload_n 2, 1) := by decide +kernel
theorem dX11_cutWord_108 : decode cX11_cutWord 108 = .ok (.baload, 1) := by decide +kernel
theorem dX11_cutWord_109 : decode cX11_cutWord 109 = .ok (.iadd, 1) := by decide +kernel
theorem dX11_cutWord_110 : decode cX11_cutWord 110 = .ok (.bipush 97, 2) := by decide +kernel
theorem dX11_cutWord_112 : decode cX11_cutWord 112 = .ok (.isub, 1) := by decide +kernel
theorem dX11_cutWord_113 : decode cX11_cutWord 113 = .ok (.iconst 1, 1) := by decide +kernel
theorem dX11_cutWord_114 : decode cX11_cutWord 114 = .ok (.iadd, 1) := by decide +kernel
theorem dX11_cutWord_115 : decode cX11_cutWord 115 = .ok (.iastore, 1) := by decide +kernel
theorem dX11_cutWord_116 : decode cX11_cutWord 116 = .ok (.iinc 2 1, 3) := by decide +kernel
theorem dX11_cutWord_119 : decode cX11_cutWord 119 = .ok (.goto (-44), 3) := by decide +kernel
theorem dX11_cutWord_122 : decode cX11_cutWord 122 = .ok (.return_, 1) := by decide +kernel
theorem dX11_wordKind_0 : decode cX11_wordKind 0 = .ok (.iconst 0, 1) := by decide +kernel
theorem dX11_wordKind_1 : decode cX11_wordKind 1 = .ok (.istore_n 2, 1) := by decide +kernel
theorem dX11_wordKind_2 : decode cX11_wordKind 2 = .ok (.iload_n 2, 1) := by decide +kernel
theorem dX11_wordKind_3 : decode cX11_wordKind 3 = .ok (.getstatic 81, 3) := by decide +kernel
theorem dX11_wordKind_6 : decode cX11_wordKind 6 = .ok (.arraylength, 1) := by decide +kernel
theorem dX11_wordKind_7 : decode cX11_wordKind 7 = .ok (.if_icmp .ge 31, 3) := by decide +kernel
theorem dX11_wordKind_10 : decode cX11_wordKind 10 = .ok (.aload_n 0, 1) := by decide +kernel
theorem dX11_wordKind_11 : decode cX11_wordKind 11 = .ok (.getstatic 81, 3) := by decide +kernel
theorem dX11_wordKind_14 : decode cX11_wordKind 14 = .ok (.iload_n 2, 1) := by decide +kernel
theorem dX11_wordKind_15 : decode cX11_wordKind 15 = .ok (.aaload, 1) := by decide +kernel
theorem dX11_wordKind_16 : decode cX11_wordKind 16 = .ok (.getfield 84, 3) := by decide +kernel
theorem dX11_wordKind_19 : decode cX11_wordKind 19 = .ok (.iload_n 1, 1) := by decide +kernel
theorem dX11_wordKind_20 : decode cX11_wordKind 20 = .ok (.invokevirtual 88, 3) := by decide +kernel
theorem dX11_wordKind_23 : decode cX11_wordKind 23 = .ok (.ifCond .eq 9, 3) := by decide +kernel
theorem dX11_wordKind_26 : decode cX11_wordKind 26 = .ok (.getstatic 81, 3) := by decide +kernel
theorem dX11_wordKind_29 : decode cX11_wordKind 29 = .ok (.iload_n 2, 1) := by decide +kernel
theorem dX11_wordKind_30 : decode cX11_wordKind 30 = .ok (.aaload, 1) := by decide +kernel
theorem dX11_wordKind_31 : decode cX11_wordKind 31 = .ok (.areturn, 1) := by decide +kernel
theorem dX11_wordKind_32 : decode cX11_wordKind 32 = .ok (.iinc 2 1, 3) := by decide +kernel
theorem dX11_wordKind_35 : decode cX11_wordKind 35 = .ok (.goto (-33), 3) := by decide +kernel
theorem dX11_wordKind_38 : decode cX11_wordKind 38 = .ok (.aload_n 0, 1) := by decide +kernel
theorem dX11_wordKind_39 : decode cX11_wordKind 39 = .ok (.getfield 42, 3) := by decide +kernel
theorem dX11_wordKind_42 : decode cX11_wordKind 42 = .ok (.iload_n 1, 1) := by decide +kernel
theorem dX11_wordKind_43 : decode cX11_wordKind 43 = .ok (.isub, 1) := by decide +kernel
theorem dX11_wordKind_44 : decode cX11_wordKind 44 = .ok (.iconst 5, 1) := by decide +kernel
theorem dX11_wordKind_45 : decode cX11_wordKind 45 = .ok (.if_icmp .gt 9, 3) := by decide +kernel
theorem dX11_wordKind_48 : decode cX11_wordKind 48 = .ok (.getstatic 78, 3) := by decide +kernel
theorem dX11_wordKind_51 : decode cX11_wordKind 51 = .ok (.goto 6, 3) := by decide +kernel
theorem dX11_wordKind_54 : decode cX11_wordKind 54 = .ok (.getstatic 67, 3) := by decide +kernel
theorem dX11_wordKind_57 : decode cX11_wordKind 57 = .ok (.areturn, 1) := by decide +kernel
theorem dX11_isWord_0 : decode cX11_isWord 0 = .ok (.aload_n 1, 1) := by decide +kernel
theorem dX11_isWord_1 : decode cX11_isWord 1 = .ok (.invokevirtual 92, 3) := by decide +kernel
theorem dX11_isWord_4 : decode cX11_isWord 4 = .ok (.aload_n 0, 1) := by decide +kernel
theorem dX11_isWord_5 : decode cX11_isWord 5 = .ok (.getfield 42, 3) := by decide +kernel
theorem dX11_isWord_8 : decode cX11_isWord 8 = .ok (.iload_n 2, 1) := by decide +kernel
theorem dX11_isWord_9 : decode cX11_isWord 9 = .ok (.isub, 1) := by decide +kernel
theorem dX11_isWord_10 : decode cX11_isWord 10 = .ok (.if_icmp .eq 5, 3) := by decide +kernel
theorem dX11_isWord_13 : decode cX11_isWord 13 = .ok (.iconst 0, 1) := by decide +kernel
theorem dX11_isWord_14 : decode cX11_isWord 14 = .ok (.ireturn, 1) := by decide +kernel
theorem dX11_isWord_15 : decode cX11_isWord 15 = .ok (.iconst 0, 1) := by decide +kernel
theorem dX11_isWord_16 : decode cX11_isWord 16 = .ok (.istore_n 3, 1) := by decide +kernel
theorem dX11_isWord_17 : decode cX11_isWord 17 = .ok (.iload_n 3, 1) := by decide +kernel
theorem dX11_isWord_18 : decode cX11_isWord 18 = .ok (.aload_n 1, 1) := by decide +kernel
theorem dX11_isWord_19 : decode cX11_isWord 19 = .ok (.invokevirtual 92, 3) := by decide +kernel
theorem dX11_isWord_22 : decode cX11_isWord 22 = .ok (.if_icmp .ge 27, 3) := by decide +kernel
theorem dX11_isWord_25 : decode cX11_isWord 25 = .ok (.aload_n 1, 1) := by decide +kernel
theorem dX11_isWord_26 : decode cX11_isWord 26 = .ok (.iload_n 3, 1) := by decide +kernel
theorem dX11_isWord_27 : decode cX11_isWord 27 = .ok (.invokevirtual 97, 3) := by decide +kernel
theorem dX11_isWord_30 : decode cX11_isWord 30 = .ok (.aload_n 0, 1) := by decide +kernel
theorem dX11_isWord_31 : decode cX11_isWord 31 = .ok (.getfield 24, 3) := by decide +kernel
theorem dX11_isWord_34 : decode cX11_isWord 34 = .ok (.iload_n 2, 1) := by decide +kernel
theorem dX11_isWord_35 : decode cX11_isWord 35 = .ok (.iload_n 3, 1) := by decide +kernel
theorem dX11_isWord_36 : decode cX11_isWord 36 = .ok (.iadd, 1) := by decide +kernel
theorem dX11_isWord_37 : decode cX11_isWord 37 = .ok (.baload, 1) := by decide +kernel
theorem dX11_isWord_38 : decode cX11_isWord 38 = .ok (.if_icmp .eq 5, 3) := by decide +kernel
theorem dX11_isWord_41 : decode cX11_isWord 41 = .ok (.iconst 0, 1) := by decide +kernel
theorem dX11_isWord_42 : decode cX11_isWord 42 = .ok (.ireturn, 1) := by decide +kernel
theorem dX11_isWord_43 : decode cX11_isWord 43 = .ok (.iinc 3 1, 3) := by decide +kernel
theorem dX11_isWord_46 : decode cX11_isWord 46 = .ok (.goto (-29), 3) := by decide +kernel
theorem dX11_isWord_49 : decode cX11_isWord 49 = .ok (.iconst 1, 1) := by decide +kernel
theorem dX11_isWord_50 : decode cX11_isWord 50 = .ok (.ireturn, 1) := by decide +kernel
theorem dX11_isDigit_0 : decode cX11_isDigit 0 = .ok (.iload_n 0, 1) := by decide +kernel
theorem dX11_isDigit_1 : decode cX11_isDigit 1 = .ok (.bipush 48, 2) := by decide +kernel
theorem dX11_isDigit_3 : decode cX11_isDigit 3 = .ok (.if_icmp .lt 13, 3) := by decide +kernel
theorem dX11_isDigit_6 : decode cX11_isDigit 6 = .ok (.iload_n 0, 1) := by decide +kernel
theorem dX11_isDigit_7 : decode cX11_isDigit 7 = .ok (.bipush 57, 2) := by decide +kernel
theorem dX11_isDigit_9 : decode cX11_isDigit 9 = .ok (.if_icmp .gt 7, 3) := by decide +kernel
theorem dX11_isDigit_12 : decode cX11_isDigit 12 = .ok (.iconst 1, 1) := by decide +kernel
theorem dX11_isDigit_13 : decode cX11_isDigit 13 = .ok (.goto 4, 3) := by decide +kernel
theorem dX11_isDigit_16 : decode cX11_isDigit 16 = .ok (.iconst 0, 1) := by decide +kernel
theorem dX11_isDigit_17 : decode cX11_isDigit 17 = .ok (.ireturn, 1) := by decide +kernel
theorem dX11_isLetter_0 : decode cX11_isLetter 0 = .ok (.iload_n 0, 1) := by decide +kernel
theorem dX11_isLetter_1 : decode cX11_isLetter 1 = .ok (.bipush 97, 2) := by decide +kernel
theorem dX11_isLetter_3 : decode cX11_isLetter 3 = .ok (.if_icmp .lt 13, 3) := by decide +kernel
theorem dX11_isLetter_6 : decode cX11_isLetter 6 = .ok (.iload_n 0, 1) := by decide +kernel
theorem dX11_isLetter_7 : decode cX11_isLetter 7 = .ok (.bipush 122, 2) := by decide +kernel
theorem dX11_isLetter_9 : decode cX11_isLetter 9 = .ok (.if_icmp .gt 7, 3) := by decide +kernel
theorem dX11_isLetter_12 : decode cX11_isLetter 12 = .ok (.iconst 1, 1) := by decide +kernel
theorem dX11_isLetter_13 : decode cX11_isLetter 13 = .ok (.goto 4, 3) := by decide +kernel
theorem dX11_isLetter_16 : decode cX11_isLetter 16 = .ok (.iconst 0, 1) := by decide +kernel
theorem dX11_isLetter_17 : decode cX11_isLetter 17 = .ok (.ireturn, 1) := by decide +kernel
theorem dX12_init_0 : decode cX12_init 0 = .ok (.aload_n 0, 1) := by decide +kernel
theorem dX12_init_1 : decode cX12_init 1 = .ok (.invokespecial 3, 3) := by decide +kernel
theorem dX12_init_4 : decode cX12_init 4 = .ok (.aload_n 0, 1) := by decide +kernel
theorem dX12_init_5 : decode cX12_init 5 = .ok (.sipush 1200, 3) := by decide +kernel
theorem dX12_init_8 : decode cX12_init 8 = .ok (.newarray .byte, 2) := by decide +kernel
theorem dX12_init_10 : decode cX12_init 10 = .ok (.putfield 9, 3) := by decide +kernel
theorem dX12_init_13 : decode cX12_init 13 = .ok (.aload_n 0, 1) := by decide +kernel
theorem dX12_init_14 : decode cX12_init 14 = .ok (.iconst 0, 1) := by decide +kernel
theorem dX12_init_15 : decode cX12_init 15 = .ok (.putfield 13, 3) := by decide +kernel
theorem dX12_init_18 : decode cX12_init 18 = .ok (.aload_n 0, 1) := by decide +kernel
theorem dX12_init_19 : decode cX12_init 19 = .ok (.iconst 0, 1) := by decide +kernel
theorem dX12_init_20 : decode cX12_init 20 = .ok (.putfield 17, 3) := by decide +kernel
theorem dX12_init_23 : decode cX12_init 23 = .ok (.aload_n 0, 1) := by decide +kernel
theorem dX12_init_24 : decode cX12_init 24 = .ok (.iconst (-1), 1) := by decide +kernel
theorem dX12_init_25 : decode cX12_init 25 = .ok (.putfield 20, 3) := by decide +kernel
theorem dX12_init_28 : decode cX12_init 28 = .ok (.aload_n 0, 1) := by decide +kernel
theorem dX12_init_29 : decode cX12_init 29 = .ok (.new 23, 3) := by decide +kernel
theorem dX12_init_32 : decode cX12_init 32 = .ok (.dup, 1) := by decide +kernel
theorem dX12_init_33 : decode cX12_init 33 = .ok (.invokespecial 25, 3) := by decide +kernel
theorem dX12_init_36 : decode cX12_init 36 = .ok (.putfield 26, 3) := by decide +kernel
theorem dX12_init_39 : decode cX12_init 39 = .ok (.aload_n 0, 1) := by decide +kernel
theorem dX12_init_40 : decode cX12_init 40 = .ok (.new 23, 3) := by decide +kernel
theorem dX12_init_43 : decode cX12_init 43 = .ok (.dup, 1) := by decide +kernel
theorem dX12_init_44 : decode cX12_init 44 = .ok (.invokespecial 25, 3) := by decide +kernel
theorem dX12_init_47 : decode cX12_init 47 = .ok (.putfield 30, 3) := by decide +kernel
theorem dX12_init_50 : decode cX12_init 50 = .ok (.aload_n 0, 1) := by decide +kernel
theorem dX12_init_51 : decode cX12_init 51 = .ok (.new 33, 3) := by decide +kernel
theorem dX12_init_54 : decode cX12_init 54 = .ok (.dup, 1) := by decide +kernel
theorem dX12_init_55 : decode cX12_init 55 = .ok (.aload_n 0, 1) := by decide +kernel
theorem dX12_init_56 : decode cX12_init 56 = .ok (.getfield 9, 3) := by decide +kernel
theorem dX12_init_59 : decode cX12_init 59 = .ok (.invokespecial 35, 3) := by decide +kernel
theorem dX12_init_62 : decode cX12_init 62 = .ok (.putfield 38, 3) := by decide +kernel
theorem dX12_init_65 : decode cX12_init 65 = .ok (.aload_n 0, 1) := by decide +kernel
theorem dX12_init_66 : decode cX12_init 66 = .ok (.new 42, 3) := by decide +kernel
theorem dX12_init_69 : decode cX12_init 69 = .ok (.dup, 1) := by decide +kernel
theorem dX12_init_70 : decode cX12_init 70 = .ok (.aload_n 0, 1) := by decide +kernel
theorem dX12_init_71 : decode cX12_init 71 = .ok (.getfield 38, 3) := by decide +kernel
theorem dX12_init_74 : decode cX12_init 74 = .ok (.aload_n 0, 1) := by decide +kernel
theorem dX12_init_75 : decode cX12_init 75 = .ok (.getfield 30, 3) := by decide +kernel
theorem dX12_init_78 : decode cX12_init 78 = .ok (.invokespecial 44, 3) := by decide +kernel
theorem dX12_init_81 : decode cX12_init 81 = .ok (.putfield 47, 3) := by decide +kernel
theorem dX12_init_84 : decode cX12_init 84 = .ok (.aload_n 0, 1) := by decide +kernel
theorem dX12_init_85 : decode cX12_init 85 = .ok (.new 42, 3) := by decide +kernel
theorem dX12_init_88 : decode cX12_init 88 = .ok (.dup, 1) := by decide +kernel
theorem dX12_init_89 : decode cX12_init 89 = .ok (.aload_n 0, 1) := by decide +kernel
theorem dX12_init_90 : decode cX12_init 90 = .ok (.getfield 38, 3) := by decide +kernel
theorem dX12_init_93 : decode cX12_init 93 = .ok (.aload_n 0, 1) := by decide +kernel
theorem dX12_init_94 : decode cX12_init 94 = .ok (.getfield 26, 3) := by decide +kernel
theorem dX12_init_97 : decode cX12_init 97 = .ok (.invokespecial 44, 3) := by decide +kernel
theorem dX12_init_100 : decode cX12_init 100 = .ok (.putfield 51, 3) := by decide +kernel
theorem dX12_init_103 : decode cX12_init 103 = .ok (.aload_n 0, 1) := by decide +kernel
theorem dX12_init_104 : decode cX12_init 104 = .ok (.new 54, 3) := by decide +kernel
theorem dX12_init_107 : decode cX12_init 107 = .ok (.dup, 1) := by decide +kernel
theorem dX12_init_108 : decode cX12_init 108 = .ok (.aload_n 0, 1) := by decide +kernel
theorem dX12_init_109 : decode cX12_init 109 = .ok (.getfield 26, 3) := by decide +kernel
theorem dX12_init_112 : decode cX12_init 112 = .ok (.invokespecial 56, 3) := by decide +kernel
theorem dX12_init_115 : decode cX12_init 115 = .ok (.putfield 59, 3) := by decide +kernel
theorem dX12_init_118 : decode cX12_init 118 = .ok (.aload_n 0, 1) := by decide +kernel
theorem dX12_init_119 : decode cX12_init 119 = .ok (.new 63, 3) := by decide +kernel
theorem dX12_init_122 : decode cX12_init 122 = .ok (.dup, 1) := by decide +kernel
theorem dX12_init_123 : decode cX12_init 123 = .ok (.aload_n 0, 1) := by decide +kernel
theorem dX12_init_124 : decode cX12_init 124 = .ok (.getfield 26, 3) := by decide +kernel
theorem dX12_init_127 : decode cX12_init 127 = .ok (.aload_n 0, 1) := by decide +kernel
theorem dX12_init_128 : decode cX12_init 128 = .ok (.getfield 59, 3) := by decide +kernel
theorem dX12_init_131 : decode cX12_init 131 = .ok (.invokespecial 65, 3) := by decide +kernel
theorem dX12_init_134 : decode cX12_init 134 = .ok (.putfield 68, 3) := by decide +kernel
theorem dX12_init_137 : decode cX12_init 137 = .ok (.aload_n 0, 1) := by decide +kernel
theorem dX12_init_138 : decode cX12_init 138 = .ok (.new 72, 3) := by decide +kernel
theorem dX12_init_141 : decode cX12_init 141 = .ok (.dup, 1) := by decide +kernel
theorem dX12_init_142 : decode cX12_init 142 = .ok (.aload_n 0, 1) := by decide +kernel
theorem dX12_init_143 : decode cX12_init 143 = .ok (.getfield 26, 3) := by decide +kernel
theorem dX12_init_146 : decode cX12_init 146 = .ok (.invokespecial 74, 3) := by decide +kernel
theorem dX12_init_149 : decode cX12_init 149 = .ok (.putfield 75, 3) := by decide +kernel
theorem dX12_init_152 : decode cX12_init 152 = .ok (.return_, 1) := by decide +kernel
theorem dX12_feed_0 : decode cX12_feed 0 = .ok (.aload_n 0, 1) := by decide +kernel
theorem dX12_feed_1 : decode cX12_feed 1 = .ok (.getfield 13, 3) := by decide +kernel
theorem dX12_feed_4 : decode cX12_feed 4 = .ok (.sipush 1180, 3) := by decide +kernel
theorem dX12_feed_7 : decode cX12_feed 7 = .ok (.if_icmp .le 5, 3) := by decide +kernel
theorem dX12_feed_10 : decode cX12_feed 10 = .ok (.iconst (-1), 1) := by decide +kernel
theorem dX12_feed_11 : decode cX12_feed 11 = .ok (.ireturn, 1) := by decide +kernel
theorem dX12_feed_12 : decode cX12_feed 12 = .ok (.aload_n 0, 1) := by decide +kernel
theorem dX12_feed_13 : decode cX12_feed 13 = .ok (.iload_n 1, 1) := by decide +kernel
theorem dX12_feed_14 : decode cX12_feed 14 = .ok (.invokevirtual 79, 3) := by decide +kernel
theorem dX12_feed_17 : decode cX12_feed 17 = .ok (.aload_n 0, 1) := by decide +kernel
theorem dX12_feed_18 : decode cX12_feed 18 = .ok (.iload_n 2, 1) := by decide +kernel
theorem dX12_feed_19 : decode cX12_feed 19 = .ok (.invokevirtual 79, 3) := by decide +kernel
theorem dX12_feed_22 : decode cX12_feed 22 = .ok (.aload_n 0, 1) := by decide +kernel
theorem dX12_feed_23 : decode cX12_feed 23 = .ok (.iload_n 3, 1) := by decide +kernel
theorem dX12_feed_24 : decode cX12_feed 24 = .ok (.invokevirtual 79, 3) := by decide +kernel
theorem dX12_feed_27 : decode cX12_feed 27 = .ok (.aload_n 0, 1) := by decide +kernel
theorem dX12_feed_28 : decode cX12_feed 28 = .ok (.iload 4, 2) := by decide +kernel
theorem dX12_feed_30 : decode cX12_feed 30 = .ok (.invokevirtual 79, 3) := by decide +kernel
theorem dX12_feed_33 : decode cX12_feed 33 = .ok (.aload_n 0, 1) := by decide +kernel
theorem dX12_feed_34 : decode cX12_feed 34 = .ok (.iload 5, 2) := by decide +kernel
theorem dX12_feed_36 : decode cX12_feed 36 = .ok (.invokevirtual 79, 3) := by decide +kernel
theorem dX12_feed_39 : decode cX12_feed 39 = .ok (.aload_n 0, 1) := by decide +kernel
theorem dX12_feed_40 : decode cX12_feed 40 = .ok (.getfield 13, 3) := by decide +kernel
theorem dX12_feed_43 : decode cX12_feed 43 = .ok (.ireturn, 1) := by decide +kernel
theorem dX12_putNumber_0 : decode cX12_putNumber 0 = .ok (.bipush 24, 2) := by decide +kernel
theorem dX12_putNumber_2 : decode cX12_putNumber 2 = .ok (.istore_n 2, 1) := by decide +kernel
theorem dX12_putNumber_3 : decode cX12_putNumber 3 = .ok (.iload_n 2, 1) := by decide +kernel
theorem dX12_putNumber_4 : decode cX12_putNumber 4 = .ok (.ifCond .lt 42, 3) := by decide +kernel
theorem dX12_putNumber_7 : decode cX12_putNumber 7 = .ok (.aload_n 0, 1) := by decide +kernel
theorem dX12_putNumber_8 : decode cX12_putNumber 8 = .ok (.getfield 13, 3) := by decide +kernel
theorem dX12_putNumber_11 : decode cX12_putNumber 11 = .ok (.sipush 1200, 3) := by decide +kernel
theorem dX12_putNumber_14 : decode cX12_putNumber 14 = .ok (.if_icmp .ge 32, 3) := by decide +kernel
theorem dX12_putNumber_17 : decode cX12_putNumber 17 = .ok (.aload_n 0, 1) := by decide +kernel
theorem dX12_putNumber_18 : decode cX12_putNumber 18 = .ok (.getfield 9, 3) := by decide +kernel
theorem dX12_putNumber_21 : decode cX12_putNumber 21 = .ok (.aload_n 0, 1) := by decide +kernel
theorem dX12_putNumber_22 : decode cX12_putNumber 22 = .ok (.getfield 13, 3) := by decide +kernel
theorem dX12_putNumber_25 : decode cX12_putNumber 25 = .ok (.iload_n 1, 1) := by decide +kernel
theorem dX12_putNumber_26 : decode cX12_putNumber 26 = .ok (.iload_n 2, 1) := by decide +kernel
theorem dX12_putNumber_27 : decode cX12_putNumber 27 = .ok (.iushr, 1) := by decide +kernel
theorem dX12_putNumber_28 : decode cX12_putNumber 28 = .ok (.i2b, 1) := by decide +kernel
theorem dX12_putNumber_29 : decode cX12_putNumber 29 = .ok (.bastore, 1) := by decide +kernel
theorem dX12_putNumber_30 : decode cX12_putNumber 30 = .ok (.aload_n 0, 1) := by decide +kernel
theorem dX12_putNumber_31 : decode cX12_putNumber 31 = .ok (.dup, 1) := by decide +kernel
theorem dX12_putNumber_32 : decode cX12_putNumber 32 = .ok (.getfield 13, 3) := by decide +kernel
theorem dX12_putNumber_35 : decode cX12_putNumber 35 = .ok (.iconst 1, 1) := by decide +kernel
theorem dX12_putNumber_36 : decode cX12_putNumber 36 = .ok (.iadd, 1) := by decide +kernel
theorem dX12_putNumber_37 : decode cX12_putNumber 37 = .ok (.putfield 13, 3) := by decide +kernel
theorem dX12_putNumber_40 : decode cX12_putNumber 40 = .ok (.iinc 2 (-8), 3) := by decide +kernel
theorem dX12_putNumber_43 : decode cX12_putNumber 43 = .ok (.goto (-40), 3) := by decide +kernel
theorem dX12_putNumber_46 : decode cX12_putNumber 46 = .ok (.return_, 1) := by decide +kernel
theorem dX12_text_0 : decode cX12_text 0 = .ok (.iload_n 1, 1) := by decide +kernel
theorem dX12_text_1 : decode cX12_text 1 = .ok (.ifCond .lt 11, 3) := by decide +kernel
theorem dX12_text_4 : decode cX12_text 4 = .ok (.iload_n 1, 1) := by decide +kernel
theorem dX12_text_5 : decode cX12_text 5 = .ok (.aload_n 0, 1) := by decide +kernel
theorem dX12_text_6 : decode cX12_text 6 = .ok (.getfield 13, 3) := by decide +kernel
theorem dX12_text_9 : decode cX12_text 9 = .ok (.if_icmp .le 6, 3) := by decide +kernel
theorem dX12_text_12 : decode cX12_text 12 = .ok (.bipush (-2), 2) := by decide +kernel
theorem dX12_text_14 : decode cX12_text 14 = .ok (.ireturn, 1) := by decide +kernel
theorem dX12_text_15 : decode cX12_text 15 = .ok (.aload_n 0, 1) := by decide +kernel
theorem dX12_text_16 : decode cX12_text 16 = .ok (.iconst 0, 1) := by decide +kernel
theorem dX12_text_17 : decode cX12_text 17 = .ok (.putfield 13, 3) := by decide +kernel
theorem dX12_text_20 : decode cX12_text 20 = .ok (.aload_n 0, 1) := by decide +kernel
theorem dX12_text_21 : decode cX12_text 21 = .ok (.getfield 38, 3) := by decide +kernel
theorem dX12_text_24 : decode cX12_text 24 = .ok (.iload_n 1, 1) := by decide +kernel
theorem dX12_text_25 : decode cX12_text 25 = .ok (.invokevirtual 83, 3) := by decide +kernel
theorem dX12_text_28 : decode cX12_text 28 = .ok (.aload_n 0, 1) := by decide +kernel
theorem dX12_text_29 : decode cX12_text 29 = .ok (.getfield 47, 3) := by decide +kernel
theorem dX12_text_32 : decode cX12_text 32 = .ok (.invokevirtual 86, 3) := by decide +kernel
theorem dX12_text_35 : decode cX12_text 35 = .ok (.aload_n 0, 1) := by decide +kernel
theorem dX12_text_36 : decode cX12_text 36 = .ok (.aload_n 0, 1) := by decide +kernel
theorem dX12_text_37 : decode cX12_text 37 = .ok (.getfield 47, 3) := by decide +kernel
theorem dX12_text_40 : decode cX12_text 40 = .ok (.getfield 89, 3) := by decide +kernel
theorem dX12_text_43 : decode cX12_text 43 = .ok (.putfield 17, 3) := by decide +kernel
theorem dX12_text_46 : decode cX12_text 46 = .ok (.aload_n 0, 1) := by decide +kernel
theorem dX12_text_47 : decode cX12_text 47 = .ok (.aload_n 0, 1) := by decide +kernel
theorem dX12_text_48 : decode cX12_text 48 = .ok (.getfield 47, 3) := by decide +kernel
theorem dX12_text_51 : decode cX12_text 51 = .ok (.getfield 92, 3) := by decide +kernel
theorem dX12_text_54 : decode cX12_text 54 = .ok (.putfield 20, 3) := by decide +kernel
theorem dX12_text_57 : decode cX12_text 57 = .ok (.aload_n 0, 1) := by decide +kernel
theorem dX12_text_58 : decode cX12_text 58 = .ok (.getfield 17, 3) := by decide +kernel
theorem dX12_text_61 : decode cX12_text 61 = .ok (.ifCond .eq 5, 3) := by decide +kernel
theorem dX12_text_64 : decode cX12_text 64 = .ok (.iconst (-1), 1) := by decide +kernel
theorem dX12_text_65 : decode cX12_text 65 = .ok (.ireturn, 1) := by decide +kernel
theorem dX12_text_66 : decode cX12_text 66 = .ok (.aload_n 0, 1) := by decide +kernel
theorem dX12_text_67 : decode cX12_text 67 = .ok (.getfield 51, 3) := by decide +kernel
theorem dX12_text_70 : decode cX12_text 70 = .ok (.invokevirtual 86, 3) := by decide +kernel
theorem dX12_text_73 : decode cX12_text 73 = .ok (.aload_n 0, 1) := by decide +kernel
theorem dX12_text_74 : decode cX12_text 74 = .ok (.getfield 75, 3) := by decide +kernel
theorem dX12_text_77 : decode cX12_text 77 = .ok (.invokevirtual 95, 3) := by decide +kernel
theorem dX12_text_80 : decode cX12_text 80 = .ok (.aload_n 0, 1) := by decide +kernel
theorem dX12_text_81 : decode cX12_text 81 = .ok (.getfield 26, 3) := by decide +kernel
theorem dX12_text_84 : decode cX12_text 84 = .ok (.getfield 98, 3) := by decide +kernel
theorem dX12_text_87 : decode cX12_text 87 = .ok (.ireturn, 1) := by decide +kernel
theorem dX12_fault_0 : decode cX12_fault 0 = .ok (.iload_n 1, 1) := by decide +kernel
theorem dX12_fault_1 : decode cX12_fault 1 = .ok (.lookupswitch 37 #[(0, 27), (1, 32)], 27) := by decide +kernel
theorem dX12_fault_28 : decode cX12_fault 28 = .ok (.aload_n 0, 1) := by decide +kernel
theorem dX12_fault_29 : decode cX12_fault 29 = .ok (.getfield 17, 3) := by decide +kernel
theorem dX12_fault_32 : decode cX12_fault 32 = .ok (.ireturn, 1) := by decide +kernel
theorem dX12_fault_33 : decode cX12_fault 33 = .ok (.aload_n 0, 1) := by decide +kernel
theorem dX12_fault_34 : decode cX12_fault 34 = .ok (.getfield 20, 3) := by decide +kernel
theorem dX12_fault_37 : decode cX12_fault 37 = .ok (.ireturn, 1) := by decide +kernel
theorem dX12_fault_38 : decode cX12_fault 38 = .ok (.iconst (-1), 1) := by decide +kernel
theorem dX12_fault_39 : decode cX12_fault 39 = .ok (.ireturn, 1) := by decide +kernel
theorem dX12_person_0 : decode cX12_person 0 = .ok (.aload_n 0, 1) := by decide +kernel
theorem dX12_person_1 : decode cX12_person 1 = .ok (.getfield 26, 3) := by decide +kernel
theorem dX12_person_4 : decode cX12_person 4 = .ok (.iload_n 1, 1) := by decide +kernel
theorem dX12_person_5 : decode cX12_person 5 = .ok (.invokevirtual 101, 3) := by decide +kernel
theorem dX12_person_8 : decode cX12_person 8 = .ok (.ifCond .ne 13, 3) := by decide +kernel
theorem dX12_person_11 : decode cX12_person 11 = .ok (.new 105, 3) := by decide +kernel
theorem dX12_person_14 : decode cX12_person 14 = .ok (.dup, 1) := by decide +kernel
theorem dX12_person_15 : decode cX12_person 15 = .ok (.ldc 107, 2) := by decide +kernel
theorem dX12_person_17 : decode cX12_person 17 = .ok (.invokespecial 109, 3) := by decide +kernel
theorem dX12_person_20 : decode cX12_person 20 = .ok (.athrow, 1) := by decide +kernel
theorem dX12_person_21 : decode cX12_person 21 = .ok (.aload_n 0, 1) := by decide +kernel
theorem dX12_person_22 : decode cX12_person 22 = .ok (.getfield 26, 3) := by decide +kernel
theorem dX12_person_25 : decode cX12_person 25 = .ok (.getfield 112, 3) := by decide +kernel
theorem dX12_person_28 : decode cX12_person 28 = .ok (.iload_n 1, 1) := by decide +kernel
theorem dX12_person_29 : decode cX12_person 29 = .ok (.aaload, 1) := by decide +kernel
theorem dX12_person_30 : decode cX12_person 30 = .ok (.astore_n 3, 1) := by decide +kernel
theorem dX12_person_31 : decode cX12_person 31 = .ok (.iload_n 2, 1) := by decide +kernel
theorem dX12_person_32 : decode cX12_person 32 = .ok (.tableswitch 78 0 4 #[36, 41, 49, 58, 63], 36) := by decide +kernel
theorem dX12_person_68 : decode cX12_person 68 = .ok (.aload_n 3, 1) := by decide +kernel
theorem dX12_person_69 : decode cX12_person 69 = .ok (.getfield 116, 3) := by decide +kernel
theorem dX12_person_72 : decode cX12_person 72 = .ok (.ireturn, 1) := by decide +kernel
theorem dX12_person_73 : decode cX12_person 73 = .ok (.aload_n 3, 1) := by decide +kernel
theorem dX12_person_74 : decode cX12_person 74 = .ok (.getfield 121, 3) := by decide +kernel
theorem dX12_person_77 : decode cX12_person 77 = .ok (.invokestatic 124, 3) := by decide +kernel
theorem dX12_person_80 : decode cX12_person 80 = .ok (.ireturn, 1) := by decide +kernel
theorem dX12_person_81 : decode cX12_person 81 = .ok (.aload_n 0, 1) := by decide +kernel
theorem dX12_person_82 : decode cX12_person 82 = .ok (.getfield 26, 3) := by decide +kernel
theorem dX12_person_85 : decode cX12_person 85 = .ok (.iload_n 1, 1) := by decide +kernel
theorem dX12_person_86 : decode cX12_person 86 = .ok (.invokevirtual 128, 3) := by decide +kernel
theorem dX12_person_89 : decode cX12_person 89 = .ok (.ireturn, 1) := by decide +kernel
theorem dX12_person_90 : decode cX12_person 90 = .ok (.aload_n 3, 1) := by decide +kernel
theorem dX12_person_91 : decode cX12_person 91 = .ok (.getfield 131, 3) := by decide +kernel
theorem dX12_person_94 : decode cX12_person 94 = .ok (.ireturn, 1) := by decide +kernel
theorem dX12_person_95 : decode cX12_person 95 = .ok (.aload_n 0, 1) := by decide +kernel
theorem dX12_person_96 : decode cX12_person 96 = .ok (.getfield 26, 3) := by decide +kernel
theorem dX12_person_99 : decode cX12_person 99 = .ok (.iload_n 1, 1) := by decide +kernel
theorem dX12_person_100 : decode cX12_person 100 = .ok (.sipush 9999, 3) := by decide +kernel
theorem dX12_person_103 : decode cX12_person 103 = .ok (.invokevirtual 134, 3) := by decide +kernel
theorem dX12_person_106 : decode cX12_person 106 = .ok (.invokestatic 124, 3) := by decide +kernel
theorem dX12_person_109 : decode cX12_person 109 = .ok (.ireturn, 1) := by decide +kernel
theorem dX12_person_110 : decode cX12_person 110 = .ok (.new 138, 3) := by decide +kernel
theorem dX12_person_113 : decode cX12_person 113 = .ok (.dup, 1) := by decide +kernel
theorem dX12_person_114 : decode cX12_person 114 = .ok (.ldc 140, 2) := by decide +kernel
theorem dX12_person_116 : decode cX12_person 116 = .ok (.invokespecial 142, 3) := by decide +kernel
theorem dX12_person_119 : decode cX12_person 119 = .ok (.athrow, 1) := by decide +kernel
theorem dX12_paper_0 : decode cX12_paper 0 = .ok (.aload_n 0, 1) := by decide +kernel
theorem dX12_paper_1 : decode cX12_paper 1 = .ok (.getfield 26, 3) := by decide +kernel
theorem dX12_paper_4 : decode cX12_paper 4 = .ok (.iload_n 1, 1) := by decide +kernel
theorem dX12_paper_5 : decode cX12_paper 5 = .ok (.invokevirtual 143, 3) := by decide +kernel
theorem dX12_paper_8 : decode cX12_paper 8 = .ok (.ifCond .ne 13, 3) := by decide +kernel
theorem dX12_paper_11 : decode cX12_paper 11 = .ok (.new 105, 3) := by decide +kernel
theorem dX12_paper_14 : decode cX12_paper 14 = .ok (.dup, 1) := by decide +kernel
theorem dX12_paper_15 : decode cX12_paper 15 = .ok (.ldc 146, 2) := by decide +kernel
theorem dX12_paper_17 : decode cX12_paper 17 = .ok (.invokespecial 109, 3) := by decide +kernel
theorem dX12_paper_20 : decode cX12_paper 20 = .ok (.athrow, 1) := by decide +kernel
theorem dX12_paper_21 : decode cX12_paper 21 = .ok (.aload_n 0, 1) := by decide +kernel
theorem dX12_paper_22 : decode cX12_paper 22 = .ok (.getfield 26, 3) := by decide +kernel
theorem dX12_paper_25 : decode cX12_paper 25 = .ok (.getfield 148, 3) := by decide +kernel
theorem dX12_paper_28 : decode cX12_paper 28 = .ok (.iload_n 1, 1) := by decide +kernel
theorem dX12_paper_29 : decode cX12_paper 29 = .ok (.aaload, 1) := by decide +kernel
theorem dX12_paper_30 : decode cX12_paper 30 = .ok (.astore_n 3, 1) := by decide +kernel
theorem dX12_paper_31 : decode cX12_paper 31 = .ok (.iload_n 2, 1) := by decide +kernel
theorem dX12_paper_32 : decode cX12_paper 32 = .ok (.tableswitch 118 0 9 #[56, 61, 66, 71, 76, 84, 89, 94, 102, 110], 56) := by decide +kernel
theorem dX12_paper_88 : decode cX12_paper 88 = .ok (.aload_n 3, 1) := by decide +kernel
theorem dX12_paper_89 : decode cX12_paper 89 = .ok (.getfield 152, 3) := by decide +kernel
theorem dX12_paper_92 : decode cX12_paper 92 = .ok (.ireturn, 1) := by decide +kernel
theorem dX12_paper_93 : decode cX12_paper 93 = .ok (.aload_n 3, 1) := by decide +kernel
theorem dX12_paper_94 : decode cX12_paper 94 = .ok (.getfield 157, 3) := by decide +kernel
theorem dX12_paper_97 : decode cX12_paper 97 = .ok (.ireturn, 1) := by decide +kernel
theorem dX12_paper_98 : decode cX12_paper 98 = .ok (.aload_n 3, 1) := by decide +kernel
theorem dX12_paper_99 : decode cX12_paper 99 = .ok (.getfield 160, 3) := by decide +kernel
theorem dX12_paper_102 : decode cX12_paper 102 = .ok (.ireturn, 1) := by decide +kernel
theorem dX12_paper_103 : decode cX12_paper 103 = .ok (.aload_n 3, 1) := by decide +kernel
theorem dX12_paper_104 : decode cX12_paper 104 = .ok (.getfield 163, 3) := by decide +kernel
theorem dX12_paper_107 : decode cX12_paper 107 = .ok (.ireturn, 1) := by decide +kernel
theorem dX12_paper_108 : decode cX12_paper 108 = .ok (.aload_n 3, 1) := by decide +kernel
theorem dX12_paper_109 : decode cX12_paper 109 = .ok (.getfield 166, 3) := by decide +kernel
theorem dX12_paper_112 : decode cX12_paper 112 = .ok (.invokestatic 170, 3) := by decide +kernel
theorem dX12_paper_115 : decode cX12_paper 115 = .ok (.ireturn, 1) := by decide +kernel
theorem dX12_paper_116 : decode cX12_paper 116 = .ok (.aload_n 3, 1) := by decide +kernel
theorem dX12_paper_117 : decode cX12_paper 117 = .ok (.getfield 174, 3) := by decide +kernel
theorem dX12_paper_120 : decode cX12_paper 120 = .ok (.ireturn, 1) := by decide +kernel
theorem dX12_paper_121 : decode cX12_paper 121 = .ok (.aload_n 3, 1) := by decide +kernel
theorem dX12_paper_122 : decode cX12_paper 122 = .ok (.getfield 177, 3) := by decide +kernel
theorem dX12_paper_125 : decode cX12_paper 125 = .ok (.ireturn, 1) := by decide +kernel
theorem dX12_paper_126 : decode cX12_paper 126 = .ok (.aload_n 3, 1) := by decide +kernel
theorem dX12_paper_127 : decode cX12_paper 127 = .ok (.getfield 180, 3) := by decide +kernel
theorem dX12_paper_130 : decode cX12_paper 130 = .ok (.invokestatic 124, 3) := by decide +kernel
theorem dX12_paper_133 : decode cX12_paper 133 = .ok (.ireturn, 1) := by decide +kernel
theorem dX12_paper_134 : decode cX12_paper 134 = .ok (.aload_n 3, 1) := by decide +kernel
theorem dX12_paper_135 : decode cX12_paper 135 = .ok (.getfield 183, 3) := by decide +kernel
theorem dX12_paper_138 : decode cX12_paper 138 = .ok (.invokestatic 124, 3) := by decide +kernel
theorem dX12_paper_141 : decode cX12_paper 141 = .ok (.ireturn, 1) := by decide +kernel
theorem dX12_paper_142 : decode cX12_paper 142 = .ok (.aload_n 3, 1) := by decide +kernel
theorem dX12_paper_143 : decode cX12_paper 143 = .ok (.getfield 186, 3) := by decide +kernel
theorem dX12_paper_146 : decode cX12_paper 146 = .ok (.invokestatic 170, 3) := by decide +kernel
theorem dX12_paper_149 : decode cX12_paper 149 = .ok (.ireturn, 1) := by decide +kernel
theorem dX12_paper_150 : decode cX12_paper 150 = .ok (.new 138, 3) := by decide +kernel
theorem dX12_paper_153 : decode cX12_paper 153 = .ok (.dup, 1) := by decide +kernel
theorem dX12_paper_154 : decode cX12_paper 154 = .ok (.ldc 140, 2) := by decide +kernel
theorem dX12_paper_156 : decode cX12_paper 156 = .ok (.invokespecial 142, 3) := by decide +kernel
theorem dX12_paper_159 : decode cX12_paper 159 = .ok (.athrow, 1) := by decide +kernel
theorem dX12_thing_0 : decode cX12_thing 0 = .ok (.aload_n 0, 1) := by decide +kernel
theorem dX12_thing_1 : decode cX12_thing 1 = .ok (.getfield 26, 3) := by decide +kernel
theorem dX12_thing_4 : decode cX12_thing 4 = .ok (.iload_n 1, 1) := by decide +kernel
theorem dX12_thing_5 : decode cX12_thing 5 = .ok (.invokevirtual 189, 3) := by decide +kernel
theorem dX12_thing_8 : decode cX12_thing 8 = .ok (.ifCond .ne 5, 3) := by decide +kernel
theorem dX12_thing_11 : decode cX12_thing 11 = .ok (.iconst (-1), 1) := by decide +kernel
theorem dX12_thing_12 : decode cX12_thing 12 = .ok (.ireturn, 1) := by decide +kernel
theorem dX12_thing_13 : decode cX12_thing 13 = .ok (.iload_n 2, 1) := by decide +kernel
theorem dX12_thing_14 : decode cX12_thing 14 = .ok (.tableswitch 65 0 2 #[26, 39, 52], 26) := by decide +kernel
theorem dX12_thing_40 : decode cX12_thing 40 = .ok (.aload_n 0, 1) := by decide +kernel
theorem dX12_thing_41 : decode cX12_thing 41 = .ok (.getfield 26, 3) := by decide +kernel
theorem dX12_thing_44 : decode cX12_thing 44 = .ok (.getfield 192, 3) := by decide +kernel
theorem dX12_thing_47 : decode cX12_thing 47 = .ok (.iload_n 1, 1) := by decide +kernel
theorem dX12_thing_48 : decode cX12_thing 48 = .ok (.aaload, 1) := by decide +kernel
theorem dX12_thing_49 : decode cX12_thing 49 = .ok (.getfield 196, 3) := by decide +kernel
theorem dX12_thing_52 : decode cX12_thing 52 = .ok (.ireturn, 1) := by decide +kernel
theorem dX12_thing_53 : decode cX12_thing 53 = .ok (.aload_n 0, 1) := by decide +kernel
theorem dX12_thing_54 : decode cX12_thing 54 = .ok (.getfield 26, 3) := by decide +kernel
theorem dX12_thing_57 : decode cX12_thing 57 = .ok (.getfield 192, 3) := by decide +kernel
theorem dX12_thing_60 : decode cX12_thing 60 = .ok (.iload_n 1, 1) := by decide +kernel
theorem dX12_thing_61 : decode cX12_thing 61 = .ok (.aaload, 1) := by decide +kernel
theorem dX12_thing_62 : decode cX12_thing 62 = .ok (.getfield 201, 3) := by decide +kernel
theorem dX12_thing_65 : decode cX12_thing 65 = .ok (.ireturn, 1) := by decide +kernel
theorem dX12_thing_66 : decode cX12_thing 66 = .ok (.aload_n 0, 1) := by decide +kernel
theorem dX12_thing_67 : decode cX12_thing 67 = .ok (.getfield 26, 3) := by decide +kernel
theorem dX12_thing_70 : decode cX12_thing 70 = .ok (.getfield 192, 3) := by decide +kernel
theorem dX12_thing_73 : decode cX12_thing 73 = .ok (.iload_n 1, 1) := by decide +kernel
theorem dX12_thing_74 : decode cX12_thing 74 = .ok (.aaload, 1) := by decide +kernel
theorem dX12_thing_75 : decode cX12_thing 75 = .ok (.getfield 202, 3) := by decide +kernel
theorem dX12_thing_78 : decode cX12_thing 78 = .ok (.ireturn, 1) := by decide +kernel
theorem dX12_thing_79 : decode cX12_thing 79 = .ok (.iconst (-1), 1) := by decide +kernel
theorem dX12_thing_80 : decode cX12_thing 80 = .ok (.ireturn, 1) := by decide +kernel
theorem dX12_land_0 : decode cX12_land 0 = .ok (.iload_n 1, 1) := by decide +kernel
theorem dX12_land_1 : decode cX12_land 1 = .ok (.invokestatic 205, 3) := by decide +kernel
theorem dX12_land_4 : decode cX12_land 4 = .ok (.ifCond .ne 5, 3) := by decide +kernel
theorem dX12_land_7 : decode cX12_land 7 = .ok (.iconst (-1), 1) := by decide +kernel
theorem dX12_land_8 : decode cX12_land 8 = .ok (.ireturn, 1) := by decide +kernel
theorem dX12_land_9 : decode cX12_land 9 = .ok (.iload_n 2, 1) := by decide +kernel
theorem dX12_land_10 : decode cX12_land 10 = .ok (.tableswitch 111 0 4 #[34, 47, 63, 79, 95], 34) := by decide +kernel
theorem dX12_land_44 : decode cX12_land 44 = .ok (.aload_n 0, 1) := by decide +kernel
theorem dX12_land_45 : decode cX12_land 45 = .ok (.getfield 26, 3) := by decide +kernel
theorem dX12_land_48 : decode cX12_land 48 = .ok (.getfield 208, 3) := by decide +kernel
theorem dX12_land_51 : decode cX12_land 51 = .ok (.iload_n 1, 1) := by decide +kernel
theorem dX12_land_52 : decode cX12_land 52 = .ok (.aaload, 1) := by decide +kernel
theorem dX12_land_53 : decode cX12_land 53 = .ok (.getfield 212, 3) := by decide +kernel
theorem dX12_land_56 : decode cX12_land 56 = .ok (.ireturn, 1) := by decide +kernel
theorem dX12_land_57 : decode cX12_land 57 = .ok (.aload_n 0, 1) := by decide +kernel
theorem dX12_land_58 : decode cX12_land 58 = .ok (.getfield 26, 3) := by decide +kernel
theorem dX12_land_61 : decode cX12_land 61 = .ok (.getfield 208, 3) := by decide +kernel
theorem dX12_land_64 : decode cX12_land 64 = .ok (.iload_n 1, 1) := by decide +kernel
theorem dX12_land_65 : decode cX12_land 65 = .ok (.aaload, 1) := by decide +kernel
theorem dX12_land_66 : decode cX12_land 66 = .ok (.getfield 215, 3) := by decide +kernel
theorem dX12_land_69 : decode cX12_land 69 = .ok (.invokestatic 170, 3) := by decide +kernel
theorem dX12_land_72 : decode cX12_land 72 = .ok (.ireturn, 1) := by decide +kernel
theorem dX12_land_73 : decode cX12_land 73 = .ok (.aload_n 0, 1) := by decide +kernel
theorem dX12_land_74 : decode cX12_land 74 = .ok (.getfield 26, 3) := by decide +kernel
theorem dX12_land_77 : decode cX12_land 77 = .ok (.getfield 208, 3) := by decide +kernel
theorem dX12_land_80 : decode cX12_land 80 = .ok (.iload_n 1, 1) := by decide +kernel
theorem dX12_land_81 : decode cX12_land 81 = .ok (.aaload, 1) := by decide +kernel
theorem dX12_land_82 : decode cX12_land 82 = .ok (.getfield 218, 3) := by decide +kernel
theorem dX12_land_85 : decode cX12_land 85 = .ok (.invokestatic 170, 3) := by decide +kernel
theorem dX12_land_88 : decode cX12_land 88 = .ok (.ireturn, 1) := by decide +kernel
theorem dX12_land_89 : decode cX12_land 89 = .ok (.aload_n 0, 1) := by decide +kernel
theorem dX12_land_90 : decode cX12_land 90 = .ok (.getfield 26, 3) := by decide +kernel
theorem dX12_land_93 : decode cX12_land 93 = .ok (.getfield 208, 3) := by decide +kernel
theorem dX12_land_96 : decode cX12_land 96 = .ok (.iload_n 1, 1) := by decide +kernel
theorem dX12_land_97 : decode cX12_land 97 = .ok (.aaload, 1) := by decide +kernel
theorem dX12_land_98 : decode cX12_land 98 = .ok (.getfield 221, 3) := by decide +kernel
theorem dX12_land_101 : decode cX12_land 101 = .ok (.invokestatic 170, 3) := by decide +kernel
theorem dX12_land_104 : decode cX12_land 104 = .ok (.ireturn, 1) := by decide +kernel
theorem dX12_land_105 : decode cX12_land 105 = .ok (.aload_n 0, 1) := by decide +kernel
theorem dX12_land_106 : decode cX12_land 106 = .ok (.getfield 26, 3) := by decide +kernel
theorem dX12_land_109 : decode cX12_land 109 = .ok (.getfield 208, 3) := by decide +kernel
theorem dX12_land_112 : decode cX12_land 112 = .ok (.iload_n 1, 1) := by decide +kernel
theorem dX12_land_113 : decode cX12_land 113 = .ok (.aaload, 1) := by decide +kernel
theorem dX12_land_114 : decode cX12_land 114 = .ok (.getfield 223, 3) := by decide +kernel
theorem dX12_land_117 : decode cX12_land 117 = .ok (.invokestatic 170, 3) := by decide +kernel
theorem dX12_land_120 : decode cX12_land 120 = .ok (.ireturn, 1) := by decide +kernel
theorem dX12_land_121 : decode cX12_land 121 = .ok (.iconst (-1), 1) := by decide +kernel
theorem dX12_land_122 : decode cX12_land 122 = .ok (.ireturn, 1) := by decide +kernel
theorem dX12_give_0 : decode cX12_give 0 = .ok (.aload_n 0, 1) := by decide +kernel
theorem dX12_give_1 : decode cX12_give 1 = .ok (.getfield 26, 3) := by decide +kernel
theorem dX12_give_4 : decode cX12_give 4 = .ok (.iload_n 1, 1) := by decide +kernel
theorem dX12_give_5 : decode cX12_give 5 = .ok (.invokevirtual 143, 3) := by decide +kernel
theorem dX12_give_8 : decode cX12_give 8 = .ok (.ifCond .eq 16, 3) := by decide +kernel
theorem dX12_give_11 : decode cX12_give 11 = .ok (.iload_n 2, 1) := by decide +kernel
theorem dX12_give_12 : decode cX12_give 12 = .ok (.ifCond .lt 12, 3) := by decide +kernel
theorem dX12_give_15 : decode cX12_give 15 = .ok (.iload_n 3, 1) := by decide +kernel
theorem dX12_give_16 : decode cX12_give 16 = .ok (.ifCond .lt 8, 3) := by decide +kernel
theorem dX12_give_19 : decode cX12_give 19 = .ok (.iload_n 3, 1) := by decide +kernel
theorem dX12_give_20 : decode cX12_give 20 = .ok (.iconst 4, 1) := by decide +kernel
theorem dX12_give_21 : decode cX12_give 21 = .ok (.if_icmp .le 5, 3) := by decide +kernel
theorem dX12_give_24 : decode cX12_give 24 = .ok (.iconst (-1), 1) := by decide +kernel
theorem dX12_give_25 : decode cX12_give 25 = .ok (.ireturn, 1) := by decide +kernel
theorem dX12_give_26 : decode cX12_give 26 = .ok (.aload_n 0, 1) := by decide +kernel
theorem dX12_give_27 : decode cX12_give 27 = .ok (.getfield 26, 3) := by decide +kernel
theorem dX12_give_30 : decode cX12_give 30 = .ok (.getfield 148, 3) := by decide +kernel
theorem dX12_give_33 : decode cX12_give 33 = .ok (.iload_n 1, 1) := by decide +kernel
theorem dX12_give_34 : decode cX12_give 34 = .ok (.aaload, 1) := by decide +kernel
theorem dX12_give_35 : decode cX12_give 35 = .ok (.astore 4, 2) := by decide +kernel
theorem dX12_give_37 : decode cX12_give 37 = .ok (.iload_n 2, 1) := by decide +kernel
theorem dX12_give_38 : decode cX12_give 38 = .ok (.aload 4, 2) := by decide +kernel
theorem dX12_give_40 : decode cX12_give 40 = .ok (.getfield 177, 3) := by decide +kernel
theorem dX12_give_43 : decode cX12_give 43 = .ok (.if_icmp .ge 9, 3) := by decide +kernel
theorem dX12_give_46 : decode cX12_give 46 = .ok (.iload_n 2, 1) := by decide +kernel
theorem dX12_give_47 : decode cX12_give 47 = .ok (.bipush 6, 2) := by decide +kernel
theorem dX12_give_49 : decode cX12_give 49 = .ok (.if_icmp .lt 6, 3) := by decide +kernel
theorem dX12_give_52 : decode cX12_give 52 = .ok (.bipush (-2), 2) := by decide +kernel
theorem dX12_give_54 : decode cX12_give 54 = .ok (.ireturn, 1) := by decide +kernel
theorem dX12_give_55 : decode cX12_give 55 = .ok (.iload_n 3, 1) := by decide +kernel
theorem dX12_give_56 : decode cX12_give 56 = .ok (.tableswitch 67 0 3 #[32, 40, 48, 56], 32) := by decide +kernel
theorem dX12_give_88 : decode cX12_give 88 = .ok (.aload 4, 2) := by decide +kernel
theorem dX12_give_90 : decode cX12_give 90 = .ok (.getfield 226, 3) := by decide +kernel
theorem dX12_give_93 : decode cX12_give 93 = .ok (.iload_n 2, 1) := by decide +kernel
theorem dX12_give_94 : decode cX12_give 94 = .ok (.iaload, 1) := by decide +kernel
theorem dX12_give_95 : decode cX12_give 95 = .ok (.ireturn, 1) := by decide +kernel
theorem dX12_give_96 : decode cX12_give 96 = .ok (.aload 4, 2) := by decide +kernel
theorem dX12_give_98 : decode cX12_give 98 = .ok (.getfield 230, 3) := by decide +kernel
theorem dX12_give_101 : decode cX12_give 101 = .ok (.iload_n 2, 1) := by decide +kernel
theorem dX12_give_102 : decode cX12_give 102 = .ok (.iaload, 1) := by decide +kernel
theorem dX12_give_103 : decode cX12_give 103 = .ok (.ireturn, 1) := by decide +kernel
theorem dX12_give_104 : decode cX12_give 104 = .ok (.aload 4, 2) := by decide +kernel
theorem dX12_give_106 : decode cX12_give 106 = .ok (.getfield 233, 3) := by decide +kernel
theorem dX12_give_109 : decode cX12_give 109 = .ok (.iload_n 2, 1) := by decide +kernel
theorem dX12_give_110 : decode cX12_give 110 = .ok (.iaload, 1) := by decide +kernel
theorem dX12_give_111 : decode cX12_give 111 = .ok (.ireturn, 1) := by decide +kernel
theorem dX12_give_112 : decode cX12_give 112 = .ok (.aload 4, 2) := by decide +kernel
theorem dX12_give_114 : decode cX12_give 114 = .ok (.getfield 236, 3) := by decide +kernel
theorem dX12_give_117 : decode cX12_give 117 = .ok (.iload_n 2, 1) := by decide +kernel
theorem dX12_give_118 : decode cX12_give 118 = .ok (.iaload, 1) := by decide +kernel
theorem dX12_give_119 : decode cX12_give 119 = .ok (.invokestatic 124, 3) := by decide +kernel
theorem dX12_give_122 : decode cX12_give 122 = .ok (.ireturn, 1) := by decide +kernel
theorem dX12_give_123 : decode cX12_give 123 = .ok (.aload 4, 2) := by decide +kernel
theorem dX12_give_125 : decode cX12_give 125 = .ok (.getfield 239, 3) := by decide +kernel
theorem dX12_give_128 : decode cX12_give 128 = .ok (.iload_n 2, 1) := by decide +kernel
theorem dX12_give_129 : decode cX12_give 129 = .ok (.iaload, 1) := by decide +kernel
theorem dX12_give_130 : decode cX12_give 130 = .ok (.invokestatic 124, 3) := by decide +kernel
theorem dX12_give_133 : decode cX12_give 133 = .ok (.ireturn, 1) := by decide +kernel
theorem dX12_count_0 : decode cX12_count 0 = .ok (.iload_n 1, 1) := by decide +kernel
theorem dX12_count_1 : decode cX12_count 1 = .ok (.tableswitch 120 0 8 #[51, 59, 67, 75, 83, 91, 99, 107, 115], 51) := by decide +kernel
theorem dX12_count_52 : decode cX12_count 52 = .ok (.aload_n 0, 1) := by decide +kernel
theorem dX12_count_53 : decode cX12_count 53 = .ok (.getfield 26, 3) := by decide +kernel
theorem dX12_count_56 : decode cX12_count 56 = .ok (.getfield 98, 3) := by decide +kernel
theorem dX12_count_59 : decode cX12_count 59 = .ok (.ireturn, 1) := by decide +kernel
