theorem d_MO_valueOf_0 : decode b_MO_valueOf 0 = .ok (.aload_n 0, 1) := by decide +kernel
theorem d_MO_valueOf_1 : decode b_MO_valueOf 1 = .ok (.getfield 86, 3) := by decide +kernel
theorem d_MO_valueOf_4 : decode b_MO_valueOf 4 = .ok (.iconst 1, 1) := by decide +kernel
theorem d_MO_valueOf_5 : decode b_MO_valueOf 5 = .ok (.if_icmp .ne 17, 3) := by decide +kernel
theorem d_MO_valueOf_8 : decode b_MO_valueOf 8 = .ok (.iconst 1, 1) := by decide +kernel
theorem d_MO_valueOf_9 : decode b_MO_valueOf 9 = .ok (.iload_n 1, 1) := by decide +kernel
theorem d_MO_valueOf_10 : decode b_MO_valueOf 10 = .ok (.iconst 2, 1) := by decide +kernel
theorem d_MO_valueOf_11 : decode b_MO_valueOf 11 = .ok (.iconst 3, 1) := by decide +kernel
theorem d_MO_valueOf_12 : decode b_MO_valueOf 12 = .ok (.iload_n 2, 1) := by decide +kernel
theorem d_MO_valueOf_13 : decode b_MO_valueOf 13 = .ok (.isub, 1) := by decide +kernel
theorem d_MO_valueOf_14 : decode b_MO_valueOf 14 = .ok (.imul, 1) := by decide +kernel
theorem d_MO_valueOf_15 : decode b_MO_valueOf 15 = .ok (.ishr, 1) := by decide +kernel
theorem d_MO_valueOf_16 : decode b_MO_valueOf 16 = .ok (.iconst 3, 1) := by decide +kernel
theorem d_MO_valueOf_17 : decode b_MO_valueOf 17 = .ok (.iand, 1) := by decide +kernel
theorem d_MO_valueOf_18 : decode b_MO_valueOf 18 = .ok (.iadd, 1) := by decide +kernel
theorem d_MO_valueOf_19 : decode b_MO_valueOf 19 = .ok (.goto 10, 3) := by decide +kernel
theorem d_MO_valueOf_22 : decode b_MO_valueOf 22 = .ok (.iload_n 1, 1) := by decide +kernel
theorem d_MO_valueOf_23 : decode b_MO_valueOf 23 = .ok (.iconst 4, 1) := by decide +kernel
theorem d_MO_valueOf_24 : decode b_MO_valueOf 24 = .ok (.iload_n 2, 1) := by decide +kernel
theorem d_MO_valueOf_25 : decode b_MO_valueOf 25 = .ok (.isub, 1) := by decide +kernel
theorem d_MO_valueOf_26 : decode b_MO_valueOf 26 = .ok (.ishr, 1) := by decide +kernel
theorem d_MO_valueOf_27 : decode b_MO_valueOf 27 = .ok (.iconst 1, 1) := by decide +kernel
theorem d_MO_valueOf_28 : decode b_MO_valueOf 28 = .ok (.iand, 1) := by decide +kernel
theorem d_MO_valueOf_29 : decode b_MO_valueOf 29 = .ok (.ireturn, 1) := by decide +kernel
theorem d_MO_lay_0 : decode b_MO_lay 0 = .ok (.aload_n 0, 1) := by decide +kernel
theorem d_MO_lay_1 : decode b_MO_lay 1 = .ok (.getfield 86, 3) := by decide +kernel
theorem d_MO_lay_4 : decode b_MO_lay 4 = .ok (.iconst 1, 1) := by decide +kernel
theorem d_MO_lay_5 : decode b_MO_lay 5 = .ok (.if_icmp .eq 37, 3) := by decide +kernel
theorem d_MO_lay_8 : decode b_MO_lay 8 = .ok (.aload_n 0, 1) := by decide +kernel
theorem d_MO_lay_9 : decode b_MO_lay 9 = .ok (.getfield 86, 3) := by decide +kernel
theorem d_MO_lay_12 : decode b_MO_lay 12 = .ok (.iconst 2, 1) := by decide +kernel
theorem d_MO_lay_13 : decode b_MO_lay 13 = .ok (.if_icmp .ne 14, 3) := by decide +kernel
theorem d_MO_lay_16 : decode b_MO_lay 16 = .ok (.iload_n 2, 1) := by decide +kernel
theorem d_MO_lay_17 : decode b_MO_lay 17 = .ok (.invokestatic 109, 3) := by decide +kernel
theorem d_MO_lay_20 : decode b_MO_lay 20 = .ok (.iconst 1, 1) := by decide +kernel
theorem d_MO_lay_21 : decode b_MO_lay 21 = .ok (.if_icmp .ne 25, 3) := by decide +kernel
theorem d_MO_lay_24 : decode b_MO_lay 24 = .ok (.goto 18, 3) := by decide +kernel
theorem d_MO_lay_27 : decode b_MO_lay 27 = .ok (.aload_n 0, 1) := by decide +kernel
theorem d_MO_lay_28 : decode b_MO_lay 28 = .ok (.getfield 59, 3) := by decide +kernel
theorem d_MO_lay_31 : decode b_MO_lay 31 = .ok (.iload_n 2, 1) := by decide +kernel
theorem d_MO_lay_32 : decode b_MO_lay 32 = .ok (.iaload, 1) := by decide +kernel
theorem d_MO_lay_33 : decode b_MO_lay 33 = .ok (.aload_n 0, 1) := by decide +kernel
theorem d_MO_lay_34 : decode b_MO_lay 34 = .ok (.getfield 16, 3) := by decide +kernel
theorem d_MO_lay_37 : decode b_MO_lay 37 = .ok (.iload_n 1, 1) := by decide +kernel
theorem d_MO_lay_38 : decode b_MO_lay 38 = .ok (.iaload, 1) := by decide +kernel
theorem d_MO_lay_39 : decode b_MO_lay 39 = .ok (.if_icmp .ne 7, 3) := by decide +kernel
theorem d_MO_lay_42 : decode b_MO_lay 42 = .ok (.iconst 1, 1) := by decide +kernel
theorem d_MO_lay_43 : decode b_MO_lay 43 = .ok (.goto 4, 3) := by decide +kernel
theorem d_MO_lay_46 : decode b_MO_lay 46 = .ok (.iconst 0, 1) := by decide +kernel
theorem d_MO_lay_47 : decode b_MO_lay 47 = .ok (.istore_n 3, 1) := by decide +kernel
theorem d_MO_lay_48 : decode b_MO_lay 48 = .ok (.iconst 0, 1) := by decide +kernel
theorem d_MO_lay_49 : decode b_MO_lay 49 = .ok (.istore 4, 2) := by decide +kernel
theorem d_MO_lay_51 : decode b_MO_lay 51 = .ok (.iload 4, 2) := by decide +kernel
theorem d_MO_lay_53 : decode b_MO_lay 53 = .ok (.aload_n 0, 1) := by decide +kernel
theorem d_MO_lay_54 : decode b_MO_lay 54 = .ok (.getfield 13, 3) := by decide +kernel
theorem d_MO_lay_57 : decode b_MO_lay 57 = .ok (.if_icmp .ge 181, 3) := by decide +kernel
theorem d_MO_lay_60 : decode b_MO_lay 60 = .ok (.iload_n 3, 1) := by decide +kernel
theorem d_MO_lay_61 : decode b_MO_lay 61 = .ok (.ifCond .eq 177, 3) := by decide +kernel
theorem d_MO_lay_64 : decode b_MO_lay 64 = .ok (.aload_n 0, 1) := by decide +kernel
theorem d_MO_lay_65 : decode b_MO_lay 65 = .ok (.iload_n 2, 1) := by decide +kernel
theorem d_MO_lay_66 : decode b_MO_lay 66 = .ok (.iload 4, 2) := by decide +kernel
theorem d_MO_lay_68 : decode b_MO_lay 68 = .ok (.invokevirtual 112, 3) := by decide +kernel
theorem d_MO_lay_71 : decode b_MO_lay 71 = .ok (.istore 5, 2) := by decide +kernel
theorem d_MO_lay_73 : decode b_MO_lay 73 = .ok (.aload_n 0, 1) := by decide +kernel
theorem d_MO_lay_74 : decode b_MO_lay 74 = .ok (.getfield 13, 3) := by decide +kernel
theorem d_MO_lay_77 : decode b_MO_lay 77 = .ok (.iload_n 1, 1) := by decide +kernel
theorem d_MO_lay_78 : decode b_MO_lay 78 = .ok (.imul, 1) := by decide +kernel
theorem d_MO_lay_79 : decode b_MO_lay 79 = .ok (.iload 4, 2) := by decide +kernel
theorem d_MO_lay_81 : decode b_MO_lay 81 = .ok (.iadd, 1) := by decide +kernel
theorem d_MO_lay_82 : decode b_MO_lay 82 = .ok (.istore 6, 2) := by decide +kernel
theorem d_MO_lay_84 : decode b_MO_lay 84 = .ok (.aload_n 0, 1) := by decide +kernel
theorem d_MO_lay_85 : decode b_MO_lay 85 = .ok (.getfield 53, 3) := by decide +kernel
theorem d_MO_lay_88 : decode b_MO_lay 88 = .ok (.iload 6, 2) := by decide +kernel
theorem d_MO_lay_90 : decode b_MO_lay 90 = .ok (.iload 5, 2) := by decide +kernel
theorem d_MO_lay_92 : decode b_MO_lay 92 = .ok (.iastore, 1) := by decide +kernel
theorem d_MO_lay_93 : decode b_MO_lay 93 = .ok (.aload_n 0, 1) := by decide +kernel
theorem d_MO_lay_94 : decode b_MO_lay 94 = .ok (.getfield 29, 3) := by decide +kernel
theorem d_MO_lay_97 : decode b_MO_lay 97 = .ok (.iload 6, 2) := by decide +kernel
theorem d_MO_lay_99 : decode b_MO_lay 99 = .ok (.iaload, 1) := by decide +kernel
theorem d_MO_lay_100 : decode b_MO_lay 100 = .ok (.iconst (-1), 1) := by decide +kernel
theorem d_MO_lay_101 : decode b_MO_lay 101 = .ok (.if_icmp .eq 15, 3) := by decide +kernel
theorem d_MO_lay_104 : decode b_MO_lay 104 = .ok (.aload_n 0, 1) := by decide +kernel
theorem d_MO_lay_105 : decode b_MO_lay 105 = .ok (.getfield 29, 3) := by decide +kernel
theorem d_MO_lay_108 : decode b_MO_lay 108 = .ok (.iload 6, 2) := by decide +kernel
theorem d_MO_lay_110 : decode b_MO_lay 110 = .ok (.iaload, 1) := by decide +kernel
theorem d_MO_lay_111 : decode b_MO_lay 111 = .ok (.iload 5, 2) := by decide +kernel
theorem d_MO_lay_113 : decode b_MO_lay 113 = .ok (.if_icmp .ne 7, 3) := by decide +kernel
theorem d_MO_lay_116 : decode b_MO_lay 116 = .ok (.iconst 1, 1) := by decide +kernel
theorem d_MO_lay_117 : decode b_MO_lay 117 = .ok (.goto 4, 3) := by decide +kernel
theorem d_MO_lay_120 : decode b_MO_lay 120 = .ok (.iconst 0, 1) := by decide +kernel
theorem d_MO_lay_121 : decode b_MO_lay 121 = .ok (.istore_n 3, 1) := by decide +kernel
theorem d_MO_lay_122 : decode b_MO_lay 122 = .ok (.iconst 0, 1) := by decide +kernel
theorem d_MO_lay_123 : decode b_MO_lay 123 = .ok (.istore 7, 2) := by decide +kernel
theorem d_MO_lay_125 : decode b_MO_lay 125 = .ok (.iload 7, 2) := by decide +kernel
theorem d_MO_lay_127 : decode b_MO_lay 127 = .ok (.iload_n 1, 1) := by decide +kernel
theorem d_MO_lay_128 : decode b_MO_lay 128 = .ok (.if_icmp .ge 47, 3) := by decide +kernel
theorem d_MO_lay_131 : decode b_MO_lay 131 = .ok (.aload_n 0, 1) := by decide +kernel
theorem d_MO_lay_132 : decode b_MO_lay 132 = .ok (.getfield 86, 3) := by decide +kernel
theorem d_MO_lay_135 : decode b_MO_lay 135 = .ok (.iconst 1, 1) := by decide +kernel
theorem d_MO_lay_136 : decode b_MO_lay 136 = .ok (.if_icmp .ne 39, 3) := by decide +kernel
theorem d_MO_lay_139 : decode b_MO_lay 139 = .ok (.iload_n 3, 1) := by decide +kernel
theorem d_MO_lay_140 : decode b_MO_lay 140 = .ok (.ifCond .eq 27, 3) := by decide +kernel
theorem d_MO_lay_143 : decode b_MO_lay 143 = .ok (.aload_n 0, 1) := by decide +kernel
theorem d_MO_lay_144 : decode b_MO_lay 144 = .ok (.getfield 53, 3) := by decide +kernel
theorem d_MO_lay_147 : decode b_MO_lay 147 = .ok (.aload_n 0, 1) := by decide +kernel
theorem d_MO_lay_148 : decode b_MO_lay 148 = .ok (.getfield 13, 3) := by decide +kernel
theorem d_MO_lay_151 : decode b_MO_lay 151 = .ok (.iload 7, 2) := by decide +kernel
theorem d_MO_lay_153 : decode b_MO_lay 153 = .ok (.imul, 1) := by decide +kernel
theorem d_MO_lay_154 : decode b_MO_lay 154 = .ok (.iload 4, 2) := by decide +kernel
theorem d_MO_lay_156 : decode b_MO_lay 156 = .ok (.iadd, 1) := by decide +kernel
theorem d_MO_lay_157 : decode b_MO_lay 157 = .ok (.iaload, 1) := by decide +kernel
theorem d_MO_lay_158 : decode b_MO_lay 158 = .ok (.iload 5, 2) := by decide +kernel
theorem d_MO_lay_160 : decode b_MO_lay 160 = .ok (.if_icmp .eq 7, 3) := by decide +kernel
theorem d_MO_lay_163 : decode b_MO_lay 163 = .ok (.iconst 1, 1) := by decide +kernel
theorem d_MO_lay_164 : decode b_MO_lay 164 = .ok (.goto 4, 3) := by decide +kernel
theorem d_MO_lay_167 : decode b_MO_lay 167 = .ok (.iconst 0, 1) := by decide +kernel
theorem d_MO_lay_168 : decode b_MO_lay 168 = .ok (.istore_n 3, 1) := by decide +kernel
theorem d_MO_lay_169 : decode b_MO_lay 169 = .ok (.iinc 7 1, 3) := by decide +kernel
theorem d_MO_lay_172 : decode b_MO_lay 172 = .ok (.goto (-47), 3) := by decide +kernel
theorem d_MO_lay_175 : decode b_MO_lay 175 = .ok (.iconst 0, 1) := by decide +kernel
theorem d_MO_lay_176 : decode b_MO_lay 176 = .ok (.istore 7, 2) := by decide +kernel
theorem d_MO_lay_178 : decode b_MO_lay 178 = .ok (.iload 7, 2) := by decide +kernel
theorem d_MO_lay_180 : decode b_MO_lay 180 = .ok (.iload_n 1, 1) := by decide +kernel
theorem d_MO_lay_181 : decode b_MO_lay 181 = .ok (.if_icmp .ge 51, 3) := by decide +kernel
theorem d_MO_lay_184 : decode b_MO_lay 184 = .ok (.aload_n 0, 1) := by decide +kernel
theorem d_MO_lay_185 : decode b_MO_lay 185 = .ok (.getfield 86, 3) := by decide +kernel
theorem d_MO_lay_188 : decode b_MO_lay 188 = .ok (.iconst 2, 1) := by decide +kernel
theorem d_MO_lay_189 : decode b_MO_lay 189 = .ok (.if_icmp .ne 43, 3) := by decide +kernel
theorem d_MO_lay_192 : decode b_MO_lay 192 = .ok (.iload 5, 2) := by decide +kernel
theorem d_MO_lay_194 : decode b_MO_lay 194 = .ok (.iconst 1, 1) := by decide +kernel
theorem d_MO_lay_195 : decode b_MO_lay 195 = .ok (.if_icmp .ne 37, 3) := by decide +kernel
theorem d_MO_lay_198 : decode b_MO_lay 198 = .ok (.iload_n 3, 1) := by decide +kernel
theorem d_MO_lay_199 : decode b_MO_lay 199 = .ok (.ifCond .eq 25, 3) := by decide +kernel
theorem d_MO_lay_202 : decode b_MO_lay 202 = .ok (.aload_n 0, 1) := by decide +kernel
theorem d_MO_lay_203 : decode b_MO_lay 203 = .ok (.getfield 53, 3) := by decide +kernel
theorem d_MO_lay_206 : decode b_MO_lay 206 = .ok (.aload_n 0, 1) := by decide +kernel
theorem d_MO_lay_207 : decode b_MO_lay 207 = .ok (.getfield 13, 3) := by decide +kernel
theorem d_MO_lay_210 : decode b_MO_lay 210 = .ok (.iload 7, 2) := by decide +kernel
theorem d_MO_lay_212 : decode b_MO_lay 212 = .ok (.imul, 1) := by decide +kernel
theorem d_MO_lay_213 : decode b_MO_lay 213 = .ok (.iload 4, 2) := by decide +kernel
theorem d_MO_lay_215 : decode b_MO_lay 215 = .ok (.iadd, 1) := by decide +kernel
theorem d_MO_lay_216 : decode b_MO_lay 216 = .ok (.iaload, 1) := by decide +kernel
theorem d_MO_lay_217 : decode b_MO_lay 217 = .ok (.ifCond .ne 7, 3) := by decide +kernel
theorem d_MO_lay_220 : decode b_MO_lay 220 = .ok (.iconst 1, 1) := by decide +kernel
theorem d_MO_lay_221 : decode b_MO_lay 221 = .ok (.goto 4, 3) := by decide +kernel
theorem d_MO_lay_224 : decode b_MO_lay 224 = .ok (.iconst 0, 1) := by decide +kernel
theorem d_MO_lay_225 : decode b_MO_lay 225 = .ok (.istore_n 3, 1) := by decide +kernel
theorem d_MO_lay_226 : decode b_MO_lay 226 = .ok (.iinc 7 1, 3) := by decide +kernel
theorem d_MO_lay_229 : decode b_MO_lay 229 = .ok (.goto (-51), 3) := by decide +kernel
theorem d_MO_lay_232 : decode b_MO_lay 232 = .ok (.iinc 4 1, 3) := by decide +kernel
theorem d_MO_lay_235 : decode b_MO_lay 235 = .ok (.goto (-184), 3) := by decide +kernel
theorem d_MO_lay_238 : decode b_MO_lay 238 = .ok (.iload_n 3, 1) := by decide +kernel
theorem d_MO_lay_239 : decode b_MO_lay 239 = .ok (.ireturn, 1) := by decide +kernel
theorem d_MO_columnsFit_0 : decode b_MO_columnsFit 0 = .ok (.iconst 1, 1) := by decide +kernel
theorem d_MO_columnsFit_1 : decode b_MO_columnsFit 1 = .ok (.istore_n 1, 1) := by decide +kernel
theorem d_MO_columnsFit_2 : decode b_MO_columnsFit 2 = .ok (.iconst 0, 1) := by decide +kernel
theorem d_MO_columnsFit_3 : decode b_MO_columnsFit 3 = .ok (.istore_n 2, 1) := by decide +kernel
theorem d_MO_columnsFit_4 : decode b_MO_columnsFit 4 = .ok (.iload_n 2, 1) := by decide +kernel
theorem d_MO_columnsFit_5 : decode b_MO_columnsFit 5 = .ok (.iconst 5, 1) := by decide +kernel
theorem d_MO_columnsFit_6 : decode b_MO_columnsFit 6 = .ok (.if_icmp .ge 88, 3) := by decide +kernel
theorem d_MO_columnsFit_9 : decode b_MO_columnsFit 9 = .ok (.iconst 0, 1) := by decide +kernel
theorem d_MO_columnsFit_10 : decode b_MO_columnsFit 10 = .ok (.istore_n 3, 1) := by decide +kernel
theorem d_MO_columnsFit_11 : decode b_MO_columnsFit 11 = .ok (.iconst 0, 1) := by decide +kernel
theorem d_MO_columnsFit_12 : decode b_MO_columnsFit 12 = .ok (.istore 4, 2) := by decide +kernel
theorem d_MO_columnsFit_14 : decode b_MO_columnsFit 14 = .ok (.iload 4, 2) := by decide +kernel
theorem d_MO_columnsFit_16 : decode b_MO_columnsFit 16 = .ok (.iconst 5, 1) := by decide +kernel
theorem d_MO_columnsFit_17 : decode b_MO_columnsFit 17 = .ok (.if_icmp .ge 25, 3) := by decide +kernel
theorem d_MO_columnsFit_20 : decode b_MO_columnsFit 20 = .ok (.iconst 2, 1) := by decide +kernel
theorem d_MO_columnsFit_21 : decode b_MO_columnsFit 21 = .ok (.iload_n 3, 1) := by decide +kernel
theorem d_MO_columnsFit_22 : decode b_MO_columnsFit 22 = .ok (.imul, 1) := by decide +kernel
theorem d_MO_columnsFit_23 : decode b_MO_columnsFit 23 = .ok (.aload_n 0, 1) := by decide +kernel
theorem d_MO_columnsFit_24 : decode b_MO_columnsFit 24 = .ok (.getfield 53, 3) := by decide +kernel
theorem d_MO_columnsFit_27 : decode b_MO_columnsFit 27 = .ok (.iconst 5, 1) := by decide +kernel
theorem d_MO_columnsFit_28 : decode b_MO_columnsFit 28 = .ok (.iload 4, 2) := by decide +kernel
theorem d_MO_columnsFit_30 : decode b_MO_columnsFit 30 = .ok (.imul, 1) := by decide +kernel
theorem d_MO_columnsFit_31 : decode b_MO_columnsFit 31 = .ok (.iload_n 2, 1) := by decide +kernel
theorem d_MO_columnsFit_32 : decode b_MO_columnsFit 32 = .ok (.iadd, 1) := by decide +kernel
theorem d_MO_columnsFit_33 : decode b_MO_columnsFit 33 = .ok (.iaload, 1) := by decide +kernel
theorem d_MO_columnsFit_34 : decode b_MO_columnsFit 34 = .ok (.iadd, 1) := by decide +kernel
theorem d_MO_columnsFit_35 : decode b_MO_columnsFit 35 = .ok (.istore_n 3, 1) := by decide +kernel
theorem d_MO_columnsFit_36 : decode b_MO_columnsFit 36 = .ok (.iinc 4 1, 3) := by decide +kernel
theorem d_MO_columnsFit_39 : decode b_MO_columnsFit 39 = .ok (.goto (-25), 3) := by decide +kernel
theorem d_MO_columnsFit_42 : decode b_MO_columnsFit 42 = .ok (.iload_n 1, 1) := by decide +kernel
theorem d_MO_columnsFit_43 : decode b_MO_columnsFit 43 = .ok (.ifCond .eq 43, 3) := by decide +kernel
theorem d_MO_columnsFit_46 : decode b_MO_columnsFit 46 = .ok (.aload_n 0, 1) := by decide +kernel
theorem d_MO_columnsFit_47 : decode b_MO_columnsFit 47 = .ok (.getfield 86, 3) := by decide +kernel
theorem d_MO_columnsFit_50 : decode b_MO_columnsFit 50 = .ok (.iconst 2, 1) := by decide +kernel
theorem d_MO_columnsFit_51 : decode b_MO_columnsFit 51 = .ok (.if_icmp .ne 14, 3) := by decide +kernel
theorem d_MO_columnsFit_54 : decode b_MO_columnsFit 54 = .ok (.iload_n 3, 1) := by decide +kernel
theorem d_MO_columnsFit_55 : decode b_MO_columnsFit 55 = .ok (.invokestatic 109, 3) := by decide +kernel
theorem d_MO_columnsFit_58 : decode b_MO_columnsFit 58 = .ok (.iconst 1, 1) := by decide +kernel
theorem d_MO_columnsFit_59 : decode b_MO_columnsFit 59 = .ok (.if_icmp .ne 27, 3) := by decide +kernel
theorem d_MO_columnsFit_62 : decode b_MO_columnsFit 62 = .ok (.goto 20, 3) := by decide +kernel
theorem d_MO_columnsFit_65 : decode b_MO_columnsFit 65 = .ok (.aload_n 0, 1) := by decide +kernel
theorem d_MO_columnsFit_66 : decode b_MO_columnsFit 66 = .ok (.getfield 59, 3) := by decide +kernel
theorem d_MO_columnsFit_69 : decode b_MO_columnsFit 69 = .ok (.iload_n 3, 1) := by decide +kernel
theorem d_MO_columnsFit_70 : decode b_MO_columnsFit 70 = .ok (.iaload, 1) := by decide +kernel
theorem d_MO_columnsFit_71 : decode b_MO_columnsFit 71 = .ok (.aload_n 0, 1) := by decide +kernel
theorem d_MO_columnsFit_72 : decode b_MO_columnsFit 72 = .ok (.getfield 16, 3) := by decide +kernel
theorem d_MO_columnsFit_75 : decode b_MO_columnsFit 75 = .ok (.iconst 5, 1) := by decide +kernel
theorem d_MO_columnsFit_76 : decode b_MO_columnsFit 76 = .ok (.iload_n 2, 1) := by decide +kernel
theorem d_MO_columnsFit_77 : decode b_MO_columnsFit 77 = .ok (.iadd, 1) := by decide +kernel
theorem d_MO_columnsFit_78 : decode b_MO_columnsFit 78 = .ok (.iaload, 1) := by decide +kernel
theorem d_MO_columnsFit_79 : decode b_MO_columnsFit 79 = .ok (.if_icmp .ne 7, 3) := by decide +kernel
theorem d_MO_columnsFit_82 : decode b_MO_columnsFit 82 = .ok (.iconst 1, 1) := by decide +kernel
theorem d_MO_columnsFit_83 : decode b_MO_columnsFit 83 = .ok (.goto 4, 3) := by decide +kernel
theorem d_MO_columnsFit_86 : decode b_MO_columnsFit 86 = .ok (.iconst 0, 1) := by decide +kernel
theorem d_MO_columnsFit_87 : decode b_MO_columnsFit 87 = .ok (.istore_n 1, 1) := by decide +kernel
theorem d_MO_columnsFit_88 : decode b_MO_columnsFit 88 = .ok (.iinc 2 1, 3) := by decide +kernel
theorem d_MO_columnsFit_91 : decode b_MO_columnsFit 91 = .ok (.goto (-87), 3) := by decide +kernel
theorem d_MO_columnsFit_94 : decode b_MO_columnsFit 94 = .ok (.iload_n 1, 1) := by decide +kernel
theorem d_MO_columnsFit_95 : decode b_MO_columnsFit 95 = .ok (.ireturn, 1) := by decide +kernel
theorem d_MO_groupsFit_0 : decode b_MO_groupsFit 0 = .ok (.iconst 1, 1) := by decide +kernel
theorem d_MO_groupsFit_1 : decode b_MO_groupsFit 1 = .ok (.istore_n 1, 1) := by decide +kernel
theorem d_MO_groupsFit_2 : decode b_MO_groupsFit 2 = .ok (.iconst 0, 1) := by decide +kernel
theorem d_MO_groupsFit_3 : decode b_MO_groupsFit 3 = .ok (.istore_n 2, 1) := by decide +kernel
theorem d_MO_groupsFit_4 : decode b_MO_groupsFit 4 = .ok (.iload_n 2, 1) := by decide +kernel
theorem d_MO_groupsFit_5 : decode b_MO_groupsFit 5 = .ok (.bipush 16, 2) := by decide +kernel
theorem d_MO_groupsFit_7 : decode b_MO_groupsFit 7 = .ok (.if_icmp .ge 152, 3) := by decide +kernel
theorem d_MO_groupsFit_10 : decode b_MO_groupsFit 10 = .ok (.iconst 0, 1) := by decide +kernel
theorem d_MO_groupsFit_11 : decode b_MO_groupsFit 11 = .ok (.istore_n 3, 1) := by decide +kernel
theorem d_MO_groupsFit_12 : decode b_MO_groupsFit 12 = .ok (.iconst 1, 1) := by decide +kernel
theorem d_MO_groupsFit_13 : decode b_MO_groupsFit 13 = .ok (.istore 4, 2) := by decide +kernel
theorem d_MO_groupsFit_15 : decode b_MO_groupsFit 15 = .ok (.iconst 0, 1) := by decide +kernel
theorem d_MO_groupsFit_16 : decode b_MO_groupsFit 16 = .ok (.istore 5, 2) := by decide +kernel
theorem d_MO_groupsFit_18 : decode b_MO_groupsFit 18 = .ok (.iconst 0, 1) := by decide +kernel
theorem d_MO_groupsFit_19 : decode b_MO_groupsFit 19 = .ok (.istore 6, 2) := by decide +kernel
theorem d_MO_groupsFit_21 : decode b_MO_groupsFit 21 = .ok (.iload 6, 2) := by decide +kernel
theorem d_MO_groupsFit_23 : decode b_MO_groupsFit 23 = .ok (.bipush 16, 2) := by decide +kernel
theorem d_MO_groupsFit_25 : decode b_MO_groupsFit 25 = .ok (.if_icmp .ge 84, 3) := by decide +kernel
theorem d_MO_groupsFit_28 : decode b_MO_groupsFit 28 = .ok (.aload_n 0, 1) := by decide +kernel
theorem d_MO_groupsFit_29 : decode b_MO_groupsFit 29 = .ok (.getfield 20, 3) := by decide +kernel
theorem d_MO_groupsFit_32 : decode b_MO_groupsFit 32 = .ok (.iload 6, 2) := by decide +kernel
theorem d_MO_groupsFit_34 : decode b_MO_groupsFit 34 = .ok (.iaload, 1) := by decide +kernel
theorem d_MO_groupsFit_35 : decode b_MO_groupsFit 35 = .ok (.iload_n 2, 1) := by decide +kernel
theorem d_MO_groupsFit_36 : decode b_MO_groupsFit 36 = .ok (.if_icmp .eq 6, 3) := by decide +kernel
theorem d_MO_groupsFit_39 : decode b_MO_groupsFit 39 = .ok (.goto 64, 3) := by decide +kernel
theorem d_MO_groupsFit_42 : decode b_MO_groupsFit 42 = .ok (.iload_n 1, 1) := by decide +kernel
theorem d_MO_groupsFit_43 : decode b_MO_groupsFit 43 = .ok (.ifCond .eq 22, 3) := by decide +kernel
theorem d_MO_groupsFit_46 : decode b_MO_groupsFit 46 = .ok (.iload 5, 2) := by decide +kernel
theorem d_MO_groupsFit_48 : decode b_MO_groupsFit 48 = .ok (.aload_n 0, 1) := by decide +kernel
theorem d_MO_groupsFit_49 : decode b_MO_groupsFit 49 = .ok (.getfield 53, 3) := by decide +kernel
theorem d_MO_groupsFit_52 : decode b_MO_groupsFit 52 = .ok (.iload 6, 2) := by decide +kernel
theorem d_MO_groupsFit_54 : decode b_MO_groupsFit 54 = .ok (.iaload, 1) := by decide +kernel
theorem d_MO_groupsFit_55 : decode b_MO_groupsFit 55 = .ok (.ishr, 1) := by decide +kernel
theorem d_MO_groupsFit_56 : decode b_MO_groupsFit 56 = .ok (.iconst 1, 1) := by decide +kernel
theorem d_MO_groupsFit_57 : decode b_MO_groupsFit 57 = .ok (.iand, 1) := by decide +kernel
theorem d_MO_groupsFit_58 : decode b_MO_groupsFit 58 = .ok (.ifCond .ne 7, 3) := by decide +kernel
theorem d_MO_groupsFit_61 : decode b_MO_groupsFit 61 = .ok (.iconst 1, 1) := by decide +kernel
theorem d_MO_groupsFit_62 : decode b_MO_groupsFit 62 = .ok (.goto 4, 3) := by decide +kernel
theorem d_MO_groupsFit_65 : decode b_MO_groupsFit 65 = .ok (.iconst 0, 1) := by decide +kernel
theorem d_MO_groupsFit_66 : decode b_MO_groupsFit 66 = .ok (.istore_n 1, 1) := by decide +kernel
theorem d_MO_groupsFit_67 : decode b_MO_groupsFit 67 = .ok (.iload 5, 2) := by decide +kernel
theorem d_MO_groupsFit_69 : decode b_MO_groupsFit 69 = .ok (.iconst 1, 1) := by decide +kernel
theorem d_MO_groupsFit_70 : decode b_MO_groupsFit 70 = .ok (.aload_n 0, 1) := by decide +kernel
theorem d_MO_groupsFit_71 : decode b_MO_groupsFit 71 = .ok (.getfield 53, 3) := by decide +kernel
theorem d_MO_groupsFit_74 : decode b_MO_groupsFit 74 = .ok (.iload 6, 2) := by decide +kernel
theorem d_MO_groupsFit_76 : decode b_MO_groupsFit 76 = .ok (.iaload, 1) := by decide +kernel
theorem d_MO_groupsFit_77 : decode b_MO_groupsFit 77 = .ok (.ishl, 1) := by decide +kernel
theorem d_MO_groupsFit_78 : decode b_MO_groupsFit 78 = .ok (.ior, 1) := by decide +kernel
theorem d_MO_groupsFit_79 : decode b_MO_groupsFit 79 = .ok (.istore 5, 2) := by decide +kernel
theorem d_MO_groupsFit_81 : decode b_MO_groupsFit 81 = .ok (.iload_n 3, 1) := by decide +kernel
theorem d_MO_groupsFit_82 : decode b_MO_groupsFit 82 = .ok (.aload_n 0, 1) := by decide +kernel
theorem d_MO_groupsFit_83 : decode b_MO_groupsFit 83 = .ok (.getfield 53, 3) := by decide +kernel
theorem d_MO_groupsFit_86 : decode b_MO_groupsFit 86 = .ok (.iload 6, 2) := by decide +kernel
theorem d_MO_groupsFit_88 : decode b_MO_groupsFit 88 = .ok (.iaload, 1) := by decide +kernel
theorem d_MO_groupsFit_89 : decode b_MO_groupsFit 89 = .ok (.iadd, 1) := by decide +kernel
theorem d_MO_groupsFit_90 : decode b_MO_groupsFit 90 = .ok (.istore_n 3, 1) := by decide +kernel
theorem d_MO_groupsFit_91 : decode b_MO_groupsFit 91 = .ok (.iload 4, 2) := by decide +kernel
theorem d_MO_groupsFit_93 : decode b_MO_groupsFit 93 = .ok (.aload_n 0, 1) := by decide +kernel
theorem d_MO_groupsFit_94 : decode b_MO_groupsFit 94 = .ok (.getfield 53, 3) := by decide +kernel
theorem d_MO_groupsFit_97 : decode b_MO_groupsFit 97 = .ok (.iload 6, 2) := by decide +kernel
theorem d_MO_groupsFit_99 : decode b_MO_groupsFit 99 = .ok (.iaload, 1) := by decide +kernel
theorem d_MO_groupsFit_100 : decode b_MO_groupsFit 100 = .ok (.imul, 1) := by decide +kernel
theorem d_MO_groupsFit_101 : decode b_MO_groupsFit 101 = .ok (.istore 4, 2) := by decide +kernel
theorem d_MO_groupsFit_103 : decode b_MO_groupsFit 103 = .ok (.iinc 6 1, 3) := by decide +kernel
theorem d_MO_groupsFit_106 : decode b_MO_groupsFit 106 = .ok (.goto (-85), 3) := by decide +kernel
theorem d_MO_groupsFit_109 : decode b_MO_groupsFit 109 = .ok (.iload_n 1, 1) := by decide +kernel
theorem d_MO_groupsFit_110 : decode b_MO_groupsFit 110 = .ok (.ifCond .eq 41, 3) := by decide +kernel
theorem d_MO_groupsFit_113 : decode b_MO_groupsFit 113 = .ok (.aload_n 0, 1) := by decide +kernel
theorem d_MO_groupsFit_114 : decode b_MO_groupsFit 114 = .ok (.getfield 23, 3) := by decide +kernel
theorem d_MO_groupsFit_117 : decode b_MO_groupsFit 117 = .ok (.iload_n 2, 1) := by decide +kernel
theorem d_MO_groupsFit_118 : decode b_MO_groupsFit 118 = .ok (.iaload, 1) := by decide +kernel
theorem d_MO_groupsFit_119 : decode b_MO_groupsFit 119 = .ok (.ifCond .eq 28, 3) := by decide +kernel
theorem d_MO_groupsFit_122 : decode b_MO_groupsFit 122 = .ok (.aload_n 0, 1) := by decide +kernel
theorem d_MO_groupsFit_123 : decode b_MO_groupsFit 123 = .ok (.getfield 26, 3) := by decide +kernel
theorem d_MO_groupsFit_126 : decode b_MO_groupsFit 126 = .ok (.iload_n 2, 1) := by decide +kernel
theorem d_MO_groupsFit_127 : decode b_MO_groupsFit 127 = .ok (.iaload, 1) := by decide +kernel
theorem d_MO_groupsFit_128 : decode b_MO_groupsFit 128 = .ok (.aload_n 0, 1) := by decide +kernel
theorem d_MO_groupsFit_129 : decode b_MO_groupsFit 129 = .ok (.getfield 23, 3) := by decide +kernel
theorem d_MO_groupsFit_132 : decode b_MO_groupsFit 132 = .ok (.iload_n 2, 1) := by decide +kernel
theorem d_MO_groupsFit_133 : decode b_MO_groupsFit 133 = .ok (.iaload, 1) := by decide +kernel
theorem d_MO_groupsFit_134 : decode b_MO_groupsFit 134 = .ok (.iconst 1, 1) := by decide +kernel
theorem d_MO_groupsFit_135 : decode b_MO_groupsFit 135 = .ok (.if_icmp .ne 7, 3) := by decide +kernel
theorem d_MO_groupsFit_138 : decode b_MO_groupsFit 138 = .ok (.iload_n 3, 1) := by decide +kernel
theorem d_MO_groupsFit_139 : decode b_MO_groupsFit 139 = .ok (.goto 5, 3) := by decide +kernel
theorem d_MO_groupsFit_142 : decode b_MO_groupsFit 142 = .ok (.iload 4, 2) := by decide +kernel
theorem d_MO_groupsFit_144 : decode b_MO_groupsFit 144 = .ok (.if_icmp .ne 7, 3) := by decide +kernel
theorem d_MO_groupsFit_147 : decode b_MO_groupsFit 147 = .ok (.iconst 1, 1) := by decide +kernel
theorem d_MO_groupsFit_148 : decode b_MO_groupsFit 148 = .ok (.goto 4, 3) := by decide +kernel
theorem d_MO_groupsFit_151 : decode b_MO_groupsFit 151 = .ok (.iconst 0, 1) := by decide +kernel
theorem d_MO_groupsFit_152 : decode b_MO_groupsFit 152 = .ok (.istore_n 1, 1) := by decide +kernel
theorem d_MO_groupsFit_153 : decode b_MO_groupsFit 153 = .ok (.iinc 2 1, 3) := by decide +kernel
theorem d_MO_groupsFit_156 : decode b_MO_groupsFit 156 = .ok (.goto (-152), 3) := by decide +kernel
theorem d_MO_groupsFit_159 : decode b_MO_groupsFit 159 = .ok (.iload_n 1, 1) := by decide +kernel
theorem d_MO_groupsFit_160 : decode b_MO_groupsFit 160 = .ok (.ireturn, 1) := by decide +kernel
theorem d_MO_starsFit_0 : decode b_MO_starsFit 0 = .ok (.iconst 1, 1) := by decide +kernel
theorem d_MO_starsFit_1 : decode b_MO_starsFit 1 = .ok (.istore_n 1, 1) := by decide +kernel
theorem d_MO_starsFit_2 : decode b_MO_starsFit 2 = .ok (.iconst 0, 1) := by decide +kernel
theorem d_MO_starsFit_3 : decode b_MO_starsFit 3 = .ok (.istore_n 2, 1) := by decide +kernel
theorem d_MO_starsFit_4 : decode b_MO_starsFit 4 = .ok (.iload_n 2, 1) := by decide +kernel
theorem d_MO_starsFit_5 : decode b_MO_starsFit 5 = .ok (.iconst 5, 1) := by decide +kernel
theorem d_MO_starsFit_6 : decode b_MO_starsFit 6 = .ok (.if_icmp .ge 75, 3) := by decide +kernel
theorem d_MO_starsFit_9 : decode b_MO_starsFit 9 = .ok (.iconst 0, 1) := by decide +kernel
theorem d_MO_starsFit_10 : decode b_MO_starsFit 10 = .ok (.istore_n 3, 1) := by decide +kernel
theorem d_MO_starsFit_11 : decode b_MO_starsFit 11 = .ok (.iconst 0, 1) := by decide +kernel
theorem d_MO_starsFit_12 : decode b_MO_starsFit 12 = .ok (.istore 4, 2) := by decide +kernel
theorem d_MO_starsFit_14 : decode b_MO_starsFit 14 = .ok (.iload 4, 2) := by decide +kernel
theorem d_MO_starsFit_16 : decode b_MO_starsFit 16 = .ok (.bipush 25, 2) := by decide +kernel
theorem d_MO_starsFit_18 : decode b_MO_starsFit 18 = .ok (.if_icmp .ge 34, 3) := by decide +kernel
theorem d_MO_starsFit_21 : decode b_MO_starsFit 21 = .ok (.iload_n 3, 1) := by decide +kernel
theorem d_MO_starsFit_22 : decode b_MO_starsFit 22 = .ok (.aload_n 0, 1) := by decide +kernel
theorem d_MO_starsFit_23 : decode b_MO_starsFit 23 = .ok (.getfield 20, 3) := by decide +kernel
theorem d_MO_starsFit_26 : decode b_MO_starsFit 26 = .ok (.iload 4, 2) := by decide +kernel
theorem d_MO_starsFit_28 : decode b_MO_starsFit 28 = .ok (.iaload, 1) := by decide +kernel
theorem d_MO_starsFit_29 : decode b_MO_starsFit 29 = .ok (.iload_n 2, 1) := by decide +kernel
theorem d_MO_starsFit_30 : decode b_MO_starsFit 30 = .ok (.if_icmp .ne 13, 3) := by decide +kernel
theorem d_MO_starsFit_33 : decode b_MO_starsFit 33 = .ok (.aload_n 0, 1) := by decide +kernel
theorem d_MO_starsFit_34 : decode b_MO_starsFit 34 = .ok (.getfield 53, 3) := by decide +kernel
theorem d_MO_starsFit_37 : decode b_MO_starsFit 37 = .ok (.iload 4, 2) := by decide +kernel
theorem d_MO_starsFit_39 : decode b_MO_starsFit 39 = .ok (.iaload, 1) := by decide +kernel
theorem d_MO_starsFit_40 : decode b_MO_starsFit 40 = .ok (.goto 4, 3) := by decide +kernel
theorem d_MO_starsFit_43 : decode b_MO_starsFit 43 = .ok (.iconst 0, 1) := by decide +kernel
theorem d_MO_starsFit_44 : decode b_MO_starsFit 44 = .ok (.iadd, 1) := by decide +kernel
theorem d_MO_starsFit_45 : decode b_MO_starsFit 45 = .ok (.istore_n 3, 1) := by decide +kernel
theorem d_MO_starsFit_46 : decode b_MO_starsFit 46 = .ok (.iinc 4 1, 3) := by decide +kernel
theorem d_MO_starsFit_49 : decode b_MO_starsFit 49 = .ok (.goto (-35), 3) := by decide +kernel
theorem d_MO_starsFit_52 : decode b_MO_starsFit 52 = .ok (.iload_n 1, 1) := by decide +kernel
theorem d_MO_starsFit_53 : decode b_MO_starsFit 53 = .ok (.ifCond .eq 20, 3) := by decide +kernel
theorem d_MO_starsFit_56 : decode b_MO_starsFit 56 = .ok (.iload_n 3, 1) := by decide +kernel
theorem d_MO_starsFit_57 : decode b_MO_starsFit 57 = .ok (.iconst 1, 1) := by decide +kernel
theorem d_MO_starsFit_58 : decode b_MO_starsFit 58 = .ok (.if_icmp .eq 11, 3) := by decide +kernel
theorem d_MO_starsFit_61 : decode b_MO_starsFit 61 = .ok (.aload_n 0, 1) := by decide +kernel
theorem d_MO_starsFit_62 : decode b_MO_starsFit 62 = .ok (.iload_n 2, 1) := by decide +kernel
theorem d_MO_starsFit_63 : decode b_MO_starsFit 63 = .ok (.invokevirtual 103, 3) := by decide +kernel
theorem d_MO_starsFit_66 : decode b_MO_starsFit 66 = .ok (.ifCond .ne 7, 3) := by decide +kernel
theorem d_MO_starsFit_69 : decode b_MO_starsFit 69 = .ok (.iconst 1, 1) := by decide +kernel
theorem d_MO_starsFit_70 : decode b_MO_starsFit 70 = .ok (.goto 4, 3) := by decide +kernel
theorem d_MO_starsFit_73 : decode b_MO_starsFit 73 = .ok (.iconst 0, 1) := by decide +kernel
theorem d_MO_starsFit_74 : decode b_MO_starsFit 74 = .ok (.istore_n 1, 1) := by decide +kernel
theorem d_MO_starsFit_75 : decode b_MO_starsFit 75 = .ok (.iinc 2 1, 3) := by decide +kernel
theorem d_MO_starsFit_78 : decode b_MO_starsFit 78 = .ok (.goto (-74), 3) := by decide +kernel
theorem d_MO_starsFit_81 : decode b_MO_starsFit 81 = .ok (.iconst 0, 1) := by decide +kernel
theorem d_MO_starsFit_82 : decode b_MO_starsFit 82 = .ok (.istore_n 2, 1) := by decide +kernel
theorem d_MO_starsFit_83 : decode b_MO_starsFit 83 = .ok (.iload_n 2, 1) := by decide +kernel
theorem d_MO_starsFit_84 : decode b_MO_starsFit 84 = .ok (.bipush 25, 2) := by decide +kernel
theorem d_MO_starsFit_86 : decode b_MO_starsFit 86 = .ok (.if_icmp .ge 73, 3) := by decide +kernel
theorem d_MO_starsFit_89 : decode b_MO_starsFit 89 = .ok (.iload_n 1, 1) := by decide +kernel
theorem d_MO_starsFit_90 : decode b_MO_starsFit 90 = .ok (.ifCond .eq 69, 3) := by decide +kernel
theorem d_MO_starsFit_93 : decode b_MO_starsFit 93 = .ok (.bipush 8, 2) := by decide +kernel
theorem d_MO_starsFit_95 : decode b_MO_starsFit 95 = .ok (.iload_n 2, 1) := by decide +kernel
theorem d_MO_starsFit_96 : decode b_MO_starsFit 96 = .ok (.imul, 1) := by decide +kernel
theorem d_MO_starsFit_97 : decode b_MO_starsFit 97 = .ok (.istore_n 3, 1) := by decide +kernel
theorem d_MO_starsFit_98 : decode b_MO_starsFit 98 = .ok (.iload_n 3, 1) := by decide +kernel
theorem d_MO_starsFit_99 : decode b_MO_starsFit 99 = .ok (.bipush 8, 2) := by decide +kernel
theorem d_MO_starsFit_101 : decode b_MO_starsFit 101 = .ok (.iload_n 2, 1) := by decide +kernel
theorem d_MO_starsFit_102 : decode b_MO_starsFit 102 = .ok (.imul, 1) := by decide +kernel
theorem d_MO_starsFit_103 : decode b_MO_starsFit 103 = .ok (.aload_n 0, 1) := by decide +kernel
theorem d_MO_starsFit_104 : decode b_MO_starsFit 104 = .ok (.getfield 65, 3) := by decide +kernel
theorem d_MO_starsFit_107 : decode b_MO_starsFit 107 = .ok (.iload_n 2, 1) := by decide +kernel
theorem d_MO_starsFit_108 : decode b_MO_starsFit 108 = .ok (.iaload, 1) := by decide +kernel
theorem d_MO_starsFit_109 : decode b_MO_starsFit 109 = .ok (.iadd, 1) := by decide +kernel
theorem d_MO_starsFit_110 : decode b_MO_starsFit 110 = .ok (.if_icmp .ge 43, 3) := by decide +kernel
theorem d_MO_starsFit_113 : decode b_MO_starsFit 113 = .ok (.aload_n 0, 1) := by decide +kernel
theorem d_MO_starsFit_114 : decode b_MO_starsFit 114 = .ok (.getfield 53, 3) := by decide +kernel
theorem d_MO_starsFit_117 : decode b_MO_starsFit 117 = .ok (.iload_n 2, 1) := by decide +kernel
theorem d_MO_starsFit_118 : decode b_MO_starsFit 118 = .ok (.iaload, 1) := by decide +kernel
theorem d_MO_starsFit_119 : decode b_MO_starsFit 119 = .ok (.iconst 1, 1) := by decide +kernel
theorem d_MO_starsFit_120 : decode b_MO_starsFit 120 = .ok (.if_icmp .ne 33, 3) := by decide +kernel
theorem d_MO_starsFit_123 : decode b_MO_starsFit 123 = .ok (.iload_n 1, 1) := by decide +kernel
theorem d_MO_starsFit_124 : decode b_MO_starsFit 124 = .ok (.ifCond .eq 21, 3) := by decide +kernel
theorem d_MO_starsFit_127 : decode b_MO_starsFit 127 = .ok (.aload_n 0, 1) := by decide +kernel
theorem d_MO_starsFit_128 : decode b_MO_starsFit 128 = .ok (.getfield 53, 3) := by decide +kernel
theorem d_MO_starsFit_131 : decode b_MO_starsFit 131 = .ok (.aload_n 0, 1) := by decide +kernel
theorem d_MO_starsFit_132 : decode b_MO_starsFit 132 = .ok (.getfield 68, 3) := by decide +kernel
theorem d_MO_starsFit_135 : decode b_MO_starsFit 135 = .ok (.iload_n 3, 1) := by decide +kernel
theorem d_MO_starsFit_136 : decode b_MO_starsFit 136 = .ok (.iaload, 1) := by decide +kernel
theorem d_MO_starsFit_137 : decode b_MO_starsFit 137 = .ok (.iaload, 1) := by decide +kernel
theorem d_MO_starsFit_138 : decode b_MO_starsFit 138 = .ok (.ifCond .ne 7, 3) := by decide +kernel
theorem d_MO_starsFit_141 : decode b_MO_starsFit 141 = .ok (.iconst 1, 1) := by decide +kernel
theorem d_MO_starsFit_142 : decode b_MO_starsFit 142 = .ok (.goto 4, 3) := by decide +kernel
theorem d_MO_starsFit_145 : decode b_MO_starsFit 145 = .ok (.iconst 0, 1) := by decide +kernel
theorem d_MO_starsFit_146 : decode b_MO_starsFit 146 = .ok (.istore_n 1, 1) := by decide +kernel
theorem d_MO_starsFit_147 : decode b_MO_starsFit 147 = .ok (.iinc 3 1, 3) := by decide +kernel
theorem d_MO_starsFit_150 : decode b_MO_starsFit 150 = .ok (.goto (-52), 3) := by decide +kernel
theorem d_MO_starsFit_153 : decode b_MO_starsFit 153 = .ok (.iinc 2 1, 3) := by decide +kernel
theorem d_MO_starsFit_156 : decode b_MO_starsFit 156 = .ok (.goto (-73), 3) := by decide +kernel
theorem d_MO_starsFit_159 : decode b_MO_starsFit 159 = .ok (.iload_n 1, 1) := by decide +kernel
theorem d_MO_starsFit_160 : decode b_MO_starsFit 160 = .ok (.ireturn, 1) := by decide +kernel
theorem d_MO_isFilling_0 : decode b_MO_isFilling 0 = .ok (.aload_n 0, 1) := by decide +kernel
theorem d_MO_isFilling_1 : decode b_MO_isFilling 1 = .ok (.getfield 86, 3) := by decide +kernel
theorem d_MO_isFilling_4 : decode b_MO_isFilling 4 = .ok (.iconst 1, 1) := by decide +kernel
theorem d_MO_isFilling_5 : decode b_MO_isFilling 5 = .ok (.if_icmp .ne 10, 3) := by decide +kernel
theorem d_MO_isFilling_8 : decode b_MO_isFilling 8 = .ok (.aload_n 0, 1) := by decide +kernel
theorem d_MO_isFilling_9 : decode b_MO_isFilling 9 = .ok (.invokevirtual 119, 3) := by decide +kernel
theorem d_MO_isFilling_12 : decode b_MO_isFilling 12 = .ok (.goto 29, 3) := by decide +kernel
theorem d_MO_isFilling_15 : decode b_MO_isFilling 15 = .ok (.aload_n 0, 1) := by decide +kernel
theorem d_MO_isFilling_16 : decode b_MO_isFilling 16 = .ok (.invokevirtual 123, 3) := by decide +kernel
theorem d_MO_isFilling_19 : decode b_MO_isFilling 19 = .ok (.ifCond .eq 21, 3) := by decide +kernel
theorem d_MO_isFilling_22 : decode b_MO_isFilling 22 = .ok (.aload_n 0, 1) := by decide +kernel
theorem d_MO_isFilling_23 : decode b_MO_isFilling 23 = .ok (.getfield 86, 3) := by decide +kernel
theorem d_MO_isFilling_26 : decode b_MO_isFilling 26 = .ok (.ifCond .eq 10, 3) := by decide +kernel
theorem d_MO_isFilling_29 : decode b_MO_isFilling 29 = .ok (.aload_n 0, 1) := by decide +kernel
theorem d_MO_isFilling_30 : decode b_MO_isFilling 30 = .ok (.invokevirtual 126, 3) := by decide +kernel
theorem d_MO_isFilling_33 : decode b_MO_isFilling 33 = .ok (.ifCond .eq 7, 3) := by decide +kernel
theorem d_MO_isFilling_36 : decode b_MO_isFilling 36 = .ok (.iconst 1, 1) := by decide +kernel
theorem d_MO_isFilling_37 : decode b_MO_isFilling 37 = .ok (.goto 4, 3) := by decide +kernel
theorem d_MO_isFilling_40 : decode b_MO_isFilling 40 = .ok (.iconst 0, 1) := by decide +kernel
theorem d_MO_isFilling_41 : decode b_MO_isFilling 41 = .ok (.ireturn, 1) := by decide +kernel
theorem d_MO_search_0 : decode b_MO_search 0 = .ok (.aload_n 0, 1) := by decide +kernel
theorem d_MO_search_1 : decode b_MO_search 1 = .ok (.iconst 0, 1) := by decide +kernel
theorem d_MO_search_2 : decode b_MO_search 2 = .ok (.putfield 129, 3) := by decide +kernel
theorem d_MO_search_5 : decode b_MO_search 5 = .ok (.aload_n 0, 1) := by decide +kernel
theorem d_MO_search_6 : decode b_MO_search 6 = .ok (.getfield 86, 3) := by decide +kernel
theorem d_MO_search_9 : decode b_MO_search 9 = .ok (.iconst 1, 1) := by decide +kernel
theorem d_MO_search_10 : decode b_MO_search 10 = .ok (.if_icmp .ne 8, 3) := by decide +kernel
theorem d_MO_search_13 : decode b_MO_search 13 = .ok (.bipush 24, 2) := by decide +kernel
theorem d_MO_search_15 : decode b_MO_search 15 = .ok (.goto 5, 3) := by decide +kernel
theorem d_MO_search_18 : decode b_MO_search 18 = .ok (.bipush 32, 2) := by decide +kernel
theorem d_MO_search_20 : decode b_MO_search 20 = .ok (.istore_n 1, 1) := by decide +kernel
theorem d_MO_search_21 : decode b_MO_search 21 = .ok (.iconst 0, 1) := by decide +kernel
theorem d_MO_search_22 : decode b_MO_search 22 = .ok (.istore_n 2, 1) := by decide +kernel
theorem d_MO_search_23 : decode b_MO_search 23 = .ok (.aload_n 0, 1) := by decide +kernel
theorem d_MO_search_24 : decode b_MO_search 24 = .ok (.getfield 56, 3) := by decide +kernel
theorem d_MO_search_27 : decode b_MO_search 27 = .ok (.iconst 0, 1) := by decide +kernel
theorem d_MO_search_28 : decode b_MO_search 28 = .ok (.iconst (-1), 1) := by decide +kernel
theorem d_MO_search_29 : decode b_MO_search 29 = .ok (.iastore, 1) := by decide +kernel
theorem d_MO_search_30 : decode b_MO_search 30 = .ok (.iload_n 2, 1) := by decide +kernel
theorem d_MO_search_31 : decode b_MO_search 31 = .ok (.ifCond .lt 151, 3) := by decide +kernel
theorem d_MO_search_34 : decode b_MO_search 34 = .ok (.aload_n 0, 1) := by decide +kernel
theorem d_MO_search_35 : decode b_MO_search 35 = .ok (.getfield 129, 3) := by decide +kernel
theorem d_MO_search_38 : decode b_MO_search 38 = .ok (.iconst 2, 1) := by decide +kernel
theorem d_MO_search_39 : decode b_MO_search 39 = .ok (.if_icmp .ge 143, 3) := by decide +kernel
theorem d_MO_search_42 : decode b_MO_search 42 = .ok (.aload_n 0, 1) := by decide +kernel
theorem d_MO_search_43 : decode b_MO_search 43 = .ok (.getfield 56, 3) := by decide +kernel
theorem d_MO_search_46 : decode b_MO_search 46 = .ok (.iload_n 2, 1) := by decide +kernel
theorem d_MO_search_47 : decode b_MO_search 47 = .ok (.dup2, 1) := by decide +kernel
theorem d_MO_search_48 : decode b_MO_search 48 = .ok (.iaload, 1) := by decide +kernel
theorem d_MO_search_49 : decode b_MO_search 49 = .ok (.iconst 1, 1) := by decide +kernel
theorem d_MO_search_50 : decode b_MO_search 50 = .ok (.iadd, 1) := by decide +kernel
theorem d_MO_search_51 : decode b_MO_search 51 = .ok (.iastore, 1) := by decide +kernel
theorem d_MO_search_52 : decode b_MO_search 52 = .ok (.aload_n 0, 1) := by decide +kernel
theorem d_MO_search_53 : decode b_MO_search 53 = .ok (.getfield 56, 3) := by decide +kernel
theorem d_MO_search_56 : decode b_MO_search 56 = .ok (.iload_n 2, 1) := by decide +kernel
theorem d_MO_search_57 : decode b_MO_search 57 = .ok (.iaload, 1) := by decide +kernel
theorem d_MO_search_58 : decode b_MO_search 58 = .ok (.iload_n 1, 1) := by decide +kernel
theorem d_MO_search_59 : decode b_MO_search 59 = .ok (.if_icmp .ne 9, 3) := by decide +kernel
theorem d_MO_search_62 : decode b_MO_search 62 = .ok (.iinc 2 (-1), 3) := by decide +kernel
theorem d_MO_search_65 : decode b_MO_search 65 = .ok (.goto (-35), 3) := by decide +kernel
theorem d_MO_search_68 : decode b_MO_search 68 = .ok (.aload_n 0, 1) := by decide +kernel
theorem d_MO_search_69 : decode b_MO_search 69 = .ok (.iload_n 2, 1) := by decide +kernel
theorem d_MO_search_70 : decode b_MO_search 70 = .ok (.aload_n 0, 1) := by decide +kernel
theorem d_MO_search_71 : decode b_MO_search 71 = .ok (.getfield 86, 3) := by decide +kernel
theorem d_MO_search_74 : decode b_MO_search 74 = .ok (.iconst 1, 1) := by decide +kernel
theorem d_MO_search_75 : decode b_MO_search 75 = .ok (.if_icmp .ne 17, 3) := by decide +kernel
theorem d_MO_search_78 : decode b_MO_search 78 = .ok (.aload_n 0, 1) := by decide +kernel
theorem d_MO_search_79 : decode b_MO_search 79 = .ok (.getfield 62, 3) := by decide +kernel
theorem d_MO_search_82 : decode b_MO_search 82 = .ok (.aload_n 0, 1) := by decide +kernel
theorem d_MO_search_83 : decode b_MO_search 83 = .ok (.getfield 56, 3) := by decide +kernel
theorem d_MO_search_86 : decode b_MO_search 86 = .ok (.iload_n 2, 1) := by decide +kernel
theorem d_MO_search_87 : decode b_MO_search 87 = .ok (.iaload, 1) := by decide +kernel
theorem d_MO_search_88 : decode b_MO_search 88 = .ok (.iaload, 1) := by decide +kernel
theorem d_MO_search_89 : decode b_MO_search 89 = .ok (.goto 9, 3) := by decide +kernel
theorem d_MO_search_92 : decode b_MO_search 92 = .ok (.aload_n 0, 1) := by decide +kernel
theorem d_MO_search_93 : decode b_MO_search 93 = .ok (.getfield 56, 3) := by decide +kernel
theorem d_MO_search_96 : decode b_MO_search 96 = .ok (.iload_n 2, 1) := by decide +kernel
theorem d_MO_search_97 : decode b_MO_search 97 = .ok (.iaload, 1) := by decide +kernel
theorem d_MO_search_98 : decode b_MO_search 98 = .ok (.invokevirtual 132, 3) := by decide +kernel
theorem d_MO_search_101 : decode b_MO_search 101 = .ok (.ifCond .eq (-71), 3) := by decide +kernel
theorem d_MO_search_104 : decode b_MO_search 104 = .ok (.iload_n 2, 1) := by decide +kernel
theorem d_MO_search_105 : decode b_MO_search 105 = .ok (.aload_n 0, 1) := by decide +kernel
theorem d_MO_search_106 : decode b_MO_search 106 = .ok (.getfield 13, 3) := by decide +kernel
theorem d_MO_search_109 : decode b_MO_search 109 = .ok (.iconst 1, 1) := by decide +kernel
theorem d_MO_search_110 : decode b_MO_search 110 = .ok (.isub, 1) := by decide +kernel
theorem d_MO_search_111 : decode b_MO_search 111 = .ok (.if_icmp .ge 16, 3) := by decide +kernel
theorem d_MO_search_114 : decode b_MO_search 114 = .ok (.iinc 2 1, 3) := by decide +kernel
theorem d_MO_search_117 : decode b_MO_search 117 = .ok (.aload_n 0, 1) := by decide +kernel
theorem d_MO_search_118 : decode b_MO_search 118 = .ok (.getfield 56, 3) := by decide +kernel
theorem d_MO_search_121 : decode b_MO_search 121 = .ok (.iload_n 2, 1) := by decide +kernel
theorem d_MO_search_122 : decode b_MO_search 122 = .ok (.iconst (-1), 1) := by decide +kernel
theorem d_MO_search_123 : decode b_MO_search 123 = .ok (.iastore, 1) := by decide +kernel
theorem d_MO_search_124 : decode b_MO_search 124 = .ok (.goto (-94), 3) := by decide +kernel
theorem d_MO_search_127 : decode b_MO_search 127 = .ok (.aload_n 0, 1) := by decide +kernel
theorem d_MO_search_128 : decode b_MO_search 128 = .ok (.invokevirtual 135, 3) := by decide +kernel
theorem d_MO_search_131 : decode b_MO_search 131 = .ok (.ifCond .eq (-101), 3) := by decide +kernel
theorem d_MO_search_134 : decode b_MO_search 134 = .ok (.iconst 0, 1) := by decide +kernel
theorem d_MO_search_135 : decode b_MO_search 135 = .ok (.istore_n 3, 1) := by decide +kernel
theorem d_MO_search_136 : decode b_MO_search 136 = .ok (.iload_n 3, 1) := by decide +kernel
theorem d_MO_search_137 : decode b_MO_search 137 = .ok (.aload_n 0, 1) := by decide +kernel
theorem d_MO_search_138 : decode b_MO_search 138 = .ok (.getfield 7, 3) := by decide +kernel
theorem d_MO_search_141 : decode b_MO_search 141 = .ok (.if_icmp .ge 28, 3) := by decide +kernel
theorem d_MO_search_144 : decode b_MO_search 144 = .ok (.aload_n 0, 1) := by decide +kernel
theorem d_MO_search_145 : decode b_MO_search 145 = .ok (.getfield 129, 3) := by decide +kernel
theorem d_MO_search_148 : decode b_MO_search 148 = .ok (.ifCond .ne 21, 3) := by decide +kernel
theorem d_MO_search_151 : decode b_MO_search 151 = .ok (.aload_n 0, 1) := by decide +kernel
theorem d_MO_search_152 : decode b_MO_search 152 = .ok (.getfield 50, 3) := by decide +kernel
theorem d_MO_search_155 : decode b_MO_search 155 = .ok (.iload_n 3, 1) := by decide +kernel
theorem d_MO_search_156 : decode b_MO_search 156 = .ok (.aload_n 0, 1) := by decide +kernel
theorem d_MO_search_157 : decode b_MO_search 157 = .ok (.getfield 53, 3) := by decide +kernel
theorem d_MO_search_160 : decode b_MO_search 160 = .ok (.iload_n 3, 1) := by decide +kernel
theorem d_MO_search_161 : decode b_MO_search 161 = .ok (.iaload, 1) := by decide +kernel
theorem d_MO_search_162 : decode b_MO_search 162 = .ok (.iastore, 1) := by decide +kernel
theorem d_MO_search_163 : decode b_MO_search 163 = .ok (.iinc 3 1, 3) := by decide +kernel
theorem d_MO_search_166 : decode b_MO_search 166 = .ok (.goto (-30), 3) := by decide +kernel
theorem d_MO_search_169 : decode b_MO_search 169 = .ok (.aload_n 0, 1) := by decide +kernel
theorem d_MO_search_170 : decode b_MO_search 170 = .ok (.dup, 1) := by decide +kernel
theorem d_MO_search_171 : decode b_MO_search 171 = .ok (.getfield 129, 3) := by decide +kernel
theorem d_MO_search_174 : decode b_MO_search 174 = .ok (.iconst 1, 1) := by decide +kernel
theorem d_MO_search_175 : decode b_MO_search 175 = .ok (.iadd, 1) := by decide +kernel
theorem d_MO_search_176 : decode b_MO_search 176 = .ok (.putfield 129, 3) := by decide +kernel
theorem d_MO_search_179 : decode b_MO_search 179 = .ok (.goto (-149), 3) := by decide +kernel
theorem d_MO_search_182 : decode b_MO_search 182 = .ok (.return_, 1) := by decide +kernel
theorem d_MO_fillings_0 : decode b_MO_fillings 0 = .ok (.aload_n 0, 1) := by decide +kernel
theorem d_MO_fillings_1 : decode b_MO_fillings 1 = .ok (.iconst 0, 1) := by decide +kernel
theorem d_MO_fillings_2 : decode b_MO_fillings 2 = .ok (.putfield 83, 3) := by decide +kernel
theorem d_MO_fillings_5 : decode b_MO_fillings 5 = .ok (.aload_n 0, 1) := by decide +kernel
theorem d_MO_fillings_6 : decode b_MO_fillings 6 = .ok (.invokevirtual 138, 3) := by decide +kernel
theorem d_MO_fillings_9 : decode b_MO_fillings 9 = .ok (.aload_n 0, 1) := by decide +kernel
theorem d_MO_fillings_10 : decode b_MO_fillings 10 = .ok (.getfield 129, 3) := by decide +kernel
theorem d_MO_fillings_13 : decode b_MO_fillings 13 = .ok (.ireturn, 1) := by decide +kernel
theorem d_MO_value_0 : decode b_MO_value 0 = .ok (.aload_n 0, 1) := by decide +kernel
theorem d_MO_value_1 : decode b_MO_value 1 = .ok (.aload_n 0, 1) := by decide +kernel
theorem d_MO_value_2 : decode b_MO_value 2 = .ok (.iload_n 1, 1) := by decide +kernel
theorem d_MO_value_3 : decode b_MO_value 3 = .ok (.invokevirtual 100, 3) := by decide +kernel
theorem d_MO_value_6 : decode b_MO_value 6 = .ok (.ifCond .eq 7, 3) := by decide +kernel
theorem d_MO_value_9 : decode b_MO_value 9 = .ok (.iconst 1, 1) := by decide +kernel
theorem d_MO_value_10 : decode b_MO_value 10 = .ok (.goto 4, 3) := by decide +kernel
theorem d_MO_value_13 : decode b_MO_value 13 = .ok (.iconst 0, 1) := by decide +kernel
theorem d_MO_value_14 : decode b_MO_value 14 = .ok (.putfield 83, 3) := by decide +kernel
theorem d_MO_value_17 : decode b_MO_value 17 = .ok (.aload_n 0, 1) := by decide +kernel
theorem d_MO_value_18 : decode b_MO_value 18 = .ok (.getfield 83, 3) := by decide +kernel
theorem d_MO_value_21 : decode b_MO_value 21 = .ok (.ifCond .eq 5, 3) := by decide +kernel
theorem d_MO_value_24 : decode b_MO_value 24 = .ok (.iconst 0, 1) := by decide +kernel
theorem d_MO_value_25 : decode b_MO_value 25 = .ok (.ireturn, 1) := by decide +kernel
theorem d_MO_value_26 : decode b_MO_value 26 = .ok (.aload_n 0, 1) := by decide +kernel
theorem d_MO_value_27 : decode b_MO_value 27 = .ok (.invokevirtual 138, 3) := by decide +kernel
theorem d_MO_value_30 : decode b_MO_value 30 = .ok (.aload_n 0, 1) := by decide +kernel
theorem d_MO_value_31 : decode b_MO_value 31 = .ok (.aload_n 0, 1) := by decide +kernel
theorem d_MO_value_32 : decode b_MO_value 32 = .ok (.getfield 129, 3) := by decide +kernel
theorem d_MO_value_35 : decode b_MO_value 35 = .ok (.ifCond .ne 7, 3) := by decide +kernel
theorem d_MO_value_38 : decode b_MO_value 38 = .ok (.iconst 2, 1) := by decide +kernel
theorem d_MO_value_39 : decode b_MO_value 39 = .ok (.goto 4, 3) := by decide +kernel
theorem d_MO_value_42 : decode b_MO_value 42 = .ok (.iconst 0, 1) := by decide +kernel
theorem d_MO_value_43 : decode b_MO_value 43 = .ok (.putfield 83, 3) := by decide +kernel
theorem d_MO_value_46 : decode b_MO_value 46 = .ok (.aload_n 0, 1) := by decide +kernel
theorem d_MO_value_47 : decode b_MO_value 47 = .ok (.getfield 83, 3) := by decide +kernel
theorem d_MO_value_50 : decode b_MO_value 50 = .ok (.ifCond .ne 12, 3) := by decide +kernel
theorem d_MO_value_53 : decode b_MO_value 53 = .ok (.aload_n 0, 1) := by decide +kernel
theorem d_MO_value_54 : decode b_MO_value 54 = .ok (.getfield 50, 3) := by decide +kernel
theorem d_MO_value_57 : decode b_MO_value 57 = .ok (.iload_n 1, 1) := by decide +kernel
theorem d_MO_value_58 : decode b_MO_value 58 = .ok (.iaload, 1) := by decide +kernel
theorem d_MO_value_59 : decode b_MO_value 59 = .ok (.goto 4, 3) := by decide +kernel
theorem d_MO_value_62 : decode b_MO_value 62 = .ok (.iconst 0, 1) := by decide +kernel
theorem d_MO_value_63 : decode b_MO_value 63 = .ok (.ireturn, 1) := by decide +kernel
set_option maxHeartbeats 4000000 in
set_option maxRecDepth 100000 in
theorem ct_MO_valueOf (l : Launch) (D : va_G) (ad : Nat → Nat) (cI cL : ClassId) (N : Nat) (th : Int32) (ki : Int32) (ce : Int32) (wi : Int32) (ma : Int32) (fo : Int32) (cu : Nat → Int32) (gr : Nat → Int32) (ru : Nat → Int32) (nu : Nat → Int32) (gv : Nat → Int32) (ca : Nat → Int32) (nw : Nat → Int32) (lo : Nat → Int32) (ke : Nat → Int32) (un : Nat → Int32) (cn : Nat → Int32) (fi : Nat → Int32) (fl : Nat → Int32) (pa : Nat → Int32) (sh : Nat → Int32) (od : Nat → Int32) (bd : Nat → Int32) (bs : Nat → Int32) (u1 : Int32) (u2 : Int32) (out : Int32) (h : mi_MO_valueOf N ki u1 u2 = some out) : fw_C l y_MO_valueOf (.code y_MO_valueOf b_MO_valueOf 3 (some .int) :: Gw) (fr 0 0) D vwCl (tyA cI cL) [.ref (ad 0), .int u1, .int u2] (wM ad cI cL th ki ce wi ma fo cu gr ru nu gv ca nw lo ke un cn fi fl pa sh od bd bs) (some (.int out)) (wM ad cI cL th ki ce wi ma fo cu gr ru nu gv ca nw lo ke un cn fi fl pa sh od bd bs) := by
  refine fw_of (by decide) (Nat.le_of_ble_eq_true rfl) ?_
  intro p e s m args below meth c ls A R Q hR hQ S hr hlk hX hA hl hw
  have hK := hX.1
  have hx := S.1
  have hb := S.2.1
  have hown := S.2.2.2.1
  have hg := S.2.2.2.2
  have hl : lv_has ls 3 [(0, .ref (ad 0)), (1, .int u1), (2, .int u2)] := hl
  unfold mi_MO_valueOf at h
  refine lv_aload_n hx hb d_MO_valueOf_0 rfl (lv_at hl 0 rfl) ?_
  refine va_get (ci := 6) (v := .int ki) (C := R_MO) (T := F_MO) (N := 24) hx hb hg in_MO hown hK hw.1 0 rfl rfl 1 (by decide) (hg _ q_750) (fun _ h9 => h9) rfl d_MO_valueOf_1 ?_
  refine lv_iconst (v := 1) hx hb d_MO_valueOf_4 (by decide) ?_
  refine lv_icmp_ne (tgt := 22) hx hb d_MO_valueOf_5 (by decide) (fun hc => ?_) (fun hc => ?_)
  · have h := oe h hc
    refine lv_iload_n hx hb d_MO_valueOf_22 rfl (lv_at hl 1 rfl) ?_
    refine lv_iconst (v := 4) hx hb d_MO_valueOf_23 (by decide) ?_
    refine lv_iload_n hx hb d_MO_valueOf_24 rfl (lv_at hl 2 rfl) ?_
    refine lv_isub hx hb d_MO_valueOf_25 ?_
    refine lv_ishr hx hb d_MO_valueOf_26 ?_
    refine lv_iconst (v := 1) hx hb d_MO_valueOf_27 (by decide) ?_
    refine lv_iand hx hb d_MO_valueOf_28 ?_
    have q := Option.some.inj h
    subst q
    exact fw_iret hQ S hr hlk hX hw d_MO_valueOf_29
  · have h := oi h hc
    refine lv_iconst (v := 1) hx hb d_MO_valueOf_8 (by decide) ?_
    refine lv_iload_n hx hb d_MO_valueOf_9 rfl (lv_at hl 1 rfl) ?_
    refine lv_iconst (v := 2) hx hb d_MO_valueOf_10 (by decide) ?_
    refine lv_iconst (v := 3) hx hb d_MO_valueOf_11 (by decide) ?_
    refine lv_iload_n hx hb d_MO_valueOf_12 rfl (lv_at hl 2 rfl) ?_
    refine lv_isub hx hb d_MO_valueOf_13 ?_
    refine lv_imul hx hb d_MO_valueOf_14 ?_
    refine lv_ishr hx hb d_MO_valueOf_15 ?_
    refine lv_iconst (v := 3) hx hb d_MO_valueOf_16 (by decide) ?_
    refine lv_iand hx hb d_MO_valueOf_17 ?_
    refine lv_iadd hx hb d_MO_valueOf_18 ?_
    refine lv_goto (tgt := 29) hx hb d_MO_valueOf_19 (by decide) ?_
    have q := Option.some.inj h
    subst q
    exact fw_iret hQ S hr hlk hX hw d_MO_valueOf_29
set_option maxHeartbeats 4000000 in
set_option maxRecDepth 100000 in
theorem ct_MO_lay (l : Launch) (D : va_G) (ad : Nat → Nat) (cI cL : ClassId) (N : Nat) (th : Int32) (ki : Int32) (ce : Int32) (wi : Int32) (ma : Int32) (fo : Int32) (cu : Nat → Int32) (gr : Nat → Int32) (ru : Nat → Int32) (nu : Nat → Int32) (gv : Nat → Int32) (ca : Nat → Int32) (nw : Nat → Int32) (lo : Nat → Int32) (ke : Nat → Int32) (un : Nat → Int32) (cn : Nat → Int32) (fi : Nat → Int32) (fl : Nat → Int32) (pa : Nat → Int32) (sh : Nat → Int32) (od : Nat → Int32) (bd : Nat → Int32) (bs : Nat → Int32) (u1 : Int32) (u2 : Int32) (out : Int32 × (Nat → Int32)) (h : mi_MO_lay N ki wi cu gv fl sh u1 u2 = some out) : fw_C l y_MO_lay (.code y_MO_lay b_MO_lay 8 (some .boolean) :: Gw) (fr 1 22) D vwCl (tyA cI cL) [.ref (ad 0), .int u1, .int u2] (wM ad cI cL th ki ce wi ma fo cu gr ru nu gv ca nw lo ke un cn fi fl pa sh od bd bs) (some (.int out.1)) (wM ad cI cL th ki ce wi ma fo cu gr ru nu gv ca nw lo ke un cn fi out.2 pa sh od bd bs) := by
  refine fw_of (by decide) (Nat.le_of_ble_eq_true rfl) ?_
  intro p e s m args below meth c ls A R Q hR hQ S hr hlk hX hA hl hw
  have hK := hX.1
  have hx := S.1
  have hb := S.2.1
  have hown := S.2.2.2.1
  have hg := S.2.2.2.2
  have hl : lv_has ls 8 [(0, .ref (ad 0)), (1, .int u1), (2, .int u2)] := hl
  unfold mi_MO_lay at h
  refine lv_aload_n hx hb d_MO_lay_0 rfl (lv_at hl 0 rfl) ?_
  refine va_get (ci := 6) (v := .int ki) (C := R_MO) (T := F_MO) (N := 24) hx hb hg in_MO hown hK hw.1 0 rfl rfl 1 (by decide) (hg _ q_750) (fun _ h9 => h9) rfl d_MO_lay_1 ?_
  refine lv_iconst (v := 1) hx hb d_MO_lay_4 (by decide) ?_
  have J47 : ∀ (j47s0 : Int32), mj_MO_lay_47 N ki wi gv fl u1 u2 j47s0 = some out → ∀ (ls : Array Slot) (H : Heap) (locs : List Loc), lv_has ls 8 [(0, .ref (ad 0)), (1, .int u1), (2, .int u2)] → fw_H D vwCl A s.heap (wM ad cI cL th ki ce wi ma fo cu gr ru nu gv ca nw lo ke un cn fi fl pa sh od bd bs) H locs → W p l e R s m args below meth c H locs 0 0 Q (F0 m 47 ls [.int j47s0]) := by
    intro j47s0 h ls H locs hl hw
    unfold mj_MO_lay_47 at h
    refine lv_istore_n (lv' := [(3, .int j47s0), (0, .ref (ad 0)), (1, .int u1), (2, .int u2)]) hx hb d_MO_lay_47 rfl hl (by decide) rfl (fun ls hl => ?_)
    refine lv_iconst (v := 0) hx hb d_MO_lay_48 (by decide) ?_
    refine lv_istore (lv' := [(4, .int (0 : Int32)), (3, .int j47s0), (0, .ref (ad 0)), (1, .int u1), (2, .int u2)]) hx hb d_MO_lay_49 hl (by decide) rfl (fun ls hl => ?_)
    have X51 : ∀ (y51 : Int32 × Int32 × (Nat → Int32)), mr_MO_lay_51 y51 = some out → ∀ (ls : Array Slot) (H : Heap) (locs : List Loc), lv_has ls 8 [(3, .int y51.1)] → fw_H D vwCl A s.heap (wM ad cI cL th ki ce wi ma fo cu gr ru nu gv ca nw lo ke un cn fi y51.2.2 pa sh od bd bs) H locs → W p l e R s m args below meth c H locs 0 0 Q (F0 m 238 ls []) := by
      intro y51 h ls H locs hl hw
      unfold mr_MO_lay_51 at h
      refine lv_iload_n hx hb d_MO_lay_238 rfl (lv_at hl 0 rfl) ?_
      refine oc h (fun hc h => ?_)
      have q := Option.some.inj h
      subst q
      exact fw_zret hQ S hr (fw_nz hc) hlk hX hw d_MO_lay_239
    have L51 : ∀ (n51 : Nat) (x51 : Int32 × Int32 × (Nat → Int32)) (e51 : Int32 × Int32 × (Nat → Int32)), lp (mb_MO_lay_51 N ki wi gv u1 u2) n51 x51 = some e51 → (mr_MO_lay_51) e51 = some out → ∀ (ls : Array Slot) (H : Heap) (locs : List Loc), lv_has ls 8 [(0, .ref (ad 0)), (1, .int u1), (2, .int u2), (3, .int x51.1), (4, .int x51.2.1)] → fw_H D vwCl A s.heap (wM ad cI cL th ki ce wi ma fo cu gr ru nu gv ca nw lo ke un cn fi x51.2.2 pa sh od bd bs) H locs → W p l e R s m args below meth c H locs 0 0 Q (F0 m 51 ls []) := by
      intro n51
      induction n51 with
      | zero => intro x51 e51 h1; exact absurd h1 lp_0
      | succ n51 ih51 =>
        intro x51 e51 h1 hr51 ls H locs hl hw
        rw [lp_s] at h1
        refine ob h1 (fun r51 h hk51 => ?_)
        unfold mb_MO_lay_51 at h
        refine lv_iload hx hb d_MO_lay_51 (lv_at hl 4 rfl) ?_
        refine lv_aload_n hx hb d_MO_lay_53 rfl (lv_at hl 0 rfl) ?_
        refine va_get (ci := 6) (v := .int wi) (C := R_MO) (T := F_MO) (N := 24) hx hb hg in_MO hown hK hw.1 0 rfl rfl 3 (by decide) (hg _ q_752) (fun _ h9 => h9) rfl d_MO_lay_54 ?_
        refine lv_icmp_ge (tgt := 238) hx hb d_MO_lay_57 (by decide) (fun hc => ?_) (fun hc => ?_)
        · have h := oi h hc
          have q := Option.some.inj h
          subst q
          have q := Option.some.inj hk51
          subst q
          exact X51 (x51.1, x51.2.1, x51.2.2) hr51 _ _ _ (lv_sub hl [3] rfl) hw
        · have h := oe h hc
          refine lv_iload_n hx hb d_MO_lay_60 rfl (lv_at hl 3 rfl) ?_
          refine lv_if_eq (tgt := 238) hx hb d_MO_lay_61 (by decide) (fun hc => ?_) (fun hc => ?_)
          · have h := oi h hc
            have q := Option.some.inj h
            subst q
            have q := Option.some.inj hk51
            subst q
            exact X51 (x51.1, x51.2.1, x51.2.2) hr51 _ _ _ (lv_sub hl [3] rfl) hw
          · have h := oe h hc
            refine lv_aload_n hx hb d_MO_lay_64 rfl (lv_at hl 0 rfl) ?_
            refine lv_iload_n hx hb d_MO_lay_65 rfl (lv_at hl 2 rfl) ?_
            refine lv_iload hx hb d_MO_lay_66 (lv_at hl 4 rfl) ?_
            refine ob h (fun r68 h68 h => ?_)
            refine fw_callV (As := [.int u2, .int x51.2.1]) (rest := []) (st1 := [.int r68]) S (ct_MO_valueOf l D ad cI cL N th ki ce wi ma fo cu gr ru nu gv ca nw lo ke un cn fi x51.2.2 pa sh od bd bs u2 x51.2.1 r68 h68) q_884 q_886 s_25 q_10 k_MO_valueOf hd_MO_valueOf ⟨by rw [hR]; decide, by rw [hR]; decide⟩ rfl rfl hX hw hA 0 (ci := 6) rfl rfl hl.1 rfl rfl (Nat.le_of_ble_eq_true rfl) d_MO_lay_68 ⟨Nat.zero_le _, Nat.zero_le _⟩ rfl (fun H locs hw => ?_)
            refine lv_istore (lv' := [(5, .int r68), (0, .ref (ad 0)), (1, .int u1), (2, .int u2), (3, .int x51.1), (4, .int x51.2.1)]) hx hb d_MO_lay_71 hl (by decide) rfl (fun ls hl => ?_)
            refine lv_aload_n hx hb d_MO_lay_73 rfl (lv_at hl 1 rfl) ?_
            refine va_get (ci := 6) (v := .int wi) (C := R_MO) (T := F_MO) (N := 24) hx hb hg in_MO hown hK hw.1 0 rfl rfl 3 (by decide) (hg _ q_752) (fun _ h9 => h9) rfl d_MO_lay_74 ?_
            refine lv_iload_n hx hb d_MO_lay_77 rfl (lv_at hl 2 rfl) ?_
            refine lv_imul hx hb d_MO_lay_78 ?_
            refine lv_iload hx hb d_MO_lay_79 (lv_at hl 5 rfl) ?_
            refine lv_iadd hx hb d_MO_lay_81 ?_
            refine lv_istore (lv' := [(6, .int ((wi * u1) + x51.2.1)), (5, .int r68), (0, .ref (ad 0)), (1, .int u1), (2, .int u2), (3, .int x51.1), (4, .int x51.2.1)]) hx hb d_MO_lay_82 hl (by decide) rfl (fun ls hl => ?_)
            refine lv_aload_n hx hb d_MO_lay_84 rfl (lv_at hl 2 rfl) ?_
            refine va_get (ci := 6) (v := .ref (ad 13)) (C := R_MO) (T := F_MO) (N := 24) hx hb hg in_MO hown hK hw.1 0 rfl rfl 18 (by decide) (hg _ q_767) (fun _ h9 => h9) rfl d_MO_lay_85 ?_
            refine lv_iload hx hb d_MO_lay_88 (lv_at hl 0 rfl) ?_
            refine lv_iload hx hb d_MO_lay_90 (lv_at hl 1 rfl) ?_
            refine oc h (fun hc1 h => ?_)
            refine va_iast hx hb hK hw.1 hw.2.1 hw.2.2 13 0 rfl rfl hc1 d_MO_lay_92 (fun H locs hP hD hS => ?_)
            have hw : fw_H D vwCl A s.heap (wM ad cI cL th ki ce wi ma fo cu gr ru nu gv ca nw lo ke un cn fi (upd x51.2.2 ((wi * u1) + x51.2.1).toNatClampNeg r68) pa sh od bd bs) H locs := ⟨hP, hD, hS⟩
            refine lv_aload_n hx hb d_MO_lay_93 rfl (lv_at hl 2 rfl) ?_
            refine va_get (ci := 6) (v := .ref (ad 5)) (C := R_MO) (T := F_MO) (N := 24) hx hb hg in_MO hown hK hw.1 0 rfl rfl 8 (by decide) (hg _ q_757) (fun _ h9 => h9) rfl d_MO_lay_94 ?_
            refine lv_iload hx hb d_MO_lay_97 (lv_at hl 0 rfl) ?_
            refine va_iald hx hb hK hw.1 5 0 rfl rfl hc1 d_MO_lay_99 ?_
            refine lv_iconst (v := (-1)) hx hb d_MO_lay_100 (by decide) ?_
            have J121 : ∀ (j121s0 : Int32), mj_MO_lay_121 N ki wi u1 x51 r68 j121s0 = some r51 → ∀ (ls : Array Slot) (H : Heap) (locs : List Loc), lv_has ls 8 [(0, .ref (ad 0)), (1, .int u1), (2, .int u2), (4, .int x51.2.1), (5, .int r68)] → fw_H D vwCl A s.heap (wM ad cI cL th ki ce wi ma fo cu gr ru nu gv ca nw lo ke un cn fi (upd x51.2.2 ((wi * u1) + x51.2.1).toNatClampNeg r68) pa sh od bd bs) H locs → W p l e R s m args below meth c H locs 0 0 Q (F0 m 121 ls [.int j121s0]) := by
              intro j121s0 h ls H locs hl hw
              unfold mj_MO_lay_121 at h
              refine lv_istore_n (lv' := [(3, .int j121s0), (0, .ref (ad 0)), (1, .int u1), (2, .int u2), (4, .int x51.2.1), (5, .int r68)]) hx hb d_MO_lay_121 rfl hl (by decide) rfl (fun ls hl => ?_)
              refine lv_iconst (v := 0) hx hb d_MO_lay_122 (by decide) ?_
              refine lv_istore (lv' := [(7, .int (0 : Int32)), (3, .int j121s0), (0, .ref (ad 0)), (1, .int u1), (2, .int u2), (4, .int x51.2.1), (5, .int r68)]) hx hb d_MO_lay_123 hl (by decide) rfl (fun ls hl => ?_)
              have X125 : ∀ (y125 : Int32 × Int32), mr_MO_lay_125 N ki wi u1 x51 r68 y125 = some r51 → ∀ (ls : Array Slot) (H : Heap) (locs : List Loc), lv_has ls 8 [(0, .ref (ad 0)), (1, .int u1), (2, .int u2), (3, .int y125.1), (4, .int x51.2.1), (5, .int r68)] → fw_H D vwCl A s.heap (wM ad cI cL th ki ce wi ma fo cu gr ru nu gv ca nw lo ke un cn fi (upd x51.2.2 ((wi * u1) + x51.2.1).toNatClampNeg r68) pa sh od bd bs) H locs → W p l e R s m args below meth c H locs 0 0 Q (F0 m 175 ls []) := by
                intro y125 h ls H locs hl hw
                unfold mr_MO_lay_125 at h
                refine lv_iconst (v := 0) hx hb d_MO_lay_175 (by decide) ?_
                refine lv_istore (lv' := [(7, .int (0 : Int32)), (0, .ref (ad 0)), (1, .int u1), (2, .int u2), (3, .int y125.1), (4, .int x51.2.1), (5, .int r68)]) hx hb d_MO_lay_176 hl (by decide) rfl (fun ls hl => ?_)
                have X178 : ∀ (y178 : Int32 × Int32), mr_MO_lay_178 wi u1 x51 r68 y178 = some r51 → ∀ (ls : Array Slot) (H : Heap) (locs : List Loc), lv_has ls 8 [(0, .ref (ad 0)), (1, .int u1), (2, .int u2), (3, .int y178.1), (4, .int x51.2.1)] → fw_H D vwCl A s.heap (wM ad cI cL th ki ce wi ma fo cu gr ru nu gv ca nw lo ke un cn fi (upd x51.2.2 ((wi * u1) + x51.2.1).toNatClampNeg r68) pa sh od bd bs) H locs → W p l e R s m args below meth c H locs 0 0 Q (F0 m 232 ls []) := by
                  intro y178 h ls H locs hl hw
                  unfold mr_MO_lay_178 at h
                  refine lv_iinc (k := 4) (v := x51.2.1 + 1) (lv' := [(4, .int (x51.2.1 + 1)), (0, .ref (ad 0)), (1, .int u1), (2, .int u2), (3, .int y178.1)]) hx hb d_MO_lay_232 hl rfl (by rw [lit1]) (by decide) rfl (fun ls hl => ?_)
                  refine lv_goto (tgt := 51) hx hb d_MO_lay_235 (by decide) ?_
                  have q := Option.some.inj h
                  subst q
                  exact ih51 (y178.1, x51.2.1 + 1, upd x51.2.2 ((wi * u1) + x51.2.1).toNatClampNeg r68) e51 hk51 hr51 _ _ _ (lv_sub hl [1, 2, 3, 4, 0] rfl) hw
                have L178 : ∀ (n178 : Nat) (x178 : Int32 × Int32) (e178 : Int32 × Int32), lp (mb_MO_lay_178 ki wi u1 x51 r68) n178 x178 = some e178 → (mr_MO_lay_178 wi u1 x51 r68) e178 = some r51 → ∀ (ls : Array Slot) (H : Heap) (locs : List Loc), lv_has ls 8 [(0, .ref (ad 0)), (1, .int u1), (2, .int u2), (3, .int x178.1), (4, .int x51.2.1), (5, .int r68), (7, .int x178.2)] → fw_H D vwCl A s.heap (wM ad cI cL th ki ce wi ma fo cu gr ru nu gv ca nw lo ke un cn fi (upd x51.2.2 ((wi * u1) + x51.2.1).toNatClampNeg r68) pa sh od bd bs) H locs → W p l e R s m args below meth c H locs 0 0 Q (F0 m 178 ls []) := by
                  intro n178
                  induction n178 with
                  | zero => intro x178 e178 h1; exact absurd h1 lp_0
                  | succ n178 ih178 =>
                    intro x178 e178 h1 hr178 ls H locs hl hw
                    rw [lp_s] at h1
                    refine ob h1 (fun r178 h hk178 => ?_)
                    unfold mb_MO_lay_178 at h
                    refine lv_iload hx hb d_MO_lay_178 (lv_at hl 6 rfl) ?_
                    refine lv_iload_n hx hb d_MO_lay_180 rfl (lv_at hl 1 rfl) ?_
                    refine lv_icmp_ge (tgt := 232) hx hb d_MO_lay_181 (by decide) (fun hc => ?_) (fun hc => ?_)
                    · have h := oi h hc
                      have q := Option.some.inj h
                      subst q
                      have q := Option.some.inj hk178
                      subst q
                      exact X178 (x178.1, x178.2) hr178 _ _ _ (lv_sub hl [0, 1, 2, 3, 4] rfl) hw
                    · have h := oe h hc
                      refine lv_aload_n hx hb d_MO_lay_184 rfl (lv_at hl 0 rfl) ?_
                      refine va_get (ci := 6) (v := .int ki) (C := R_MO) (T := F_MO) (N := 24) hx hb hg in_MO hown hK hw.1 0 rfl rfl 1 (by decide) (hg _ q_750) (fun _ h9 => h9) rfl d_MO_lay_185 ?_
                      refine lv_iconst (v := 2) hx hb d_MO_lay_188 (by decide) ?_
                      refine lv_icmp_ne (tgt := 232) hx hb d_MO_lay_189 (by decide) (fun hc => ?_) (fun hc => ?_)
                      · have h := oe h hc
                        have q := Option.some.inj h
                        subst q
                        have q := Option.some.inj hk178
                        subst q
                        exact X178 (x178.1, x178.2) hr178 _ _ _ (lv_sub hl [0, 1, 2, 3, 4] rfl) hw
                      · have h := oi h hc
                        refine lv_iload hx hb d_MO_lay_192 (lv_at hl 5 rfl) ?_
                        refine lv_iconst (v := 1) hx hb d_MO_lay_194 (by decide) ?_
                        refine lv_icmp_ne (tgt := 232) hx hb d_MO_lay_195 (by decide) (fun hc => ?_) (fun hc => ?_)
                        · have h := oe h hc
                          have q := Option.some.inj h
                          subst q
                          have q := Option.some.inj hk178
                          subst q
                          exact X178 (x178.1, x178.2) hr178 _ _ _ (lv_sub hl [0, 1, 2, 3, 4] rfl) hw
                        · have h := oi h hc
                          refine lv_iload_n hx hb d_MO_lay_198 rfl (lv_at hl 3 rfl) ?_
                          refine lv_if_eq (tgt := 224) hx hb d_MO_lay_199 (by decide) (fun hc => ?_) (fun hc => ?_)
                          · have h := oi h hc
                            refine lv_iconst (v := 0) hx hb d_MO_lay_224 (by decide) ?_
                            refine lv_istore_n (lv' := [(3, .int (0 : Int32)), (0, .ref (ad 0)), (1, .int u1), (2, .int u2), (4, .int x51.2.1), (5, .int r68), (7, .int x178.2)]) hx hb d_MO_lay_225 rfl hl (by decide) rfl (fun ls hl => ?_)
                            refine lv_iinc (k := 6) (v := x178.2 + 1) (lv' := [(7, .int (x178.2 + 1)), (3, .int (0 : Int32)), (0, .ref (ad 0)), (1, .int u1), (2, .int u2), (4, .int x51.2.1), (5, .int r68)]) hx hb d_MO_lay_226 hl rfl (by rw [lit1]) (by decide) rfl (fun ls hl => ?_)
                            refine lv_goto (tgt := 178) hx hb d_MO_lay_229 (by decide) ?_
                            have q := Option.some.inj h
                            subst q
                            exact ih178 ((0 : Int32), x178.2 + 1) e178 hk178 hr178 _ _ _ (lv_sub hl [2, 3, 4, 1, 5, 6, 0] rfl) hw
                          · have h := oe h hc
                            refine lv_aload_n hx hb d_MO_lay_202 rfl (lv_at hl 0 rfl) ?_
                            refine va_get (ci := 6) (v := .ref (ad 13)) (C := R_MO) (T := F_MO) (N := 24) hx hb hg in_MO hown hK hw.1 0 rfl rfl 18 (by decide) (hg _ q_767) (fun _ h9 => h9) rfl d_MO_lay_203 ?_
                            refine lv_aload_n hx hb d_MO_lay_206 rfl (lv_at hl 0 rfl) ?_
                            refine va_get (ci := 6) (v := .int wi) (C := R_MO) (T := F_MO) (N := 24) hx hb hg in_MO hown hK hw.1 0 rfl rfl 3 (by decide) (hg _ q_752) (fun _ h9 => h9) rfl d_MO_lay_207 ?_
                            refine lv_iload hx hb d_MO_lay_210 (lv_at hl 6 rfl) ?_
                            refine lv_imul hx hb d_MO_lay_212 ?_
                            refine lv_iload hx hb d_MO_lay_213 (lv_at hl 4 rfl) ?_
                            refine lv_iadd hx hb d_MO_lay_215 ?_
                            refine oc h (fun hc2 h => ?_)
                            refine va_iald hx hb hK hw.1 13 0 rfl rfl hc2 d_MO_lay_216 ?_
                            refine lv_if_ne (tgt := 224) hx hb d_MO_lay_217 (by decide) (fun hc => ?_) (fun hc => ?_)
                            · have h := oe h hc
                              refine lv_iconst (v := 0) hx hb d_MO_lay_224 (by decide) ?_
                              refine lv_istore_n (lv' := [(3, .int (0 : Int32)), (0, .ref (ad 0)), (1, .int u1), (2, .int u2), (4, .int x51.2.1), (5, .int r68), (7, .int x178.2)]) hx hb d_MO_lay_225 rfl hl (by decide) rfl (fun ls hl => ?_)
                              refine lv_iinc (k := 6) (v := x178.2 + 1) (lv' := [(7, .int (x178.2 + 1)), (3, .int (0 : Int32)), (0, .ref (ad 0)), (1, .int u1), (2, .int u2), (4, .int x51.2.1), (5, .int r68)]) hx hb d_MO_lay_226 hl rfl (by rw [lit1]) (by decide) rfl (fun ls hl => ?_)
                              refine lv_goto (tgt := 178) hx hb d_MO_lay_229 (by decide) ?_
                              have q := Option.some.inj h
                              subst q
                              exact ih178 ((0 : Int32), x178.2 + 1) e178 hk178 hr178 _ _ _ (lv_sub hl [2, 3, 4, 1, 5, 6, 0] rfl) hw
                            · have h := oi h hc
                              refine lv_iconst (v := 1) hx hb d_MO_lay_220 (by decide) ?_
                              refine lv_goto (tgt := 225) hx hb d_MO_lay_221 (by decide) ?_
                              refine lv_istore_n (lv' := [(3, .int (1 : Int32)), (0, .ref (ad 0)), (1, .int u1), (2, .int u2), (4, .int x51.2.1), (5, .int r68), (7, .int x178.2)]) hx hb d_MO_lay_225 rfl hl (by decide) rfl (fun ls hl => ?_)
                              refine lv_iinc (k := 6) (v := x178.2 + 1) (lv' := [(7, .int (x178.2 + 1)), (3, .int (1 : Int32)), (0, .ref (ad 0)), (1, .int u1), (2, .int u2), (4, .int x51.2.1), (5, .int r68)]) hx hb d_MO_lay_226 hl rfl (by rw [lit1]) (by decide) rfl (fun ls hl => ?_)
                              refine lv_goto (tgt := 178) hx hb d_MO_lay_229 (by decide) ?_
                              have q := Option.some.inj h
                              subst q
                              exact ih178 ((1 : Int32), x178.2 + 1) e178 hk178 hr178 _ _ _ (lv_sub hl [2, 3, 4, 1, 5, 6, 0] rfl) hw
                refine ob h (fun e178 h1 h2 => ?_)
                exact L178 N (y125.1, (0 : Int32)) e178 h1 h2 _ _ _ (lv_sub hl [1, 2, 3, 4, 5, 6, 0] rfl) hw
              have L125 : ∀ (n125 : Nat) (x125 : Int32 × Int32) (e125 : Int32 × Int32), lp (mb_MO_lay_125 ki wi u1 x51 r68) n125 x125 = some e125 → (mr_MO_lay_125 N ki wi u1 x51 r68) e125 = some r51 → ∀ (ls : Array Slot) (H : Heap) (locs : List Loc), lv_has ls 8 [(0, .ref (ad 0)), (1, .int u1), (2, .int u2), (3, .int x125.1), (4, .int x51.2.1), (5, .int r68), (7, .int x125.2)] → fw_H D vwCl A s.heap (wM ad cI cL th ki ce wi ma fo cu gr ru nu gv ca nw lo ke un cn fi (upd x51.2.2 ((wi * u1) + x51.2.1).toNatClampNeg r68) pa sh od bd bs) H locs → W p l e R s m args below meth c H locs 0 0 Q (F0 m 125 ls []) := by
                intro n125
                induction n125 with
                | zero => intro x125 e125 h1; exact absurd h1 lp_0
                | succ n125 ih125 =>
                  intro x125 e125 h1 hr125 ls H locs hl hw
                  rw [lp_s] at h1
                  refine ob h1 (fun r125 h hk125 => ?_)
                  unfold mb_MO_lay_125 at h
                  refine lv_iload hx hb d_MO_lay_125 (lv_at hl 6 rfl) ?_
                  refine lv_iload_n hx hb d_MO_lay_127 rfl (lv_at hl 1 rfl) ?_
                  refine lv_icmp_ge (tgt := 175) hx hb d_MO_lay_128 (by decide) (fun hc => ?_) (fun hc => ?_)
                  · have h := oi h hc
                    have q := Option.some.inj h
                    subst q
                    have q := Option.some.inj hk125
                    subst q
                    exact X125 (x125.1, x125.2) hr125 _ _ _ (lv_sub hl [0, 1, 2, 3, 4, 5] rfl) hw
                  · have h := oe h hc
                    refine lv_aload_n hx hb d_MO_lay_131 rfl (lv_at hl 0 rfl) ?_
                    refine va_get (ci := 6) (v := .int ki) (C := R_MO) (T := F_MO) (N := 24) hx hb hg in_MO hown hK hw.1 0 rfl rfl 1 (by decide) (hg _ q_750) (fun _ h9 => h9) rfl d_MO_lay_132 ?_
                    refine lv_iconst (v := 1) hx hb d_MO_lay_135 (by decide) ?_
                    refine lv_icmp_ne (tgt := 175) hx hb d_MO_lay_136 (by decide) (fun hc => ?_) (fun hc => ?_)
                    · have h := oe h hc
                      have q := Option.some.inj h
                      subst q
                      have q := Option.some.inj hk125
                      subst q
                      exact X125 (x125.1, x125.2) hr125 _ _ _ (lv_sub hl [0, 1, 2, 3, 4, 5] rfl) hw
                    · have h := oi h hc
                      refine lv_iload_n hx hb d_MO_lay_139 rfl (lv_at hl 3 rfl) ?_
                      refine lv_if_eq (tgt := 167) hx hb d_MO_lay_140 (by decide) (fun hc => ?_) (fun hc => ?_)
                      · have h := oi h hc
                        refine lv_iconst (v := 0) hx hb d_MO_lay_167 (by decide) ?_
                        refine lv_istore_n (lv' := [(3, .int (0 : Int32)), (0, .ref (ad 0)), (1, .int u1), (2, .int u2), (4, .int x51.2.1), (5, .int r68), (7, .int x125.2)]) hx hb d_MO_lay_168 rfl hl (by decide) rfl (fun ls hl => ?_)
                        refine lv_iinc (k := 6) (v := x125.2 + 1) (lv' := [(7, .int (x125.2 + 1)), (3, .int (0 : Int32)), (0, .ref (ad 0)), (1, .int u1), (2, .int u2), (4, .int x51.2.1), (5, .int r68)]) hx hb d_MO_lay_169 hl rfl (by rw [lit1]) (by decide) rfl (fun ls hl => ?_)
                        refine lv_goto (tgt := 125) hx hb d_MO_lay_172 (by decide) ?_
                        have q := Option.some.inj h
                        subst q
                        exact ih125 ((0 : Int32), x125.2 + 1) e125 hk125 hr125 _ _ _ (lv_sub hl [2, 3, 4, 1, 5, 6, 0] rfl) hw
                      · have h := oe h hc
                        refine lv_aload_n hx hb d_MO_lay_143 rfl (lv_at hl 0 rfl) ?_
                        refine va_get (ci := 6) (v := .ref (ad 13)) (C := R_MO) (T := F_MO) (N := 24) hx hb hg in_MO hown hK hw.1 0 rfl rfl 18 (by decide) (hg _ q_767) (fun _ h9 => h9) rfl d_MO_lay_144 ?_
                        refine lv_aload_n hx hb d_MO_lay_147 rfl (lv_at hl 0 rfl) ?_
                        refine va_get (ci := 6) (v := .int wi) (C := R_MO) (T := F_MO) (N := 24) hx hb hg in_MO hown hK hw.1 0 rfl rfl 3 (by decide) (hg _ q_752) (fun _ h9 => h9) rfl d_MO_lay_148 ?_
                        refine lv_iload hx hb d_MO_lay_151 (lv_at hl 6 rfl) ?_
                        refine lv_imul hx hb d_MO_lay_153 ?_
                        refine lv_iload hx hb d_MO_lay_154 (lv_at hl 4 rfl) ?_
                        refine lv_iadd hx hb d_MO_lay_156 ?_
                        refine oc h (fun hc3 h => ?_)
                        refine va_iald hx hb hK hw.1 13 0 rfl rfl hc3 d_MO_lay_157 ?_
                        refine lv_iload hx hb d_MO_lay_158 (lv_at hl 5 rfl) ?_
                        refine lv_icmp_eq (tgt := 167) hx hb d_MO_lay_160 (by decide) (fun hc => ?_) (fun hc => ?_)
                        · have h := oi h hc
                          refine lv_iconst (v := 0) hx hb d_MO_lay_167 (by decide) ?_
                          refine lv_istore_n (lv' := [(3, .int (0 : Int32)), (0, .ref (ad 0)), (1, .int u1), (2, .int u2), (4, .int x51.2.1), (5, .int r68), (7, .int x125.2)]) hx hb d_MO_lay_168 rfl hl (by decide) rfl (fun ls hl => ?_)
                          refine lv_iinc (k := 6) (v := x125.2 + 1) (lv' := [(7, .int (x125.2 + 1)), (3, .int (0 : Int32)), (0, .ref (ad 0)), (1, .int u1), (2, .int u2), (4, .int x51.2.1), (5, .int r68)]) hx hb d_MO_lay_169 hl rfl (by rw [lit1]) (by decide) rfl (fun ls hl => ?_)
                          refine lv_goto (tgt := 125) hx hb d_MO_lay_172 (by decide) ?_
                          have q := Option.some.inj h
                          subst q
                          exact ih125 ((0 : Int32), x125.2 + 1) e125 hk125 hr125 _ _ _ (lv_sub hl [2, 3, 4, 1, 5, 6, 0] rfl) hw
                        · have h := oe h hc
                          refine lv_iconst (v := 1) hx hb d_MO_lay_163 (by decide) ?_
                          refine lv_goto (tgt := 168) hx hb d_MO_lay_164 (by decide) ?_
                          refine lv_istore_n (lv' := [(3, .int (1 : Int32)), (0, .ref (ad 0)), (1, .int u1), (2, .int u2), (4, .int x51.2.1), (5, .int r68), (7, .int x125.2)]) hx hb d_MO_lay_168 rfl hl (by decide) rfl (fun ls hl => ?_)
                          refine lv_iinc (k := 6) (v := x125.2 + 1) (lv' := [(7, .int (x125.2 + 1)), (3, .int (1 : Int32)), (0, .ref (ad 0)), (1, .int u1), (2, .int u2), (4, .int x51.2.1), (5, .int r68)]) hx hb d_MO_lay_169 hl rfl (by rw [lit1]) (by decide) rfl (fun ls hl => ?_)
                          refine lv_goto (tgt := 125) hx hb d_MO_lay_172 (by decide) ?_
                          have q := Option.some.inj h
                          subst q
                          exact ih125 ((1 : Int32), x125.2 + 1) e125 hk125 hr125 _ _ _ (lv_sub hl [2, 3, 4, 1, 5, 6, 0] rfl) hw
              refine ob h (fun e125 h1 h2 => ?_)
              exact L125 N (j121s0, (0 : Int32)) e125 h1 h2 _ _ _ (lv_sub hl [2, 3, 4, 1, 5, 6, 0] rfl) hw
            refine lv_icmp_eq (tgt := 116) hx hb d_MO_lay_101 (by decide) (fun hc => ?_) (fun hc => ?_)
            · have h := oi h hc
              refine lv_iconst (v := 1) hx hb d_MO_lay_116 (by decide) ?_
              refine lv_goto (tgt := 121) hx hb d_MO_lay_117 (by decide) ?_
              exact J121 (1 : Int32) h _ _ _ (lv_sub hl [2, 3, 4, 6, 1] rfl) hw
            · have h := oe h hc
              refine lv_aload_n hx hb d_MO_lay_104 rfl (lv_at hl 2 rfl) ?_
              refine va_get (ci := 6) (v := .ref (ad 5)) (C := R_MO) (T := F_MO) (N := 24) hx hb hg in_MO hown hK hw.1 0 rfl rfl 8 (by decide) (hg _ q_757) (fun _ h9 => h9) rfl d_MO_lay_105 ?_
              refine lv_iload hx hb d_MO_lay_108 (lv_at hl 0 rfl) ?_
              refine va_iald hx hb hK hw.1 5 0 rfl rfl hc1 d_MO_lay_110 ?_
              refine lv_iload hx hb d_MO_lay_111 (lv_at hl 1 rfl) ?_
              refine lv_icmp_ne (tgt := 120) hx hb d_MO_lay_113 (by decide) (fun hc => ?_) (fun hc => ?_)
              · have h := oe h hc
                refine lv_iconst (v := 0) hx hb d_MO_lay_120 (by decide) ?_
                exact J121 (0 : Int32) h _ _ _ (lv_sub hl [2, 3, 4, 6, 1] rfl) hw
              · have h := oi h hc
                refine lv_iconst (v := 1) hx hb d_MO_lay_116 (by decide) ?_
                refine lv_goto (tgt := 121) hx hb d_MO_lay_117 (by decide) ?_
                exact J121 (1 : Int32) h _ _ _ (lv_sub hl [2, 3, 4, 6, 1] rfl) hw
    refine ob h (fun e51 h1 h2 => ?_)
    exact L51 N (j47s0, (0 : Int32), fl) e51 h1 h2 _ _ _ (lv_sub hl [2, 3, 4, 1, 0] rfl) hw
  refine lv_icmp_eq (tgt := 42) hx hb d_MO_lay_5 (by decide) (fun hc => ?_) (fun hc => ?_)
  · have h := oi h hc
    refine lv_iconst (v := 1) hx hb d_MO_lay_42 (by decide) ?_
    refine lv_goto (tgt := 47) hx hb d_MO_lay_43 (by decide) ?_
    exact J47 (1 : Int32) h _ _ _ hl hw
  · have h := oe h hc
    refine lv_aload_n hx hb d_MO_lay_8 rfl (lv_at hl 0 rfl) ?_
    refine va_get (ci := 6) (v := .int ki) (C := R_MO) (T := F_MO) (N := 24) hx hb hg in_MO hown hK hw.1 0 rfl rfl 1 (by decide) (hg _ q_750) (fun _ h9 => h9) rfl d_MO_lay_9 ?_
    refine lv_iconst (v := 2) hx hb d_MO_lay_12 (by decide) ?_
    refine lv_icmp_ne (tgt := 27) hx hb d_MO_lay_13 (by decide) (fun hc => ?_) (fun hc => ?_)
    · have h := oe h hc
      refine lv_aload_n hx hb d_MO_lay_27 rfl (lv_at hl 0 rfl) ?_
      refine va_get (ci := 6) (v := .ref (ad 15)) (C := R_MO) (T := F_MO) (N := 24) hx hb hg in_MO hown hK hw.1 0 rfl rfl 20 (by decide) (hg _ q_769) (fun _ h9 => h9) rfl d_MO_lay_28 ?_
      refine lv_iload_n hx hb d_MO_lay_31 rfl (lv_at hl 2 rfl) ?_
      refine oc h (fun hc4 h => ?_)
      refine va_iald hx hb hK hw.1 15 0 rfl rfl hc4 d_MO_lay_32 ?_
      refine lv_aload_n hx hb d_MO_lay_33 rfl (lv_at hl 0 rfl) ?_
      refine va_get (ci := 6) (v := .ref (ad 1)) (C := R_MO) (T := F_MO) (N := 24) hx hb hg in_MO hown hK hw.1 0 rfl rfl 4 (by decide) (hg _ q_753) (fun _ h9 => h9) rfl d_MO_lay_34 ?_
      refine lv_iload_n hx hb d_MO_lay_37 rfl (lv_at hl 1 rfl) ?_
      refine oc h (fun hc5 h => ?_)
      refine va_iald hx hb hK hw.1 1 0 rfl rfl hc5 d_MO_lay_38 ?_
      refine lv_icmp_ne (tgt := 46) hx hb d_MO_lay_39 (by decide) (fun hc => ?_) (fun hc => ?_)
      · have h := oe h hc
        refine lv_iconst (v := 0) hx hb d_MO_lay_46 (by decide) ?_
        exact J47 (0 : Int32) h _ _ _ hl hw
      · have h := oi h hc
        refine lv_iconst (v := 1) hx hb d_MO_lay_42 (by decide) ?_
        refine lv_goto (tgt := 47) hx hb d_MO_lay_43 (by decide) ?_
        exact J47 (1 : Int32) h _ _ _ hl hw
    · have h := oi h hc
      refine lv_iload_n hx hb d_MO_lay_16 rfl (lv_at hl 2 rfl) ?_
      refine ob h (fun r17 h17 h => ?_)
      refine fw_callS (As := [.int u2]) (rest := []) (st1 := [.int r17]) S (ct_MO_ones l D (tyA cI cL) (wM ad cI cL th ki ce wi ma fo cu gr ru nu gv ca nw lo ke un cn fi fl pa sh od bd bs) N u2 r17 h17) q_881 q_882 q_10 k_MO_ones hd_MO_ones ⟨by rw [hR]; decide, by rw [hR]; decide⟩ rfl rfl hX hw hA hl.1 rfl rfl (Nat.le_of_ble_eq_true rfl) d_MO_lay_17 ⟨Nat.zero_le _, Nat.zero_le _⟩ rfl (fun H locs hw => ?_)
      refine lv_iconst (v := 1) hx hb d_MO_lay_20 (by decide) ?_
      refine lv_icmp_ne (tgt := 46) hx hb d_MO_lay_21 (by decide) (fun hc => ?_) (fun hc => ?_)
      · have h := oe h hc
        refine lv_iconst (v := 0) hx hb d_MO_lay_46 (by decide) ?_
        exact J47 (0 : Int32) h _ _ _ hl hw
      · have h := oi h hc
        refine lv_goto (tgt := 42) hx hb d_MO_lay_24 (by decide) ?_
        refine lv_iconst (v := 1) hx hb d_MO_lay_42 (by decide) ?_
        refine lv_goto (tgt := 47) hx hb d_MO_lay_43 (by decide) ?_
        exact J47 (1 : Int32) h _ _ _ hl hw
set_option maxHeartbeats 4000000 in
set_option maxRecDepth 100000 in
theorem ct_MO_columnsFit (l : Launch) (D : va_G) (ad : Nat → Nat) (cI cL : ClassId) (N : Nat) (th : Int32) (ki : Int32) (ce : Int32) (wi : Int32) (ma : Int32) (fo : Int32) (cu : Nat → Int32) (gr : Nat → Int32) (ru : Nat → Int32) (nu : Nat → Int32) (gv : Nat → Int32) (ca : Nat → Int32) (nw : Nat → Int32) (lo : Nat → Int32) (ke : Nat → Int32) (un : Nat → Int32) (cn : Nat → Int32) (fi : Nat → Int32) (fl : Nat → Int32) (pa : Nat → Int32) (sh : Nat → Int32) (od : Nat → Int32) (bd : Nat → Int32) (bs : Nat → Int32)  (out : Int32) (h : mi_MO_columnsFit N ki cu fl sh = some out) : fw_C l y_MO_columnsFit (.code y_MO_columnsFit b_MO_columnsFit 5 (some .boolean) :: Gw) (fr 1 22) D vwCl (tyA cI cL) [.ref (ad 0)] (wM ad cI cL th ki ce wi ma fo cu gr ru nu gv ca nw lo ke un cn fi fl pa sh od bd bs) (some (.int out)) (wM ad cI cL th ki ce wi ma fo cu gr ru nu gv ca nw lo ke un cn fi fl pa sh od bd bs) := by
  refine fw_of (by decide) (Nat.le_of_ble_eq_true rfl) ?_
  intro p e s m args below meth c ls A R Q hR hQ S hr hlk hX hA hl hw
  have hK := hX.1
  have hx := S.1
  have hb := S.2.1
  have hown := S.2.2.2.1
  have hg := S.2.2.2.2
  have hl : lv_has ls 5 [(0, .ref (ad 0))] := hl
  unfold mi_MO_columnsFit at h
  refine lv_iconst (v := 1) hx hb d_MO_columnsFit_0 (by decide) ?_
  refine lv_istore_n (lv' := [(1, .int (1 : Int32)), (0, .ref (ad 0))]) hx hb d_MO_columnsFit_1 rfl hl (by decide) rfl (fun ls hl => ?_)
  refine lv_iconst (v := 0) hx hb d_MO_columnsFit_2 (by decide) ?_
  refine lv_istore_n (lv' := [(2, .int (0 : Int32)), (1, .int (1 : Int32)), (0, .ref (ad 0))]) hx hb d_MO_columnsFit_3 rfl hl (by decide) rfl (fun ls hl => ?_)
  have X4 : ∀ (y4 : Int32 × Int32), mr_MO_columnsFit_4 y4 = some out → ∀ (ls : Array Slot) (H : Heap) (locs : List Loc), lv_has ls 5 [(1, .int y4.1)] → fw_H D vwCl A s.heap (wM ad cI cL th ki ce wi ma fo cu gr ru nu gv ca nw lo ke un cn fi fl pa sh od bd bs) H locs → W p l e R s m args below meth c H locs 0 0 Q (F0 m 94 ls []) := by
    intro y4 h ls H locs hl hw
    unfold mr_MO_columnsFit_4 at h
    refine lv_iload_n hx hb d_MO_columnsFit_94 rfl (lv_at hl 0 rfl) ?_
    refine oc h (fun hc h => ?_)
    have q := Option.some.inj h
    subst q
    exact fw_zret hQ S hr (fw_nz hc) hlk hX hw d_MO_columnsFit_95
  have L4 : ∀ (n4 : Nat) (x4 : Int32 × Int32) (e4 : Int32 × Int32), lp (mb_MO_columnsFit_4 N ki cu fl sh) n4 x4 = some e4 → (mr_MO_columnsFit_4) e4 = some out → ∀ (ls : Array Slot) (H : Heap) (locs : List Loc), lv_has ls 5 [(0, .ref (ad 0)), (1, .int x4.1), (2, .int x4.2)] → fw_H D vwCl A s.heap (wM ad cI cL th ki ce wi ma fo cu gr ru nu gv ca nw lo ke un cn fi fl pa sh od bd bs) H locs → W p l e R s m args below meth c H locs 0 0 Q (F0 m 4 ls []) := by
    intro n4
    induction n4 with
    | zero => intro x4 e4 h1; exact absurd h1 lp_0
    | succ n4 ih4 =>
      intro x4 e4 h1 hr4 ls H locs hl hw
      rw [lp_s] at h1
      refine ob h1 (fun r4 h hk4 => ?_)
      unfold mb_MO_columnsFit_4 at h
      refine lv_iload_n hx hb d_MO_columnsFit_4 rfl (lv_at hl 2 rfl) ?_
      refine lv_iconst (v := 5) hx hb d_MO_columnsFit_5 (by decide) ?_
      refine lv_icmp_ge (tgt := 94) hx hb d_MO_columnsFit_6 (by decide) (fun hc => ?_) (fun hc => ?_)
      · have h := oi h hc
        have q := Option.some.inj h
        subst q
        have q := Option.some.inj hk4
        subst q
        exact X4 (x4.1, x4.2) hr4 _ _ _ (lv_sub hl [1] rfl) hw
      · have h := oe h hc
        refine lv_iconst (v := 0) hx hb d_MO_columnsFit_9 (by decide) ?_
        refine lv_istore_n (lv' := [(3, .int (0 : Int32)), (0, .ref (ad 0)), (1, .int x4.1), (2, .int x4.2)]) hx hb d_MO_columnsFit_10 rfl hl (by decide) rfl (fun ls hl => ?_)
        refine lv_iconst (v := 0) hx hb d_MO_columnsFit_11 (by decide) ?_
        refine lv_istore (lv' := [(4, .int (0 : Int32)), (3, .int (0 : Int32)), (0, .ref (ad 0)), (1, .int x4.1), (2, .int x4.2)]) hx hb d_MO_columnsFit_12 hl (by decide) rfl (fun ls hl => ?_)
        have X14 : ∀ (y14 : Int32 × Int32), mr_MO_columnsFit_14 N ki cu sh x4 y14 = some r4 → ∀ (ls : Array Slot) (H : Heap) (locs : List Loc), lv_has ls 5 [(0, .ref (ad 0)), (1, .int x4.1), (2, .int x4.2), (3, .int y14.1)] → fw_H D vwCl A s.heap (wM ad cI cL th ki ce wi ma fo cu gr ru nu gv ca nw lo ke un cn fi fl pa sh od bd bs) H locs → W p l e R s m args below meth c H locs 0 0 Q (F0 m 42 ls []) := by
          intro y14 h ls H locs hl hw
          unfold mr_MO_columnsFit_14 at h
          refine lv_iload_n hx hb d_MO_columnsFit_42 rfl (lv_at hl 1 rfl) ?_
          refine lv_if_eq (tgt := 86) hx hb d_MO_columnsFit_43 (by decide) (fun hc => ?_) (fun hc => ?_)
          · have h := oi h hc
            refine lv_iconst (v := 0) hx hb d_MO_columnsFit_86 (by decide) ?_
            refine lv_istore_n (lv' := [(1, .int (0 : Int32)), (0, .ref (ad 0)), (2, .int x4.2), (3, .int y14.1)]) hx hb d_MO_columnsFit_87 rfl hl (by decide) rfl (fun ls hl => ?_)
            refine lv_iinc (k := 2) (v := x4.2 + 1) (lv' := [(2, .int (x4.2 + 1)), (1, .int (0 : Int32)), (0, .ref (ad 0)), (3, .int y14.1)]) hx hb d_MO_columnsFit_88 hl rfl (by rw [lit1]) (by decide) rfl (fun ls hl => ?_)
            refine lv_goto (tgt := 4) hx hb d_MO_columnsFit_91 (by decide) ?_
            have q := Option.some.inj h
            subst q
            exact ih4 ((0 : Int32), x4.2 + 1) e4 hk4 hr4 _ _ _ (lv_sub hl [2, 1, 0] rfl) hw
          · have h := oe h hc
            refine lv_aload_n hx hb d_MO_columnsFit_46 rfl (lv_at hl 0 rfl) ?_
            refine va_get (ci := 6) (v := .int ki) (C := R_MO) (T := F_MO) (N := 24) hx hb hg in_MO hown hK hw.1 0 rfl rfl 1 (by decide) (hg _ q_750) (fun _ h9 => h9) rfl d_MO_columnsFit_47 ?_
            refine lv_iconst (v := 2) hx hb d_MO_columnsFit_50 (by decide) ?_
            refine lv_icmp_ne (tgt := 65) hx hb d_MO_columnsFit_51 (by decide) (fun hc => ?_) (fun hc => ?_)
            · have h := oe h hc
              refine lv_aload_n hx hb d_MO_columnsFit_65 rfl (lv_at hl 0 rfl) ?_
              refine va_get (ci := 6) (v := .ref (ad 15)) (C := R_MO) (T := F_MO) (N := 24) hx hb hg in_MO hown hK hw.1 0 rfl rfl 20 (by decide) (hg _ q_769) (fun _ h9 => h9) rfl d_MO_columnsFit_66 ?_
              refine lv_iload_n hx hb d_MO_columnsFit_69 rfl (lv_at hl 3 rfl) ?_
              refine oc h (fun hc1 h => ?_)
              refine va_iald hx hb hK hw.1 15 0 rfl rfl hc1 d_MO_columnsFit_70 ?_
              refine lv_aload_n hx hb d_MO_columnsFit_71 rfl (lv_at hl 0 rfl) ?_
              refine va_get (ci := 6) (v := .ref (ad 1)) (C := R_MO) (T := F_MO) (N := 24) hx hb hg in_MO hown hK hw.1 0 rfl rfl 4 (by decide) (hg _ q_753) (fun _ h9 => h9) rfl d_MO_columnsFit_72 ?_
              refine lv_iconst (v := 5) hx hb d_MO_columnsFit_75 (by decide) ?_
              refine lv_iload_n hx hb d_MO_columnsFit_76 rfl (lv_at hl 2 rfl) ?_
              refine lv_iadd hx hb d_MO_columnsFit_77 ?_
              refine oc h (fun hc2 h => ?_)
              refine va_iald hx hb hK hw.1 1 0 rfl rfl hc2 d_MO_columnsFit_78 ?_
              refine lv_icmp_ne (tgt := 86) hx hb d_MO_columnsFit_79 (by decide) (fun hc => ?_) (fun hc => ?_)
              · have h := oe h hc
                refine lv_iconst (v := 0) hx hb d_MO_columnsFit_86 (by decide) ?_
                refine lv_istore_n (lv' := [(1, .int (0 : Int32)), (0, .ref (ad 0)), (2, .int x4.2), (3, .int y14.1)]) hx hb d_MO_columnsFit_87 rfl hl (by decide) rfl (fun ls hl => ?_)
                refine lv_iinc (k := 2) (v := x4.2 + 1) (lv' := [(2, .int (x4.2 + 1)), (1, .int (0 : Int32)), (0, .ref (ad 0)), (3, .int y14.1)]) hx hb d_MO_columnsFit_88 hl rfl (by rw [lit1]) (by decide) rfl (fun ls hl => ?_)
                refine lv_goto (tgt := 4) hx hb d_MO_columnsFit_91 (by decide) ?_
                have q := Option.some.inj h
                subst q
                exact ih4 ((0 : Int32), x4.2 + 1) e4 hk4 hr4 _ _ _ (lv_sub hl [2, 1, 0] rfl) hw
              · have h := oi h hc
                refine lv_iconst (v := 1) hx hb d_MO_columnsFit_82 (by decide) ?_
                refine lv_goto (tgt := 87) hx hb d_MO_columnsFit_83 (by decide) ?_
                refine lv_istore_n (lv' := [(1, .int (1 : Int32)), (0, .ref (ad 0)), (2, .int x4.2), (3, .int y14.1)]) hx hb d_MO_columnsFit_87 rfl hl (by decide) rfl (fun ls hl => ?_)
                refine lv_iinc (k := 2) (v := x4.2 + 1) (lv' := [(2, .int (x4.2 + 1)), (1, .int (1 : Int32)), (0, .ref (ad 0)), (3, .int y14.1)]) hx hb d_MO_columnsFit_88 hl rfl (by rw [lit1]) (by decide) rfl (fun ls hl => ?_)
                refine lv_goto (tgt := 4) hx hb d_MO_columnsFit_91 (by decide) ?_
                have q := Option.some.inj h
                subst q
                exact ih4 ((1 : Int32), x4.2 + 1) e4 hk4 hr4 _ _ _ (lv_sub hl [2, 1, 0] rfl) hw
            · have h := oi h hc
              refine lv_iload_n hx hb d_MO_columnsFit_54 rfl (lv_at hl 3 rfl) ?_
              refine ob h (fun r55 h55 h => ?_)
              refine fw_callS (As := [.int y14.1]) (rest := []) (st1 := [.int r55]) S (ct_MO_ones l D (tyA cI cL) (wM ad cI cL th ki ce wi ma fo cu gr ru nu gv ca nw lo ke un cn fi fl pa sh od bd bs) N y14.1 r55 h55) q_881 q_882 q_10 k_MO_ones hd_MO_ones ⟨by rw [hR]; decide, by rw [hR]; decide⟩ rfl rfl hX hw hA hl.1 rfl rfl (Nat.le_of_ble_eq_true rfl) d_MO_columnsFit_55 ⟨Nat.zero_le _, Nat.zero_le _⟩ rfl (fun H locs hw => ?_)
              refine lv_iconst (v := 1) hx hb d_MO_columnsFit_58 (by decide) ?_
              refine lv_icmp_ne (tgt := 86) hx hb d_MO_columnsFit_59 (by decide) (fun hc => ?_) (fun hc => ?_)
              · have h := oe h hc
                refine lv_iconst (v := 0) hx hb d_MO_columnsFit_86 (by decide) ?_
                refine lv_istore_n (lv' := [(1, .int (0 : Int32)), (0, .ref (ad 0)), (2, .int x4.2), (3, .int y14.1)]) hx hb d_MO_columnsFit_87 rfl hl (by decide) rfl (fun ls hl => ?_)
                refine lv_iinc (k := 2) (v := x4.2 + 1) (lv' := [(2, .int (x4.2 + 1)), (1, .int (0 : Int32)), (0, .ref (ad 0)), (3, .int y14.1)]) hx hb d_MO_columnsFit_88 hl rfl (by rw [lit1]) (by decide) rfl (fun ls hl => ?_)
                refine lv_goto (tgt := 4) hx hb d_MO_columnsFit_91 (by decide) ?_
                have q := Option.some.inj h
                subst q
                exact ih4 ((0 : Int32), x4.2 + 1) e4 hk4 hr4 _ _ _ (lv_sub hl [2, 1, 0] rfl) hw
              · have h := oi h hc
                refine lv_goto (tgt := 82) hx hb d_MO_columnsFit_62 (by decide) ?_
                refine lv_iconst (v := 1) hx hb d_MO_columnsFit_82 (by decide) ?_
                refine lv_goto (tgt := 87) hx hb d_MO_columnsFit_83 (by decide) ?_
                refine lv_istore_n (lv' := [(1, .int (1 : Int32)), (0, .ref (ad 0)), (2, .int x4.2), (3, .int y14.1)]) hx hb d_MO_columnsFit_87 rfl hl (by decide) rfl (fun ls hl => ?_)
                refine lv_iinc (k := 2) (v := x4.2 + 1) (lv' := [(2, .int (x4.2 + 1)), (1, .int (1 : Int32)), (0, .ref (ad 0)), (3, .int y14.1)]) hx hb d_MO_columnsFit_88 hl rfl (by rw [lit1]) (by decide) rfl (fun ls hl => ?_)
                refine lv_goto (tgt := 4) hx hb d_MO_columnsFit_91 (by decide) ?_
                have q := Option.some.inj h
                subst q
                exact ih4 ((1 : Int32), x4.2 + 1) e4 hk4 hr4 _ _ _ (lv_sub hl [2, 1, 0] rfl) hw
        have L14 : ∀ (n14 : Nat) (x14 : Int32 × Int32) (e14 : Int32 × Int32), lp (mb_MO_columnsFit_14 fl x4) n14 x14 = some e14 → (mr_MO_columnsFit_14 N ki cu sh x4) e14 = some r4 → ∀ (ls : Array Slot) (H : Heap) (locs : List Loc), lv_has ls 5 [(0, .ref (ad 0)), (1, .int x4.1), (2, .int x4.2), (3, .int x14.1), (4, .int x14.2)] → fw_H D vwCl A s.heap (wM ad cI cL th ki ce wi ma fo cu gr ru nu gv ca nw lo ke un cn fi fl pa sh od bd bs) H locs → W p l e R s m args below meth c H locs 0 0 Q (F0 m 14 ls []) := by
          intro n14
          induction n14 with
          | zero => intro x14 e14 h1; exact absurd h1 lp_0
          | succ n14 ih14 =>
            intro x14 e14 h1 hr14 ls H locs hl hw
            rw [lp_s] at h1
            refine ob h1 (fun r14 h hk14 => ?_)
            unfold mb_MO_columnsFit_14 at h
            refine lv_iload hx hb d_MO_columnsFit_14 (lv_at hl 4 rfl) ?_
            refine lv_iconst (v := 5) hx hb d_MO_columnsFit_16 (by decide) ?_
            refine lv_icmp_ge (tgt := 42) hx hb d_MO_columnsFit_17 (by decide) (fun hc => ?_) (fun hc => ?_)
            · have h := oi h hc
              have q := Option.some.inj h
              subst q
              have q := Option.some.inj hk14
              subst q
              exact X14 (x14.1, x14.2) hr14 _ _ _ (lv_sub hl [0, 1, 2, 3] rfl) hw
            · have h := oe h hc
              refine lv_iconst (v := 2) hx hb d_MO_columnsFit_20 (by decide) ?_
              refine lv_iload_n hx hb d_MO_columnsFit_21 rfl (lv_at hl 3 rfl) ?_
              refine lv_imul hx hb d_MO_columnsFit_22 ?_
              refine lv_aload_n hx hb d_MO_columnsFit_23 rfl (lv_at hl 0 rfl) ?_
              refine va_get (ci := 6) (v := .ref (ad 13)) (C := R_MO) (T := F_MO) (N := 24) hx hb hg in_MO hown hK hw.1 0 rfl rfl 18 (by decide) (hg _ q_767) (fun _ h9 => h9) rfl d_MO_columnsFit_24 ?_
              refine lv_iconst (v := 5) hx hb d_MO_columnsFit_27 (by decide) ?_
              refine lv_iload hx hb d_MO_columnsFit_28 (lv_at hl 4 rfl) ?_
              refine lv_imul hx hb d_MO_columnsFit_30 ?_
              refine lv_iload_n hx hb d_MO_columnsFit_31 rfl (lv_at hl 2 rfl) ?_
              refine lv_iadd hx hb d_MO_columnsFit_32 ?_
              refine oc h (fun hc3 h => ?_)
              refine va_iald hx hb hK hw.1 13 0 rfl rfl hc3 d_MO_columnsFit_33 ?_
              refine lv_iadd hx hb d_MO_columnsFit_34 ?_
              refine lv_istore_n (lv' := [(3, .int (((2 : Int32) * x14.1) + (fl (((5 : Int32) * x14.2) + x4.2).toNatClampNeg))), (0, .ref (ad 0)), (1, .int x4.1), (2, .int x4.2), (4, .int x14.2)]) hx hb d_MO_columnsFit_35 rfl hl (by decide) rfl (fun ls hl => ?_)
              refine lv_iinc (k := 4) (v := x14.2 + 1) (lv' := [(4, .int (x14.2 + 1)), (3, .int (((2 : Int32) * x14.1) + (fl (((5 : Int32) * x14.2) + x4.2).toNatClampNeg))), (0, .ref (ad 0)), (1, .int x4.1), (2, .int x4.2)]) hx hb d_MO_columnsFit_36 hl rfl (by rw [lit1]) (by decide) rfl (fun ls hl => ?_)
              refine lv_goto (tgt := 14) hx hb d_MO_columnsFit_39 (by decide) ?_
              have q := Option.some.inj h
              subst q
              exact ih14 (((2 : Int32) * x14.1) + (fl (((5 : Int32) * x14.2) + x4.2).toNatClampNeg), x14.2 + 1) e14 hk14 hr14 _ _ _ (lv_sub hl [2, 3, 4, 1, 0] rfl) hw
        refine ob h (fun e14 h1 h2 => ?_)
        exact L14 N ((0 : Int32), (0 : Int32)) e14 h1 h2 _ _ _ (lv_sub hl [2, 3, 4, 1, 0] rfl) hw
  refine ob h (fun e4 h1 h2 => ?_)
  exact L4 N ((1 : Int32), (0 : Int32)) e4 h1 h2 _ _ _ (lv_sub hl [2, 1, 0] rfl) hw
set_option maxHeartbeats 4000000 in
set_option maxRecDepth 100000 in
theorem ct_MO_groupsFit (l : Launch) (D : va_G) (ad : Nat → Nat) (cI cL : ClassId) (N : Nat) (th : Int32) (ki : Int32) (ce : Int32) (wi : Int32) (ma : Int32) (fo : Int32) (cu : Nat → Int32) (gr : Nat → Int32) (ru : Nat → Int32) (nu : Nat → Int32) (gv : Nat → Int32) (ca : Nat → Int32) (nw : Nat → Int32) (lo : Nat → Int32) (ke : Nat → Int32) (un : Nat → Int32) (cn : Nat → Int32) (fi : Nat → Int32) (fl : Nat → Int32) (pa : Nat → Int32) (sh : Nat → Int32) (od : Nat → Int32) (bd : Nat → Int32) (bs : Nat → Int32)  (out : Int32) (h : mi_MO_groupsFit N gr ru nu fl = some out) : fw_C l y_MO_groupsFit (.code y_MO_groupsFit b_MO_groupsFit 7 (some .boolean) :: Gw) (fr 0 0) D vwCl (tyA cI cL) [.ref (ad 0)] (wM ad cI cL th ki ce wi ma fo cu gr ru nu gv ca nw lo ke un cn fi fl pa sh od bd bs) (some (.int out)) (wM ad cI cL th ki ce wi ma fo cu gr ru nu gv ca nw lo ke un cn fi fl pa sh od bd bs) := by
  refine fw_of (by decide) (Nat.le_of_ble_eq_true rfl) ?_
  intro p e s m args below meth c ls A R Q hR hQ S hr hlk hX hA hl hw
  have hK := hX.1
  have hx := S.1
  have hb := S.2.1
  have hown := S.2.2.2.1
  have hg := S.2.2.2.2
  have hl : lv_has ls 7 [(0, .ref (ad 0))] := hl
  unfold mi_MO_groupsFit at h
  refine lv_iconst (v := 1) hx hb d_MO_groupsFit_0 (by decide) ?_
  refine lv_istore_n (lv' := [(1, .int (1 : Int32)), (0, .ref (ad 0))]) hx hb d_MO_groupsFit_1 rfl hl (by decide) rfl (fun ls hl => ?_)
  refine lv_iconst (v := 0) hx hb d_MO_groupsFit_2 (by decide) ?_
  refine lv_istore_n (lv' := [(2, .int (0 : Int32)), (1, .int (1 : Int32)), (0, .ref (ad 0))]) hx hb d_MO_groupsFit_3 rfl hl (by decide) rfl (fun ls hl => ?_)
  have X4 : ∀ (y4 : Int32 × Int32), mr_MO_groupsFit_4 y4 = some out → ∀ (ls : Array Slot) (H : Heap) (locs : List Loc), lv_has ls 7 [(1, .int y4.1)] → fw_H D vwCl A s.heap (wM ad cI cL th ki ce wi ma fo cu gr ru nu gv ca nw lo ke un cn fi fl pa sh od bd bs) H locs → W p l e R s m args below meth c H locs 0 0 Q (F0 m 159 ls []) := by
    intro y4 h ls H locs hl hw
    unfold mr_MO_groupsFit_4 at h
    refine lv_iload_n hx hb d_MO_groupsFit_159 rfl (lv_at hl 0 rfl) ?_
    refine oc h (fun hc h => ?_)
    have q := Option.some.inj h
    subst q
    exact fw_zret hQ S hr (fw_nz hc) hlk hX hw d_MO_groupsFit_160
  have L4 : ∀ (n4 : Nat) (x4 : Int32 × Int32) (e4 : Int32 × Int32), lp (mb_MO_groupsFit_4 N gr ru nu fl) n4 x4 = some e4 → (mr_MO_groupsFit_4) e4 = some out → ∀ (ls : Array Slot) (H : Heap) (locs : List Loc), lv_has ls 7 [(0, .ref (ad 0)), (1, .int x4.1), (2, .int x4.2)] → fw_H D vwCl A s.heap (wM ad cI cL th ki ce wi ma fo cu gr ru nu gv ca nw lo ke un cn fi fl pa sh od bd bs) H locs → W p l e R s m args below meth c H locs 0 0 Q (F0 m 4 ls []) := by
    intro n4
    induction n4 with
    | zero => intro x4 e4 h1; exact absurd h1 lp_0
    | succ n4 ih4 =>
      intro x4 e4 h1 hr4 ls H locs hl hw
      rw [lp_s] at h1
      refine ob h1 (fun r4 h hk4 => ?_)
      unfold mb_MO_groupsFit_4 at h
      refine lv_iload_n hx hb d_MO_groupsFit_4 rfl (lv_at hl 2 rfl) ?_
      refine lv_bipush (v := 16) hx hb d_MO_groupsFit_5 (by decide) ?_
      refine lv_icmp_ge (tgt := 159) hx hb d_MO_groupsFit_7 (by decide) (fun hc => ?_) (fun hc => ?_)
      · have h := oi h hc
        have q := Option.some.inj h
        subst q
        have q := Option.some.inj hk4
        subst q
        exact X4 (x4.1, x4.2) hr4 _ _ _ (lv_sub hl [1] rfl) hw
      · have h := oe h hc
        refine lv_iconst (v := 0) hx hb d_MO_groupsFit_10 (by decide) ?_
        refine lv_istore_n (lv' := [(3, .int (0 : Int32)), (0, .ref (ad 0)), (1, .int x4.1), (2, .int x4.2)]) hx hb d_MO_groupsFit_11 rfl hl (by decide) rfl (fun ls hl => ?_)
        refine lv_iconst (v := 1) hx hb d_MO_groupsFit_12 (by decide) ?_
        refine lv_istore (lv' := [(4, .int (1 : Int32)), (3, .int (0 : Int32)), (0, .ref (ad 0)), (1, .int x4.1), (2, .int x4.2)]) hx hb d_MO_groupsFit_13 hl (by decide) rfl (fun ls hl => ?_)
        refine lv_iconst (v := 0) hx hb d_MO_groupsFit_15 (by decide) ?_
        refine lv_istore (lv' := [(5, .int (0 : Int32)), (4, .int (1 : Int32)), (3, .int (0 : Int32)), (0, .ref (ad 0)), (1, .int x4.1), (2, .int x4.2)]) hx hb d_MO_groupsFit_16 hl (by decide) rfl (fun ls hl => ?_)
        refine lv_iconst (v := 0) hx hb d_MO_groupsFit_18 (by decide) ?_
        refine lv_istore (lv' := [(6, .int (0 : Int32)), (5, .int (0 : Int32)), (4, .int (1 : Int32)), (3, .int (0 : Int32)), (0, .ref (ad 0)), (1, .int x4.1), (2, .int x4.2)]) hx hb d_MO_groupsFit_19 hl (by decide) rfl (fun ls hl => ?_)
        have X21 : ∀ (y21 : Int32 × Int32 × Int32 × Int32 × Int32), mr_MO_groupsFit_21 ru nu x4 y21 = some r4 → ∀ (ls : Array Slot) (H : Heap) (locs : List Loc), lv_has ls 7 [(0, .ref (ad 0)), (1, .int y21.1), (2, .int x4.2), (3, .int y21.2.1), (4, .int y21.2.2.1)] → fw_H D vwCl A s.heap (wM ad cI cL th ki ce wi ma fo cu gr ru nu gv ca nw lo ke un cn fi fl pa sh od bd bs) H locs → W p l e R s m args below meth c H locs 0 0 Q (F0 m 109 ls []) := by
          intro y21 h ls H locs hl hw
          unfold mr_MO_groupsFit_21 at h
          refine lv_iload_n hx hb d_MO_groupsFit_109 rfl (lv_at hl 1 rfl) ?_
          refine lv_if_eq (tgt := 151) hx hb d_MO_groupsFit_110 (by decide) (fun hc => ?_) (fun hc => ?_)
          · have h := oi h hc
            refine lv_iconst (v := 0) hx hb d_MO_groupsFit_151 (by decide) ?_
            refine lv_istore_n (lv' := [(1, .int (0 : Int32)), (0, .ref (ad 0)), (2, .int x4.2), (3, .int y21.2.1), (4, .int y21.2.2.1)]) hx hb d_MO_groupsFit_152 rfl hl (by decide) rfl (fun ls hl => ?_)
            refine lv_iinc (k := 2) (v := x4.2 + 1) (lv' := [(2, .int (x4.2 + 1)), (1, .int (0 : Int32)), (0, .ref (ad 0)), (3, .int y21.2.1), (4, .int y21.2.2.1)]) hx hb d_MO_groupsFit_153 hl rfl (by rw [lit1]) (by decide) rfl (fun ls hl => ?_)
            refine lv_goto (tgt := 4) hx hb d_MO_groupsFit_156 (by decide) ?_
            have q := Option.some.inj h
            subst q
            exact ih4 ((0 : Int32), x4.2 + 1) e4 hk4 hr4 _ _ _ (lv_sub hl [2, 1, 0] rfl) hw
          · have h := oe h hc
            refine lv_aload_n hx hb d_MO_groupsFit_113 rfl (lv_at hl 0 rfl) ?_
            refine va_get (ci := 6) (v := .ref (ad 3)) (C := R_MO) (T := F_MO) (N := 24) hx hb hg in_MO hown hK hw.1 0 rfl rfl 6 (by decide) (hg _ q_755) (fun _ h9 => h9) rfl d_MO_groupsFit_114 ?_
            refine lv_iload_n hx hb d_MO_groupsFit_117 rfl (lv_at hl 2 rfl) ?_
            refine oc h (fun hc1 h => ?_)
            refine va_iald hx hb hK hw.1 3 0 rfl rfl hc1 d_MO_groupsFit_118 ?_
            refine lv_if_eq (tgt := 147) hx hb d_MO_groupsFit_119 (by decide) (fun hc => ?_) (fun hc => ?_)
            · have h := oi h hc
              refine lv_iconst (v := 1) hx hb d_MO_groupsFit_147 (by decide) ?_
              refine lv_goto (tgt := 152) hx hb d_MO_groupsFit_148 (by decide) ?_
              refine lv_istore_n (lv' := [(1, .int (1 : Int32)), (0, .ref (ad 0)), (2, .int x4.2), (3, .int y21.2.1), (4, .int y21.2.2.1)]) hx hb d_MO_groupsFit_152 rfl hl (by decide) rfl (fun ls hl => ?_)
              refine lv_iinc (k := 2) (v := x4.2 + 1) (lv' := [(2, .int (x4.2 + 1)), (1, .int (1 : Int32)), (0, .ref (ad 0)), (3, .int y21.2.1), (4, .int y21.2.2.1)]) hx hb d_MO_groupsFit_153 hl rfl (by rw [lit1]) (by decide) rfl (fun ls hl => ?_)
              refine lv_goto (tgt := 4) hx hb d_MO_groupsFit_156 (by decide) ?_
              have q := Option.some.inj h
              subst q
              exact ih4 ((1 : Int32), x4.2 + 1) e4 hk4 hr4 _ _ _ (lv_sub hl [2, 1, 0] rfl) hw
            · have h := oe h hc
              refine lv_aload_n hx hb d_MO_groupsFit_122 rfl (lv_at hl 0 rfl) ?_
              refine va_get (ci := 6) (v := .ref (ad 4)) (C := R_MO) (T := F_MO) (N := 24) hx hb hg in_MO hown hK hw.1 0 rfl rfl 7 (by decide) (hg _ q_756) (fun _ h9 => h9) rfl d_MO_groupsFit_123 ?_
              refine lv_iload_n hx hb d_MO_groupsFit_126 rfl (lv_at hl 2 rfl) ?_
              refine va_iald hx hb hK hw.1 4 0 rfl rfl hc1 d_MO_groupsFit_127 ?_
              refine lv_aload_n hx hb d_MO_groupsFit_128 rfl (lv_at hl 0 rfl) ?_
              refine va_get (ci := 6) (v := .ref (ad 3)) (C := R_MO) (T := F_MO) (N := 24) hx hb hg in_MO hown hK hw.1 0 rfl rfl 6 (by decide) (hg _ q_755) (fun _ h9 => h9) rfl d_MO_groupsFit_129 ?_
              refine lv_iload_n hx hb d_MO_groupsFit_132 rfl (lv_at hl 2 rfl) ?_
              refine va_iald hx hb hK hw.1 3 0 rfl rfl hc1 d_MO_groupsFit_133 ?_
              refine lv_iconst (v := 1) hx hb d_MO_groupsFit_134 (by decide) ?_
              have J144 : ∀ (j144s1 : Int32), mj_MO_groupsFit_144 nu x4 j144s1 = some r4 → ∀ (ls : Array Slot) (H : Heap) (locs : List Loc), lv_has ls 7 [(0, .ref (ad 0)), (2, .int x4.2)] → fw_H D vwCl A s.heap (wM ad cI cL th ki ce wi ma fo cu gr ru nu gv ca nw lo ke un cn fi fl pa sh od bd bs) H locs → W p l e R s m args below meth c H locs 0 0 Q (F0 m 144 ls [.int j144s1, .int (nu x4.2.toNatClampNeg)]) := by
                intro j144s1 h ls H locs hl hw
                unfold mj_MO_groupsFit_144 at h
                refine lv_icmp_ne (tgt := 151) hx hb d_MO_groupsFit_144 (by decide) (fun hc => ?_) (fun hc => ?_)
                · have h := oe h hc
                  refine lv_iconst (v := 0) hx hb d_MO_groupsFit_151 (by decide) ?_
                  refine lv_istore_n (lv' := [(1, .int (0 : Int32)), (0, .ref (ad 0)), (2, .int x4.2)]) hx hb d_MO_groupsFit_152 rfl hl (by decide) rfl (fun ls hl => ?_)
                  refine lv_iinc (k := 2) (v := x4.2 + 1) (lv' := [(2, .int (x4.2 + 1)), (1, .int (0 : Int32)), (0, .ref (ad 0))]) hx hb d_MO_groupsFit_153 hl rfl (by rw [lit1]) (by decide) rfl (fun ls hl => ?_)
                  refine lv_goto (tgt := 4) hx hb d_MO_groupsFit_156 (by decide) ?_
                  have q := Option.some.inj h
                  subst q
                  exact ih4 ((0 : Int32), x4.2 + 1) e4 hk4 hr4 _ _ _ (lv_sub hl [2, 1, 0] rfl) hw
                · have h := oi h hc
                  refine lv_iconst (v := 1) hx hb d_MO_groupsFit_147 (by decide) ?_
                  refine lv_goto (tgt := 152) hx hb d_MO_groupsFit_148 (by decide) ?_
                  refine lv_istore_n (lv' := [(1, .int (1 : Int32)), (0, .ref (ad 0)), (2, .int x4.2)]) hx hb d_MO_groupsFit_152 rfl hl (by decide) rfl (fun ls hl => ?_)
                  refine lv_iinc (k := 2) (v := x4.2 + 1) (lv' := [(2, .int (x4.2 + 1)), (1, .int (1 : Int32)), (0, .ref (ad 0))]) hx hb d_MO_groupsFit_153 hl rfl (by rw [lit1]) (by decide) rfl (fun ls hl => ?_)
                  refine lv_goto (tgt := 4) hx hb d_MO_groupsFit_156 (by decide) ?_
                  have q := Option.some.inj h
                  subst q
                  exact ih4 ((1 : Int32), x4.2 + 1) e4 hk4 hr4 _ _ _ (lv_sub hl [2, 1, 0] rfl) hw
              refine lv_icmp_ne (tgt := 142) hx hb d_MO_groupsFit_135 (by decide) (fun hc => ?_) (fun hc => ?_)
              · have h := oe h hc
                refine lv_iload hx hb d_MO_groupsFit_142 (lv_at hl 4 rfl) ?_
                exact J144 y21.2.2.1 h _ _ _ (lv_sub hl [0, 2] rfl) hw
              · have h := oi h hc
                refine lv_iload_n hx hb d_MO_groupsFit_138 rfl (lv_at hl 3 rfl) ?_
                refine lv_goto (tgt := 144) hx hb d_MO_groupsFit_139 (by decide) ?_
                exact J144 y21.2.1 h _ _ _ (lv_sub hl [0, 2] rfl) hw
        have L21 : ∀ (n21 : Nat) (x21 : Int32 × Int32 × Int32 × Int32 × Int32) (e21 : Int32 × Int32 × Int32 × Int32 × Int32), lp (mb_MO_groupsFit_21 gr fl x4) n21 x21 = some e21 → (mr_MO_groupsFit_21 ru nu x4) e21 = some r4 → ∀ (ls : Array Slot) (H : Heap) (locs : List Loc), lv_has ls 7 [(0, .ref (ad 0)), (1, .int x21.1), (2, .int x4.2), (3, .int x21.2.1), (4, .int x21.2.2.1), (5, .int x21.2.2.2.1), (6, .int x21.2.2.2.2)] → fw_H D vwCl A s.heap (wM ad cI cL th ki ce wi ma fo cu gr ru nu gv ca nw lo ke un cn fi fl pa sh od bd bs) H locs → W p l e R s m args below meth c H locs 0 0 Q (F0 m 21 ls []) := by
          intro n21
          induction n21 with
          | zero => intro x21 e21 h1; exact absurd h1 lp_0
          | succ n21 ih21 =>
            intro x21 e21 h1 hr21 ls H locs hl hw
            rw [lp_s] at h1
            refine ob h1 (fun r21 h hk21 => ?_)
            unfold mb_MO_groupsFit_21 at h
            refine lv_iload hx hb d_MO_groupsFit_21 (lv_at hl 6 rfl) ?_
            refine lv_bipush (v := 16) hx hb d_MO_groupsFit_23 (by decide) ?_
            refine lv_icmp_ge (tgt := 109) hx hb d_MO_groupsFit_25 (by decide) (fun hc => ?_) (fun hc => ?_)
            · have h := oi h hc
              have q := Option.some.inj h
              subst q
              have q := Option.some.inj hk21
              subst q
              exact X21 (x21.1, x21.2.1, x21.2.2.1, x21.2.2.2.1, x21.2.2.2.2) hr21 _ _ _ (lv_sub hl [0, 1, 2, 3, 4] rfl) hw
            · have h := oe h hc
              refine lv_aload_n hx hb d_MO_groupsFit_28 rfl (lv_at hl 0 rfl) ?_
              refine va_get (ci := 6) (v := .ref (ad 2)) (C := R_MO) (T := F_MO) (N := 24) hx hb hg in_MO hown hK hw.1 0 rfl rfl 5 (by decide) (hg _ q_754) (fun _ h9 => h9) rfl d_MO_groupsFit_29 ?_
              refine lv_iload hx hb d_MO_groupsFit_32 (lv_at hl 6 rfl) ?_
              refine oc h (fun hc2 h => ?_)
              refine va_iald hx hb hK hw.1 2 0 rfl rfl hc2 d_MO_groupsFit_34 ?_
              refine lv_iload_n hx hb d_MO_groupsFit_35 rfl (lv_at hl 2 rfl) ?_
              refine lv_icmp_eq (tgt := 42) hx hb d_MO_groupsFit_36 (by decide) (fun hc => ?_) (fun hc => ?_)
              · have h := oi h hc
                refine lv_iload_n hx hb d_MO_groupsFit_42 rfl (lv_at hl 1 rfl) ?_
                have J66 : ∀ (j66s0 : Int32), mj_MO_groupsFit_66 fl x21 j66s0 = some r21 → ∀ (ls : Array Slot) (H : Heap) (locs : List Loc), lv_has ls 7 [(0, .ref (ad 0)), (2, .int x4.2), (3, .int x21.2.1), (4, .int x21.2.2.1), (5, .int x21.2.2.2.1), (6, .int x21.2.2.2.2)] → fw_H D vwCl A s.heap (wM ad cI cL th ki ce wi ma fo cu gr ru nu gv ca nw lo ke un cn fi fl pa sh od bd bs) H locs → W p l e R s m args below meth c H locs 0 0 Q (F0 m 66 ls [.int j66s0]) := by
                  intro j66s0 h ls H locs hl hw
                  unfold mj_MO_groupsFit_66 at h
                  refine lv_istore_n (lv' := [(1, .int j66s0), (0, .ref (ad 0)), (2, .int x4.2), (3, .int x21.2.1), (4, .int x21.2.2.1), (5, .int x21.2.2.2.1), (6, .int x21.2.2.2.2)]) hx hb d_MO_groupsFit_66 rfl hl (by decide) rfl (fun ls hl => ?_)
                  refine lv_iload hx hb d_MO_groupsFit_67 (lv_at hl 5 rfl) ?_
                  refine lv_iconst (v := 1) hx hb d_MO_groupsFit_69 (by decide) ?_
                  refine lv_aload_n hx hb d_MO_groupsFit_70 rfl (lv_at hl 1 rfl) ?_
                  refine va_get (ci := 6) (v := .ref (ad 13)) (C := R_MO) (T := F_MO) (N := 24) hx hb hg in_MO hown hK hw.1 0 rfl rfl 18 (by decide) (hg _ q_767) (fun _ h9 => h9) rfl d_MO_groupsFit_71 ?_
                  refine lv_iload hx hb d_MO_groupsFit_74 (lv_at hl 6 rfl) ?_
                  refine va_iald hx hb hK hw.1 13 0 rfl rfl hc2 d_MO_groupsFit_76 ?_
                  refine lv_ishl hx hb d_MO_groupsFit_77 ?_
                  refine lv_ior hx hb d_MO_groupsFit_78 ?_
                  refine lv_istore (lv' := [(5, .int (x21.2.2.2.1 ||| ((1 : Int32) <<< ((fl x21.2.2.2.2.toNatClampNeg) &&& 31)))), (1, .int j66s0), (0, .ref (ad 0)), (2, .int x4.2), (3, .int x21.2.1), (4, .int x21.2.2.1), (6, .int x21.2.2.2.2)]) hx hb d_MO_groupsFit_79 hl (by decide) rfl (fun ls hl => ?_)
                  refine lv_iload_n hx hb d_MO_groupsFit_81 rfl (lv_at hl 4 rfl) ?_
                  refine lv_aload_n hx hb d_MO_groupsFit_82 rfl (lv_at hl 2 rfl) ?_
                  refine va_get (ci := 6) (v := .ref (ad 13)) (C := R_MO) (T := F_MO) (N := 24) hx hb hg in_MO hown hK hw.1 0 rfl rfl 18 (by decide) (hg _ q_767) (fun _ h9 => h9) rfl d_MO_groupsFit_83 ?_
                  refine lv_iload hx hb d_MO_groupsFit_86 (lv_at hl 6 rfl) ?_
                  refine va_iald hx hb hK hw.1 13 0 rfl rfl hc2 d_MO_groupsFit_88 ?_
                  refine lv_iadd hx hb d_MO_groupsFit_89 ?_
                  refine lv_istore_n (lv' := [(3, .int (x21.2.1 + (fl x21.2.2.2.2.toNatClampNeg))), (5, .int (x21.2.2.2.1 ||| ((1 : Int32) <<< ((fl x21.2.2.2.2.toNatClampNeg) &&& 31)))), (1, .int j66s0), (0, .ref (ad 0)), (2, .int x4.2), (4, .int x21.2.2.1), (6, .int x21.2.2.2.2)]) hx hb d_MO_groupsFit_90 rfl hl (by decide) rfl (fun ls hl => ?_)
                  refine lv_iload hx hb d_MO_groupsFit_91 (lv_at hl 5 rfl) ?_
                  refine lv_aload_n hx hb d_MO_groupsFit_93 rfl (lv_at hl 3 rfl) ?_
                  refine va_get (ci := 6) (v := .ref (ad 13)) (C := R_MO) (T := F_MO) (N := 24) hx hb hg in_MO hown hK hw.1 0 rfl rfl 18 (by decide) (hg _ q_767) (fun _ h9 => h9) rfl d_MO_groupsFit_94 ?_
                  refine lv_iload hx hb d_MO_groupsFit_97 (lv_at hl 6 rfl) ?_
                  refine va_iald hx hb hK hw.1 13 0 rfl rfl hc2 d_MO_groupsFit_99 ?_
                  refine lv_imul hx hb d_MO_groupsFit_100 ?_
                  refine lv_istore (lv' := [(4, .int (x21.2.2.1 * (fl x21.2.2.2.2.toNatClampNeg))), (3, .int (x21.2.1 + (fl x21.2.2.2.2.toNatClampNeg))), (5, .int (x21.2.2.2.1 ||| ((1 : Int32) <<< ((fl x21.2.2.2.2.toNatClampNeg) &&& 31)))), (1, .int j66s0), (0, .ref (ad 0)), (2, .int x4.2), (6, .int x21.2.2.2.2)]) hx hb d_MO_groupsFit_101 hl (by decide) rfl (fun ls hl => ?_)
                  refine lv_iinc (k := 6) (v := x21.2.2.2.2 + 1) (lv' := [(6, .int (x21.2.2.2.2 + 1)), (4, .int (x21.2.2.1 * (fl x21.2.2.2.2.toNatClampNeg))), (3, .int (x21.2.1 + (fl x21.2.2.2.2.toNatClampNeg))), (5, .int (x21.2.2.2.1 ||| ((1 : Int32) <<< ((fl x21.2.2.2.2.toNatClampNeg) &&& 31)))), (1, .int j66s0), (0, .ref (ad 0)), (2, .int x4.2)]) hx hb d_MO_groupsFit_103 hl rfl (by rw [lit1]) (by decide) rfl (fun ls hl => ?_)
                  refine lv_goto (tgt := 21) hx hb d_MO_groupsFit_106 (by decide) ?_
                  have q := Option.some.inj h
                  subst q
                  exact ih21 (j66s0, x21.2.1 + (fl x21.2.2.2.2.toNatClampNeg), x21.2.2.1 * (fl x21.2.2.2.2.toNatClampNeg), x21.2.2.2.1 ||| ((1 : Int32) <<< ((fl x21.2.2.2.2.toNatClampNeg) &&& 31)), x21.2.2.2.2 + 1) e21 hk21 hr21 _ _ _ (lv_sub hl [5, 4, 6, 2, 1, 3, 0] rfl) hw
                refine lv_if_eq (tgt := 65) hx hb d_MO_groupsFit_43 (by decide) (fun hc => ?_) (fun hc => ?_)
                · have h := oi h hc
                  refine lv_iconst (v := 0) hx hb d_MO_groupsFit_65 (by decide) ?_
                  exact J66 (0 : Int32) h _ _ _ (lv_sub hl [0, 2, 3, 4, 5, 6] rfl) hw
                · have h := oe h hc
                  refine lv_iload hx hb d_MO_groupsFit_46 (lv_at hl 5 rfl) ?_
                  refine lv_aload_n hx hb d_MO_groupsFit_48 rfl (lv_at hl 0 rfl) ?_
                  refine va_get (ci := 6) (v := .ref (ad 13)) (C := R_MO) (T := F_MO) (N := 24) hx hb hg in_MO hown hK hw.1 0 rfl rfl 18 (by decide) (hg _ q_767) (fun _ h9 => h9) rfl d_MO_groupsFit_49 ?_
                  refine lv_iload hx hb d_MO_groupsFit_52 (lv_at hl 6 rfl) ?_
                  refine va_iald hx hb hK hw.1 13 0 rfl rfl hc2 d_MO_groupsFit_54 ?_
                  refine lv_ishr hx hb d_MO_groupsFit_55 ?_
                  refine lv_iconst (v := 1) hx hb d_MO_groupsFit_56 (by decide) ?_
                  refine lv_iand hx hb d_MO_groupsFit_57 ?_
                  refine lv_if_ne (tgt := 65) hx hb d_MO_groupsFit_58 (by decide) (fun hc => ?_) (fun hc => ?_)
                  · have h := oe h hc
                    refine lv_iconst (v := 0) hx hb d_MO_groupsFit_65 (by decide) ?_
                    exact J66 (0 : Int32) h _ _ _ (lv_sub hl [0, 2, 3, 4, 5, 6] rfl) hw
                  · have h := oi h hc
                    refine lv_iconst (v := 1) hx hb d_MO_groupsFit_61 (by decide) ?_
                    refine lv_goto (tgt := 66) hx hb d_MO_groupsFit_62 (by decide) ?_
                    exact J66 (1 : Int32) h _ _ _ (lv_sub hl [0, 2, 3, 4, 5, 6] rfl) hw
              · have h := oe h hc
                refine lv_goto (tgt := 103) hx hb d_MO_groupsFit_39 (by decide) ?_
                refine lv_iinc (k := 6) (v := x21.2.2.2.2 + 1) (lv' := [(6, .int (x21.2.2.2.2 + 1)), (0, .ref (ad 0)), (1, .int x21.1), (2, .int x4.2), (3, .int x21.2.1), (4, .int x21.2.2.1), (5, .int x21.2.2.2.1)]) hx hb d_MO_groupsFit_103 hl rfl (by rw [lit1]) (by decide) rfl (fun ls hl => ?_)
                refine lv_goto (tgt := 21) hx hb d_MO_groupsFit_106 (by decide) ?_
                have q := Option.some.inj h
                subst q
                exact ih21 (x21.1, x21.2.1, x21.2.2.1, x21.2.2.2.1, x21.2.2.2.2 + 1) e21 hk21 hr21 _ _ _ (lv_sub hl [1, 2, 3, 4, 5, 6, 0] rfl) hw
        refine ob h (fun e21 h1 h2 => ?_)
        exact L21 N (x4.1, (0 : Int32), (1 : Int32), (0 : Int32), (0 : Int32)) e21 h1 h2 _ _ _ (lv_sub hl [4, 5, 6, 3, 2, 1, 0] rfl) hw
  refine ob h (fun e4 h1 h2 => ?_)
  exact L4 N ((1 : Int32), (0 : Int32)) e4 h1 h2 _ _ _ (lv_sub hl [2, 1, 0] rfl) hw
set_option maxHeartbeats 4000000 in
set_option maxRecDepth 100000 in
theorem ct_MO_starsFit (l : Launch) (D : va_G) (ad : Nat → Nat) (cI cL : ClassId) (N : Nat) (th : Int32) (ki : Int32) (ce : Int32) (wi : Int32) (ma : Int32) (fo : Int32) (cu : Nat → Int32) (gr : Nat → Int32) (ru : Nat → Int32) (nu : Nat → Int32) (gv : Nat → Int32) (ca : Nat → Int32) (nw : Nat → Int32) (lo : Nat → Int32) (ke : Nat → Int32) (un : Nat → Int32) (cn : Nat → Int32) (fi : Nat → Int32) (fl : Nat → Int32) (pa : Nat → Int32) (sh : Nat → Int32) (od : Nat → Int32) (bd : Nat → Int32) (bs : Nat → Int32)  (out : Int32) (h : mi_MO_starsFit N ce gr fl bd bs = some out) : fw_C l y_MO_starsFit (.code y_MO_starsFit b_MO_starsFit 5 (some .boolean) :: Gw) (fr 1 23) D vwCl (tyA cI cL) [.ref (ad 0)] (wM ad cI cL th ki ce wi ma fo cu gr ru nu gv ca nw lo ke un cn fi fl pa sh od bd bs) (some (.int out)) (wM ad cI cL th ki ce wi ma fo cu gr ru nu gv ca nw lo ke un cn fi fl pa sh od bd bs) := by
  refine fw_of (by decide) (Nat.le_of_ble_eq_true rfl) ?_
  intro p e s m args below meth c ls A R Q hR hQ S hr hlk hX hA hl hw
  have hK := hX.1
  have hx := S.1
  have hb := S.2.1
  have hown := S.2.2.2.1
  have hg := S.2.2.2.2
  have hl : lv_has ls 5 [(0, .ref (ad 0))] := hl
  unfold mi_MO_starsFit at h
  refine lv_iconst (v := 1) hx hb d_MO_starsFit_0 (by decide) ?_
  refine lv_istore_n (lv' := [(1, .int (1 : Int32)), (0, .ref (ad 0))]) hx hb d_MO_starsFit_1 rfl hl (by decide) rfl (fun ls hl => ?_)
  refine lv_iconst (v := 0) hx hb d_MO_starsFit_2 (by decide) ?_
  refine lv_istore_n (lv' := [(2, .int (0 : Int32)), (1, .int (1 : Int32)), (0, .ref (ad 0))]) hx hb d_MO_starsFit_3 rfl hl (by decide) rfl (fun ls hl => ?_)
  have X4 : ∀ (y4 : Int32 × Int32), mr_MO_starsFit_4 N fl bd bs y4 = some out → ∀ (ls : Array Slot) (H : Heap) (locs : List Loc), lv_has ls 5 [(0, .ref (ad 0)), (1, .int y4.1)] → fw_H D vwCl A s.heap (wM ad cI cL th ki ce wi ma fo cu gr ru nu gv ca nw lo ke un cn fi fl pa sh od bd bs) H locs → W p l e R s m args below meth c H locs 0 0 Q (F0 m 81 ls []) := by
    intro y4 h ls H locs hl hw
    unfold mr_MO_starsFit_4 at h
    refine lv_iconst (v := 0) hx hb d_MO_starsFit_81 (by decide) ?_
    refine lv_istore_n (lv' := [(2, .int (0 : Int32)), (0, .ref (ad 0)), (1, .int y4.1)]) hx hb d_MO_starsFit_82 rfl hl (by decide) rfl (fun ls hl => ?_)
    have X83 : ∀ (y83 : Int32 × Int32), mr_MO_starsFit_83 y83 = some out → ∀ (ls : Array Slot) (H : Heap) (locs : List Loc), lv_has ls 5 [(1, .int y83.1)] → fw_H D vwCl A s.heap (wM ad cI cL th ki ce wi ma fo cu gr ru nu gv ca nw lo ke un cn fi fl pa sh od bd bs) H locs → W p l e R s m args below meth c H locs 0 0 Q (F0 m 159 ls []) := by
      intro y83 h ls H locs hl hw
      unfold mr_MO_starsFit_83 at h
      refine lv_iload_n hx hb d_MO_starsFit_159 rfl (lv_at hl 0 rfl) ?_
      refine oc h (fun hc h => ?_)
      have q := Option.some.inj h
      subst q
      exact fw_zret hQ S hr (fw_nz hc) hlk hX hw d_MO_starsFit_160
    have L83 : ∀ (n83 : Nat) (x83 : Int32 × Int32) (e83 : Int32 × Int32), lp (mb_MO_starsFit_83 N fl bd bs) n83 x83 = some e83 → (mr_MO_starsFit_83) e83 = some out → ∀ (ls : Array Slot) (H : Heap) (locs : List Loc), lv_has ls 5 [(0, .ref (ad 0)), (1, .int x83.1), (2, .int x83.2)] → fw_H D vwCl A s.heap (wM ad cI cL th ki ce wi ma fo cu gr ru nu gv ca nw lo ke un cn fi fl pa sh od bd bs) H locs → W p l e R s m args below meth c H locs 0 0 Q (F0 m 83 ls []) := by
      intro n83
      induction n83 with
      | zero => intro x83 e83 h1; exact absurd h1 lp_0
      | succ n83 ih83 =>
        intro x83 e83 h1 hr83 ls H locs hl hw
        rw [lp_s] at h1
        refine ob h1 (fun r83 h hk83 => ?_)
        unfold mb_MO_starsFit_83 at h
        refine lv_iload_n hx hb d_MO_starsFit_83 rfl (lv_at hl 2 rfl) ?_
        refine lv_bipush (v := 25) hx hb d_MO_starsFit_84 (by decide) ?_
        refine lv_icmp_ge (tgt := 159) hx hb d_MO_starsFit_86 (by decide) (fun hc => ?_) (fun hc => ?_)
        · have h := oi h hc
          have q := Option.some.inj h
          subst q
          have q := Option.some.inj hk83
          subst q
          exact X83 (x83.1, x83.2) hr83 _ _ _ (lv_sub hl [1] rfl) hw
        · have h := oe h hc
          refine lv_iload_n hx hb d_MO_starsFit_89 rfl (lv_at hl 1 rfl) ?_
          refine lv_if_eq (tgt := 159) hx hb d_MO_starsFit_90 (by decide) (fun hc => ?_) (fun hc => ?_)
          · have h := oi h hc
            have q := Option.some.inj h
            subst q
            have q := Option.some.inj hk83
            subst q
            exact X83 (x83.1, x83.2) hr83 _ _ _ (lv_sub hl [1] rfl) hw
          · have h := oe h hc
            refine lv_bipush (v := 8) hx hb d_MO_starsFit_93 (by decide) ?_
            refine lv_iload_n hx hb d_MO_starsFit_95 rfl (lv_at hl 2 rfl) ?_
            refine lv_imul hx hb d_MO_starsFit_96 ?_
            refine lv_istore_n (lv' := [(3, .int ((8 : Int32) * x83.2)), (0, .ref (ad 0)), (1, .int x83.1), (2, .int x83.2)]) hx hb d_MO_starsFit_97 rfl hl (by decide) rfl (fun ls hl => ?_)
            have X98 : ∀ (y98 : Int32 × Int32), mr_MO_starsFit_98 x83 y98 = some r83 → ∀ (ls : Array Slot) (H : Heap) (locs : List Loc), lv_has ls 5 [(0, .ref (ad 0)), (1, .int y98.1), (2, .int x83.2)] → fw_H D vwCl A s.heap (wM ad cI cL th ki ce wi ma fo cu gr ru nu gv ca nw lo ke un cn fi fl pa sh od bd bs) H locs → W p l e R s m args below meth c H locs 0 0 Q (F0 m 153 ls []) := by
              intro y98 h ls H locs hl hw
              unfold mr_MO_starsFit_98 at h
              refine lv_iinc (k := 2) (v := x83.2 + 1) (lv' := [(2, .int (x83.2 + 1)), (0, .ref (ad 0)), (1, .int y98.1)]) hx hb d_MO_starsFit_153 hl rfl (by rw [lit1]) (by decide) rfl (fun ls hl => ?_)
              refine lv_goto (tgt := 83) hx hb d_MO_starsFit_156 (by decide) ?_
              have q := Option.some.inj h
              subst q
              exact ih83 (y98.1, x83.2 + 1) e83 hk83 hr83 _ _ _ (lv_sub hl [1, 2, 0] rfl) hw
            have L98 : ∀ (n98 : Nat) (x98 : Int32 × Int32) (e98 : Int32 × Int32), lp (mb_MO_starsFit_98 fl bd bs x83) n98 x98 = some e98 → (mr_MO_starsFit_98 x83) e98 = some r83 → ∀ (ls : Array Slot) (H : Heap) (locs : List Loc), lv_has ls 5 [(0, .ref (ad 0)), (1, .int x98.1), (2, .int x83.2), (3, .int x98.2)] → fw_H D vwCl A s.heap (wM ad cI cL th ki ce wi ma fo cu gr ru nu gv ca nw lo ke un cn fi fl pa sh od bd bs) H locs → W p l e R s m args below meth c H locs 0 0 Q (F0 m 98 ls []) := by
              intro n98
              induction n98 with
              | zero => intro x98 e98 h1; exact absurd h1 lp_0
              | succ n98 ih98 =>
                intro x98 e98 h1 hr98 ls H locs hl hw
                rw [lp_s] at h1
                refine ob h1 (fun r98 h hk98 => ?_)
                unfold mb_MO_starsFit_98 at h
                refine lv_iload_n hx hb d_MO_starsFit_98 rfl (lv_at hl 3 rfl) ?_
                refine lv_bipush (v := 8) hx hb d_MO_starsFit_99 (by decide) ?_
                refine lv_iload_n hx hb d_MO_starsFit_101 rfl (lv_at hl 2 rfl) ?_
                refine lv_imul hx hb d_MO_starsFit_102 ?_
                refine lv_aload_n hx hb d_MO_starsFit_103 rfl (lv_at hl 0 rfl) ?_
                refine va_get (ci := 6) (v := .ref (ad 17)) (C := R_MO) (T := F_MO) (N := 24) hx hb hg in_MO hown hK hw.1 0 rfl rfl 22 (by decide) (hg _ q_771) (fun _ h9 => h9) rfl d_MO_starsFit_104 ?_
                refine lv_iload_n hx hb d_MO_starsFit_107 rfl (lv_at hl 2 rfl) ?_
                refine oc h (fun hc1 h => ?_)
                refine va_iald hx hb hK hw.1 17 0 rfl rfl hc1 d_MO_starsFit_108 ?_
                refine lv_iadd hx hb d_MO_starsFit_109 ?_
                refine lv_icmp_ge (tgt := 153) hx hb d_MO_starsFit_110 (by decide) (fun hc => ?_) (fun hc => ?_)
                · have h := oi h hc
                  have q := Option.some.inj h
                  subst q
                  have q := Option.some.inj hk98
                  subst q
                  exact X98 (x98.1, x98.2) hr98 _ _ _ (lv_sub hl [0, 1, 2] rfl) hw
                · have h := oe h hc
                  refine lv_aload_n hx hb d_MO_starsFit_113 rfl (lv_at hl 0 rfl) ?_
                  refine va_get (ci := 6) (v := .ref (ad 13)) (C := R_MO) (T := F_MO) (N := 24) hx hb hg in_MO hown hK hw.1 0 rfl rfl 18 (by decide) (hg _ q_767) (fun _ h9 => h9) rfl d_MO_starsFit_114 ?_
                  refine lv_iload_n hx hb d_MO_starsFit_117 rfl (lv_at hl 2 rfl) ?_
                  refine va_iald hx hb hK hw.1 13 0 rfl rfl hc1 d_MO_starsFit_118 ?_
                  refine lv_iconst (v := 1) hx hb d_MO_starsFit_119 (by decide) ?_
                  refine lv_icmp_ne (tgt := 153) hx hb d_MO_starsFit_120 (by decide) (fun hc => ?_) (fun hc => ?_)
                  · have h := oe h hc
                    have q := Option.some.inj h
                    subst q
                    have q := Option.some.inj hk98
                    subst q
                    exact X98 (x98.1, x98.2) hr98 _ _ _ (lv_sub hl [0, 1, 2] rfl) hw
                  · have h := oi h hc
                    refine lv_iload_n hx hb d_MO_starsFit_123 rfl (lv_at hl 1 rfl) ?_
                    refine lv_if_eq (tgt := 145) hx hb d_MO_starsFit_124 (by decide) (fun hc => ?_) (fun hc => ?_)
                    · have h := oi h hc
                      refine lv_iconst (v := 0) hx hb d_MO_starsFit_145 (by decide) ?_
                      refine lv_istore_n (lv' := [(1, .int (0 : Int32)), (0, .ref (ad 0)), (2, .int x83.2), (3, .int x98.2)]) hx hb d_MO_starsFit_146 rfl hl (by decide) rfl (fun ls hl => ?_)
                      refine lv_iinc (k := 3) (v := x98.2 + 1) (lv' := [(3, .int (x98.2 + 1)), (1, .int (0 : Int32)), (0, .ref (ad 0)), (2, .int x83.2)]) hx hb d_MO_starsFit_147 hl rfl (by rw [lit1]) (by decide) rfl (fun ls hl => ?_)
                      refine lv_goto (tgt := 98) hx hb d_MO_starsFit_150 (by decide) ?_
                      have q := Option.some.inj h
                      subst q
                      exact ih98 ((0 : Int32), x98.2 + 1) e98 hk98 hr98 _ _ _ (lv_sub hl [2, 1, 3, 0] rfl) hw
                    · have h := oe h hc
                      refine lv_aload_n hx hb d_MO_starsFit_127 rfl (lv_at hl 0 rfl) ?_
                      refine va_get (ci := 6) (v := .ref (ad 13)) (C := R_MO) (T := F_MO) (N := 24) hx hb hg in_MO hown hK hw.1 0 rfl rfl 18 (by decide) (hg _ q_767) (fun _ h9 => h9) rfl d_MO_starsFit_128 ?_
                      refine lv_aload_n hx hb d_MO_starsFit_131 rfl (lv_at hl 0 rfl) ?_
                      refine va_get (ci := 6) (v := .ref (ad 18)) (C := R_MO) (T := F_MO) (N := 24) hx hb hg in_MO hown hK hw.1 0 rfl rfl 23 (by decide) (hg _ q_772) (fun _ h9 => h9) rfl d_MO_starsFit_132 ?_
                      refine lv_iload_n hx hb d_MO_starsFit_135 rfl (lv_at hl 3 rfl) ?_
                      refine oc h (fun hc2 h => ?_)
                      refine va_iald hx hb hK hw.1 18 0 rfl rfl hc2 d_MO_starsFit_136 ?_
                      refine oc h (fun hc3 h => ?_)
                      refine va_iald hx hb hK hw.1 13 0 rfl rfl hc3 d_MO_starsFit_137 ?_
                      refine lv_if_ne (tgt := 145) hx hb d_MO_starsFit_138 (by decide) (fun hc => ?_) (fun hc => ?_)
                      · have h := oe h hc
                        refine lv_iconst (v := 0) hx hb d_MO_starsFit_145 (by decide) ?_
                        refine lv_istore_n (lv' := [(1, .int (0 : Int32)), (0, .ref (ad 0)), (2, .int x83.2), (3, .int x98.2)]) hx hb d_MO_starsFit_146 rfl hl (by decide) rfl (fun ls hl => ?_)
                        refine lv_iinc (k := 3) (v := x98.2 + 1) (lv' := [(3, .int (x98.2 + 1)), (1, .int (0 : Int32)), (0, .ref (ad 0)), (2, .int x83.2)]) hx hb d_MO_starsFit_147 hl rfl (by rw [lit1]) (by decide) rfl (fun ls hl => ?_)
                        refine lv_goto (tgt := 98) hx hb d_MO_starsFit_150 (by decide) ?_
                        have q := Option.some.inj h
                        subst q
                        exact ih98 ((0 : Int32), x98.2 + 1) e98 hk98 hr98 _ _ _ (lv_sub hl [2, 1, 3, 0] rfl) hw
                      · have h := oi h hc
                        refine lv_iconst (v := 1) hx hb d_MO_starsFit_141 (by decide) ?_
                        refine lv_goto (tgt := 146) hx hb d_MO_starsFit_142 (by decide) ?_
                        refine lv_istore_n (lv' := [(1, .int (1 : Int32)), (0, .ref (ad 0)), (2, .int x83.2), (3, .int x98.2)]) hx hb d_MO_starsFit_146 rfl hl (by decide) rfl (fun ls hl => ?_)
                        refine lv_iinc (k := 3) (v := x98.2 + 1) (lv' := [(3, .int (x98.2 + 1)), (1, .int (1 : Int32)), (0, .ref (ad 0)), (2, .int x83.2)]) hx hb d_MO_starsFit_147 hl rfl (by rw [lit1]) (by decide) rfl (fun ls hl => ?_)
                        refine lv_goto (tgt := 98) hx hb d_MO_starsFit_150 (by decide) ?_
                        have q := Option.some.inj h
                        subst q
                        exact ih98 ((1 : Int32), x98.2 + 1) e98 hk98 hr98 _ _ _ (lv_sub hl [2, 1, 3, 0] rfl) hw
            refine ob h (fun e98 h1 h2 => ?_)
            exact L98 N (x83.1, (8 : Int32) * x83.2) e98 h1 h2 _ _ _ (lv_sub hl [1, 2, 3, 0] rfl) hw
    refine ob h (fun e83 h1 h2 => ?_)
    exact L83 N (y4.1, (0 : Int32)) e83 h1 h2 _ _ _ (lv_sub hl [1, 2, 0] rfl) hw
  have L4 : ∀ (n4 : Nat) (x4 : Int32 × Int32) (e4 : Int32 × Int32), lp (mb_MO_starsFit_4 N ce gr fl) n4 x4 = some e4 → (mr_MO_starsFit_4 N fl bd bs) e4 = some out → ∀ (ls : Array Slot) (H : Heap) (locs : List Loc), lv_has ls 5 [(0, .ref (ad 0)), (1, .int x4.1), (2, .int x4.2)] → fw_H D vwCl A s.heap (wM ad cI cL th ki ce wi ma fo cu gr ru nu gv ca nw lo ke un cn fi fl pa sh od bd bs) H locs → W p l e R s m args below meth c H locs 0 0 Q (F0 m 4 ls []) := by
    intro n4
    induction n4 with
    | zero => intro x4 e4 h1; exact absurd h1 lp_0
    | succ n4 ih4 =>
      intro x4 e4 h1 hr4 ls H locs hl hw
      rw [lp_s] at h1
      refine ob h1 (fun r4 h hk4 => ?_)
      unfold mb_MO_starsFit_4 at h
      refine lv_iload_n hx hb d_MO_starsFit_4 rfl (lv_at hl 2 rfl) ?_
      refine lv_iconst (v := 5) hx hb d_MO_starsFit_5 (by decide) ?_
      refine lv_icmp_ge (tgt := 81) hx hb d_MO_starsFit_6 (by decide) (fun hc => ?_) (fun hc => ?_)
      · have h := oi h hc
        have q := Option.some.inj h
        subst q
        have q := Option.some.inj hk4
        subst q
        exact X4 (x4.1, x4.2) hr4 _ _ _ (lv_sub hl [0, 1] rfl) hw
      · have h := oe h hc
        refine lv_iconst (v := 0) hx hb d_MO_starsFit_9 (by decide) ?_
        refine lv_istore_n (lv' := [(3, .int (0 : Int32)), (0, .ref (ad 0)), (1, .int x4.1), (2, .int x4.2)]) hx hb d_MO_starsFit_10 rfl hl (by decide) rfl (fun ls hl => ?_)
        refine lv_iconst (v := 0) hx hb d_MO_starsFit_11 (by decide) ?_
        refine lv_istore (lv' := [(4, .int (0 : Int32)), (3, .int (0 : Int32)), (0, .ref (ad 0)), (1, .int x4.1), (2, .int x4.2)]) hx hb d_MO_starsFit_12 hl (by decide) rfl (fun ls hl => ?_)
        have X14 : ∀ (y14 : Int32 × Int32), mr_MO_starsFit_14 N ce gr x4 y14 = some r4 → ∀ (ls : Array Slot) (H : Heap) (locs : List Loc), lv_has ls 5 [(0, .ref (ad 0)), (1, .int x4.1), (2, .int x4.2), (3, .int y14.1)] → fw_H D vwCl A s.heap (wM ad cI cL th ki ce wi ma fo cu gr ru nu gv ca nw lo ke un cn fi fl pa sh od bd bs) H locs → W p l e R s m args below meth c H locs 0 0 Q (F0 m 52 ls []) := by
          intro y14 h ls H locs hl hw
          unfold mr_MO_starsFit_14 at h
          refine lv_iload_n hx hb d_MO_starsFit_52 rfl (lv_at hl 1 rfl) ?_
          refine lv_if_eq (tgt := 73) hx hb d_MO_starsFit_53 (by decide) (fun hc => ?_) (fun hc => ?_)
          · have h := oi h hc
            refine lv_iconst (v := 0) hx hb d_MO_starsFit_73 (by decide) ?_
            refine lv_istore_n (lv' := [(1, .int (0 : Int32)), (0, .ref (ad 0)), (2, .int x4.2), (3, .int y14.1)]) hx hb d_MO_starsFit_74 rfl hl (by decide) rfl (fun ls hl => ?_)
            refine lv_iinc (k := 2) (v := x4.2 + 1) (lv' := [(2, .int (x4.2 + 1)), (1, .int (0 : Int32)), (0, .ref (ad 0)), (3, .int y14.1)]) hx hb d_MO_starsFit_75 hl rfl (by rw [lit1]) (by decide) rfl (fun ls hl => ?_)
            refine lv_goto (tgt := 4) hx hb d_MO_starsFit_78 (by decide) ?_
            have q := Option.some.inj h
            subst q
            exact ih4 ((0 : Int32), x4.2 + 1) e4 hk4 hr4 _ _ _ (lv_sub hl [2, 1, 0] rfl) hw
          · have h := oe h hc
            refine lv_iload_n hx hb d_MO_starsFit_56 rfl (lv_at hl 3 rfl) ?_
            refine lv_iconst (v := 1) hx hb d_MO_starsFit_57 (by decide) ?_
            refine lv_icmp_eq (tgt := 69) hx hb d_MO_starsFit_58 (by decide) (fun hc => ?_) (fun hc => ?_)
            · have h := oi h hc
              refine lv_iconst (v := 1) hx hb d_MO_starsFit_69 (by decide) ?_
              refine lv_goto (tgt := 74) hx hb d_MO_starsFit_70 (by decide) ?_
              refine lv_istore_n (lv' := [(1, .int (1 : Int32)), (0, .ref (ad 0)), (2, .int x4.2), (3, .int y14.1)]) hx hb d_MO_starsFit_74 rfl hl (by decide) rfl (fun ls hl => ?_)
              refine lv_iinc (k := 2) (v := x4.2 + 1) (lv' := [(2, .int (x4.2 + 1)), (1, .int (1 : Int32)), (0, .ref (ad 0)), (3, .int y14.1)]) hx hb d_MO_starsFit_75 hl rfl (by rw [lit1]) (by decide) rfl (fun ls hl => ?_)
              refine lv_goto (tgt := 4) hx hb d_MO_starsFit_78 (by decide) ?_
              have q := Option.some.inj h
              subst q
              exact ih4 ((1 : Int32), x4.2 + 1) e4 hk4 hr4 _ _ _ (lv_sub hl [2, 1, 0] rfl) hw
            · have h := oe h hc
              refine lv_aload_n hx hb d_MO_starsFit_61 rfl (lv_at hl 0 rfl) ?_
              refine lv_iload_n hx hb d_MO_starsFit_62 rfl (lv_at hl 2 rfl) ?_
              refine ob h (fun r63 h63 h => ?_)
              refine fw_callV (As := [.int x4.2]) (rest := []) (st1 := [.int r63]) S (ct_MO_sizeOf l D ad cI cL N th ki ce wi ma fo cu gr ru nu gv ca nw lo ke un cn fi fl pa sh od bd bs x4.2 r63 h63) q_849 q_851 s_21 q_10 k_MO_sizeOf hd_MO_sizeOf ⟨by rw [hR]; decide, by rw [hR]; decide⟩ rfl rfl hX hw hA 0 (ci := 6) rfl rfl hl.1 rfl rfl (Nat.le_of_ble_eq_true rfl) d_MO_starsFit_63 ⟨Nat.zero_le _, Nat.zero_le _⟩ rfl (fun H locs hw => ?_)
              refine lv_if_ne (tgt := 73) hx hb d_MO_starsFit_66 (by decide) (fun hc => ?_) (fun hc => ?_)
              · have h := oe h hc
                refine lv_iconst (v := 0) hx hb d_MO_starsFit_73 (by decide) ?_
                refine lv_istore_n (lv' := [(1, .int (0 : Int32)), (0, .ref (ad 0)), (2, .int x4.2), (3, .int y14.1)]) hx hb d_MO_starsFit_74 rfl hl (by decide) rfl (fun ls hl => ?_)
                refine lv_iinc (k := 2) (v := x4.2 + 1) (lv' := [(2, .int (x4.2 + 1)), (1, .int (0 : Int32)), (0, .ref (ad 0)), (3, .int y14.1)]) hx hb d_MO_starsFit_75 hl rfl (by rw [lit1]) (by decide) rfl (fun ls hl => ?_)
                refine lv_goto (tgt := 4) hx hb d_MO_starsFit_78 (by decide) ?_
                have q := Option.some.inj h
                subst q
                exact ih4 ((0 : Int32), x4.2 + 1) e4 hk4 hr4 _ _ _ (lv_sub hl [2, 1, 0] rfl) hw
              · have h := oi h hc
                refine lv_iconst (v := 1) hx hb d_MO_starsFit_69 (by decide) ?_
                refine lv_goto (tgt := 74) hx hb d_MO_starsFit_70 (by decide) ?_
                refine lv_istore_n (lv' := [(1, .int (1 : Int32)), (0, .ref (ad 0)), (2, .int x4.2), (3, .int y14.1)]) hx hb d_MO_starsFit_74 rfl hl (by decide) rfl (fun ls hl => ?_)
                refine lv_iinc (k := 2) (v := x4.2 + 1) (lv' := [(2, .int (x4.2 + 1)), (1, .int (1 : Int32)), (0, .ref (ad 0)), (3, .int y14.1)]) hx hb d_MO_starsFit_75 hl rfl (by rw [lit1]) (by decide) rfl (fun ls hl => ?_)
                refine lv_goto (tgt := 4) hx hb d_MO_starsFit_78 (by decide) ?_
                have q := Option.some.inj h
                subst q
                exact ih4 ((1 : Int32), x4.2 + 1) e4 hk4 hr4 _ _ _ (lv_sub hl [2, 1, 0] rfl) hw
        have L14 : ∀ (n14 : Nat) (x14 : Int32 × Int32) (e14 : Int32 × Int32), lp (mb_MO_starsFit_14 gr fl x4) n14 x14 = some e14 → (mr_MO_starsFit_14 N ce gr x4) e14 = some r4 → ∀ (ls : Array Slot) (H : Heap) (locs : List Loc), lv_has ls 5 [(0, .ref (ad 0)), (1, .int x4.1), (2, .int x4.2), (3, .int x14.1), (4, .int x14.2)] → fw_H D vwCl A s.heap (wM ad cI cL th ki ce wi ma fo cu gr ru nu gv ca nw lo ke un cn fi fl pa sh od bd bs) H locs → W p l e R s m args below meth c H locs 0 0 Q (F0 m 14 ls []) := by
          intro n14
          induction n14 with
          | zero => intro x14 e14 h1; exact absurd h1 lp_0
          | succ n14 ih14 =>
            intro x14 e14 h1 hr14 ls H locs hl hw
            rw [lp_s] at h1
            refine ob h1 (fun r14 h hk14 => ?_)
            unfold mb_MO_starsFit_14 at h
            refine lv_iload hx hb d_MO_starsFit_14 (lv_at hl 4 rfl) ?_
            refine lv_bipush (v := 25) hx hb d_MO_starsFit_16 (by decide) ?_
            refine lv_icmp_ge (tgt := 52) hx hb d_MO_starsFit_18 (by decide) (fun hc => ?_) (fun hc => ?_)
            · have h := oi h hc
              have q := Option.some.inj h
              subst q
              have q := Option.some.inj hk14
              subst q
              exact X14 (x14.1, x14.2) hr14 _ _ _ (lv_sub hl [0, 1, 2, 3] rfl) hw
            · have h := oe h hc
              refine lv_iload_n hx hb d_MO_starsFit_21 rfl (lv_at hl 3 rfl) ?_
              refine lv_aload_n hx hb d_MO_starsFit_22 rfl (lv_at hl 0 rfl) ?_
              refine va_get (ci := 6) (v := .ref (ad 2)) (C := R_MO) (T := F_MO) (N := 24) hx hb hg in_MO hown hK hw.1 0 rfl rfl 5 (by decide) (hg _ q_754) (fun _ h9 => h9) rfl d_MO_starsFit_23 ?_
              refine lv_iload hx hb d_MO_starsFit_26 (lv_at hl 4 rfl) ?_
              refine oc h (fun hc4 h => ?_)
              refine va_iald hx hb hK hw.1 2 0 rfl rfl hc4 d_MO_starsFit_28 ?_
              refine lv_iload_n hx hb d_MO_starsFit_29 rfl (lv_at hl 2 rfl) ?_
              refine lv_icmp_ne (tgt := 43) hx hb d_MO_starsFit_30 (by decide) (fun hc => ?_) (fun hc => ?_)
              · have h := oe h hc
                refine lv_iconst (v := 0) hx hb d_MO_starsFit_43 (by decide) ?_
                refine lv_iadd hx hb d_MO_starsFit_44 ?_
                refine lv_istore_n (lv' := [(3, .int (x14.1 + (0 : Int32))), (0, .ref (ad 0)), (1, .int x4.1), (2, .int x4.2), (4, .int x14.2)]) hx hb d_MO_starsFit_45 rfl hl (by decide) rfl (fun ls hl => ?_)
                refine lv_iinc (k := 4) (v := x14.2 + 1) (lv' := [(4, .int (x14.2 + 1)), (3, .int (x14.1 + (0 : Int32))), (0, .ref (ad 0)), (1, .int x4.1), (2, .int x4.2)]) hx hb d_MO_starsFit_46 hl rfl (by rw [lit1]) (by decide) rfl (fun ls hl => ?_)
                refine lv_goto (tgt := 14) hx hb d_MO_starsFit_49 (by decide) ?_
                have q := Option.some.inj h
                subst q
                exact ih14 (x14.1 + (0 : Int32), x14.2 + 1) e14 hk14 hr14 _ _ _ (lv_sub hl [2, 3, 4, 1, 0] rfl) hw
              · have h := oi h hc
                refine lv_aload_n hx hb d_MO_starsFit_33 rfl (lv_at hl 0 rfl) ?_
                refine va_get (ci := 6) (v := .ref (ad 13)) (C := R_MO) (T := F_MO) (N := 24) hx hb hg in_MO hown hK hw.1 0 rfl rfl 18 (by decide) (hg _ q_767) (fun _ h9 => h9) rfl d_MO_starsFit_34 ?_
                refine lv_iload hx hb d_MO_starsFit_37 (lv_at hl 4 rfl) ?_
                refine va_iald hx hb hK hw.1 13 0 rfl rfl hc4 d_MO_starsFit_39 ?_
                refine lv_goto (tgt := 44) hx hb d_MO_starsFit_40 (by decide) ?_
                refine lv_iadd hx hb d_MO_starsFit_44 ?_
                refine lv_istore_n (lv' := [(3, .int (x14.1 + (fl x14.2.toNatClampNeg))), (0, .ref (ad 0)), (1, .int x4.1), (2, .int x4.2), (4, .int x14.2)]) hx hb d_MO_starsFit_45 rfl hl (by decide) rfl (fun ls hl => ?_)
                refine lv_iinc (k := 4) (v := x14.2 + 1) (lv' := [(4, .int (x14.2 + 1)), (3, .int (x14.1 + (fl x14.2.toNatClampNeg))), (0, .ref (ad 0)), (1, .int x4.1), (2, .int x4.2)]) hx hb d_MO_starsFit_46 hl rfl (by rw [lit1]) (by decide) rfl (fun ls hl => ?_)
                refine lv_goto (tgt := 14) hx hb d_MO_starsFit_49 (by decide) ?_
                have q := Option.some.inj h
                subst q
                exact ih14 (x14.1 + (fl x14.2.toNatClampNeg), x14.2 + 1) e14 hk14 hr14 _ _ _ (lv_sub hl [2, 3, 4, 1, 0] rfl) hw
        refine ob h (fun e14 h1 h2 => ?_)
        exact L14 N ((0 : Int32), (0 : Int32)) e14 h1 h2 _ _ _ (lv_sub hl [2, 3, 4, 1, 0] rfl) hw
  refine ob h (fun e4 h1 h2 => ?_)
  exact L4 N ((1 : Int32), (0 : Int32)) e4 h1 h2 _ _ _ (lv_sub hl [2, 1, 0] rfl) hw
set_option maxHeartbeats 4000000 in
set_option maxRecDepth 100000 in
theorem ct_MO_isFilling (l : Launch) (D : va_G) (ad : Nat → Nat) (cI cL : ClassId) (N : Nat) (th : Int32) (ki : Int32) (ce : Int32) (wi : Int32) (ma : Int32) (fo : Int32) (cu : Nat → Int32) (gr : Nat → Int32) (ru : Nat → Int32) (nu : Nat → Int32) (gv : Nat → Int32) (ca : Nat → Int32) (nw : Nat → Int32) (lo : Nat → Int32) (ke : Nat → Int32) (un : Nat → Int32) (cn : Nat → Int32) (fi : Nat → Int32) (fl : Nat → Int32) (pa : Nat → Int32) (sh : Nat → Int32) (od : Nat → Int32) (bd : Nat → Int32) (bs : Nat → Int32)  (out : Int32) (h : mi_MO_isFilling N ki ce cu gr ru nu fl sh bd bs = some out) : fw_C l y_MO_isFilling (.code y_MO_isFilling b_MO_isFilling 1 (some .boolean) :: Gw) (fr 2 47) D vwCl (tyA cI cL) [.ref (ad 0)] (wM ad cI cL th ki ce wi ma fo cu gr ru nu gv ca nw lo ke un cn fi fl pa sh od bd bs) (some (.int out)) (wM ad cI cL th ki ce wi ma fo cu gr ru nu gv ca nw lo ke un cn fi fl pa sh od bd bs) := by
  refine fw_of (by decide) (Nat.le_of_ble_eq_true rfl) ?_
  intro p e s m args below meth c ls A R Q hR hQ S hr hlk hX hA hl hw
  have hK := hX.1
  have hx := S.1
  have hb := S.2.1
  have hown := S.2.2.2.1
  have hg := S.2.2.2.2
  have hl : lv_has ls 1 [(0, .ref (ad 0))] := hl
  unfold mi_MO_isFilling at h
  refine lv_aload_n hx hb d_MO_isFilling_0 rfl (lv_at hl 0 rfl) ?_
  refine va_get (ci := 6) (v := .int ki) (C := R_MO) (T := F_MO) (N := 24) hx hb hg in_MO hown hK hw.1 0 rfl rfl 1 (by decide) (hg _ q_750) (fun _ h9 => h9) rfl d_MO_isFilling_1 ?_
  refine lv_iconst (v := 1) hx hb d_MO_isFilling_4 (by decide) ?_
  refine lv_icmp_ne (tgt := 15) hx hb d_MO_isFilling_5 (by decide) (fun hc => ?_) (fun hc => ?_)
  · have h := oe h hc
    refine lv_aload_n hx hb d_MO_isFilling_15 rfl (lv_at hl 0 rfl) ?_
    refine ob h (fun r16 h16 h => ?_)
    refine fw_callV (As := []) (rest := []) (st1 := [.int r16]) S (ct_MO_columnsFit l D ad cI cL N th ki ce wi ma fo cu gr ru nu gv ca nw lo ke un cn fi fl pa sh od bd bs r16 h16) q_896 q_898 s_28 q_10 k_MO_columnsFit hd_MO_columnsFit ⟨by rw [hR]; decide, by rw [hR]; decide⟩ rfl rfl hX hw hA 0 (ci := 6) rfl rfl hl.1 rfl rfl (Nat.le_of_ble_eq_true rfl) d_MO_isFilling_16 ⟨Nat.zero_le _, Nat.zero_le _⟩ rfl (fun H locs hw => ?_)
    refine lv_if_eq (tgt := 40) hx hb d_MO_isFilling_19 (by decide) (fun hc => ?_) (fun hc => ?_)
    · have h := oi h hc
      refine lv_iconst (v := 0) hx hb d_MO_isFilling_40 (by decide) ?_
      have q := Option.some.inj h
      subst q
      exact fw_zret hQ S hr rfl hlk hX hw d_MO_isFilling_41
    · have h := oe h hc
      refine lv_aload_n hx hb d_MO_isFilling_22 rfl (lv_at hl 0 rfl) ?_
      refine va_get (ci := 6) (v := .int ki) (C := R_MO) (T := F_MO) (N := 24) hx hb hg in_MO hown hK hw.1 0 rfl rfl 1 (by decide) (hg _ q_750) (fun _ h9 => h9) rfl d_MO_isFilling_23 ?_
      refine lv_if_eq (tgt := 36) hx hb d_MO_isFilling_26 (by decide) (fun hc => ?_) (fun hc => ?_)
      · have h := oi h hc
        refine lv_iconst (v := 1) hx hb d_MO_isFilling_36 (by decide) ?_
        refine lv_goto (tgt := 41) hx hb d_MO_isFilling_37 (by decide) ?_
        have q := Option.some.inj h
        subst q
        exact fw_zret hQ S hr rfl hlk hX hw d_MO_isFilling_41
      · have h := oe h hc
        refine lv_aload_n hx hb d_MO_isFilling_29 rfl (lv_at hl 0 rfl) ?_
        refine ob h (fun r30 h30 h => ?_)
        refine fw_callV (As := []) (rest := []) (st1 := [.int r30]) S (ct_MO_starsFit l D ad cI cL N th ki ce wi ma fo cu gr ru nu gv ca nw lo ke un cn fi fl pa sh od bd bs r30 h30) q_900 q_902 s_29 q_10 k_MO_starsFit hd_MO_starsFit ⟨by rw [hR]; decide, by rw [hR]; decide⟩ rfl rfl hX hw hA 0 (ci := 6) rfl rfl hl.1 rfl rfl (Nat.le_of_ble_eq_true rfl) d_MO_isFilling_30 ⟨Nat.zero_le _, Nat.zero_le _⟩ rfl (fun H locs hw => ?_)
        refine lv_if_eq (tgt := 40) hx hb d_MO_isFilling_33 (by decide) (fun hc => ?_) (fun hc => ?_)
        · have h := oi h hc
          refine lv_iconst (v := 0) hx hb d_MO_isFilling_40 (by decide) ?_
          have q := Option.some.inj h
          subst q
          exact fw_zret hQ S hr rfl hlk hX hw d_MO_isFilling_41
        · have h := oe h hc
          refine lv_iconst (v := 1) hx hb d_MO_isFilling_36 (by decide) ?_
          refine lv_goto (tgt := 41) hx hb d_MO_isFilling_37 (by decide) ?_
          have q := Option.some.inj h
          subst q
          exact fw_zret hQ S hr rfl hlk hX hw d_MO_isFilling_41
  · have h := oi h hc
    refine lv_aload_n hx hb d_MO_isFilling_8 rfl (lv_at hl 0 rfl) ?_
    refine ob h (fun r9 h9 h => ?_)
    refine fw_callV (As := []) (rest := []) (st1 := [.int r9]) S (ct_MO_groupsFit l D ad cI cL N th ki ce wi ma fo cu gr ru nu gv ca nw lo ke un cn fi fl pa sh od bd bs r9 h9) q_892 q_894 s_27 q_10 k_MO_groupsFit hd_MO_groupsFit ⟨by rw [hR]; decide, by rw [hR]; decide⟩ rfl rfl hX hw hA 0 (ci := 6) rfl rfl hl.1 rfl rfl (Nat.le_of_ble_eq_true rfl) d_MO_isFilling_9 ⟨Nat.zero_le _, Nat.zero_le _⟩ rfl (fun H locs hw => ?_)
    refine lv_goto (tgt := 41) hx hb d_MO_isFilling_12 (by decide) ?_
    refine oc h (fun hc h => ?_)
    have q := Option.some.inj h
    subst q
    exact fw_zret hQ S hr (fw_nz hc) hlk hX hw d_MO_isFilling_41
set_option maxHeartbeats 4000000 in
set_option maxRecDepth 100000 in
theorem ct_MO_search (l : Launch) (D : va_G) (ad : Nat → Nat) (cI cL : ClassId) (N : Nat) (th : Int32) (ki : Int32) (ce : Int32) (wi : Int32) (ma : Int32) (fo : Int32) (cu : Nat → Int32) (gr : Nat → Int32) (ru : Nat → Int32) (nu : Nat → Int32) (gv : Nat → Int32) (ca : Nat → Int32) (nw : Nat → Int32) (lo : Nat → Int32) (ke : Nat → Int32) (un : Nat → Int32) (cn : Nat → Int32) (fi : Nat → Int32) (fl : Nat → Int32) (pa : Nat → Int32) (sh : Nat → Int32) (od : Nat → Int32) (bd : Nat → Int32) (bs : Nat → Int32)  (out : Int32 × (Nat → Int32) × (Nat → Int32) × (Nat → Int32)) (h : mi_MO_search N ki ce wi fo cu gr ru nu gv fi fl pa sh od bd bs = some out) : fw_C l y_MO_search (.code y_MO_search b_MO_search 4 (none) :: Gw) (fr 3 67) D vwCl (tyA cI cL) [.ref (ad 0)] (wM ad cI cL th ki ce wi ma fo cu gr ru nu gv ca nw lo ke un cn fi fl pa sh od bd bs) none (wM ad cI cL th ki ce wi ma out.1 cu gr ru nu gv ca nw lo ke un cn out.2.1 out.2.2.1 out.2.2.2 sh od bd bs) := by
  refine fw_of (by decide) (Nat.le_of_ble_eq_true rfl) ?_
  intro p e s m args below meth c ls A R Q hR hQ S hr hlk hX hA hl hw
  have hK := hX.1
  have hx := S.1
  have hb := S.2.1
  have hown := S.2.2.2.1
  have hg := S.2.2.2.2
  have hl : lv_has ls 4 [(0, .ref (ad 0))] := hl
  unfold mi_MO_search at h
  refine lv_aload_n hx hb d_MO_search_0 rfl (lv_at hl 0 rfl) ?_
  refine lv_iconst (v := 0) hx hb d_MO_search_1 (by decide) ?_
  refine va_put (ci := 6) (v := .int (0 : Int32)) (ty := .int) (C := R_MO) (T := F_MO) (N := 24) hx hb hg in_MO t_MO t_MO_ok n_MO hown hK hw.1 hw.2.1 hw.2.2 0 rfl rfl 16 (by decide) (hg _ q_765) (fun _ h9 => h9) rfl (by decide +kernel) rfl rfl (Nat.le_of_ble_eq_true rfl) d_MO_search_2 (fun H locs hP hD hS => ?_)
  have hw : fw_H D vwCl A s.heap (wM ad cI cL th ki ce wi ma (0 : Int32) cu gr ru nu gv ca nw lo ke un cn fi fl pa sh od bd bs) H locs := ⟨hP, hD, hS⟩
  refine lv_aload_n hx hb d_MO_search_5 rfl (lv_at hl 0 rfl) ?_
  refine va_get (ci := 6) (v := .int ki) (C := R_MO) (T := F_MO) (N := 24) hx hb hg in_MO hown hK hw.1 0 rfl rfl 1 (by decide) (hg _ q_750) (fun _ h9 => h9) rfl d_MO_search_6 ?_
  refine lv_iconst (v := 1) hx hb d_MO_search_9 (by decide) ?_
  have J20 : ∀ (j20s0 : Int32), mj_MO_search_20 N ki ce wi cu gr ru nu gv fi fl pa sh od bd bs j20s0 = some out → ∀ (ls : Array Slot) (H : Heap) (locs : List Loc), lv_has ls 4 [(0, .ref (ad 0))] → fw_H D vwCl A s.heap (wM ad cI cL th ki ce wi ma (0 : Int32) cu gr ru nu gv ca nw lo ke un cn fi fl pa sh od bd bs) H locs → W p l e R s m args below meth c H locs 0 0 Q (F0 m 20 ls [.int j20s0]) := by
    intro j20s0 h ls H locs hl hw
    unfold mj_MO_search_20 at h
    refine lv_istore_n (lv' := [(1, .int j20s0), (0, .ref (ad 0))]) hx hb d_MO_search_20 rfl hl (by decide) rfl (fun ls hl => ?_)
    refine lv_iconst (v := 0) hx hb d_MO_search_21 (by decide) ?_
    refine lv_istore_n (lv' := [(2, .int (0 : Int32)), (1, .int j20s0), (0, .ref (ad 0))]) hx hb d_MO_search_22 rfl hl (by decide) rfl (fun ls hl => ?_)
    refine lv_aload_n hx hb d_MO_search_23 rfl (lv_at hl 2 rfl) ?_
    refine va_get (ci := 6) (v := .ref (ad 14)) (C := R_MO) (T := F_MO) (N := 24) hx hb hg in_MO hown hK hw.1 0 rfl rfl 19 (by decide) (hg _ q_768) (fun _ h9 => h9) rfl d_MO_search_24 ?_
    refine lv_iconst (v := 0) hx hb d_MO_search_27 (by decide) ?_
    refine lv_iconst (v := (-1)) hx hb d_MO_search_28 (by decide) ?_
    refine oc h (fun hc1 h => ?_)
    refine va_iast hx hb hK hw.1 hw.2.1 hw.2.2 14 0 rfl rfl hc1 d_MO_search_29 (fun H locs hP hD hS => ?_)
    have hw : fw_H D vwCl A s.heap (wM ad cI cL th ki ce wi ma (0 : Int32) cu gr ru nu gv ca nw lo ke un cn fi fl (upd pa (0 : Int32).toNatClampNeg (-1 : Int32)) sh od bd bs) H locs := ⟨hP, hD, hS⟩
    have X30 : ∀ (y30 : Int32 × Int32 × (Nat → Int32) × (Nat → Int32) × (Nat → Int32)), mr_MO_search_30 y30 = some out → ∀ (ls : Array Slot) (H : Heap) (locs : List Loc), lv_has ls 4 [] → fw_H D vwCl A s.heap (wM ad cI cL th ki ce wi ma y30.2.1 cu gr ru nu gv ca nw lo ke un cn y30.2.2.1 y30.2.2.2.1 y30.2.2.2.2 sh od bd bs) H locs → W p l e R s m args below meth c H locs 0 0 Q (F0 m 182 ls []) := by
      intro y30 h ls H locs hl hw
      unfold mr_MO_search_30 at h
      have q := Option.some.inj h
      subst q
      exact fw_vret hQ S hr hlk hX hw d_MO_search_182
    have L30 : ∀ (n30 : Nat) (x30 : Int32 × Int32 × (Nat → Int32) × (Nat → Int32) × (Nat → Int32)) (e30 : Int32 × Int32 × (Nat → Int32) × (Nat → Int32) × (Nat → Int32)), lp (mb_MO_search_30 N ki ce wi cu gr ru nu gv sh od bd bs j20s0) n30 x30 = some e30 → (mr_MO_search_30) e30 = some out → ∀ (ls : Array Slot) (H : Heap) (locs : List Loc), lv_has ls 4 [(0, .ref (ad 0)), (1, .int j20s0), (2, .int x30.1)] → fw_H D vwCl A s.heap (wM ad cI cL th ki ce wi ma x30.2.1 cu gr ru nu gv ca nw lo ke un cn x30.2.2.1 x30.2.2.2.1 x30.2.2.2.2 sh od bd bs) H locs → W p l e R s m args below meth c H locs 0 0 Q (F0 m 30 ls []) := by
      intro n30
      induction n30 with
      | zero => intro x30 e30 h1; exact absurd h1 lp_0
      | succ n30 ih30 =>
        intro x30 e30 h1 hr30 ls H locs hl hw
        rw [lp_s] at h1
        refine ob h1 (fun r30 h hk30 => ?_)
        unfold mb_MO_search_30 at h
        refine lv_iload_n hx hb d_MO_search_30 rfl (lv_at hl 2 rfl) ?_
        refine lv_if_lt (tgt := 182) hx hb d_MO_search_31 (by decide) (fun hc => ?_) (fun hc => ?_)
        · have h := oi h hc
          have q := Option.some.inj h
          subst q
          have q := Option.some.inj hk30
          subst q
          exact X30 (x30.1, x30.2.1, x30.2.2.1, x30.2.2.2.1, x30.2.2.2.2) hr30 _ _ _ (lv_sub hl [] rfl) hw
        · have h := oe h hc
          refine lv_aload_n hx hb d_MO_search_34 rfl (lv_at hl 0 rfl) ?_
          refine va_get (ci := 6) (v := .int x30.2.1) (C := R_MO) (T := F_MO) (N := 24) hx hb hg in_MO hown hK hw.1 0 rfl rfl 16 (by decide) (hg _ q_765) (fun _ h9 => h9) rfl d_MO_search_35 ?_
          refine lv_iconst (v := 2) hx hb d_MO_search_38 (by decide) ?_
          refine lv_icmp_ge (tgt := 182) hx hb d_MO_search_39 (by decide) (fun hc => ?_) (fun hc => ?_)
          · have h := oi h hc
            have q := Option.some.inj h
            subst q
            have q := Option.some.inj hk30
            subst q
            exact X30 (x30.1, x30.2.1, x30.2.2.1, x30.2.2.2.1, x30.2.2.2.2) hr30 _ _ _ (lv_sub hl [] rfl) hw
          · have h := oe h hc
            refine lv_aload_n hx hb d_MO_search_42 rfl (lv_at hl 0 rfl) ?_
            refine va_get (ci := 6) (v := .ref (ad 14)) (C := R_MO) (T := F_MO) (N := 24) hx hb hg in_MO hown hK hw.1 0 rfl rfl 19 (by decide) (hg _ q_768) (fun _ h9 => h9) rfl d_MO_search_43 ?_
            refine lv_iload_n hx hb d_MO_search_46 rfl (lv_at hl 2 rfl) ?_
            refine lv_dup2_11 hx hb d_MO_search_47 rfl rfl ?_
            refine oc h (fun hc2 h => ?_)
            refine va_iald hx hb hK hw.1 14 0 rfl rfl hc2 d_MO_search_48 ?_
            refine lv_iconst (v := 1) hx hb d_MO_search_49 (by decide) ?_
            refine lv_iadd hx hb d_MO_search_50 ?_
            refine va_iast hx hb hK hw.1 hw.2.1 hw.2.2 14 0 rfl rfl hc2 d_MO_search_51 (fun H locs hP hD hS => ?_)
            have hw : fw_H D vwCl A s.heap (wM ad cI cL th ki ce wi ma x30.2.1 cu gr ru nu gv ca nw lo ke un cn x30.2.2.1 x30.2.2.2.1 (upd x30.2.2.2.2 x30.1.toNatClampNeg ((x30.2.2.2.2 x30.1.toNatClampNeg) + (1 : Int32))) sh od bd bs) H locs := ⟨hP, hD, hS⟩
            refine lv_aload_n hx hb d_MO_search_52 rfl (lv_at hl 0 rfl) ?_
            refine va_get (ci := 6) (v := .ref (ad 14)) (C := R_MO) (T := F_MO) (N := 24) hx hb hg in_MO hown hK hw.1 0 rfl rfl 19 (by decide) (hg _ q_768) (fun _ h9 => h9) rfl d_MO_search_53 ?_
            refine lv_iload_n hx hb d_MO_search_56 rfl (lv_at hl 2 rfl) ?_
            refine va_iald hx hb hK hw.1 14 0 rfl rfl hc2 d_MO_search_57 ?_
            refine lv_iload_n hx hb d_MO_search_58 rfl (lv_at hl 1 rfl) ?_
            refine lv_icmp_ne (tgt := 68) hx hb d_MO_search_59 (by decide) (fun hc => ?_) (fun hc => ?_)
            · have h := oe h hc
              refine lv_aload_n hx hb d_MO_search_68 rfl (lv_at hl 0 rfl) ?_
              refine lv_iload_n hx hb d_MO_search_69 rfl (lv_at hl 2 rfl) ?_
              refine lv_aload_n hx hb d_MO_search_70 rfl (lv_at hl 0 rfl) ?_
              refine va_get (ci := 6) (v := .int ki) (C := R_MO) (T := F_MO) (N := 24) hx hb hg in_MO hown hK hw.1 0 rfl rfl 1 (by decide) (hg _ q_750) (fun _ h9 => h9) rfl d_MO_search_71 ?_
              refine lv_iconst (v := 1) hx hb d_MO_search_74 (by decide) ?_
              have J98 : ∀ (j98s2 : Int32), mj_MO_search_98 N ki ce wi cu gr ru nu gv sh bd bs x30 j98s2 = some r30 → ∀ (ls : Array Slot) (H : Heap) (locs : List Loc), lv_has ls 4 [(0, .ref (ad 0)), (1, .int j20s0), (2, .int x30.1)] → fw_H D vwCl A s.heap (wM ad cI cL th ki ce wi ma x30.2.1 cu gr ru nu gv ca nw lo ke un cn x30.2.2.1 x30.2.2.2.1 (upd x30.2.2.2.2 x30.1.toNatClampNeg ((x30.2.2.2.2 x30.1.toNatClampNeg) + (1 : Int32))) sh od bd bs) H locs → W p l e R s m args below meth c H locs 0 0 Q (F0 m 98 ls [.int j98s2, .int x30.1, .ref (ad 0)]) := by
                intro j98s2 h ls H locs hl hw
                unfold mj_MO_search_98 at h
                refine ob h (fun r98 h98 h => ?_)
                refine fw_callV (As := [.int x30.1, .int j98s2]) (rest := []) (st1 := [.int r98.1]) S (ct_MO_lay l D ad cI cL N th ki ce wi ma x30.2.1 cu gr ru nu gv ca nw lo ke un cn x30.2.2.1 x30.2.2.2.1 (upd x30.2.2.2.2 x30.1.toNatClampNeg ((x30.2.2.2.2 x30.1.toNatClampNeg) + (1 : Int32))) sh od bd bs x30.1 j98s2 r98 h98) q_877 q_879 s_24 q_10 k_MO_lay hd_MO_lay ⟨by rw [hR]; decide, by rw [hR]; decide⟩ rfl rfl hX hw hA 0 (ci := 6) rfl rfl hl.1 rfl rfl (Nat.le_of_ble_eq_true rfl) d_MO_search_98 ⟨Nat.zero_le _, Nat.zero_le _⟩ rfl (fun H locs hw => ?_)
                refine lv_if_eq (tgt := 30) hx hb d_MO_search_101 (by decide) (fun hc => ?_) (fun hc => ?_)
                · have h := oi h hc
                  have q := Option.some.inj h
                  subst q
                  exact ih30 (x30.1, x30.2.1, x30.2.2.1, r98.2, upd x30.2.2.2.2 x30.1.toNatClampNeg ((x30.2.2.2.2 x30.1.toNatClampNeg) + (1 : Int32))) e30 hk30 hr30 _ _ _ hl hw
                · have h := oe h hc
                  refine lv_iload_n hx hb d_MO_search_104 rfl (lv_at hl 2 rfl) ?_
                  refine lv_aload_n hx hb d_MO_search_105 rfl (lv_at hl 0 rfl) ?_
                  refine va_get (ci := 6) (v := .int wi) (C := R_MO) (T := F_MO) (N := 24) hx hb hg in_MO hown hK hw.1 0 rfl rfl 3 (by decide) (hg _ q_752) (fun _ h9 => h9) rfl d_MO_search_106 ?_
                  refine lv_iconst (v := 1) hx hb d_MO_search_109 (by decide) ?_
                  refine lv_isub hx hb d_MO_search_110 ?_
                  refine lv_icmp_ge (tgt := 127) hx hb d_MO_search_111 (by decide) (fun hc => ?_) (fun hc => ?_)
                  · have h := oi h hc
                    refine lv_aload_n hx hb d_MO_search_127 rfl (lv_at hl 0 rfl) ?_
                    refine ob h (fun r128 h128 h => ?_)
                    refine fw_callV (As := []) (rest := []) (st1 := [.int r128]) S (ct_MO_isFilling l D ad cI cL N th ki ce wi ma x30.2.1 cu gr ru nu gv ca nw lo ke un cn x30.2.2.1 r98.2 (upd x30.2.2.2.2 x30.1.toNatClampNeg ((x30.2.2.2.2 x30.1.toNatClampNeg) + (1 : Int32))) sh od bd bs r128 h128) q_888 q_890 s_26 q_10 k_MO_isFilling hd_MO_isFilling ⟨by rw [hR]; decide, by rw [hR]; decide⟩ rfl rfl hX hw hA 0 (ci := 6) rfl rfl hl.1 rfl rfl (Nat.le_of_ble_eq_true rfl) d_MO_search_128 ⟨Nat.zero_le _, Nat.zero_le _⟩ rfl (fun H locs hw => ?_)
                    refine lv_if_eq (tgt := 30) hx hb d_MO_search_131 (by decide) (fun hc => ?_) (fun hc => ?_)
                    · have h := oi h hc
                      have q := Option.some.inj h
                      subst q
                      exact ih30 (x30.1, x30.2.1, x30.2.2.1, r98.2, upd x30.2.2.2.2 x30.1.toNatClampNeg ((x30.2.2.2.2 x30.1.toNatClampNeg) + (1 : Int32))) e30 hk30 hr30 _ _ _ hl hw
                    · have h := oe h hc
                      refine lv_iconst (v := 0) hx hb d_MO_search_134 (by decide) ?_
                      refine lv_istore_n (lv' := [(3, .int (0 : Int32)), (0, .ref (ad 0)), (1, .int j20s0), (2, .int x30.1)]) hx hb d_MO_search_135 rfl hl (by decide) rfl (fun ls hl => ?_)
                      have X136 : ∀ (y136 : Int32 × (Nat → Int32)), mr_MO_search_136 x30 r98 y136 = some r30 → ∀ (ls : Array Slot) (H : Heap) (locs : List Loc), lv_has ls 4 [(0, .ref (ad 0)), (1, .int j20s0), (2, .int x30.1)] → fw_H D vwCl A s.heap (wM ad cI cL th ki ce wi ma x30.2.1 cu gr ru nu gv ca nw lo ke un cn y136.2 r98.2 (upd x30.2.2.2.2 x30.1.toNatClampNeg ((x30.2.2.2.2 x30.1.toNatClampNeg) + (1 : Int32))) sh od bd bs) H locs → W p l e R s m args below meth c H locs 0 0 Q (F0 m 169 ls []) := by
                        intro y136 h ls H locs hl hw
                        unfold mr_MO_search_136 at h
                        refine lv_aload_n hx hb d_MO_search_169 rfl (lv_at hl 0 rfl) ?_
                        refine lv_dup hx hb d_MO_search_170 rfl ?_
                        refine va_get (ci := 6) (v := .int x30.2.1) (C := R_MO) (T := F_MO) (N := 24) hx hb hg in_MO hown hK hw.1 0 rfl rfl 16 (by decide) (hg _ q_765) (fun _ h9 => h9) rfl d_MO_search_171 ?_
                        refine lv_iconst (v := 1) hx hb d_MO_search_174 (by decide) ?_
                        refine lv_iadd hx hb d_MO_search_175 ?_
                        refine va_put (ci := 6) (v := .int (x30.2.1 + (1 : Int32))) (ty := .int) (C := R_MO) (T := F_MO) (N := 24) hx hb hg in_MO t_MO t_MO_ok n_MO hown hK hw.1 hw.2.1 hw.2.2 0 rfl rfl 16 (by decide) (hg _ q_765) (fun _ h9 => h9) rfl (by decide +kernel) rfl rfl (Nat.le_of_ble_eq_true rfl) d_MO_search_176 (fun H locs hP hD hS => ?_)
                        have hw : fw_H D vwCl A s.heap (wM ad cI cL th ki ce wi ma (x30.2.1 + (1 : Int32)) cu gr ru nu gv ca nw lo ke un cn y136.2 r98.2 (upd x30.2.2.2.2 x30.1.toNatClampNeg ((x30.2.2.2.2 x30.1.toNatClampNeg) + (1 : Int32))) sh od bd bs) H locs := ⟨hP, hD, hS⟩
                        refine lv_goto (tgt := 30) hx hb d_MO_search_179 (by decide) ?_
                        have q := Option.some.inj h
                        subst q
                        exact ih30 (x30.1, x30.2.1 + (1 : Int32), y136.2, r98.2, upd x30.2.2.2.2 x30.1.toNatClampNeg ((x30.2.2.2.2 x30.1.toNatClampNeg) + (1 : Int32))) e30 hk30 hr30 _ _ _ hl hw
                      have L136 : ∀ (n136 : Nat) (x136 : Int32 × (Nat → Int32)) (e136 : Int32 × (Nat → Int32)), lp (mb_MO_search_136 ce x30 r98) n136 x136 = some e136 → (mr_MO_search_136 x30 r98) e136 = some r30 → ∀ (ls : Array Slot) (H : Heap) (locs : List Loc), lv_has ls 4 [(0, .ref (ad 0)), (1, .int j20s0), (2, .int x30.1), (3, .int x136.1)] → fw_H D vwCl A s.heap (wM ad cI cL th ki ce wi ma x30.2.1 cu gr ru nu gv ca nw lo ke un cn x136.2 r98.2 (upd x30.2.2.2.2 x30.1.toNatClampNeg ((x30.2.2.2.2 x30.1.toNatClampNeg) + (1 : Int32))) sh od bd bs) H locs → W p l e R s m args below meth c H locs 0 0 Q (F0 m 136 ls []) := by
                        intro n136
                        induction n136 with
                        | zero => intro x136 e136 h1; exact absurd h1 lp_0
                        | succ n136 ih136 =>
                          intro x136 e136 h1 hr136 ls H locs hl hw
                          rw [lp_s] at h1
                          refine ob h1 (fun r136 h hk136 => ?_)
                          unfold mb_MO_search_136 at h
                          refine lv_iload_n hx hb d_MO_search_136 rfl (lv_at hl 3 rfl) ?_
                          refine lv_aload_n hx hb d_MO_search_137 rfl (lv_at hl 0 rfl) ?_
                          refine va_get (ci := 6) (v := .int ce) (C := R_MO) (T := F_MO) (N := 24) hx hb hg in_MO hown hK hw.1 0 rfl rfl 2 (by decide) (hg _ q_751) (fun _ h9 => h9) rfl d_MO_search_138 ?_
                          refine lv_icmp_ge (tgt := 169) hx hb d_MO_search_141 (by decide) (fun hc => ?_) (fun hc => ?_)
                          · have h := oi h hc
                            have q := Option.some.inj h
                            subst q
                            have q := Option.some.inj hk136
                            subst q
                            exact X136 (x136.1, x136.2) hr136 _ _ _ (lv_sub hl [0, 1, 2] rfl) hw
                          · have h := oe h hc
                            refine lv_aload_n hx hb d_MO_search_144 rfl (lv_at hl 0 rfl) ?_
                            refine va_get (ci := 6) (v := .int x30.2.1) (C := R_MO) (T := F_MO) (N := 24) hx hb hg in_MO hown hK hw.1 0 rfl rfl 16 (by decide) (hg _ q_765) (fun _ h9 => h9) rfl d_MO_search_145 ?_
                            refine lv_if_ne (tgt := 169) hx hb d_MO_search_148 (by decide) (fun hc => ?_) (fun hc => ?_)
                            · have h := oe h hc
                              have q := Option.some.inj h
                              subst q
                              have q := Option.some.inj hk136
                              subst q
                              exact X136 (x136.1, x136.2) hr136 _ _ _ (lv_sub hl [0, 1, 2] rfl) hw
                            · have h := oi h hc
                              refine lv_aload_n hx hb d_MO_search_151 rfl (lv_at hl 0 rfl) ?_
                              refine va_get (ci := 6) (v := .ref (ad 12)) (C := R_MO) (T := F_MO) (N := 24) hx hb hg in_MO hown hK hw.1 0 rfl rfl 17 (by decide) (hg _ q_766) (fun _ h9 => h9) rfl d_MO_search_152 ?_
                              refine lv_iload_n hx hb d_MO_search_155 rfl (lv_at hl 3 rfl) ?_
                              refine lv_aload_n hx hb d_MO_search_156 rfl (lv_at hl 0 rfl) ?_
                              refine va_get (ci := 6) (v := .ref (ad 13)) (C := R_MO) (T := F_MO) (N := 24) hx hb hg in_MO hown hK hw.1 0 rfl rfl 18 (by decide) (hg _ q_767) (fun _ h9 => h9) rfl d_MO_search_157 ?_
                              refine lv_iload_n hx hb d_MO_search_160 rfl (lv_at hl 3 rfl) ?_
                              refine oc h (fun hc3 h => ?_)
                              refine va_iald hx hb hK hw.1 13 0 rfl rfl hc3 d_MO_search_161 ?_
                              refine va_iast hx hb hK hw.1 hw.2.1 hw.2.2 12 0 rfl rfl hc3 d_MO_search_162 (fun H locs hP hD hS => ?_)
                              have hw : fw_H D vwCl A s.heap (wM ad cI cL th ki ce wi ma x30.2.1 cu gr ru nu gv ca nw lo ke un cn (upd x136.2 x136.1.toNatClampNeg (r98.2 x136.1.toNatClampNeg)) r98.2 (upd x30.2.2.2.2 x30.1.toNatClampNeg ((x30.2.2.2.2 x30.1.toNatClampNeg) + (1 : Int32))) sh od bd bs) H locs := ⟨hP, hD, hS⟩
                              refine lv_iinc (k := 3) (v := x136.1 + 1) (lv' := [(3, .int (x136.1 + 1)), (0, .ref (ad 0)), (1, .int j20s0), (2, .int x30.1)]) hx hb d_MO_search_163 hl rfl (by rw [lit1]) (by decide) rfl (fun ls hl => ?_)
                              refine lv_goto (tgt := 136) hx hb d_MO_search_166 (by decide) ?_
                              have q := Option.some.inj h
                              subst q
                              exact ih136 (x136.1 + 1, upd x136.2 x136.1.toNatClampNeg (r98.2 x136.1.toNatClampNeg)) e136 hk136 hr136 _ _ _ (lv_sub hl [1, 2, 3, 0] rfl) hw
                      refine ob h (fun e136 h1 h2 => ?_)
                      exact L136 N ((0 : Int32), x30.2.2.1) e136 h1 h2 _ _ _ (lv_sub hl [1, 2, 3, 0] rfl) hw
                  · have h := oe h hc
                    refine lv_iinc (k := 2) (v := x30.1 + 1) (lv' := [(2, .int (x30.1 + 1)), (0, .ref (ad 0)), (1, .int j20s0)]) hx hb d_MO_search_114 hl rfl (by rw [lit1]) (by decide) rfl (fun ls hl => ?_)
                    refine lv_aload_n hx hb d_MO_search_117 rfl (lv_at hl 1 rfl) ?_
                    refine va_get (ci := 6) (v := .ref (ad 14)) (C := R_MO) (T := F_MO) (N := 24) hx hb hg in_MO hown hK hw.1 0 rfl rfl 19 (by decide) (hg _ q_768) (fun _ h9 => h9) rfl d_MO_search_118 ?_
                    refine lv_iload_n hx hb d_MO_search_121 rfl (lv_at hl 0 rfl) ?_
                    refine lv_iconst (v := (-1)) hx hb d_MO_search_122 (by decide) ?_
                    refine oc h (fun hc4 h => ?_)
                    refine va_iast hx hb hK hw.1 hw.2.1 hw.2.2 14 0 rfl rfl hc4 d_MO_search_123 (fun H locs hP hD hS => ?_)
                    have hw : fw_H D vwCl A s.heap (wM ad cI cL th ki ce wi ma x30.2.1 cu gr ru nu gv ca nw lo ke un cn x30.2.2.1 r98.2 (upd (upd x30.2.2.2.2 x30.1.toNatClampNeg ((x30.2.2.2.2 x30.1.toNatClampNeg) + (1 : Int32))) (x30.1 + 1).toNatClampNeg (-1 : Int32)) sh od bd bs) H locs := ⟨hP, hD, hS⟩
                    refine lv_goto (tgt := 30) hx hb d_MO_search_124 (by decide) ?_
                    have q := Option.some.inj h
                    subst q
                    exact ih30 (x30.1 + 1, x30.2.1, x30.2.2.1, r98.2, upd (upd x30.2.2.2.2 x30.1.toNatClampNeg ((x30.2.2.2.2 x30.1.toNatClampNeg) + (1 : Int32))) (x30.1 + 1).toNatClampNeg (-1 : Int32)) e30 hk30 hr30 _ _ _ (lv_sub hl [1, 2, 0] rfl) hw
              refine lv_icmp_ne (tgt := 92) hx hb d_MO_search_75 (by decide) (fun hc => ?_) (fun hc => ?_)
              · have h := oe h hc
                refine lv_aload_n hx hb d_MO_search_92 rfl (lv_at hl 0 rfl) ?_
                refine va_get (ci := 6) (v := .ref (ad 14)) (C := R_MO) (T := F_MO) (N := 24) hx hb hg in_MO hown hK hw.1 0 rfl rfl 19 (by decide) (hg _ q_768) (fun _ h9 => h9) rfl d_MO_search_93 ?_
                refine lv_iload_n hx hb d_MO_search_96 rfl (lv_at hl 2 rfl) ?_
                refine va_iald hx hb hK hw.1 14 0 rfl rfl hc2 d_MO_search_97 ?_
                exact J98 ((upd x30.2.2.2.2 x30.1.toNatClampNeg ((x30.2.2.2.2 x30.1.toNatClampNeg) + (1 : Int32))) x30.1.toNatClampNeg) h _ _ _ hl hw
              · have h := oi h hc
                refine lv_aload_n hx hb d_MO_search_78 rfl (lv_at hl 0 rfl) ?_
                refine va_get (ci := 6) (v := .ref (ad 16)) (C := R_MO) (T := F_MO) (N := 24) hx hb hg in_MO hown hK hw.1 0 rfl rfl 21 (by decide) (hg _ q_770) (fun _ h9 => h9) rfl d_MO_search_79 ?_
                refine lv_aload_n hx hb d_MO_search_82 rfl (lv_at hl 0 rfl) ?_
                refine va_get (ci := 6) (v := .ref (ad 14)) (C := R_MO) (T := F_MO) (N := 24) hx hb hg in_MO hown hK hw.1 0 rfl rfl 19 (by decide) (hg _ q_768) (fun _ h9 => h9) rfl d_MO_search_83 ?_
                refine lv_iload_n hx hb d_MO_search_86 rfl (lv_at hl 2 rfl) ?_
                refine va_iald hx hb hK hw.1 14 0 rfl rfl hc2 d_MO_search_87 ?_
                refine oc h (fun hc5 h => ?_)
                refine va_iald hx hb hK hw.1 16 0 rfl rfl hc5 d_MO_search_88 ?_
                refine lv_goto (tgt := 98) hx hb d_MO_search_89 (by decide) ?_
                exact J98 (od ((upd x30.2.2.2.2 x30.1.toNatClampNeg ((x30.2.2.2.2 x30.1.toNatClampNeg) + (1 : Int32))) x30.1.toNatClampNeg).toNatClampNeg) h _ _ _ hl hw
            · have h := oi h hc
              refine lv_iinc (k := 2) (v := x30.1 + (-1)) (lv' := [(2, .int (x30.1 + (-1))), (0, .ref (ad 0)), (1, .int j20s0)]) hx hb d_MO_search_62 hl rfl (by rw [litm1]) (by decide) rfl (fun ls hl => ?_)
              refine lv_goto (tgt := 30) hx hb d_MO_search_65 (by decide) ?_
              have q := Option.some.inj h
              subst q
              exact ih30 (x30.1 + (-1), x30.2.1, x30.2.2.1, x30.2.2.2.1, upd x30.2.2.2.2 x30.1.toNatClampNeg ((x30.2.2.2.2 x30.1.toNatClampNeg) + (1 : Int32))) e30 hk30 hr30 _ _ _ (lv_sub hl [1, 2, 0] rfl) hw
    refine ob h (fun e30 h1 h2 => ?_)
    exact L30 N ((0 : Int32), (0 : Int32), fi, fl, upd pa (0 : Int32).toNatClampNeg (-1 : Int32)) e30 h1 h2 _ _ _ (lv_sub hl [2, 1, 0] rfl) hw
  refine lv_icmp_ne (tgt := 18) hx hb d_MO_search_10 (by decide) (fun hc => ?_) (fun hc => ?_)
  · have h := oe h hc
    refine lv_bipush (v := 32) hx hb d_MO_search_18 (by decide) ?_
    exact J20 (32 : Int32) h _ _ _ hl hw
  · have h := oi h hc
    refine lv_bipush (v := 24) hx hb d_MO_search_13 (by decide) ?_
    refine lv_goto (tgt := 20) hx hb d_MO_search_15 (by decide) ?_
    exact J20 (24 : Int32) h _ _ _ hl hw
set_option maxHeartbeats 4000000 in
set_option maxRecDepth 100000 in
theorem ct_MO_fillings (l : Launch) (D : va_G) (ad : Nat → Nat) (cI cL : ClassId) (N : Nat) (th : Int32) (ki : Int32) (ce : Int32) (wi : Int32) (ma : Int32) (fo : Int32) (cu : Nat → Int32) (gr : Nat → Int32) (ru : Nat → Int32) (nu : Nat → Int32) (gv : Nat → Int32) (ca : Nat → Int32) (nw : Nat → Int32) (lo : Nat → Int32) (ke : Nat → Int32) (un : Nat → Int32) (cn : Nat → Int32) (fi : Nat → Int32) (fl : Nat → Int32) (pa : Nat → Int32) (sh : Nat → Int32) (od : Nat → Int32) (bd : Nat → Int32) (bs : Nat → Int32)  (out : Int32 × Int32 × Int32 × (Nat → Int32) × (Nat → Int32) × (Nat → Int32)) (h : mi_MO_fillings N th ki ce wi fo cu gr ru nu gv fi fl pa sh od bd bs = some out) : fw_C l y_MO_fillings (.code y_MO_fillings b_MO_fillings 1 (some .int) :: Gw) (fr 4 90) D vwCl (tyA cI cL) [.ref (ad 0)] (wM ad cI cL th ki ce wi ma fo cu gr ru nu gv ca nw lo ke un cn fi fl pa sh od bd bs) (some (.int out.1)) (wM ad cI cL out.2.1 ki ce wi ma out.2.2.1 cu gr ru nu gv ca nw lo ke un cn out.2.2.2.1 out.2.2.2.2.1 out.2.2.2.2.2 sh od bd bs) := by
  refine fw_of (by decide) (Nat.le_of_ble_eq_true rfl) ?_
  intro p e s m args below meth c ls A R Q hR hQ S hr hlk hX hA hl hw
  have hK := hX.1
  have hx := S.1
  have hb := S.2.1
  have hown := S.2.2.2.1
  have hg := S.2.2.2.2
  have hl : lv_has ls 1 [(0, .ref (ad 0))] := hl
  unfold mi_MO_fillings at h
  refine lv_aload_n hx hb d_MO_fillings_0 rfl (lv_at hl 0 rfl) ?_
  refine lv_iconst (v := 0) hx hb d_MO_fillings_1 (by decide) ?_
  refine va_put (ci := 6) (v := .int (0 : Int32)) (ty := .int) (C := R_MO) (T := F_MO) (N := 24) hx hb hg in_MO t_MO t_MO_ok n_MO hown hK hw.1 hw.2.1 hw.2.2 0 rfl rfl 0 (by decide) (hg _ q_749) (fun _ h9 => h9) rfl (by decide +kernel) rfl rfl (Nat.le_of_ble_eq_true rfl) d_MO_fillings_2 (fun H locs hP hD hS => ?_)
  have hw : fw_H D vwCl A s.heap (wM ad cI cL (0 : Int32) ki ce wi ma fo cu gr ru nu gv ca nw lo ke un cn fi fl pa sh od bd bs) H locs := ⟨hP, hD, hS⟩
  refine lv_aload_n hx hb d_MO_fillings_5 rfl (lv_at hl 0 rfl) ?_
  refine ob h (fun r6 h6 h => ?_)
  refine fw_callV (As := []) (rest := []) (st1 := []) S (ct_MO_search l D ad cI cL N (0 : Int32) ki ce wi ma fo cu gr ru nu gv ca nw lo ke un cn fi fl pa sh od bd bs r6 h6) q_873 q_875 s_23 q_10 k_MO_search hd_MO_search ⟨by rw [hR]; decide, by rw [hR]; decide⟩ rfl rfl hX hw hA 0 (ci := 6) rfl rfl hl.1 rfl rfl (Nat.le_of_ble_eq_true rfl) d_MO_fillings_6 ⟨Nat.zero_le _, Nat.zero_le _⟩ rfl (fun H locs hw => ?_)
  refine lv_aload_n hx hb d_MO_fillings_9 rfl (lv_at hl 0 rfl) ?_
  refine va_get (ci := 6) (v := .int r6.1) (C := R_MO) (T := F_MO) (N := 24) hx hb hg in_MO hown hK hw.1 0 rfl rfl 16 (by decide) (hg _ q_765) (fun _ h9 => h9) rfl d_MO_fillings_10 ?_
  have q := Option.some.inj h
  subst q
  exact fw_iret hQ S hr hlk hX hw d_MO_fillings_13
set_option maxHeartbeats 4000000 in
set_option maxRecDepth 100000 in
theorem ct_MO_value (l : Launch) (D : va_G) (ad : Nat → Nat) (cI cL : ClassId) (N : Nat) (th : Int32) (ki : Int32) (ce : Int32) (wi : Int32) (ma : Int32) (fo : Int32) (cu : Nat → Int32) (gr : Nat → Int32) (ru : Nat → Int32) (nu : Nat → Int32) (gv : Nat → Int32) (ca : Nat → Int32) (nw : Nat → Int32) (lo : Nat → Int32) (ke : Nat → Int32) (un : Nat → Int32) (cn : Nat → Int32) (fi : Nat → Int32) (fl : Nat → Int32) (pa : Nat → Int32) (sh : Nat → Int32) (od : Nat → Int32) (bd : Nat → Int32) (bs : Nat → Int32) (u1 : Int32) (out : Int32 × Int32 × Int32 × (Nat → Int32) × (Nat → Int32) × (Nat → Int32)) (h : mi_MO_value N th ki ce wi fo cu gr ru nu gv fi fl pa sh od bd bs u1 = some out) : fw_C l y_MO_value (.code y_MO_value b_MO_value 2 (some .int) :: Gw) (fr 4 90) D vwCl (tyA cI cL) [.ref (ad 0), .int u1] (wM ad cI cL th ki ce wi ma fo cu gr ru nu gv ca nw lo ke un cn fi fl pa sh od bd bs) (some (.int out.1)) (wM ad cI cL out.2.1 ki ce wi ma out.2.2.1 cu gr ru nu gv ca nw lo ke un cn out.2.2.2.1 out.2.2.2.2.1 out.2.2.2.2.2 sh od bd bs) := by
  refine fw_of (by decide) (Nat.le_of_ble_eq_true rfl) ?_
  intro p e s m args below meth c ls A R Q hR hQ S hr hlk hX hA hl hw
  have hK := hX.1
  have hx := S.1
  have hb := S.2.1
  have hown := S.2.2.2.1
  have hg := S.2.2.2.2
  have hl : lv_has ls 2 [(0, .ref (ad 0)), (1, .int u1)] := hl
  unfold mi_MO_value at h
  refine lv_aload_n hx hb d_MO_value_0 rfl (lv_at hl 0 rfl) ?_
  refine lv_aload_n hx hb d_MO_value_1 rfl (lv_at hl 0 rfl) ?_
  refine lv_iload_n hx hb d_MO_value_2 rfl (lv_at hl 1 rfl) ?_
  refine ob h (fun r3 h3 h => ?_)
  refine fw_callV (As := [.int u1]) (rest := [.ref (ad 0)]) (st1 := [.int r3, .ref (ad 0)]) S (ct_MO_noCell l D ad cI cL N th ki ce wi ma fo cu gr ru nu gv ca nw lo ke un cn fi fl pa sh od bd bs u1 r3 h3) q_845 q_847 s_20 q_10 k_MO_noCell hd_MO_noCell ⟨by rw [hR]; decide, by rw [hR]; decide⟩ rfl rfl hX hw hA 0 (ci := 6) rfl rfl hl.1 rfl rfl (Nat.le_of_ble_eq_true rfl) d_MO_value_3 ⟨Nat.zero_le _, Nat.zero_le _⟩ rfl (fun H locs hw => ?_)
  have J14 : ∀ (j14s1 : Int32), mj_MO_value_14 N ki ce wi fo cu gr ru nu gv fi fl pa sh od bd bs u1 j14s1 = some out → ∀ (ls : Array Slot) (H : Heap) (locs : List Loc), lv_has ls 2 [(0, .ref (ad 0)), (1, .int u1)] → fw_H D vwCl A s.heap (wM ad cI cL th ki ce wi ma fo cu gr ru nu gv ca nw lo ke un cn fi fl pa sh od bd bs) H locs → W p l e R s m args below meth c H locs 0 0 Q (F0 m 14 ls [.int j14s1, .ref (ad 0)]) := by
    intro j14s1 h ls H locs hl hw
    unfold mj_MO_value_14 at h
    refine va_put (ci := 6) (v := .int j14s1) (ty := .int) (C := R_MO) (T := F_MO) (N := 24) hx hb hg in_MO t_MO t_MO_ok n_MO hown hK hw.1 hw.2.1 hw.2.2 0 rfl rfl 0 (by decide) (hg _ q_749) (fun _ h9 => h9) rfl (by decide +kernel) rfl rfl (Nat.le_of_ble_eq_true rfl) d_MO_value_14 (fun H locs hP hD hS => ?_)
    have hw : fw_H D vwCl A s.heap (wM ad cI cL j14s1 ki ce wi ma fo cu gr ru nu gv ca nw lo ke un cn fi fl pa sh od bd bs) H locs := ⟨hP, hD, hS⟩
    refine lv_aload_n hx hb d_MO_value_17 rfl (lv_at hl 0 rfl) ?_
    refine va_get (ci := 6) (v := .int j14s1) (C := R_MO) (T := F_MO) (N := 24) hx hb hg in_MO hown hK hw.1 0 rfl rfl 0 (by decide) (hg _ q_749) (fun _ h9 => h9) rfl d_MO_value_18 ?_
    refine lv_if_eq (tgt := 26) hx hb d_MO_value_21 (by decide) (fun hc => ?_) (fun hc => ?_)
    · have h := oi h hc
      refine lv_aload_n hx hb d_MO_value_26 rfl (lv_at hl 0 rfl) ?_
      refine ob h (fun r27 h27 h => ?_)
      refine fw_callV (As := []) (rest := []) (st1 := []) S (ct_MO_search l D ad cI cL N j14s1 ki ce wi ma fo cu gr ru nu gv ca nw lo ke un cn fi fl pa sh od bd bs r27 h27) q_873 q_875 s_23 q_10 k_MO_search hd_MO_search ⟨by rw [hR]; decide, by rw [hR]; decide⟩ rfl rfl hX hw hA 0 (ci := 6) rfl rfl hl.1 rfl rfl (Nat.le_of_ble_eq_true rfl) d_MO_value_27 ⟨Nat.zero_le _, Nat.zero_le _⟩ rfl (fun H locs hw => ?_)
      refine lv_aload_n hx hb d_MO_value_30 rfl (lv_at hl 0 rfl) ?_
      refine lv_aload_n hx hb d_MO_value_31 rfl (lv_at hl 0 rfl) ?_
      refine va_get (ci := 6) (v := .int r27.1) (C := R_MO) (T := F_MO) (N := 24) hx hb hg in_MO hown hK hw.1 0 rfl rfl 16 (by decide) (hg _ q_765) (fun _ h9 => h9) rfl d_MO_value_32 ?_
      have J43 : ∀ (j43s1 : Int32), mj_MO_value_43 u1 r27 j43s1 = some out → ∀ (ls : Array Slot) (H : Heap) (locs : List Loc), lv_has ls 2 [(0, .ref (ad 0)), (1, .int u1)] → fw_H D vwCl A s.heap (wM ad cI cL j14s1 ki ce wi ma r27.1 cu gr ru nu gv ca nw lo ke un cn r27.2.1 r27.2.2.1 r27.2.2.2 sh od bd bs) H locs → W p l e R s m args below meth c H locs 0 0 Q (F0 m 43 ls [.int j43s1, .ref (ad 0)]) := by
        intro j43s1 h ls H locs hl hw
        unfold mj_MO_value_43 at h
        refine va_put (ci := 6) (v := .int j43s1) (ty := .int) (C := R_MO) (T := F_MO) (N := 24) hx hb hg in_MO t_MO t_MO_ok n_MO hown hK hw.1 hw.2.1 hw.2.2 0 rfl rfl 0 (by decide) (hg _ q_749) (fun _ h9 => h9) rfl (by decide +kernel) rfl rfl (Nat.le_of_ble_eq_true rfl) d_MO_value_43 (fun H locs hP hD hS => ?_)
        have hw : fw_H D vwCl A s.heap (wM ad cI cL j43s1 ki ce wi ma r27.1 cu gr ru nu gv ca nw lo ke un cn r27.2.1 r27.2.2.1 r27.2.2.2 sh od bd bs) H locs := ⟨hP, hD, hS⟩
        refine lv_aload_n hx hb d_MO_value_46 rfl (lv_at hl 0 rfl) ?_
        refine va_get (ci := 6) (v := .int j43s1) (C := R_MO) (T := F_MO) (N := 24) hx hb hg in_MO hown hK hw.1 0 rfl rfl 0 (by decide) (hg _ q_749) (fun _ h9 => h9) rfl d_MO_value_47 ?_
        refine lv_if_ne (tgt := 62) hx hb d_MO_value_50 (by decide) (fun hc => ?_) (fun hc => ?_)
        · have h := oe h hc
          refine lv_iconst (v := 0) hx hb d_MO_value_62 (by decide) ?_
          have q := Option.some.inj h
          subst q
          exact fw_iret hQ S hr hlk hX hw d_MO_value_63
        · have h := oi h hc
          refine lv_aload_n hx hb d_MO_value_53 rfl (lv_at hl 0 rfl) ?_
          refine va_get (ci := 6) (v := .ref (ad 12)) (C := R_MO) (T := F_MO) (N := 24) hx hb hg in_MO hown hK hw.1 0 rfl rfl 17 (by decide) (hg _ q_766) (fun _ h9 => h9) rfl d_MO_value_54 ?_
          refine lv_iload_n hx hb d_MO_value_57 rfl (lv_at hl 1 rfl) ?_
          refine oc h (fun hc1 h => ?_)
          refine va_iald hx hb hK hw.1 12 0 rfl rfl hc1 d_MO_value_58 ?_
          refine lv_goto (tgt := 63) hx hb d_MO_value_59 (by decide) ?_
          have q := Option.some.inj h
          subst q
          exact fw_iret hQ S hr hlk hX hw d_MO_value_63
      refine lv_if_ne (tgt := 42) hx hb d_MO_value_35 (by decide) (fun hc => ?_) (fun hc => ?_)
      · have h := oe h hc
        refine lv_iconst (v := 0) hx hb d_MO_value_42 (by decide) ?_
        exact J43 (0 : Int32) h _ _ _ hl hw
      · have h := oi h hc
        refine lv_iconst (v := 2) hx hb d_MO_value_38 (by decide) ?_
        refine lv_goto (tgt := 43) hx hb d_MO_value_39 (by decide) ?_
        exact J43 (2 : Int32) h _ _ _ hl hw
    · have h := oe h hc
      refine lv_iconst (v := 0) hx hb d_MO_value_24 (by decide) ?_
      have q := Option.some.inj h
      subst q
      exact fw_iret hQ S hr hlk hX hw d_MO_value_25
  refine lv_if_eq (tgt := 13) hx hb d_MO_value_6 (by decide) (fun hc => ?_) (fun hc => ?_)
  · have h := oi h hc
    refine lv_iconst (v := 0) hx hb d_MO_value_13 (by decide) ?_
    exact J14 (0 : Int32) h _ _ _ hl hw
  · have h := oe h hc
    refine lv_iconst (v := 1) hx hb d_MO_value_9 (by decide) ?_
    refine lv_goto (tgt := 14) hx hb d_MO_value_10 (by decide) ?_
    exact J14 (1 : Int32) h _ _ _ hl hw
