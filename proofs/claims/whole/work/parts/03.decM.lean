theorem dX9_init_0 : decode cX9_init 0 = .ok (.aload_n 0, 1) := by decide +kernel
theorem dX9_init_1 : decode cX9_init 1 = .ok (.invokespecial 1, 3) := by decide +kernel
theorem dX9_init_4 : decode cX9_init 4 = .ok (.aload_n 0, 1) := by decide +kernel
theorem dX9_init_5 : decode cX9_init 5 = .ok (.iconst 5, 1) := by decide +kernel
theorem dX9_init_6 : decode cX9_init 6 = .ok (.newarray .int, 2) := by decide +kernel
theorem dX9_init_8 : decode cX9_init 8 = .ok (.putfield 7, 3) := by decide +kernel
theorem dX9_init_11 : decode cX9_init 11 = .ok (.aload_n 0, 1) := by decide +kernel
theorem dX9_init_12 : decode cX9_init 12 = .ok (.iconst 5, 1) := by decide +kernel
theorem dX9_init_13 : decode cX9_init 13 = .ok (.newarray .int, 2) := by decide +kernel
theorem dX9_init_15 : decode cX9_init 15 = .ok (.putfield 13, 3) := by decide +kernel
theorem dX9_init_18 : decode cX9_init 18 = .ok (.aload_n 0, 1) := by decide +kernel
theorem dX9_init_19 : decode cX9_init 19 = .ok (.bipush 35, 2) := by decide +kernel
theorem dX9_init_21 : decode cX9_init 21 = .ok (.newarray .int, 2) := by decide +kernel
theorem dX9_init_23 : decode cX9_init 23 = .ok (.putfield 16, 3) := by decide +kernel
theorem dX9_init_26 : decode cX9_init 26 = .ok (.aload_n 0, 1) := by decide +kernel
theorem dX9_init_27 : decode cX9_init 27 = .ok (.bipush 25, 2) := by decide +kernel
theorem dX9_init_29 : decode cX9_init 29 = .ok (.newarray .int, 2) := by decide +kernel
theorem dX9_init_31 : decode cX9_init 31 = .ok (.putfield 19, 3) := by decide +kernel
theorem dX9_init_34 : decode cX9_init 34 = .ok (.aload_n 0, 1) := by decide +kernel
theorem dX9_init_35 : decode cX9_init 35 = .ok (.iconst 5, 1) := by decide +kernel
theorem dX9_init_36 : decode cX9_init 36 = .ok (.newarray .int, 2) := by decide +kernel
theorem dX9_init_38 : decode cX9_init 38 = .ok (.putfield 22, 3) := by decide +kernel
theorem dX9_init_41 : decode cX9_init 41 = .ok (.aload_n 0, 1) := by decide +kernel
theorem dX9_init_42 : decode cX9_init 42 = .ok (.bipush 7, 2) := by decide +kernel
theorem dX9_init_44 : decode cX9_init 44 = .ok (.newarray .int, 2) := by decide +kernel
theorem dX9_init_46 : decode cX9_init 46 = .ok (.putfield 25, 3) := by decide +kernel
theorem dX9_init_49 : decode cX9_init 49 = .ok (.aload_n 0, 1) := by decide +kernel
theorem dX9_init_50 : decode cX9_init 50 = .ok (.bipush 84, 2) := by decide +kernel
theorem dX9_init_52 : decode cX9_init 52 = .ok (.newarray .boolean, 2) := by decide +kernel
theorem dX9_init_54 : decode cX9_init 54 = .ok (.putfield 28, 3) := by decide +kernel
theorem dX9_init_57 : decode cX9_init 57 = .ok (.aload_n 0, 1) := by decide +kernel
theorem dX9_init_58 : decode cX9_init 58 = .ok (.bipush 28, 2) := by decide +kernel
theorem dX9_init_60 : decode cX9_init 60 = .ok (.newarray .int, 2) := by decide +kernel
theorem dX9_init_62 : decode cX9_init 62 = .ok (.putfield 32, 3) := by decide +kernel
theorem dX9_init_65 : decode cX9_init 65 = .ok (.aload_n 0, 1) := by decide +kernel
theorem dX9_init_66 : decode cX9_init 66 = .ok (.bipush 7, 2) := by decide +kernel
theorem dX9_init_68 : decode cX9_init 68 = .ok (.newarray .int, 2) := by decide +kernel
theorem dX9_init_70 : decode cX9_init 70 = .ok (.putfield 35, 3) := by decide +kernel
theorem dX9_init_73 : decode cX9_init 73 = .ok (.aload_n 0, 1) := by decide +kernel
theorem dX9_init_74 : decode cX9_init 74 = .ok (.bipush 7, 2) := by decide +kernel
theorem dX9_init_76 : decode cX9_init 76 = .ok (.newarray .int, 2) := by decide +kernel
theorem dX9_init_78 : decode cX9_init 78 = .ok (.putfield 38, 3) := by decide +kernel
theorem dX9_init_81 : decode cX9_init 81 = .ok (.aload_n 0, 1) := by decide +kernel
theorem dX9_init_82 : decode cX9_init 82 = .ok (.iconst 4, 1) := by decide +kernel
theorem dX9_init_83 : decode cX9_init 83 = .ok (.newarray .int, 2) := by decide +kernel
theorem dX9_init_85 : decode cX9_init 85 = .ok (.putfield 41, 3) := by decide +kernel
theorem dX9_init_88 : decode cX9_init 88 = .ok (.aload_n 0, 1) := by decide +kernel
theorem dX9_init_89 : decode cX9_init 89 = .ok (.iconst 4, 1) := by decide +kernel
theorem dX9_init_90 : decode cX9_init 90 = .ok (.newarray .int, 2) := by decide +kernel
theorem dX9_init_92 : decode cX9_init 92 = .ok (.putfield 44, 3) := by decide +kernel
theorem dX9_init_95 : decode cX9_init 95 = .ok (.aload_n 0, 1) := by decide +kernel
theorem dX9_init_96 : decode cX9_init 96 = .ok (.bipush 12, 2) := by decide +kernel
theorem dX9_init_98 : decode cX9_init 98 = .ok (.newarray .int, 2) := by decide +kernel
theorem dX9_init_100 : decode cX9_init 100 = .ok (.putfield 47, 3) := by decide +kernel
theorem dX9_init_103 : decode cX9_init 103 = .ok (.aload_n 0, 1) := by decide +kernel
theorem dX9_init_104 : decode cX9_init 104 = .ok (.bipush 12, 2) := by decide +kernel
theorem dX9_init_106 : decode cX9_init 106 = .ok (.newarray .int, 2) := by decide +kernel
theorem dX9_init_108 : decode cX9_init 108 = .ok (.putfield 50, 3) := by decide +kernel
theorem dX9_init_111 : decode cX9_init 111 = .ok (.aload_n 0, 1) := by decide +kernel
theorem dX9_init_112 : decode cX9_init 112 = .ok (.bipush 100, 2) := by decide +kernel
theorem dX9_init_114 : decode cX9_init 114 = .ok (.putfield 53, 3) := by decide +kernel
theorem dX9_init_117 : decode cX9_init 117 = .ok (.aload_n 0, 1) := by decide +kernel
theorem dX9_init_118 : decode cX9_init 118 = .ok (.bipush 20, 2) := by decide +kernel
theorem dX9_init_120 : decode cX9_init 120 = .ok (.newarray .int, 2) := by decide +kernel
theorem dX9_init_122 : decode cX9_init 122 = .ok (.putfield 57, 3) := by decide +kernel
theorem dX9_init_125 : decode cX9_init 125 = .ok (.aload_n 0, 1) := by decide +kernel
theorem dX9_init_126 : decode cX9_init 126 = .ok (.bipush 20, 2) := by decide +kernel
theorem dX9_init_128 : decode cX9_init 128 = .ok (.newarray .int, 2) := by decide +kernel
theorem dX9_init_130 : decode cX9_init 130 = .ok (.putfield 60, 3) := by decide +kernel
theorem dX9_init_133 : decode cX9_init 133 = .ok (.aload_n 0, 1) := by decide +kernel
theorem dX9_init_134 : decode cX9_init 134 = .ok (.bipush 20, 2) := by decide +kernel
theorem dX9_init_136 : decode cX9_init 136 = .ok (.newarray .int, 2) := by decide +kernel
theorem dX9_init_138 : decode cX9_init 138 = .ok (.putfield 63, 3) := by decide +kernel
theorem dX9_init_141 : decode cX9_init 141 = .ok (.aload_n 0, 1) := by decide +kernel
theorem dX9_init_142 : decode cX9_init 142 = .ok (.bipush 20, 2) := by decide +kernel
theorem dX9_init_144 : decode cX9_init 144 = .ok (.newarray .int, 2) := by decide +kernel
theorem dX9_init_146 : decode cX9_init 146 = .ok (.putfield 66, 3) := by decide +kernel
theorem dX9_init_149 : decode cX9_init 149 = .ok (.aload_n 0, 1) := by decide +kernel
theorem dX9_init_150 : decode cX9_init 150 = .ok (.bipush 20, 2) := by decide +kernel
theorem dX9_init_152 : decode cX9_init 152 = .ok (.newarray .int, 2) := by decide +kernel
theorem dX9_init_154 : decode cX9_init 154 = .ok (.putfield 69, 3) := by decide +kernel
theorem dX9_init_157 : decode cX9_init 157 = .ok (.aload_n 0, 1) := by decide +kernel
theorem dX9_init_158 : decode cX9_init 158 = .ok (.bipush 20, 2) := by decide +kernel
theorem dX9_init_160 : decode cX9_init 160 = .ok (.newarray .int, 2) := by decide +kernel
theorem dX9_init_162 : decode cX9_init 162 = .ok (.putfield 72, 3) := by decide +kernel
theorem dX9_init_165 : decode cX9_init 165 = .ok (.aload_n 0, 1) := by decide +kernel
theorem dX9_init_166 : decode cX9_init 166 = .ok (.bipush 7, 2) := by decide +kernel
theorem dX9_init_168 : decode cX9_init 168 = .ok (.newarray .int, 2) := by decide +kernel
theorem dX9_init_170 : decode cX9_init 170 = .ok (.putfield 75, 3) := by decide +kernel
theorem dX9_init_173 : decode cX9_init 173 = .ok (.aload_n 0, 1) := by decide +kernel
theorem dX9_init_174 : decode cX9_init 174 = .ok (.bipush 7, 2) := by decide +kernel
theorem dX9_init_176 : decode cX9_init 176 = .ok (.newarray .int, 2) := by decide +kernel
theorem dX9_init_178 : decode cX9_init 178 = .ok (.putfield 78, 3) := by decide +kernel
theorem dX9_init_181 : decode cX9_init 181 = .ok (.aload_n 0, 1) := by decide +kernel
theorem dX9_init_182 : decode cX9_init 182 = .ok (.iconst 5, 1) := by decide +kernel
theorem dX9_init_183 : decode cX9_init 183 = .ok (.newarray .int, 2) := by decide +kernel
theorem dX9_init_185 : decode cX9_init 185 = .ok (.putfield 81, 3) := by decide +kernel
theorem dX9_init_188 : decode cX9_init 188 = .ok (.aload_n 0, 1) := by decide +kernel
theorem dX9_init_189 : decode cX9_init 189 = .ok (.bipush 35, 2) := by decide +kernel
theorem dX9_init_191 : decode cX9_init 191 = .ok (.newarray .int, 2) := by decide +kernel
theorem dX9_init_193 : decode cX9_init 193 = .ok (.putfield 84, 3) := by decide +kernel
theorem dX9_init_196 : decode cX9_init 196 = .ok (.iconst 0, 1) := by decide +kernel
theorem dX9_init_197 : decode cX9_init 197 = .ok (.istore_n 1, 1) := by decide +kernel
theorem dX9_init_198 : decode cX9_init 198 = .ok (.iload_n 1, 1) := by decide +kernel
theorem dX9_init_199 : decode cX9_init 199 = .ok (.iconst 4, 1) := by decide +kernel
theorem dX9_init_200 : decode cX9_init 200 = .ok (.if_icmp .ge 40, 3) := by decide +kernel
theorem dX9_init_203 : decode cX9_init 203 = .ok (.aload_n 0, 1) := by decide +kernel
theorem dX9_init_204 : decode cX9_init 204 = .ok (.getfield 41, 3) := by decide +kernel
theorem dX9_init_207 : decode cX9_init 207 = .ok (.iload_n 1, 1) := by decide +kernel
theorem dX9_init_208 : decode cX9_init 208 = .ok (.iconst (-1), 1) := by decide +kernel
theorem dX9_init_209 : decode cX9_init 209 = .ok (.iastore, 1) := by decide +kernel
theorem dX9_init_210 : decode cX9_init 210 = .ok (.iconst 0, 1) := by decide +kernel
theorem dX9_init_211 : decode cX9_init 211 = .ok (.istore_n 2, 1) := by decide +kernel
theorem dX9_init_212 : decode cX9_init 212 = .ok (.iload_n 2, 1) := by decide +kernel
theorem dX9_init_213 : decode cX9_init 213 = .ok (.iconst 3, 1) := by decide +kernel
theorem dX9_init_214 : decode cX9_init 214 = .ok (.if_icmp .ge 20, 3) := by decide +kernel
theorem dX9_init_217 : decode cX9_init 217 = .ok (.aload_n 0, 1) := by decide +kernel
theorem dX9_init_218 : decode cX9_init 218 = .ok (.getfield 47, 3) := by decide +kernel
theorem dX9_init_221 : decode cX9_init 221 = .ok (.iconst 3, 1) := by decide +kernel
theorem dX9_init_222 : decode cX9_init 222 = .ok (.iload_n 1, 1) := by decide +kernel
theorem dX9_init_223 : decode cX9_init 223 = .ok (.imul, 1) := by decide +kernel
theorem dX9_init_224 : decode cX9_init 224 = .ok (.iload_n 2, 1) := by decide +kernel
theorem dX9_init_225 : decode cX9_init 225 = .ok (.iadd, 1) := by decide +kernel
theorem dX9_init_226 : decode cX9_init 226 = .ok (.iconst (-1), 1) := by decide +kernel
theorem dX9_init_227 : decode cX9_init 227 = .ok (.iastore, 1) := by decide +kernel
theorem dX9_init_228 : decode cX9_init 228 = .ok (.iinc 2 1, 3) := by decide +kernel
theorem dX9_init_231 : decode cX9_init 231 = .ok (.goto (-19), 3) := by decide +kernel
theorem dX9_init_234 : decode cX9_init 234 = .ok (.iinc 1 1, 3) := by decide +kernel
theorem dX9_init_237 : decode cX9_init 237 = .ok (.goto (-39), 3) := by decide +kernel
theorem dX9_init_240 : decode cX9_init 240 = .ok (.return_, 1) := by decide +kernel
theorem dX9_in_0 : decode cX9_in 0 = .ok (.iload_n 0, 1) := by decide +kernel
theorem dX9_in_1 : decode cX9_in 1 = .ok (.iload_n 1, 1) := by decide +kernel
theorem dX9_in_2 : decode cX9_in 2 = .ok (.if_icmp .lt 12, 3) := by decide +kernel
theorem dX9_in_5 : decode cX9_in 5 = .ok (.iload_n 0, 1) := by decide +kernel
theorem dX9_in_6 : decode cX9_in 6 = .ok (.iload_n 2, 1) := by decide +kernel
theorem dX9_in_7 : decode cX9_in 7 = .ok (.if_icmp .gt 7, 3) := by decide +kernel
theorem dX9_in_10 : decode cX9_in 10 = .ok (.iconst 1, 1) := by decide +kernel
theorem dX9_in_11 : decode cX9_in 11 = .ok (.goto 4, 3) := by decide +kernel
theorem dX9_in_14 : decode cX9_in 14 = .ok (.iconst 0, 1) := by decide +kernel
theorem dX9_in_15 : decode cX9_in 15 = .ok (.ireturn, 1) := by decide +kernel
theorem dX9_isStreet_0 : decode cX9_isStreet 0 = .ok (.iload_n 1, 1) := by decide +kernel
theorem dX9_isStreet_1 : decode cX9_isStreet 1 = .ok (.iconst 0, 1) := by decide +kernel
theorem dX9_isStreet_2 : decode cX9_isStreet 2 = .ok (.aload_n 0, 1) := by decide +kernel
theorem dX9_isStreet_3 : decode cX9_isStreet 3 = .ok (.getfield 87, 3) := by decide +kernel
theorem dX9_isStreet_6 : decode cX9_isStreet 6 = .ok (.iconst 1, 1) := by decide +kernel
theorem dX9_isStreet_7 : decode cX9_isStreet 7 = .ok (.isub, 1) := by decide +kernel
theorem dX9_isStreet_8 : decode cX9_isStreet 8 = .ok (.invokestatic 90, 3) := by decide +kernel
theorem dX9_isStreet_11 : decode cX9_isStreet 11 = .ok (.ireturn, 1) := by decide +kernel
theorem dX9_isCar_0 : decode cX9_isCar 0 = .ok (.iload_n 1, 1) := by decide +kernel
theorem dX9_isCar_1 : decode cX9_isCar 1 = .ok (.iconst 0, 1) := by decide +kernel
theorem dX9_isCar_2 : decode cX9_isCar 2 = .ok (.aload_n 0, 1) := by decide +kernel
theorem dX9_isCar_3 : decode cX9_isCar 3 = .ok (.getfield 94, 3) := by decide +kernel
theorem dX9_isCar_6 : decode cX9_isCar 6 = .ok (.iconst 1, 1) := by decide +kernel
theorem dX9_isCar_7 : decode cX9_isCar 7 = .ok (.isub, 1) := by decide +kernel
theorem dX9_isCar_8 : decode cX9_isCar 8 = .ok (.invokestatic 90, 3) := by decide +kernel
theorem dX9_isCar_11 : decode cX9_isCar 11 = .ok (.ireturn, 1) := by decide +kernel
theorem dX9_isZone_0 : decode cX9_isZone 0 = .ok (.iload_n 0, 1) := by decide +kernel
theorem dX9_isZone_1 : decode cX9_isZone 1 = .ok (.iconst 0, 1) := by decide +kernel
theorem dX9_isZone_2 : decode cX9_isZone 2 = .ok (.iconst 3, 1) := by decide +kernel
theorem dX9_isZone_3 : decode cX9_isZone 3 = .ok (.invokestatic 90, 3) := by decide +kernel
theorem dX9_isZone_6 : decode cX9_isZone 6 = .ok (.ireturn, 1) := by decide +kernel
theorem dX9_isSort_0 : decode cX9_isSort 0 = .ok (.iload_n 0, 1) := by decide +kernel
theorem dX9_isSort_1 : decode cX9_isSort 1 = .ok (.iconst 0, 1) := by decide +kernel
theorem dX9_isSort_2 : decode cX9_isSort 2 = .ok (.iconst 2, 1) := by decide +kernel
theorem dX9_isSort_3 : decode cX9_isSort 3 = .ok (.invokestatic 90, 3) := by decide +kernel
theorem dX9_isSort_6 : decode cX9_isSort 6 = .ok (.ireturn, 1) := by decide +kernel
theorem dX9_isNight_0 : decode cX9_isNight 0 = .ok (.iload_n 0, 1) := by decide +kernel
theorem dX9_isNight_1 : decode cX9_isNight 1 = .ok (.iconst 0, 1) := by decide +kernel
theorem dX9_isNight_2 : decode cX9_isNight 2 = .ok (.bipush 6, 2) := by decide +kernel
theorem dX9_isNight_4 : decode cX9_isNight 4 = .ok (.invokestatic 90, 3) := by decide +kernel
theorem dX9_isNight_7 : decode cX9_isNight 7 = .ok (.ireturn, 1) := by decide +kernel
theorem dX9_isHour_0 : decode cX9_isHour 0 = .ok (.iload_n 0, 1) := by decide +kernel
theorem dX9_isHour_1 : decode cX9_isHour 1 = .ok (.iconst 0, 1) := by decide +kernel
theorem dX9_isHour_2 : decode cX9_isHour 2 = .ok (.bipush 23, 2) := by decide +kernel
theorem dX9_isHour_4 : decode cX9_isHour 4 = .ok (.invokestatic 90, 3) := by decide +kernel
theorem dX9_isHour_7 : decode cX9_isHour 7 = .ok (.ireturn, 1) := by decide +kernel
theorem dX9_street_0 : decode cX9_street 0 = .ok (.iload_n 1, 1) := by decide +kernel
theorem dX9_street_1 : decode cX9_street 1 = .ok (.invokestatic 97, 3) := by decide +kernel
theorem dX9_street_4 : decode cX9_street 4 = .ok (.ifCond .eq 12, 3) := by decide +kernel
theorem dX9_street_7 : decode cX9_street 7 = .ok (.iload_n 2, 1) := by decide +kernel
theorem dX9_street_8 : decode cX9_street 8 = .ok (.iconst 0, 1) := by decide +kernel
theorem dX9_street_9 : decode cX9_street 9 = .ok (.iconst 5, 1) := by decide +kernel
theorem dX9_street_10 : decode cX9_street 10 = .ok (.invokestatic 90, 3) := by decide +kernel
theorem dX9_street_13 : decode cX9_street 13 = .ok (.ifCond .ne 5, 3) := by decide +kernel
theorem dX9_street_16 : decode cX9_street 16 = .ok (.iconst (-1), 1) := by decide +kernel
theorem dX9_street_17 : decode cX9_street 17 = .ok (.ireturn, 1) := by decide +kernel
theorem dX9_street_18 : decode cX9_street 18 = .ok (.aload_n 0, 1) := by decide +kernel
theorem dX9_street_19 : decode cX9_street 19 = .ok (.getfield 87, 3) := by decide +kernel
theorem dX9_street_22 : decode cX9_street 22 = .ok (.iconst 5, 1) := by decide +kernel
theorem dX9_street_23 : decode cX9_street 23 = .ok (.if_icmp .ne 6, 3) := by decide +kernel
theorem dX9_street_26 : decode cX9_street 26 = .ok (.bipush (-2), 2) := by decide +kernel
theorem dX9_street_28 : decode cX9_street 28 = .ok (.ireturn, 1) := by decide +kernel
theorem dX9_street_29 : decode cX9_street 29 = .ok (.aload_n 0, 1) := by decide +kernel
theorem dX9_street_30 : decode cX9_street 30 = .ok (.getfield 87, 3) := by decide +kernel
theorem dX9_street_33 : decode cX9_street 33 = .ok (.istore_n 3, 1) := by decide +kernel
theorem dX9_street_34 : decode cX9_street 34 = .ok (.aload_n 0, 1) := by decide +kernel
theorem dX9_street_35 : decode cX9_street 35 = .ok (.getfield 7, 3) := by decide +kernel
theorem dX9_street_38 : decode cX9_street 38 = .ok (.iload_n 3, 1) := by decide +kernel
theorem dX9_street_39 : decode cX9_street 39 = .ok (.iload_n 1, 1) := by decide +kernel
theorem dX9_street_40 : decode cX9_street 40 = .ok (.iastore, 1) := by decide +kernel
theorem dX9_street_41 : decode cX9_street 41 = .ok (.aload_n 0, 1) := by decide +kernel
theorem dX9_street_42 : decode cX9_street 42 = .ok (.getfield 13, 3) := by decide +kernel
theorem dX9_street_45 : decode cX9_street 45 = .ok (.iload_n 3, 1) := by decide +kernel
theorem dX9_street_46 : decode cX9_street 46 = .ok (.iload_n 2, 1) := by decide +kernel
theorem dX9_street_47 : decode cX9_street 47 = .ok (.iastore, 1) := by decide +kernel
theorem dX9_street_48 : decode cX9_street 48 = .ok (.aload_n 0, 1) := by decide +kernel
theorem dX9_street_49 : decode cX9_street 49 = .ok (.getfield 22, 3) := by decide +kernel
theorem dX9_street_52 : decode cX9_street 52 = .ok (.iload_n 3, 1) := by decide +kernel
theorem dX9_street_53 : decode cX9_street 53 = .ok (.iconst 0, 1) := by decide +kernel
theorem dX9_street_54 : decode cX9_street 54 = .ok (.iastore, 1) := by decide +kernel
theorem dX9_street_55 : decode cX9_street 55 = .ok (.iconst 0, 1) := by decide +kernel
theorem dX9_street_56 : decode cX9_street 56 = .ok (.istore 4, 2) := by decide +kernel
theorem dX9_street_58 : decode cX9_street 58 = .ok (.iload 4, 2) := by decide +kernel
theorem dX9_street_60 : decode cX9_street 60 = .ok (.bipush 7, 2) := by decide +kernel
theorem dX9_street_62 : decode cX9_street 62 = .ok (.if_icmp .ge 22, 3) := by decide +kernel
theorem dX9_street_65 : decode cX9_street 65 = .ok (.aload_n 0, 1) := by decide +kernel
theorem dX9_street_66 : decode cX9_street 66 = .ok (.getfield 16, 3) := by decide +kernel
theorem dX9_street_69 : decode cX9_street 69 = .ok (.bipush 7, 2) := by decide +kernel
theorem dX9_street_71 : decode cX9_street 71 = .ok (.iload_n 3, 1) := by decide +kernel
theorem dX9_street_72 : decode cX9_street 72 = .ok (.imul, 1) := by decide +kernel
theorem dX9_street_73 : decode cX9_street 73 = .ok (.iload 4, 2) := by decide +kernel
theorem dX9_street_75 : decode cX9_street 75 = .ok (.iadd, 1) := by decide +kernel
theorem dX9_street_76 : decode cX9_street 76 = .ok (.iconst 0, 1) := by decide +kernel
theorem dX9_street_77 : decode cX9_street 77 = .ok (.iastore, 1) := by decide +kernel
theorem dX9_street_78 : decode cX9_street 78 = .ok (.iinc 4 1, 3) := by decide +kernel
theorem dX9_street_81 : decode cX9_street 81 = .ok (.goto (-23), 3) := by decide +kernel
theorem dX9_street_84 : decode cX9_street 84 = .ok (.iconst 0, 1) := by decide +kernel
theorem dX9_street_85 : decode cX9_street 85 = .ok (.istore 4, 2) := by decide +kernel
theorem dX9_street_87 : decode cX9_street 87 = .ok (.iload 4, 2) := by decide +kernel
theorem dX9_street_89 : decode cX9_street 89 = .ok (.iload_n 3, 1) := by decide +kernel
theorem dX9_street_90 : decode cX9_street 90 = .ok (.if_icmp .ge 35, 3) := by decide +kernel
theorem dX9_street_93 : decode cX9_street 93 = .ok (.aload_n 0, 1) := by decide +kernel
theorem dX9_street_94 : decode cX9_street 94 = .ok (.getfield 19, 3) := by decide +kernel
theorem dX9_street_97 : decode cX9_street 97 = .ok (.iconst 5, 1) := by decide +kernel
theorem dX9_street_98 : decode cX9_street 98 = .ok (.iload_n 3, 1) := by decide +kernel
theorem dX9_street_99 : decode cX9_street 99 = .ok (.imul, 1) := by decide +kernel
theorem dX9_street_100 : decode cX9_street 100 = .ok (.iload 4, 2) := by decide +kernel
theorem dX9_street_102 : decode cX9_street 102 = .ok (.iadd, 1) := by decide +kernel
theorem dX9_street_103 : decode cX9_street 103 = .ok (.bipush 10, 2) := by decide +kernel
theorem dX9_street_105 : decode cX9_street 105 = .ok (.iastore, 1) := by decide +kernel
theorem dX9_street_106 : decode cX9_street 106 = .ok (.aload_n 0, 1) := by decide +kernel
theorem dX9_street_107 : decode cX9_street 107 = .ok (.getfield 19, 3) := by decide +kernel
theorem dX9_street_110 : decode cX9_street 110 = .ok (.iconst 5, 1) := by decide +kernel
theorem dX9_street_111 : decode cX9_street 111 = .ok (.iload 4, 2) := by decide +kernel
theorem dX9_street_113 : decode cX9_street 113 = .ok (.imul, 1) := by decide +kernel
theorem dX9_street_114 : decode cX9_street 114 = .ok (.iload_n 3, 1) := by decide +kernel
theorem dX9_street_115 : decode cX9_street 115 = .ok (.iadd, 1) := by decide +kernel
theorem dX9_street_116 : decode cX9_street 116 = .ok (.bipush 10, 2) := by decide +kernel
theorem dX9_street_118 : decode cX9_street 118 = .ok (.iastore, 1) := by decide +kernel
theorem dX9_street_119 : decode cX9_street 119 = .ok (.iinc 4 1, 3) := by decide +kernel
theorem dX9_street_122 : decode cX9_street 122 = .ok (.goto (-35), 3) := by decide +kernel
theorem dX9_street_125 : decode cX9_street 125 = .ok (.aload_n 0, 1) := by decide +kernel
theorem dX9_street_126 : decode cX9_street 126 = .ok (.getfield 19, 3) := by decide +kernel
theorem dX9_street_129 : decode cX9_street 129 = .ok (.iconst 5, 1) := by decide +kernel
theorem dX9_street_130 : decode cX9_street 130 = .ok (.iload_n 3, 1) := by decide +kernel
theorem dX9_street_131 : decode cX9_street 131 = .ok (.imul, 1) := by decide +kernel
theorem dX9_street_132 : decode cX9_street 132 = .ok (.iload_n 3, 1) := by decide +kernel
theorem dX9_street_133 : decode cX9_street 133 = .ok (.iadd, 1) := by decide +kernel
theorem dX9_street_134 : decode cX9_street 134 = .ok (.iconst 0, 1) := by decide +kernel
theorem dX9_street_135 : decode cX9_street 135 = .ok (.iastore, 1) := by decide +kernel
theorem dX9_street_136 : decode cX9_street 136 = .ok (.aload_n 0, 1) := by decide +kernel
theorem dX9_street_137 : decode cX9_street 137 = .ok (.dup, 1) := by decide +kernel
theorem dX9_street_138 : decode cX9_street 138 = .ok (.getfield 87, 3) := by decide +kernel
theorem dX9_street_141 : decode cX9_street 141 = .ok (.iconst 1, 1) := by decide +kernel
theorem dX9_street_142 : decode cX9_street 142 = .ok (.iadd, 1) := by decide +kernel
theorem dX9_street_143 : decode cX9_street 143 = .ok (.putfield 87, 3) := by decide +kernel
theorem dX9_street_146 : decode cX9_street 146 = .ok (.iload_n 3, 1) := by decide +kernel
theorem dX9_street_147 : decode cX9_street 147 = .ok (.ireturn, 1) := by decide +kernel
theorem dX9_move_0 : decode cX9_move 0 = .ok (.aload_n 0, 1) := by decide +kernel
theorem dX9_move_1 : decode cX9_move 1 = .ok (.iload_n 1, 1) := by decide +kernel
theorem dX9_move_2 : decode cX9_move 2 = .ok (.invokevirtual 101, 3) := by decide +kernel
theorem dX9_move_5 : decode cX9_move 5 = .ok (.ifCond .eq 10, 3) := by decide +kernel
theorem dX9_move_8 : decode cX9_move 8 = .ok (.iload_n 2, 1) := by decide +kernel
theorem dX9_move_9 : decode cX9_move 9 = .ok (.invokestatic 97, 3) := by decide +kernel
theorem dX9_move_12 : decode cX9_move 12 = .ok (.ifCond .ne 5, 3) := by decide +kernel
theorem dX9_move_15 : decode cX9_move 15 = .ok (.iconst (-1), 1) := by decide +kernel
theorem dX9_move_16 : decode cX9_move 16 = .ok (.ireturn, 1) := by decide +kernel
theorem dX9_move_17 : decode cX9_move 17 = .ok (.aload_n 0, 1) := by decide +kernel
theorem dX9_move_18 : decode cX9_move 18 = .ok (.getfield 7, 3) := by decide +kernel
theorem dX9_move_21 : decode cX9_move 21 = .ok (.iload_n 1, 1) := by decide +kernel
theorem dX9_move_22 : decode cX9_move 22 = .ok (.iaload, 1) := by decide +kernel
theorem dX9_move_23 : decode cX9_move 23 = .ok (.istore_n 3, 1) := by decide +kernel
theorem dX9_move_24 : decode cX9_move 24 = .ok (.aload_n 0, 1) := by decide +kernel
theorem dX9_move_25 : decode cX9_move 25 = .ok (.getfield 7, 3) := by decide +kernel
theorem dX9_move_28 : decode cX9_move 28 = .ok (.iload_n 1, 1) := by decide +kernel
theorem dX9_move_29 : decode cX9_move 29 = .ok (.iload_n 2, 1) := by decide +kernel
theorem dX9_move_30 : decode cX9_move 30 = .ok (.iastore, 1) := by decide +kernel
theorem dX9_move_31 : decode cX9_move 31 = .ok (.iload_n 3, 1) := by decide +kernel
theorem dX9_move_32 : decode cX9_move 32 = .ok (.ireturn, 1) := by decide +kernel
theorem dX9_walk_0 : decode cX9_walk 0 = .ok (.aload_n 0, 1) := by decide +kernel
theorem dX9_walk_1 : decode cX9_walk 1 = .ok (.iload_n 1, 1) := by decide +kernel
theorem dX9_walk_2 : decode cX9_walk 2 = .ok (.invokevirtual 101, 3) := by decide +kernel
theorem dX9_walk_5 : decode cX9_walk 5 = .ok (.ifCond .eq 26, 3) := by decide +kernel
theorem dX9_walk_8 : decode cX9_walk 8 = .ok (.aload_n 0, 1) := by decide +kernel
theorem dX9_walk_9 : decode cX9_walk 9 = .ok (.iload_n 2, 1) := by decide +kernel
theorem dX9_walk_10 : decode cX9_walk 10 = .ok (.invokevirtual 101, 3) := by decide +kernel
theorem dX9_walk_13 : decode cX9_walk 13 = .ok (.ifCond .eq 18, 3) := by decide +kernel
theorem dX9_walk_16 : decode cX9_walk 16 = .ok (.iload_n 1, 1) := by decide +kernel
theorem dX9_walk_17 : decode cX9_walk 17 = .ok (.iload_n 2, 1) := by decide +kernel
theorem dX9_walk_18 : decode cX9_walk 18 = .ok (.if_icmp .eq 13, 3) := by decide +kernel
theorem dX9_walk_21 : decode cX9_walk 21 = .ok (.iload_n 3, 1) := by decide +kernel
theorem dX9_walk_22 : decode cX9_walk 22 = .ok (.iconst 0, 1) := by decide +kernel
theorem dX9_walk_23 : decode cX9_walk 23 = .ok (.bipush 50, 2) := by decide +kernel
theorem dX9_walk_25 : decode cX9_walk 25 = .ok (.invokestatic 90, 3) := by decide +kernel
theorem dX9_walk_28 : decode cX9_walk 28 = .ok (.ifCond .ne 5, 3) := by decide +kernel
theorem dX9_walk_31 : decode cX9_walk 31 = .ok (.iconst (-1), 1) := by decide +kernel
theorem dX9_walk_32 : decode cX9_walk 32 = .ok (.ireturn, 1) := by decide +kernel
theorem dX9_walk_33 : decode cX9_walk 33 = .ok (.aload_n 0, 1) := by decide +kernel
theorem dX9_walk_34 : decode cX9_walk 34 = .ok (.getfield 19, 3) := by decide +kernel
theorem dX9_walk_37 : decode cX9_walk 37 = .ok (.iconst 5, 1) := by decide +kernel
theorem dX9_walk_38 : decode cX9_walk 38 = .ok (.iload_n 1, 1) := by decide +kernel
theorem dX9_walk_39 : decode cX9_walk 39 = .ok (.imul, 1) := by decide +kernel
theorem dX9_walk_40 : decode cX9_walk 40 = .ok (.iload_n 2, 1) := by decide +kernel
theorem dX9_walk_41 : decode cX9_walk 41 = .ok (.iadd, 1) := by decide +kernel
theorem dX9_walk_42 : decode cX9_walk 42 = .ok (.iaload, 1) := by decide +kernel
theorem dX9_walk_43 : decode cX9_walk 43 = .ok (.istore 4, 2) := by decide +kernel
theorem dX9_walk_45 : decode cX9_walk 45 = .ok (.aload_n 0, 1) := by decide +kernel
theorem dX9_walk_46 : decode cX9_walk 46 = .ok (.getfield 19, 3) := by decide +kernel
theorem dX9_walk_49 : decode cX9_walk 49 = .ok (.iconst 5, 1) := by decide +kernel
theorem dX9_walk_50 : decode cX9_walk 50 = .ok (.iload_n 1, 1) := by decide +kernel
theorem dX9_walk_51 : decode cX9_walk 51 = .ok (.imul, 1) := by decide +kernel
theorem dX9_walk_52 : decode cX9_walk 52 = .ok (.iload_n 2, 1) := by decide +kernel
theorem dX9_walk_53 : decode cX9_walk 53 = .ok (.iadd, 1) := by decide +kernel
theorem dX9_walk_54 : decode cX9_walk 54 = .ok (.iload_n 3, 1) := by decide +kernel
theorem dX9_walk_55 : decode cX9_walk 55 = .ok (.iastore, 1) := by decide +kernel
theorem dX9_walk_56 : decode cX9_walk 56 = .ok (.aload_n 0, 1) := by decide +kernel
theorem dX9_walk_57 : decode cX9_walk 57 = .ok (.getfield 19, 3) := by decide +kernel
theorem dX9_walk_60 : decode cX9_walk 60 = .ok (.iconst 5, 1) := by decide +kernel
theorem dX9_walk_61 : decode cX9_walk 61 = .ok (.iload_n 2, 1) := by decide +kernel
theorem dX9_walk_62 : decode cX9_walk 62 = .ok (.imul, 1) := by decide +kernel
theorem dX9_walk_63 : decode cX9_walk 63 = .ok (.iload_n 1, 1) := by decide +kernel
theorem dX9_walk_64 : decode cX9_walk 64 = .ok (.iadd, 1) := by decide +kernel
theorem dX9_walk_65 : decode cX9_walk 65 = .ok (.iload_n 3, 1) := by decide +kernel
theorem dX9_walk_66 : decode cX9_walk 66 = .ok (.iastore, 1) := by decide +kernel
theorem dX9_walk_67 : decode cX9_walk 67 = .ok (.iload 4, 2) := by decide +kernel
theorem dX9_walk_69 : decode cX9_walk 69 = .ok (.ireturn, 1) := by decide +kernel
theorem dX9_close_0 : decode cX9_close 0 = .ok (.aload_n 0, 1) := by decide +kernel
theorem dX9_close_1 : decode cX9_close 1 = .ok (.iload_n 1, 1) := by decide +kernel
theorem dX9_close_2 : decode cX9_close 2 = .ok (.invokevirtual 101, 3) := by decide +kernel
theorem dX9_close_5 : decode cX9_close 5 = .ok (.ifCond .eq 24, 3) := by decide +kernel
theorem dX9_close_8 : decode cX9_close 8 = .ok (.iload_n 2, 1) := by decide +kernel
theorem dX9_close_9 : decode cX9_close 9 = .ok (.invokestatic 104, 3) := by decide +kernel
theorem dX9_close_12 : decode cX9_close 12 = .ok (.ifCond .eq 17, 3) := by decide +kernel
theorem dX9_close_15 : decode cX9_close 15 = .ok (.iload_n 3, 1) := by decide +kernel
theorem dX9_close_16 : decode cX9_close 16 = .ok (.iconst 0, 1) := by decide +kernel
theorem dX9_close_17 : decode cX9_close 17 = .ok (.aload_n 0, 1) := by decide +kernel
theorem dX9_close_18 : decode cX9_close 18 = .ok (.getfield 13, 3) := by decide +kernel
theorem dX9_close_21 : decode cX9_close 21 = .ok (.iload_n 1, 1) := by decide +kernel
theorem dX9_close_22 : decode cX9_close 22 = .ok (.iaload, 1) := by decide +kernel
theorem dX9_close_23 : decode cX9_close 23 = .ok (.invokestatic 90, 3) := by decide +kernel
theorem dX9_close_26 : decode cX9_close 26 = .ok (.ifCond .ne 5, 3) := by decide +kernel
theorem dX9_close_29 : decode cX9_close 29 = .ok (.iconst (-1), 1) := by decide +kernel
theorem dX9_close_30 : decode cX9_close 30 = .ok (.ireturn, 1) := by decide +kernel
theorem dX9_close_31 : decode cX9_close 31 = .ok (.aload_n 0, 1) := by decide +kernel
theorem dX9_close_32 : decode cX9_close 32 = .ok (.getfield 16, 3) := by decide +kernel
theorem dX9_close_35 : decode cX9_close 35 = .ok (.bipush 7, 2) := by decide +kernel
theorem dX9_close_37 : decode cX9_close 37 = .ok (.iload_n 1, 1) := by decide +kernel
theorem dX9_close_38 : decode cX9_close 38 = .ok (.imul, 1) := by decide +kernel
theorem dX9_close_39 : decode cX9_close 39 = .ok (.iload_n 2, 1) := by decide +kernel
theorem dX9_close_40 : decode cX9_close 40 = .ok (.iadd, 1) := by decide +kernel
theorem dX9_close_41 : decode cX9_close 41 = .ok (.iaload, 1) := by decide +kernel
theorem dX9_close_42 : decode cX9_close 42 = .ok (.istore 4, 2) := by decide +kernel
theorem dX9_close_44 : decode cX9_close 44 = .ok (.aload_n 0, 1) := by decide +kernel
theorem dX9_close_45 : decode cX9_close 45 = .ok (.getfield 16, 3) := by decide +kernel
theorem dX9_close_48 : decode cX9_close 48 = .ok (.bipush 7, 2) := by decide +kernel
theorem dX9_close_50 : decode cX9_close 50 = .ok (.iload_n 1, 1) := by decide +kernel
theorem dX9_close_51 : decode cX9_close 51 = .ok (.imul, 1) := by decide +kernel
theorem dX9_close_52 : decode cX9_close 52 = .ok (.iload_n 2, 1) := by decide +kernel
theorem dX9_close_53 : decode cX9_close 53 = .ok (.iadd, 1) := by decide +kernel
theorem dX9_close_54 : decode cX9_close 54 = .ok (.iload_n 3, 1) := by decide +kernel
theorem dX9_close_55 : decode cX9_close 55 = .ok (.iastore, 1) := by decide +kernel
theorem dX9_close_56 : decode cX9_close 56 = .ok (.iload 4, 2) := by decide +kernel
theorem dX9_close_58 : decode cX9_close 58 = .ok (.ireturn, 1) := by decide +kernel
theorem dX9_areHours_0 : decode cX9_areHours 0 = .ok (.iload_n 0, 1) := by decide +kernel
theorem dX9_areHours_1 : decode cX9_areHours 1 = .ok (.iconst (-1), 1) := by decide +kernel
theorem dX9_areHours_2 : decode cX9_areHours 2 = .ok (.if_icmp .eq 17, 3) := by decide +kernel
theorem dX9_areHours_5 : decode cX9_areHours 5 = .ok (.iload_n 0, 1) := by decide +kernel
theorem dX9_areHours_6 : decode cX9_areHours 6 = .ok (.invokestatic 107, 3) := by decide +kernel
theorem dX9_areHours_9 : decode cX9_areHours 9 = .ok (.ifCond .eq 14, 3) := by decide +kernel
theorem dX9_areHours_12 : decode cX9_areHours 12 = .ok (.iload_n 1, 1) := by decide +kernel
theorem dX9_areHours_13 : decode cX9_areHours 13 = .ok (.invokestatic 107, 3) := by decide +kernel
theorem dX9_areHours_16 : decode cX9_areHours 16 = .ok (.ifCond .eq 7, 3) := by decide +kernel
theorem dX9_areHours_19 : decode cX9_areHours 19 = .ok (.iconst 1, 1) := by decide +kernel
theorem dX9_areHours_20 : decode cX9_areHours 20 = .ok (.goto 4, 3) := by decide +kernel
theorem dX9_areHours_23 : decode cX9_areHours 23 = .ok (.iconst 0, 1) := by decide +kernel
theorem dX9_areHours_24 : decode cX9_areHours 24 = .ok (.ireturn, 1) := by decide +kernel
theorem dX9_rule_0 : decode cX9_rule 0 = .ok (.iload_n 1, 1) := by decide +kernel
theorem dX9_rule_1 : decode cX9_rule 1 = .ok (.invokestatic 97, 3) := by decide +kernel
theorem dX9_rule_4 : decode cX9_rule 4 = .ok (.ifCond .eq 11, 3) := by decide +kernel
theorem dX9_rule_7 : decode cX9_rule 7 = .ok (.iload_n 2, 1) := by decide +kernel
theorem dX9_rule_8 : decode cX9_rule 8 = .ok (.iload_n 3, 1) := by decide +kernel
theorem dX9_rule_9 : decode cX9_rule 9 = .ok (.invokestatic 110, 3) := by decide +kernel
theorem dX9_rule_12 : decode cX9_rule 12 = .ok (.ifCond .ne 5, 3) := by decide +kernel
theorem dX9_rule_15 : decode cX9_rule 15 = .ok (.iconst (-1), 1) := by decide +kernel
theorem dX9_rule_16 : decode cX9_rule 16 = .ok (.ireturn, 1) := by decide +kernel
theorem dX9_rule_17 : decode cX9_rule 17 = .ok (.aload_n 0, 1) := by decide +kernel
theorem dX9_rule_18 : decode cX9_rule 18 = .ok (.getfield 41, 3) := by decide +kernel
theorem dX9_rule_21 : decode cX9_rule 21 = .ok (.iload_n 1, 1) := by decide +kernel
theorem dX9_rule_22 : decode cX9_rule 22 = .ok (.iload_n 2, 1) := by decide +kernel
theorem dX9_rule_23 : decode cX9_rule 23 = .ok (.iastore, 1) := by decide +kernel
theorem dX9_rule_24 : decode cX9_rule 24 = .ok (.aload_n 0, 1) := by decide +kernel
theorem dX9_rule_25 : decode cX9_rule 25 = .ok (.getfield 44, 3) := by decide +kernel
theorem dX9_rule_28 : decode cX9_rule 28 = .ok (.iload_n 1, 1) := by decide +kernel
theorem dX9_rule_29 : decode cX9_rule 29 = .ok (.iload_n 3, 1) := by decide +kernel
theorem dX9_rule_30 : decode cX9_rule 30 = .ok (.iastore, 1) := by decide +kernel
theorem dX9_rule_31 : decode cX9_rule 31 = .ok (.iconst 1, 1) := by decide +kernel
theorem dX9_rule_32 : decode cX9_rule 32 = .ok (.ireturn, 1) := by decide +kernel
theorem dX9_hours_0 : decode cX9_hours 0 = .ok (.iload_n 1, 1) := by decide +kernel
theorem dX9_hours_1 : decode cX9_hours 1 = .ok (.invokestatic 97, 3) := by decide +kernel
theorem dX9_hours_4 : decode cX9_hours 4 = .ok (.ifCond .eq 19, 3) := by decide +kernel
theorem dX9_hours_7 : decode cX9_hours 7 = .ok (.iload_n 2, 1) := by decide +kernel
theorem dX9_hours_8 : decode cX9_hours 8 = .ok (.invokestatic 114, 3) := by decide +kernel
theorem dX9_hours_11 : decode cX9_hours 11 = .ok (.ifCond .eq 12, 3) := by decide +kernel
theorem dX9_hours_14 : decode cX9_hours 14 = .ok (.iload_n 3, 1) := by decide +kernel
theorem dX9_hours_15 : decode cX9_hours 15 = .ok (.iload 4, 2) := by decide +kernel
theorem dX9_hours_17 : decode cX9_hours 17 = .ok (.invokestatic 110, 3) := by decide +kernel
theorem dX9_hours_20 : decode cX9_hours 20 = .ok (.ifCond .ne 5, 3) := by decide +kernel
theorem dX9_hours_23 : decode cX9_hours 23 = .ok (.iconst (-1), 1) := by decide +kernel
theorem dX9_hours_24 : decode cX9_hours 24 = .ok (.ireturn, 1) := by decide +kernel
theorem dX9_hours_25 : decode cX9_hours 25 = .ok (.aload_n 0, 1) := by decide +kernel
theorem dX9_hours_26 : decode cX9_hours 26 = .ok (.getfield 47, 3) := by decide +kernel
theorem dX9_hours_29 : decode cX9_hours 29 = .ok (.iconst 3, 1) := by decide +kernel
theorem dX9_hours_30 : decode cX9_hours 30 = .ok (.iload_n 1, 1) := by decide +kernel
theorem dX9_hours_31 : decode cX9_hours 31 = .ok (.imul, 1) := by decide +kernel
theorem dX9_hours_32 : decode cX9_hours 32 = .ok (.iload_n 2, 1) := by decide +kernel
theorem dX9_hours_33 : decode cX9_hours 33 = .ok (.iadd, 1) := by decide +kernel
theorem dX9_hours_34 : decode cX9_hours 34 = .ok (.iload_n 3, 1) := by decide +kernel
theorem dX9_hours_35 : decode cX9_hours 35 = .ok (.iastore, 1) := by decide +kernel
theorem dX9_hours_36 : decode cX9_hours 36 = .ok (.aload_n 0, 1) := by decide +kernel
theorem dX9_hours_37 : decode cX9_hours 37 = .ok (.getfield 50, 3) := by decide +kernel
theorem dX9_hours_40 : decode cX9_hours 40 = .ok (.iconst 3, 1) := by decide +kernel
theorem dX9_hours_41 : decode cX9_hours 41 = .ok (.iload_n 1, 1) := by decide +kernel
theorem dX9_hours_42 : decode cX9_hours 42 = .ok (.imul, 1) := by decide +kernel
theorem dX9_hours_43 : decode cX9_hours 43 = .ok (.iload_n 2, 1) := by decide +kernel
theorem dX9_hours_44 : decode cX9_hours 44 = .ok (.iadd, 1) := by decide +kernel
theorem dX9_hours_45 : decode cX9_hours 45 = .ok (.iload 4, 2) := by decide +kernel
theorem dX9_hours_47 : decode cX9_hours 47 = .ok (.iastore, 1) := by decide +kernel
theorem dX9_hours_48 : decode cX9_hours 48 = .ok (.iconst 1, 1) := by decide +kernel
theorem dX9_hours_49 : decode cX9_hours 49 = .ok (.ireturn, 1) := by decide +kernel
theorem dX9_isWithin_0 : decode cX9_isWithin 0 = .ok (.iload_n 1, 1) := by decide +kernel
theorem dX9_isWithin_1 : decode cX9_isWithin 1 = .ok (.ifCond .ge 5, 3) := by decide +kernel
theorem dX9_isWithin_4 : decode cX9_isWithin 4 = .ok (.iconst 0, 1) := by decide +kernel
theorem dX9_isWithin_5 : decode cX9_isWithin 5 = .ok (.ireturn, 1) := by decide +kernel
theorem dX9_isWithin_6 : decode cX9_isWithin 6 = .ok (.iload_n 1, 1) := by decide +kernel
theorem dX9_isWithin_7 : decode cX9_isWithin 7 = .ok (.iload_n 2, 1) := by decide +kernel
theorem dX9_isWithin_8 : decode cX9_isWithin 8 = .ok (.if_icmp .gt 21, 3) := by decide +kernel
theorem dX9_isWithin_11 : decode cX9_isWithin 11 = .ok (.iload_n 0, 1) := by decide +kernel
theorem dX9_isWithin_12 : decode cX9_isWithin 12 = .ok (.iload_n 1, 1) := by decide +kernel
theorem dX9_isWithin_13 : decode cX9_isWithin 13 = .ok (.if_icmp .lt 12, 3) := by decide +kernel
theorem dX9_isWithin_16 : decode cX9_isWithin 16 = .ok (.iload_n 0, 1) := by decide +kernel
theorem dX9_isWithin_17 : decode cX9_isWithin 17 = .ok (.iload_n 2, 1) := by decide +kernel
theorem dX9_isWithin_18 : decode cX9_isWithin 18 = .ok (.if_icmp .gt 7, 3) := by decide +kernel
theorem dX9_isWithin_21 : decode cX9_isWithin 21 = .ok (.iconst 1, 1) := by decide +kernel
theorem dX9_isWithin_22 : decode cX9_isWithin 22 = .ok (.goto 22, 3) := by decide +kernel
theorem dX9_isWithin_25 : decode cX9_isWithin 25 = .ok (.iconst 0, 1) := by decide +kernel
theorem dX9_isWithin_26 : decode cX9_isWithin 26 = .ok (.goto 18, 3) := by decide +kernel
theorem dX9_isWithin_29 : decode cX9_isWithin 29 = .ok (.iload_n 0, 1) := by decide +kernel
theorem dX9_isWithin_30 : decode cX9_isWithin 30 = .ok (.iload_n 1, 1) := by decide +kernel
theorem dX9_isWithin_31 : decode cX9_isWithin 31 = .ok (.if_icmp .ge 8, 3) := by decide +kernel
theorem dX9_isWithin_34 : decode cX9_isWithin 34 = .ok (.iload_n 0, 1) := by decide +kernel
theorem dX9_isWithin_35 : decode cX9_isWithin 35 = .ok (.iload_n 2, 1) := by decide +kernel
theorem dX9_isWithin_36 : decode cX9_isWithin 36 = .ok (.if_icmp .gt 7, 3) := by decide +kernel
theorem dX9_isWithin_39 : decode cX9_isWithin 39 = .ok (.iconst 1, 1) := by decide +kernel
theorem dX9_isWithin_40 : decode cX9_isWithin 40 = .ok (.goto 4, 3) := by decide +kernel
theorem dX9_isWithin_43 : decode cX9_isWithin 43 = .ok (.iconst 0, 1) := by decide +kernel
theorem dX9_isWithin_44 : decode cX9_isWithin 44 = .ok (.ireturn, 1) := by decide +kernel
theorem dX9_car_0 : decode cX9_car 0 = .ok (.aload_n 0, 1) := by decide +kernel
theorem dX9_car_1 : decode cX9_car 1 = .ok (.iload_n 1, 1) := by decide +kernel
theorem dX9_car_2 : decode cX9_car 2 = .ok (.invokevirtual 101, 3) := by decide +kernel
theorem dX9_car_5 : decode cX9_car 5 = .ok (.ifCond .ne 5, 3) := by decide +kernel
theorem dX9_car_8 : decode cX9_car 8 = .ok (.iconst (-1), 1) := by decide +kernel
theorem dX9_car_9 : decode cX9_car 9 = .ok (.ireturn, 1) := by decide +kernel
theorem dX9_car_10 : decode cX9_car 10 = .ok (.aload_n 0, 1) := by decide +kernel
theorem dX9_car_11 : decode cX9_car 11 = .ok (.getfield 94, 3) := by decide +kernel
theorem dX9_car_14 : decode cX9_car 14 = .ok (.bipush 7, 2) := by decide +kernel
theorem dX9_car_16 : decode cX9_car 16 = .ok (.if_icmp .ne 6, 3) := by decide +kernel
theorem dX9_car_19 : decode cX9_car 19 = .ok (.bipush (-2), 2) := by decide +kernel
theorem dX9_car_21 : decode cX9_car 21 = .ok (.ireturn, 1) := by decide +kernel
theorem dX9_car_22 : decode cX9_car 22 = .ok (.aload_n 0, 1) := by decide +kernel
theorem dX9_car_23 : decode cX9_car 23 = .ok (.getfield 94, 3) := by decide +kernel
theorem dX9_car_26 : decode cX9_car 26 = .ok (.istore_n 2, 1) := by decide +kernel
theorem dX9_car_27 : decode cX9_car 27 = .ok (.aload_n 0, 1) := by decide +kernel
theorem dX9_car_28 : decode cX9_car 28 = .ok (.getfield 25, 3) := by decide +kernel
theorem dX9_car_31 : decode cX9_car 31 = .ok (.iload_n 2, 1) := by decide +kernel
theorem dX9_car_32 : decode cX9_car 32 = .ok (.iload_n 1, 1) := by decide +kernel
theorem dX9_car_33 : decode cX9_car 33 = .ok (.iastore, 1) := by decide +kernel
theorem dX9_car_34 : decode cX9_car 34 = .ok (.aload_n 0, 1) := by decide +kernel
theorem dX9_car_35 : decode cX9_car 35 = .ok (.getfield 35, 3) := by decide +kernel
theorem dX9_car_38 : decode cX9_car 38 = .ok (.iload_n 2, 1) := by decide +kernel
theorem dX9_car_39 : decode cX9_car 39 = .ok (.bipush 99, 2) := by decide +kernel
theorem dX9_car_41 : decode cX9_car 41 = .ok (.iastore, 1) := by decide +kernel
theorem dX9_car_42 : decode cX9_car 42 = .ok (.aload_n 0, 1) := by decide +kernel
theorem dX9_car_43 : decode cX9_car 43 = .ok (.getfield 38, 3) := by decide +kernel
theorem dX9_car_46 : decode cX9_car 46 = .ok (.iload_n 2, 1) := by decide +kernel
theorem dX9_car_47 : decode cX9_car 47 = .ok (.iload_n 2, 1) := by decide +kernel
theorem dX9_car_48 : decode cX9_car 48 = .ok (.iastore, 1) := by decide +kernel
theorem dX9_car_49 : decode cX9_car 49 = .ok (.iconst 0, 1) := by decide +kernel
theorem dX9_car_50 : decode cX9_car 50 = .ok (.istore_n 3, 1) := by decide +kernel
theorem dX9_car_51 : decode cX9_car 51 = .ok (.iload_n 3, 1) := by decide +kernel
theorem dX9_car_52 : decode cX9_car 52 = .ok (.iconst 4, 1) := by decide +kernel
theorem dX9_car_53 : decode cX9_car 53 = .ok (.if_icmp .ge 51, 3) := by decide +kernel
theorem dX9_car_56 : decode cX9_car 56 = .ok (.aload_n 0, 1) := by decide +kernel
theorem dX9_car_57 : decode cX9_car 57 = .ok (.getfield 32, 3) := by decide +kernel
theorem dX9_car_60 : decode cX9_car 60 = .ok (.iconst 4, 1) := by decide +kernel
theorem dX9_car_61 : decode cX9_car 61 = .ok (.iload_n 2, 1) := by decide +kernel
theorem dX9_car_62 : decode cX9_car 62 = .ok (.imul, 1) := by decide +kernel
theorem dX9_car_63 : decode cX9_car 63 = .ok (.iload_n 3, 1) := by decide +kernel
theorem dX9_car_64 : decode cX9_car 64 = .ok (.iadd, 1) := by decide +kernel
theorem dX9_car_65 : decode cX9_car 65 = .ok (.iconst 0, 1) := by decide +kernel
theorem dX9_car_66 : decode cX9_car 66 = .ok (.iastore, 1) := by decide +kernel
theorem dX9_car_67 : decode cX9_car 67 = .ok (.iconst 0, 1) := by decide +kernel
theorem dX9_car_68 : decode cX9_car 68 = .ok (.istore 4, 2) := by decide +kernel
theorem dX9_car_70 : decode cX9_car 70 = .ok (.iload 4, 2) := by decide +kernel
theorem dX9_car_72 : decode cX9_car 72 = .ok (.iconst 3, 1) := by decide +kernel
theorem dX9_car_73 : decode cX9_car 73 = .ok (.if_icmp .ge 25, 3) := by decide +kernel
theorem dX9_car_76 : decode cX9_car 76 = .ok (.aload_n 0, 1) := by decide +kernel
theorem dX9_car_77 : decode cX9_car 77 = .ok (.getfield 28, 3) := by decide +kernel
theorem dX9_car_80 : decode cX9_car 80 = .ok (.iconst 4, 1) := by decide +kernel
theorem dX9_car_81 : decode cX9_car 81 = .ok (.iload_n 2, 1) := by decide +kernel
theorem dX9_car_82 : decode cX9_car 82 = .ok (.imul, 1) := by decide +kernel
theorem dX9_car_83 : decode cX9_car 83 = .ok (.iload_n 3, 1) := by decide +kernel
theorem dX9_car_84 : decode cX9_car 84 = .ok (.iadd, 1) := by decide +kernel
theorem dX9_car_85 : decode cX9_car 85 = .ok (.iconst 3, 1) := by decide +kernel
theorem dX9_car_86 : decode cX9_car 86 = .ok (.imul, 1) := by decide +kernel
theorem dX9_car_87 : decode cX9_car 87 = .ok (.iload 4, 2) := by decide +kernel
theorem dX9_car_89 : decode cX9_car 89 = .ok (.iadd, 1) := by decide +kernel
theorem dX9_car_90 : decode cX9_car 90 = .ok (.iconst 0, 1) := by decide +kernel
theorem dX9_car_91 : decode cX9_car 91 = .ok (.bastore, 1) := by decide +kernel
theorem dX9_car_92 : decode cX9_car 92 = .ok (.iinc 4 1, 3) := by decide +kernel
theorem dX9_car_95 : decode cX9_car 95 = .ok (.goto (-25), 3) := by decide +kernel
theorem dX9_car_98 : decode cX9_car 98 = .ok (.iinc 3 1, 3) := by decide +kernel
theorem dX9_car_101 : decode cX9_car 101 = .ok (.goto (-50), 3) := by decide +kernel
theorem dX9_car_104 : decode cX9_car 104 = .ok (.aload_n 0, 1) := by decide +kernel
theorem dX9_car_105 : decode cX9_car 105 = .ok (.dup, 1) := by decide +kernel
theorem dX9_car_106 : decode cX9_car 106 = .ok (.getfield 94, 3) := by decide +kernel
theorem dX9_car_109 : decode cX9_car 109 = .ok (.iconst 1, 1) := by decide +kernel
theorem dX9_car_110 : decode cX9_car 110 = .ok (.iadd, 1) := by decide +kernel
theorem dX9_car_111 : decode cX9_car 111 = .ok (.putfield 94, 3) := by decide +kernel
theorem dX9_car_114 : decode cX9_car 114 = .ok (.iload_n 2, 1) := by decide +kernel
theorem dX9_car_115 : decode cX9_car 115 = .ok (.ireturn, 1) := by decide +kernel
theorem dX9_permit_0 : decode cX9_permit 0 = .ok (.aload_n 0, 1) := by decide +kernel
theorem dX9_permit_1 : decode cX9_permit 1 = .ok (.iload_n 1, 1) := by decide +kernel
theorem dX9_permit_2 : decode cX9_permit 2 = .ok (.invokevirtual 117, 3) := by decide +kernel
theorem dX9_permit_5 : decode cX9_permit 5 = .ok (.ifCond .eq 17, 3) := by decide +kernel
theorem dX9_permit_8 : decode cX9_permit 8 = .ok (.iload_n 2, 1) := by decide +kernel
theorem dX9_permit_9 : decode cX9_permit 9 = .ok (.invokestatic 114, 3) := by decide +kernel
theorem dX9_permit_12 : decode cX9_permit 12 = .ok (.ifCond .eq 10, 3) := by decide +kernel
theorem dX9_permit_15 : decode cX9_permit 15 = .ok (.iload_n 3, 1) := by decide +kernel
theorem dX9_permit_16 : decode cX9_permit 16 = .ok (.invokestatic 97, 3) := by decide +kernel
theorem dX9_permit_19 : decode cX9_permit 19 = .ok (.ifCond .ne 5, 3) := by decide +kernel
theorem dX9_permit_22 : decode cX9_permit 22 = .ok (.iconst (-1), 1) := by decide +kernel
theorem dX9_permit_23 : decode cX9_permit 23 = .ok (.ireturn, 1) := by decide +kernel
theorem dX9_permit_24 : decode cX9_permit 24 = .ok (.iconst 4, 1) := by decide +kernel
theorem dX9_permit_25 : decode cX9_permit 25 = .ok (.iload_n 1, 1) := by decide +kernel
theorem dX9_permit_26 : decode cX9_permit 26 = .ok (.imul, 1) := by decide +kernel
theorem dX9_permit_27 : decode cX9_permit 27 = .ok (.iload_n 3, 1) := by decide +kernel
theorem dX9_permit_28 : decode cX9_permit 28 = .ok (.iadd, 1) := by decide +kernel
theorem dX9_permit_29 : decode cX9_permit 29 = .ok (.iconst 3, 1) := by decide +kernel
theorem dX9_permit_30 : decode cX9_permit 30 = .ok (.imul, 1) := by decide +kernel
theorem dX9_permit_31 : decode cX9_permit 31 = .ok (.iload_n 2, 1) := by decide +kernel
theorem dX9_permit_32 : decode cX9_permit 32 = .ok (.iadd, 1) := by decide +kernel
theorem dX9_permit_33 : decode cX9_permit 33 = .ok (.istore 5, 2) := by decide +kernel
theorem dX9_permit_35 : decode cX9_permit 35 = .ok (.aload_n 0, 1) := by decide +kernel
theorem dX9_permit_36 : decode cX9_permit 36 = .ok (.getfield 28, 3) := by decide +kernel
theorem dX9_permit_39 : decode cX9_permit 39 = .ok (.iload 5, 2) := by decide +kernel
theorem dX9_permit_41 : decode cX9_permit 41 = .ok (.baload, 1) := by decide +kernel
theorem dX9_permit_42 : decode cX9_permit 42 = .ok (.istore 6, 2) := by decide +kernel
theorem dX9_permit_44 : decode cX9_permit 44 = .ok (.aload_n 0, 1) := by decide +kernel
theorem dX9_permit_45 : decode cX9_permit 45 = .ok (.getfield 28, 3) := by decide +kernel
theorem dX9_permit_48 : decode cX9_permit 48 = .ok (.iload 5, 2) := by decide +kernel
theorem dX9_permit_50 : decode cX9_permit 50 = .ok (.iload 4, 2) := by decide +kernel
theorem dX9_permit_52 : decode cX9_permit 52 = .ok (.bastore, 1) := by decide +kernel
theorem dX9_permit_53 : decode cX9_permit 53 = .ok (.iload 6, 2) := by decide +kernel
theorem dX9_permit_55 : decode cX9_permit 55 = .ok (.iload 4, 2) := by decide +kernel
theorem dX9_permit_57 : decode cX9_permit 57 = .ok (.if_icmp .ne 7, 3) := by decide +kernel
theorem dX9_permit_60 : decode cX9_permit 60 = .ok (.iconst 0, 1) := by decide +kernel
theorem dX9_permit_61 : decode cX9_permit 61 = .ok (.goto 4, 3) := by decide +kernel
theorem dX9_permit_64 : decode cX9_permit 64 = .ok (.iconst 1, 1) := by decide +kernel
theorem dX9_permit_65 : decode cX9_permit 65 = .ok (.ireturn, 1) := by decide +kernel
theorem dX9_cards_0 : decode cX9_cards 0 = .ok (.aload_n 0, 1) := by decide +kernel
theorem dX9_cards_1 : decode cX9_cards 1 = .ok (.iload_n 1, 1) := by decide +kernel
theorem dX9_cards_2 : decode cX9_cards 2 = .ok (.invokevirtual 117, 3) := by decide +kernel
theorem dX9_cards_5 : decode cX9_cards 5 = .ok (.ifCond .eq 20, 3) := by decide +kernel
theorem dX9_cards_8 : decode cX9_cards 8 = .ok (.iload_n 2, 1) := by decide +kernel
theorem dX9_cards_9 : decode cX9_cards 9 = .ok (.invokestatic 97, 3) := by decide +kernel
theorem dX9_cards_12 : decode cX9_cards 12 = .ok (.ifCond .eq 13, 3) := by decide +kernel
theorem dX9_cards_15 : decode cX9_cards 15 = .ok (.iload_n 3, 1) := by decide +kernel
theorem dX9_cards_16 : decode cX9_cards 16 = .ok (.iconst 0, 1) := by decide +kernel
theorem dX9_cards_17 : decode cX9_cards 17 = .ok (.bipush 9, 2) := by decide +kernel
theorem dX9_cards_19 : decode cX9_cards 19 = .ok (.invokestatic 90, 3) := by decide +kernel
theorem dX9_cards_22 : decode cX9_cards 22 = .ok (.ifCond .ne 5, 3) := by decide +kernel
theorem dX9_cards_25 : decode cX9_cards 25 = .ok (.iconst (-1), 1) := by decide +kernel
theorem dX9_cards_26 : decode cX9_cards 26 = .ok (.ireturn, 1) := by decide +kernel
theorem dX9_cards_27 : decode cX9_cards 27 = .ok (.aload_n 0, 1) := by decide +kernel
theorem dX9_cards_28 : decode cX9_cards 28 = .ok (.getfield 32, 3) := by decide +kernel
theorem dX9_cards_31 : decode cX9_cards 31 = .ok (.iconst 4, 1) := by decide +kernel
theorem dX9_cards_32 : decode cX9_cards 32 = .ok (.iload_n 1, 1) := by decide +kernel
theorem dX9_cards_33 : decode cX9_cards 33 = .ok (.imul, 1) := by decide +kernel
theorem dX9_cards_34 : decode cX9_cards 34 = .ok (.iload_n 2, 1) := by decide +kernel
theorem dX9_cards_35 : decode cX9_cards 35 = .ok (.iadd, 1) := by decide +kernel
theorem dX9_cards_36 : decode cX9_cards 36 = .ok (.iaload, 1) := by decide +kernel
theorem dX9_cards_37 : decode cX9_cards 37 = .ok (.istore 4, 2) := by decide +kernel
theorem dX9_cards_39 : decode cX9_cards 39 = .ok (.aload_n 0, 1) := by decide +kernel
theorem dX9_cards_40 : decode cX9_cards 40 = .ok (.getfield 32, 3) := by decide +kernel
theorem dX9_cards_43 : decode cX9_cards 43 = .ok (.iconst 4, 1) := by decide +kernel
theorem dX9_cards_44 : decode cX9_cards 44 = .ok (.iload_n 1, 1) := by decide +kernel
theorem dX9_cards_45 : decode cX9_cards 45 = .ok (.imul, 1) := by decide +kernel
theorem dX9_cards_46 : decode cX9_cards 46 = .ok (.iload_n 2, 1) := by decide +kernel
theorem dX9_cards_47 : decode cX9_cards 47 = .ok (.iadd, 1) := by decide +kernel
theorem dX9_cards_48 : decode cX9_cards 48 = .ok (.iload_n 3, 1) := by decide +kernel
theorem dX9_cards_49 : decode cX9_cards 49 = .ok (.iastore, 1) := by decide +kernel
theorem dX9_cards_50 : decode cX9_cards 50 = .ok (.iload 4, 2) := by decide +kernel
theorem dX9_cards_52 : decode cX9_cards 52 = .ok (.ireturn, 1) := by decide +kernel
theorem dX9_limit_0 : decode cX9_limit 0 = .ok (.aload_n 0, 1) := by decide +kernel
theorem dX9_limit_1 : decode cX9_limit 1 = .ok (.iload_n 1, 1) := by decide +kernel
theorem dX9_limit_2 : decode cX9_limit 2 = .ok (.invokevirtual 117, 3) := by decide +kernel
theorem dX9_limit_5 : decode cX9_limit 5 = .ok (.ifCond .eq 13, 3) := by decide +kernel
theorem dX9_limit_8 : decode cX9_limit 8 = .ok (.iload_n 2, 1) := by decide +kernel
theorem dX9_limit_9 : decode cX9_limit 9 = .ok (.iconst 0, 1) := by decide +kernel
theorem dX9_limit_10 : decode cX9_limit 10 = .ok (.bipush 99, 2) := by decide +kernel
theorem dX9_limit_12 : decode cX9_limit 12 = .ok (.invokestatic 90, 3) := by decide +kernel
theorem dX9_limit_15 : decode cX9_limit 15 = .ok (.ifCond .ne 5, 3) := by decide +kernel
theorem dX9_limit_18 : decode cX9_limit 18 = .ok (.iconst (-1), 1) := by decide +kernel
theorem dX9_limit_19 : decode cX9_limit 19 = .ok (.ireturn, 1) := by decide +kernel
theorem dX9_limit_20 : decode cX9_limit 20 = .ok (.aload_n 0, 1) := by decide +kernel
theorem dX9_limit_21 : decode cX9_limit 21 = .ok (.getfield 35, 3) := by decide +kernel
theorem dX9_limit_24 : decode cX9_limit 24 = .ok (.iload_n 1, 1) := by decide +kernel
theorem dX9_limit_25 : decode cX9_limit 25 = .ok (.iaload, 1) := by decide +kernel
theorem dX9_limit_26 : decode cX9_limit 26 = .ok (.istore_n 3, 1) := by decide +kernel
theorem dX9_limit_27 : decode cX9_limit 27 = .ok (.aload_n 0, 1) := by decide +kernel
theorem dX9_limit_28 : decode cX9_limit 28 = .ok (.getfield 35, 3) := by decide +kernel
theorem dX9_limit_31 : decode cX9_limit 31 = .ok (.iload_n 1, 1) := by decide +kernel
theorem dX9_limit_32 : decode cX9_limit 32 = .ok (.iload_n 2, 1) := by decide +kernel
theorem dX9_limit_33 : decode cX9_limit 33 = .ok (.iastore, 1) := by decide +kernel
theorem dX9_limit_34 : decode cX9_limit 34 = .ok (.iload_n 3, 1) := by decide +kernel
theorem dX9_limit_35 : decode cX9_limit 35 = .ok (.ireturn, 1) := by decide +kernel
theorem dX9_late_0 : decode cX9_late 0 = .ok (.aload_n 0, 1) := by decide +kernel
theorem dX9_late_1 : decode cX9_late 1 = .ok (.iload_n 1, 1) := by decide +kernel
theorem dX9_late_2 : decode cX9_late 2 = .ok (.invokevirtual 117, 3) := by decide +kernel
theorem dX9_late_5 : decode cX9_late 5 = .ok (.ifCond .ne 5, 3) := by decide +kernel
theorem dX9_late_8 : decode cX9_late 8 = .ok (.iconst (-1), 1) := by decide +kernel
theorem dX9_late_9 : decode cX9_late 9 = .ok (.ireturn, 1) := by decide +kernel
theorem dX9_late_10 : decode cX9_late 10 = .ok (.iconst 0, 1) := by decide +kernel
theorem dX9_late_11 : decode cX9_late 11 = .ok (.istore_n 2, 1) := by decide +kernel
theorem dX9_late_12 : decode cX9_late 12 = .ok (.aload_n 0, 1) := by decide +kernel
theorem dX9_late_13 : decode cX9_late 13 = .ok (.getfield 38, 3) := by decide +kernel
theorem dX9_late_16 : decode cX9_late 16 = .ok (.iload_n 2, 1) := by decide +kernel
theorem dX9_late_17 : decode cX9_late 17 = .ok (.iaload, 1) := by decide +kernel
theorem dX9_late_18 : decode cX9_late 18 = .ok (.iload_n 1, 1) := by decide +kernel
theorem dX9_late_19 : decode cX9_late 19 = .ok (.if_icmp .eq 9, 3) := by decide +kernel
theorem dX9_late_22 : decode cX9_late 22 = .ok (.iinc 2 1, 3) := by decide +kernel
theorem dX9_late_25 : decode cX9_late 25 = .ok (.goto (-13), 3) := by decide +kernel
theorem dX9_late_28 : decode cX9_late 28 = .ok (.iload_n 2, 1) := by decide +kernel
theorem dX9_late_29 : decode cX9_late 29 = .ok (.istore_n 3, 1) := by decide +kernel
theorem dX9_late_30 : decode cX9_late 30 = .ok (.iload_n 3, 1) := by decide +kernel
theorem dX9_late_31 : decode cX9_late 31 = .ok (.aload_n 0, 1) := by decide +kernel
theorem dX9_late_32 : decode cX9_late 32 = .ok (.getfield 94, 3) := by decide +kernel
theorem dX9_late_35 : decode cX9_late 35 = .ok (.iconst 1, 1) := by decide +kernel
theorem dX9_late_36 : decode cX9_late 36 = .ok (.isub, 1) := by decide +kernel
theorem dX9_late_37 : decode cX9_late 37 = .ok (.if_icmp .ge 23, 3) := by decide +kernel
theorem dX9_late_40 : decode cX9_late 40 = .ok (.aload_n 0, 1) := by decide +kernel
theorem dX9_late_41 : decode cX9_late 41 = .ok (.getfield 38, 3) := by decide +kernel
theorem dX9_late_44 : decode cX9_late 44 = .ok (.iload_n 3, 1) := by decide +kernel
theorem dX9_late_45 : decode cX9_late 45 = .ok (.aload_n 0, 1) := by decide +kernel
theorem dX9_late_46 : decode cX9_late 46 = .ok (.getfield 38, 3) := by decide +kernel
theorem dX9_late_49 : decode cX9_late 49 = .ok (.iload_n 3, 1) := by decide +kernel
theorem dX9_late_50 : decode cX9_late 50 = .ok (.iconst 1, 1) := by decide +kernel
theorem dX9_late_51 : decode cX9_late 51 = .ok (.iadd, 1) := by decide +kernel
theorem dX9_late_52 : decode cX9_late 52 = .ok (.iaload, 1) := by decide +kernel
theorem dX9_late_53 : decode cX9_late 53 = .ok (.iastore, 1) := by decide +kernel
theorem dX9_late_54 : decode cX9_late 54 = .ok (.iinc 3 1, 3) := by decide +kernel
theorem dX9_late_57 : decode cX9_late 57 = .ok (.goto (-27), 3) := by decide +kernel
theorem dX9_late_60 : decode cX9_late 60 = .ok (.aload_n 0, 1) := by decide +kernel
theorem dX9_late_61 : decode cX9_late 61 = .ok (.getfield 38, 3) := by decide +kernel
theorem dX9_late_64 : decode cX9_late 64 = .ok (.aload_n 0, 1) := by decide +kernel
theorem dX9_late_65 : decode cX9_late 65 = .ok (.getfield 94, 3) := by decide +kernel
theorem dX9_late_68 : decode cX9_late 68 = .ok (.iconst 1, 1) := by decide +kernel
theorem dX9_late_69 : decode cX9_late 69 = .ok (.isub, 1) := by decide +kernel
theorem dX9_late_70 : decode cX9_late 70 = .ok (.iload_n 1, 1) := by decide +kernel
theorem dX9_late_71 : decode cX9_late 71 = .ok (.iastore, 1) := by decide +kernel
theorem dX9_late_72 : decode cX9_late 72 = .ok (.aload_n 0, 1) := by decide +kernel
theorem dX9_late_73 : decode cX9_late 73 = .ok (.getfield 94, 3) := by decide +kernel
theorem dX9_late_76 : decode cX9_late 76 = .ok (.iconst 1, 1) := by decide +kernel
theorem dX9_late_77 : decode cX9_late 77 = .ok (.isub, 1) := by decide +kernel
theorem dX9_late_78 : decode cX9_late 78 = .ok (.iload_n 2, 1) := by decide +kernel
theorem dX9_late_79 : decode cX9_late 79 = .ok (.isub, 1) := by decide +kernel
theorem dX9_late_80 : decode cX9_late 80 = .ok (.ireturn, 1) := by decide +kernel
theorem dX9_mayIn_0 : decode cX9_mayIn 0 = .ok (.iload_n 3, 1) := by decide +kernel
theorem dX9_mayIn_1 : decode cX9_mayIn 1 = .ok (.aload_n 0, 1) := by decide +kernel
theorem dX9_mayIn_2 : decode cX9_mayIn 2 = .ok (.getfield 41, 3) := by decide +kernel
theorem dX9_mayIn_5 : decode cX9_mayIn 5 = .ok (.iload_n 2, 1) := by decide +kernel
theorem dX9_mayIn_6 : decode cX9_mayIn 6 = .ok (.iaload, 1) := by decide +kernel
theorem dX9_mayIn_7 : decode cX9_mayIn 7 = .ok (.aload_n 0, 1) := by decide +kernel
theorem dX9_mayIn_8 : decode cX9_mayIn 8 = .ok (.getfield 44, 3) := by decide +kernel
theorem dX9_mayIn_11 : decode cX9_mayIn 11 = .ok (.iload_n 2, 1) := by decide +kernel
theorem dX9_mayIn_12 : decode cX9_mayIn 12 = .ok (.iaload, 1) := by decide +kernel
theorem dX9_mayIn_13 : decode cX9_mayIn 13 = .ok (.invokestatic 120, 3) := by decide +kernel
theorem dX9_mayIn_16 : decode cX9_mayIn 16 = .ok (.ifCond .ne 7, 3) := by decide +kernel
theorem dX9_mayIn_19 : decode cX9_mayIn 19 = .ok (.iconst 1, 1) := by decide +kernel
theorem dX9_mayIn_20 : decode cX9_mayIn 20 = .ok (.goto 4, 3) := by decide +kernel
theorem dX9_mayIn_23 : decode cX9_mayIn 23 = .ok (.iconst 0, 1) := by decide +kernel
theorem dX9_mayIn_24 : decode cX9_mayIn 24 = .ok (.istore 4, 2) := by decide +kernel
theorem dX9_mayIn_26 : decode cX9_mayIn 26 = .ok (.iconst 0, 1) := by decide +kernel
theorem dX9_mayIn_27 : decode cX9_mayIn 27 = .ok (.istore 5, 2) := by decide +kernel
theorem dX9_mayIn_29 : decode cX9_mayIn 29 = .ok (.iload 5, 2) := by decide +kernel
theorem dX9_mayIn_31 : decode cX9_mayIn 31 = .ok (.iconst 3, 1) := by decide +kernel
theorem dX9_mayIn_32 : decode cX9_mayIn 32 = .ok (.if_icmp .ge 68, 3) := by decide +kernel
theorem dX9_mayIn_35 : decode cX9_mayIn 35 = .ok (.iconst 3, 1) := by decide +kernel
theorem dX9_mayIn_36 : decode cX9_mayIn 36 = .ok (.iload_n 2, 1) := by decide +kernel
theorem dX9_mayIn_37 : decode cX9_mayIn 37 = .ok (.imul, 1) := by decide +kernel
theorem dX9_mayIn_38 : decode cX9_mayIn 38 = .ok (.iload 5, 2) := by decide +kernel
theorem dX9_mayIn_40 : decode cX9_mayIn 40 = .ok (.iadd, 1) := by decide +kernel
theorem dX9_mayIn_41 : decode cX9_mayIn 41 = .ok (.istore 6, 2) := by decide +kernel
theorem dX9_mayIn_43 : decode cX9_mayIn 43 = .ok (.iload 4, 2) := by decide +kernel
theorem dX9_mayIn_45 : decode cX9_mayIn 45 = .ok (.ifCond .ne 42, 3) := by decide +kernel
theorem dX9_mayIn_48 : decode cX9_mayIn 48 = .ok (.aload_n 0, 1) := by decide +kernel
theorem dX9_mayIn_49 : decode cX9_mayIn 49 = .ok (.getfield 28, 3) := by decide +kernel
theorem dX9_mayIn_52 : decode cX9_mayIn 52 = .ok (.iconst 4, 1) := by decide +kernel
theorem dX9_mayIn_53 : decode cX9_mayIn 53 = .ok (.iload_n 1, 1) := by decide +kernel
theorem dX9_mayIn_54 : decode cX9_mayIn 54 = .ok (.imul, 1) := by decide +kernel
theorem dX9_mayIn_55 : decode cX9_mayIn 55 = .ok (.iload_n 2, 1) := by decide +kernel
theorem dX9_mayIn_56 : decode cX9_mayIn 56 = .ok (.iadd, 1) := by decide +kernel
theorem dX9_mayIn_57 : decode cX9_mayIn 57 = .ok (.iconst 3, 1) := by decide +kernel
theorem dX9_mayIn_58 : decode cX9_mayIn 58 = .ok (.imul, 1) := by decide +kernel
theorem dX9_mayIn_59 : decode cX9_mayIn 59 = .ok (.iload 5, 2) := by decide +kernel
theorem dX9_mayIn_61 : decode cX9_mayIn 61 = .ok (.iadd, 1) := by decide +kernel
theorem dX9_mayIn_62 : decode cX9_mayIn 62 = .ok (.baload, 1) := by decide +kernel
theorem dX9_mayIn_63 : decode cX9_mayIn 63 = .ok (.ifCond .eq 28, 3) := by decide +kernel
theorem dX9_mayIn_66 : decode cX9_mayIn 66 = .ok (.iload_n 3, 1) := by decide +kernel
theorem dX9_mayIn_67 : decode cX9_mayIn 67 = .ok (.aload_n 0, 1) := by decide +kernel
theorem dX9_mayIn_68 : decode cX9_mayIn 68 = .ok (.getfield 47, 3) := by decide +kernel
theorem dX9_mayIn_71 : decode cX9_mayIn 71 = .ok (.iload 6, 2) := by decide +kernel
theorem dX9_mayIn_73 : decode cX9_mayIn 73 = .ok (.iaload, 1) := by decide +kernel
theorem dX9_mayIn_74 : decode cX9_mayIn 74 = .ok (.aload_n 0, 1) := by decide +kernel
theorem dX9_mayIn_75 : decode cX9_mayIn 75 = .ok (.getfield 50, 3) := by decide +kernel
theorem dX9_mayIn_78 : decode cX9_mayIn 78 = .ok (.iload 6, 2) := by decide +kernel
theorem dX9_mayIn_80 : decode cX9_mayIn 80 = .ok (.iaload, 1) := by decide +kernel
theorem dX9_mayIn_81 : decode cX9_mayIn 81 = .ok (.invokestatic 120, 3) := by decide +kernel
theorem dX9_mayIn_84 : decode cX9_mayIn 84 = .ok (.ifCond .eq 7, 3) := by decide +kernel
theorem dX9_mayIn_87 : decode cX9_mayIn 87 = .ok (.iconst 1, 1) := by decide +kernel
theorem dX9_mayIn_88 : decode cX9_mayIn 88 = .ok (.goto 4, 3) := by decide +kernel
theorem dX9_mayIn_91 : decode cX9_mayIn 91 = .ok (.iconst 0, 1) := by decide +kernel
theorem dX9_mayIn_92 : decode cX9_mayIn 92 = .ok (.istore 4, 2) := by decide +kernel
theorem dX9_mayIn_94 : decode cX9_mayIn 94 = .ok (.iinc 5 1, 3) := by decide +kernel
theorem dX9_mayIn_97 : decode cX9_mayIn 97 = .ok (.goto (-68), 3) := by decide +kernel
theorem dX9_mayIn_100 : decode cX9_mayIn 100 = .ok (.iload 4, 2) := by decide +kernel
theorem dX9_mayIn_102 : decode cX9_mayIn 102 = .ok (.ifCond .eq 7, 3) := by decide +kernel
theorem dX9_mayIn_105 : decode cX9_mayIn 105 = .ok (.iconst 2, 1) := by decide +kernel
theorem dX9_mayIn_106 : decode cX9_mayIn 106 = .ok (.goto 21, 3) := by decide +kernel
theorem dX9_mayIn_109 : decode cX9_mayIn 109 = .ok (.aload_n 0, 1) := by decide +kernel
theorem dX9_mayIn_110 : decode cX9_mayIn 110 = .ok (.getfield 32, 3) := by decide +kernel
theorem dX9_mayIn_113 : decode cX9_mayIn 113 = .ok (.iconst 4, 1) := by decide +kernel
theorem dX9_mayIn_114 : decode cX9_mayIn 114 = .ok (.iload_n 1, 1) := by decide +kernel
theorem dX9_mayIn_115 : decode cX9_mayIn 115 = .ok (.imul, 1) := by decide +kernel
theorem dX9_mayIn_116 : decode cX9_mayIn 116 = .ok (.iload_n 2, 1) := by decide +kernel
theorem dX9_mayIn_117 : decode cX9_mayIn 117 = .ok (.iadd, 1) := by decide +kernel
theorem dX9_mayIn_118 : decode cX9_mayIn 118 = .ok (.iaload, 1) := by decide +kernel
theorem dX9_mayIn_119 : decode cX9_mayIn 119 = .ok (.ifCond .le 7, 3) := by decide +kernel
theorem dX9_mayIn_122 : decode cX9_mayIn 122 = .ok (.iconst 1, 1) := by decide +kernel
theorem dX9_mayIn_123 : decode cX9_mayIn 123 = .ok (.goto 4, 3) := by decide +kernel
theorem dX9_mayIn_126 : decode cX9_mayIn 126 = .ok (.iconst 0, 1) := by decide +kernel
theorem dX9_mayIn_127 : decode cX9_mayIn 127 = .ok (.ireturn, 1) := by decide +kernel
theorem dX9_may_0 : decode cX9_may 0 = .ok (.aload_n 0, 1) := by decide +kernel
theorem dX9_may_1 : decode cX9_may 1 = .ok (.iload_n 1, 1) := by decide +kernel
theorem dX9_may_2 : decode cX9_may 2 = .ok (.invokevirtual 117, 3) := by decide +kernel
theorem dX9_may_5 : decode cX9_may 5 = .ok (.ifCond .eq 33, 3) := by decide +kernel
theorem dX9_may_8 : decode cX9_may 8 = .ok (.aload_n 0, 1) := by decide +kernel
theorem dX9_may_9 : decode cX9_may 9 = .ok (.iload_n 2, 1) := by decide +kernel
theorem dX9_may_10 : decode cX9_may 10 = .ok (.invokevirtual 101, 3) := by decide +kernel
theorem dX9_may_13 : decode cX9_may 13 = .ok (.ifCond .eq 25, 3) := by decide +kernel
theorem dX9_may_16 : decode cX9_may 16 = .ok (.iload_n 3, 1) := by decide +kernel
theorem dX9_may_17 : decode cX9_may 17 = .ok (.invokestatic 107, 3) := by decide +kernel
theorem dX9_may_20 : decode cX9_may 20 = .ok (.ifCond .eq 18, 3) := by decide +kernel
theorem dX9_may_23 : decode cX9_may 23 = .ok (.aload_n 0, 1) := by decide +kernel
theorem dX9_may_24 : decode cX9_may 24 = .ok (.iload_n 1, 1) := by decide +kernel
theorem dX9_may_25 : decode cX9_may 25 = .ok (.aload_n 0, 1) := by decide +kernel
theorem dX9_may_26 : decode cX9_may 26 = .ok (.getfield 7, 3) := by decide +kernel
theorem dX9_may_29 : decode cX9_may 29 = .ok (.iload_n 2, 1) := by decide +kernel
theorem dX9_may_30 : decode cX9_may 30 = .ok (.iaload, 1) := by decide +kernel
theorem dX9_may_31 : decode cX9_may 31 = .ok (.iload_n 3, 1) := by decide +kernel
theorem dX9_may_32 : decode cX9_may 32 = .ok (.invokevirtual 123, 3) := by decide +kernel
theorem dX9_may_35 : decode cX9_may 35 = .ok (.goto 4, 3) := by decide +kernel
theorem dX9_may_38 : decode cX9_may 38 = .ok (.iconst (-1), 1) := by decide +kernel
theorem dX9_may_39 : decode cX9_may 39 = .ok (.ireturn, 1) := by decide +kernel
theorem dX9_begin_0 : decode cX9_begin 0 = .ok (.iconst 0, 1) := by decide +kernel
theorem dX9_begin_1 : decode cX9_begin 1 = .ok (.istore_n 3, 1) := by decide +kernel
theorem dX9_begin_2 : decode cX9_begin 2 = .ok (.iload_n 3, 1) := by decide +kernel
theorem dX9_begin_3 : decode cX9_begin 3 = .ok (.aload_n 0, 1) := by decide +kernel
theorem dX9_begin_4 : decode cX9_begin 4 = .ok (.getfield 87, 3) := by decide +kernel
theorem dX9_begin_7 : decode cX9_begin 7 = .ok (.if_icmp .ge 109, 3) := by decide +kernel
theorem dX9_begin_10 : decode cX9_begin 10 = .ok (.aload_n 0, 1) := by decide +kernel
theorem dX9_begin_11 : decode cX9_begin 11 = .ok (.getfield 81, 3) := by decide +kernel
theorem dX9_begin_14 : decode cX9_begin 14 = .ok (.iload_n 3, 1) := by decide +kernel
theorem dX9_begin_15 : decode cX9_begin 15 = .ok (.aload_n 0, 1) := by decide +kernel
theorem dX9_begin_16 : decode cX9_begin 16 = .ok (.getfield 13, 3) := by decide +kernel
theorem dX9_begin_19 : decode cX9_begin 19 = .ok (.iload_n 3, 1) := by decide +kernel
theorem dX9_begin_20 : decode cX9_begin 20 = .ok (.iaload, 1) := by decide +kernel
theorem dX9_begin_21 : decode cX9_begin 21 = .ok (.aload_n 0, 1) := by decide +kernel
theorem dX9_begin_22 : decode cX9_begin 22 = .ok (.getfield 16, 3) := by decide +kernel
theorem dX9_begin_25 : decode cX9_begin 25 = .ok (.bipush 7, 2) := by decide +kernel
theorem dX9_begin_27 : decode cX9_begin 27 = .ok (.iload_n 3, 1) := by decide +kernel
theorem dX9_begin_28 : decode cX9_begin 28 = .ok (.imul, 1) := by decide +kernel
theorem dX9_begin_29 : decode cX9_begin 29 = .ok (.iload_n 1, 1) := by decide +kernel
theorem dX9_begin_30 : decode cX9_begin 30 = .ok (.iadd, 1) := by decide +kernel
theorem dX9_begin_31 : decode cX9_begin 31 = .ok (.iaload, 1) := by decide +kernel
theorem dX9_begin_32 : decode cX9_begin 32 = .ok (.isub, 1) := by decide +kernel
theorem dX9_begin_33 : decode cX9_begin 33 = .ok (.iastore, 1) := by decide +kernel
theorem dX9_begin_34 : decode cX9_begin 34 = .ok (.iconst 0, 1) := by decide +kernel
theorem dX9_begin_35 : decode cX9_begin 35 = .ok (.istore 4, 2) := by decide +kernel
theorem dX9_begin_37 : decode cX9_begin 37 = .ok (.iload 4, 2) := by decide +kernel
theorem dX9_begin_39 : decode cX9_begin 39 = .ok (.aload_n 0, 1) := by decide +kernel
theorem dX9_begin_40 : decode cX9_begin 40 = .ok (.getfield 94, 3) := by decide +kernel
theorem dX9_begin_43 : decode cX9_begin 43 = .ok (.if_icmp .ge 67, 3) := by decide +kernel
theorem dX9_begin_46 : decode cX9_begin 46 = .ok (.aload_n 0, 1) := by decide +kernel
theorem dX9_begin_47 : decode cX9_begin 47 = .ok (.iload 4, 2) := by decide +kernel
theorem dX9_begin_49 : decode cX9_begin 49 = .ok (.aload_n 0, 1) := by decide +kernel
theorem dX9_begin_50 : decode cX9_begin 50 = .ok (.getfield 7, 3) := by decide +kernel
theorem dX9_begin_53 : decode cX9_begin 53 = .ok (.iload_n 3, 1) := by decide +kernel
theorem dX9_begin_54 : decode cX9_begin 54 = .ok (.iaload, 1) := by decide +kernel
theorem dX9_begin_55 : decode cX9_begin 55 = .ok (.iload_n 2, 1) := by decide +kernel
theorem dX9_begin_56 : decode cX9_begin 56 = .ok (.invokevirtual 123, 3) := by decide +kernel
theorem dX9_begin_59 : decode cX9_begin 59 = .ok (.istore 5, 2) := by decide +kernel
theorem dX9_begin_61 : decode cX9_begin 61 = .ok (.aload_n 0, 1) := by decide +kernel
theorem dX9_begin_62 : decode cX9_begin 62 = .ok (.getfield 84, 3) := by decide +kernel
theorem dX9_begin_65 : decode cX9_begin 65 = .ok (.iconst 5, 1) := by decide +kernel
theorem dX9_begin_66 : decode cX9_begin 66 = .ok (.iload 4, 2) := by decide +kernel
theorem dX9_begin_68 : decode cX9_begin 68 = .ok (.imul, 1) := by decide +kernel
theorem dX9_begin_69 : decode cX9_begin 69 = .ok (.iload_n 3, 1) := by decide +kernel
theorem dX9_begin_70 : decode cX9_begin 70 = .ok (.iadd, 1) := by decide +kernel
theorem dX9_begin_71 : decode cX9_begin 71 = .ok (.aload_n 0, 1) := by decide +kernel
theorem dX9_begin_72 : decode cX9_begin 72 = .ok (.getfield 19, 3) := by decide +kernel
theorem dX9_begin_75 : decode cX9_begin 75 = .ok (.iconst 5, 1) := by decide +kernel
theorem dX9_begin_76 : decode cX9_begin 76 = .ok (.aload_n 0, 1) := by decide +kernel
theorem dX9_begin_77 : decode cX9_begin 77 = .ok (.getfield 25, 3) := by decide +kernel
theorem dX9_begin_80 : decode cX9_begin 80 = .ok (.iload 4, 2) := by decide +kernel
theorem dX9_begin_82 : decode cX9_begin 82 = .ok (.iaload, 1) := by decide +kernel
theorem dX9_begin_83 : decode cX9_begin 83 = .ok (.imul, 1) := by decide +kernel
theorem dX9_begin_84 : decode cX9_begin 84 = .ok (.iload_n 3, 1) := by decide +kernel
theorem dX9_begin_85 : decode cX9_begin 85 = .ok (.iadd, 1) := by decide +kernel
theorem dX9_begin_86 : decode cX9_begin 86 = .ok (.iaload, 1) := by decide +kernel
theorem dX9_begin_87 : decode cX9_begin 87 = .ok (.aload_n 0, 1) := by decide +kernel
theorem dX9_begin_88 : decode cX9_begin 88 = .ok (.getfield 35, 3) := by decide +kernel
theorem dX9_begin_91 : decode cX9_begin 91 = .ok (.iload 4, 2) := by decide +kernel
theorem dX9_begin_93 : decode cX9_begin 93 = .ok (.iaload, 1) := by decide +kernel
theorem dX9_begin_94 : decode cX9_begin 94 = .ok (.if_icmp .le 7, 3) := by decide +kernel
theorem dX9_begin_97 : decode cX9_begin 97 = .ok (.iconst 0, 1) := by decide +kernel
theorem dX9_begin_98 : decode cX9_begin 98 = .ok (.goto 5, 3) := by decide +kernel
theorem dX9_begin_101 : decode cX9_begin 101 = .ok (.iload 5, 2) := by decide +kernel
theorem dX9_begin_103 : decode cX9_begin 103 = .ok (.iastore, 1) := by decide +kernel
theorem dX9_begin_104 : decode cX9_begin 104 = .ok (.iinc 4 1, 3) := by decide +kernel
theorem dX9_begin_107 : decode cX9_begin 107 = .ok (.goto (-70), 3) := by decide +kernel
theorem dX9_begin_110 : decode cX9_begin 110 = .ok (.iinc 3 1, 3) := by decide +kernel
theorem dX9_begin_113 : decode cX9_begin 113 = .ok (.goto (-111), 3) := by decide +kernel
theorem dX9_begin_116 : decode cX9_begin 116 = .ok (.return_, 1) := by decide +kernel
theorem dX9_parkOne_0 : decode cX9_parkOne 0 = .ok (.aload_n 0, 1) := by decide +kernel
theorem dX9_parkOne_1 : decode cX9_parkOne 1 = .ok (.getfield 87, 3) := by decide +kernel
theorem dX9_parkOne_4 : decode cX9_parkOne 4 = .ok (.istore_n 2, 1) := by decide +kernel
theorem dX9_parkOne_5 : decode cX9_parkOne 5 = .ok (.ldc 127, 2) := by decide +kernel
theorem dX9_parkOne_7 : decode cX9_parkOne 7 = .ok (.istore_n 3, 1) := by decide +kernel
theorem dX9_parkOne_8 : decode cX9_parkOne 8 = .ok (.iconst 0, 1) := by decide +kernel
theorem dX9_parkOne_9 : decode cX9_parkOne 9 = .ok (.istore 4, 2) := by decide +kernel
theorem dX9_parkOne_11 : decode cX9_parkOne 11 = .ok (.iload 4, 2) := by decide +kernel
theorem dX9_parkOne_13 : decode cX9_parkOne 13 = .ok (.aload_n 0, 1) := by decide +kernel
theorem dX9_parkOne_14 : decode cX9_parkOne 14 = .ok (.getfield 87, 3) := by decide +kernel
theorem dX9_parkOne_17 : decode cX9_parkOne 17 = .ok (.if_icmp .ge 81, 3) := by decide +kernel
theorem dX9_parkOne_20 : decode cX9_parkOne 20 = .ok (.aload_n 0, 1) := by decide +kernel
theorem dX9_parkOne_21 : decode cX9_parkOne 21 = .ok (.getfield 84, 3) := by decide +kernel
theorem dX9_parkOne_24 : decode cX9_parkOne 24 = .ok (.iconst 5, 1) := by decide +kernel
theorem dX9_parkOne_25 : decode cX9_parkOne 25 = .ok (.iload_n 1, 1) := by decide +kernel
theorem dX9_parkOne_26 : decode cX9_parkOne 26 = .ok (.imul, 1) := by decide +kernel
theorem dX9_parkOne_27 : decode cX9_parkOne 27 = .ok (.iload 4, 2) := by decide +kernel
theorem dX9_parkOne_29 : decode cX9_parkOne 29 = .ok (.iadd, 1) := by decide +kernel
theorem dX9_parkOne_30 : decode cX9_parkOne 30 = .ok (.iaload, 1) := by decide +kernel
theorem dX9_parkOne_31 : decode cX9_parkOne 31 = .ok (.istore 5, 2) := by decide +kernel
theorem dX9_parkOne_33 : decode cX9_parkOne 33 = .ok (.iconst 2, 1) := by decide +kernel
theorem dX9_parkOne_34 : decode cX9_parkOne 34 = .ok (.aload_n 0, 1) := by decide +kernel
theorem dX9_parkOne_35 : decode cX9_parkOne 35 = .ok (.getfield 19, 3) := by decide +kernel
theorem dX9_parkOne_38 : decode cX9_parkOne 38 = .ok (.iconst 5, 1) := by decide +kernel
theorem dX9_parkOne_39 : decode cX9_parkOne 39 = .ok (.aload_n 0, 1) := by decide +kernel
theorem dX9_parkOne_40 : decode cX9_parkOne 40 = .ok (.getfield 25, 3) := by decide +kernel
theorem dX9_parkOne_43 : decode cX9_parkOne 43 = .ok (.iload_n 1, 1) := by decide +kernel
theorem dX9_parkOne_44 : decode cX9_parkOne 44 = .ok (.iaload, 1) := by decide +kernel
theorem dX9_parkOne_45 : decode cX9_parkOne 45 = .ok (.imul, 1) := by decide +kernel
theorem dX9_parkOne_46 : decode cX9_parkOne 46 = .ok (.iload 4, 2) := by decide +kernel
theorem dX9_parkOne_48 : decode cX9_parkOne 48 = .ok (.iadd, 1) := by decide +kernel
theorem dX9_parkOne_49 : decode cX9_parkOne 49 = .ok (.iaload, 1) := by decide +kernel
theorem dX9_parkOne_50 : decode cX9_parkOne 50 = .ok (.imul, 1) := by decide +kernel
theorem dX9_parkOne_51 : decode cX9_parkOne 51 = .ok (.iload 5, 2) := by decide +kernel
theorem dX9_parkOne_53 : decode cX9_parkOne 53 = .ok (.iconst 2, 1) := by decide +kernel
theorem dX9_parkOne_54 : decode cX9_parkOne 54 = .ok (.if_icmp .ne 7, 3) := by decide +kernel
theorem dX9_parkOne_57 : decode cX9_parkOne 57 = .ok (.iconst 0, 1) := by decide +kernel
theorem dX9_parkOne_58 : decode cX9_parkOne 58 = .ok (.goto 4, 3) := by decide +kernel
theorem dX9_parkOne_61 : decode cX9_parkOne 61 = .ok (.iconst 1, 1) := by decide +kernel
theorem dX9_parkOne_62 : decode cX9_parkOne 62 = .ok (.iadd, 1) := by decide +kernel
theorem dX9_parkOne_63 : decode cX9_parkOne 63 = .ok (.istore 6, 2) := by decide +kernel
theorem dX9_parkOne_65 : decode cX9_parkOne 65 = .ok (.iload 5, 2) := by decide +kernel
theorem dX9_parkOne_67 : decode cX9_parkOne 67 = .ok (.ifCond .le 25, 3) := by decide +kernel
theorem dX9_parkOne_70 : decode cX9_parkOne 70 = .ok (.aload_n 0, 1) := by decide +kernel
theorem dX9_parkOne_71 : decode cX9_parkOne 71 = .ok (.getfield 81, 3) := by decide +kernel
theorem dX9_parkOne_74 : decode cX9_parkOne 74 = .ok (.iload 4, 2) := by decide +kernel
theorem dX9_parkOne_76 : decode cX9_parkOne 76 = .ok (.iaload, 1) := by decide +kernel
theorem dX9_parkOne_77 : decode cX9_parkOne 77 = .ok (.ifCond .le 15, 3) := by decide +kernel
theorem dX9_parkOne_80 : decode cX9_parkOne 80 = .ok (.iload 6, 2) := by decide +kernel
theorem dX9_parkOne_82 : decode cX9_parkOne 82 = .ok (.iload_n 3, 1) := by decide +kernel
theorem dX9_parkOne_83 : decode cX9_parkOne 83 = .ok (.if_icmp .ge 9, 3) := by decide +kernel
theorem dX9_parkOne_86 : decode cX9_parkOne 86 = .ok (.iload 6, 2) := by decide +kernel
theorem dX9_parkOne_88 : decode cX9_parkOne 88 = .ok (.istore_n 3, 1) := by decide +kernel
theorem dX9_parkOne_89 : decode cX9_parkOne 89 = .ok (.iload 4, 2) := by decide +kernel
theorem dX9_parkOne_91 : decode cX9_parkOne 91 = .ok (.istore_n 2, 1) := by decide +kernel
theorem dX9_parkOne_92 : decode cX9_parkOne 92 = .ok (.iinc 4 1, 3) := by decide +kernel
theorem dX9_parkOne_95 : decode cX9_parkOne 95 = .ok (.goto (-84), 3) := by decide +kernel
theorem dX9_parkOne_98 : decode cX9_parkOne 98 = .ok (.aload_n 0, 1) := by decide +kernel
theorem dX9_parkOne_99 : decode cX9_parkOne 99 = .ok (.getfield 78, 3) := by decide +kernel
theorem dX9_parkOne_102 : decode cX9_parkOne 102 = .ok (.iload_n 1, 1) := by decide +kernel
theorem dX9_parkOne_103 : decode cX9_parkOne 103 = .ok (.iload_n 2, 1) := by decide +kernel
theorem dX9_parkOne_104 : decode cX9_parkOne 104 = .ok (.iastore, 1) := by decide +kernel
theorem dX9_parkOne_105 : decode cX9_parkOne 105 = .ok (.iload_n 2, 1) := by decide +kernel
theorem dX9_parkOne_106 : decode cX9_parkOne 106 = .ok (.aload_n 0, 1) := by decide +kernel
theorem dX9_parkOne_107 : decode cX9_parkOne 107 = .ok (.getfield 87, 3) := by decide +kernel
theorem dX9_parkOne_110 : decode cX9_parkOne 110 = .ok (.if_icmp .ge 13, 3) := by decide +kernel
theorem dX9_parkOne_113 : decode cX9_parkOne 113 = .ok (.aload_n 0, 1) := by decide +kernel
theorem dX9_parkOne_114 : decode cX9_parkOne 114 = .ok (.getfield 81, 3) := by decide +kernel
theorem dX9_parkOne_117 : decode cX9_parkOne 117 = .ok (.iload_n 2, 1) := by decide +kernel
theorem dX9_parkOne_118 : decode cX9_parkOne 118 = .ok (.dup2, 1) := by decide +kernel
theorem dX9_parkOne_119 : decode cX9_parkOne 119 = .ok (.iaload, 1) := by decide +kernel
theorem dX9_parkOne_120 : decode cX9_parkOne 120 = .ok (.iconst 1, 1) := by decide +kernel
theorem dX9_parkOne_121 : decode cX9_parkOne 121 = .ok (.isub, 1) := by decide +kernel
theorem dX9_parkOne_122 : decode cX9_parkOne 122 = .ok (.iastore, 1) := by decide +kernel
theorem dX9_parkOne_123 : decode cX9_parkOne 123 = .ok (.return_, 1) := by decide +kernel
theorem dX9_parkNight_0 : decode cX9_parkNight 0 = .ok (.aload_n 0, 1) := by decide +kernel
theorem dX9_parkNight_1 : decode cX9_parkNight 1 = .ok (.iload_n 1, 1) := by decide +kernel
theorem dX9_parkNight_2 : decode cX9_parkNight 2 = .ok (.iload_n 2, 1) := by decide +kernel
theorem dX9_parkNight_3 : decode cX9_parkNight 3 = .ok (.invokevirtual 128, 3) := by decide +kernel
theorem dX9_parkNight_6 : decode cX9_parkNight 6 = .ok (.iconst 0, 1) := by decide +kernel
theorem dX9_parkNight_7 : decode cX9_parkNight 7 = .ok (.istore_n 3, 1) := by decide +kernel
theorem dX9_parkNight_8 : decode cX9_parkNight 8 = .ok (.iload_n 3, 1) := by decide +kernel
theorem dX9_parkNight_9 : decode cX9_parkNight 9 = .ok (.aload_n 0, 1) := by decide +kernel
theorem dX9_parkNight_10 : decode cX9_parkNight 10 = .ok (.getfield 94, 3) := by decide +kernel
theorem dX9_parkNight_13 : decode cX9_parkNight 13 = .ok (.if_icmp .ge 19, 3) := by decide +kernel
theorem dX9_parkNight_16 : decode cX9_parkNight 16 = .ok (.aload_n 0, 1) := by decide +kernel
theorem dX9_parkNight_17 : decode cX9_parkNight 17 = .ok (.aload_n 0, 1) := by decide +kernel
theorem dX9_parkNight_18 : decode cX9_parkNight 18 = .ok (.getfield 38, 3) := by decide +kernel
theorem dX9_parkNight_21 : decode cX9_parkNight 21 = .ok (.iload_n 3, 1) := by decide +kernel
theorem dX9_parkNight_22 : decode cX9_parkNight 22 = .ok (.iaload, 1) := by decide +kernel
theorem dX9_parkNight_23 : decode cX9_parkNight 23 = .ok (.invokevirtual 132, 3) := by decide +kernel
theorem dX9_parkNight_26 : decode cX9_parkNight 26 = .ok (.iinc 3 1, 3) := by decide +kernel
theorem dX9_parkNight_29 : decode cX9_parkNight 29 = .ok (.goto (-21), 3) := by decide +kernel
theorem dX9_parkNight_32 : decode cX9_parkNight 32 = .ok (.return_, 1) := by decide +kernel
theorem dX9_costOf_0 : decode cX9_costOf 0 = .ok (.iload_n 2, 1) := by decide +kernel
theorem dX9_costOf_1 : decode cX9_costOf 1 = .ok (.aload_n 0, 1) := by decide +kernel
theorem dX9_costOf_2 : decode cX9_costOf 2 = .ok (.getfield 87, 3) := by decide +kernel
theorem dX9_costOf_5 : decode cX9_costOf 5 = .ok (.if_icmp .ne 9, 3) := by decide +kernel
theorem dX9_costOf_8 : decode cX9_costOf 8 = .ok (.sipush 10000, 3) := by decide +kernel
theorem dX9_costOf_11 : decode cX9_costOf 11 = .ok (.goto 18, 3) := by decide +kernel
theorem dX9_costOf_14 : decode cX9_costOf 14 = .ok (.aload_n 0, 1) := by decide +kernel
theorem dX9_costOf_15 : decode cX9_costOf 15 = .ok (.getfield 19, 3) := by decide +kernel
theorem dX9_costOf_18 : decode cX9_costOf 18 = .ok (.iconst 5, 1) := by decide +kernel
theorem dX9_costOf_19 : decode cX9_costOf 19 = .ok (.aload_n 0, 1) := by decide +kernel
theorem dX9_costOf_20 : decode cX9_costOf 20 = .ok (.getfield 25, 3) := by decide +kernel
theorem dX9_costOf_23 : decode cX9_costOf 23 = .ok (.iload_n 1, 1) := by decide +kernel
theorem dX9_costOf_24 : decode cX9_costOf 24 = .ok (.iaload, 1) := by decide +kernel
theorem dX9_costOf_25 : decode cX9_costOf 25 = .ok (.imul, 1) := by decide +kernel
theorem dX9_costOf_26 : decode cX9_costOf 26 = .ok (.iload_n 2, 1) := by decide +kernel
theorem dX9_costOf_27 : decode cX9_costOf 27 = .ok (.iadd, 1) := by decide +kernel
theorem dX9_costOf_28 : decode cX9_costOf 28 = .ok (.iaload, 1) := by decide +kernel
theorem dX9_costOf_29 : decode cX9_costOf 29 = .ok (.ireturn, 1) := by decide +kernel
theorem dX9_mayTake_0 : decode cX9_mayTake 0 = .ok (.iload_n 2, 1) := by decide +kernel
theorem dX9_mayTake_1 : decode cX9_mayTake 1 = .ok (.aload_n 0, 1) := by decide +kernel
theorem dX9_mayTake_2 : decode cX9_mayTake 2 = .ok (.getfield 87, 3) := by decide +kernel
theorem dX9_mayTake_5 : decode cX9_mayTake 5 = .ok (.if_icmp .eq 25, 3) := by decide +kernel
theorem dX9_mayTake_8 : decode cX9_mayTake 8 = .ok (.aload_n 0, 1) := by decide +kernel
theorem dX9_mayTake_9 : decode cX9_mayTake 9 = .ok (.getfield 84, 3) := by decide +kernel
theorem dX9_mayTake_12 : decode cX9_mayTake 12 = .ok (.iconst 5, 1) := by decide +kernel
theorem dX9_mayTake_13 : decode cX9_mayTake 13 = .ok (.iload_n 1, 1) := by decide +kernel
theorem dX9_mayTake_14 : decode cX9_mayTake 14 = .ok (.imul, 1) := by decide +kernel
theorem dX9_mayTake_15 : decode cX9_mayTake 15 = .ok (.iload_n 2, 1) := by decide +kernel
theorem dX9_mayTake_16 : decode cX9_mayTake 16 = .ok (.iadd, 1) := by decide +kernel
theorem dX9_mayTake_17 : decode cX9_mayTake 17 = .ok (.iaload, 1) := by decide +kernel
theorem dX9_mayTake_18 : decode cX9_mayTake 18 = .ok (.ifCond .le 16, 3) := by decide +kernel
theorem dX9_mayTake_21 : decode cX9_mayTake 21 = .ok (.aload_n 0, 1) := by decide +kernel
theorem dX9_mayTake_22 : decode cX9_mayTake 22 = .ok (.getfield 81, 3) := by decide +kernel
theorem dX9_mayTake_25 : decode cX9_mayTake 25 = .ok (.iload_n 2, 1) := by decide +kernel
theorem dX9_mayTake_26 : decode cX9_mayTake 26 = .ok (.iaload, 1) := by decide +kernel
theorem dX9_mayTake_27 : decode cX9_mayTake 27 = .ok (.ifCond .le 7, 3) := by decide +kernel
theorem dX9_mayTake_30 : decode cX9_mayTake 30 = .ok (.iconst 1, 1) := by decide +kernel
theorem dX9_mayTake_31 : decode cX9_mayTake 31 = .ok (.goto 4, 3) := by decide +kernel
theorem dX9_mayTake_34 : decode cX9_mayTake 34 = .ok (.iconst 0, 1) := by decide +kernel
theorem dX9_mayTake_35 : decode cX9_mayTake 35 = .ok (.ireturn, 1) := by decide +kernel
theorem dX9_parkLeast_0 : decode cX9_parkLeast 0 = .ok (.aload_n 0, 1) := by decide +kernel
theorem dX9_parkLeast_1 : decode cX9_parkLeast 1 = .ok (.iload_n 1, 1) := by decide +kernel
theorem dX9_parkLeast_2 : decode cX9_parkLeast 2 = .ok (.iload_n 2, 1) := by decide +kernel
theorem dX9_parkLeast_3 : decode cX9_parkLeast 3 = .ok (.invokevirtual 128, 3) := by decide +kernel
theorem dX9_parkLeast_6 : decode cX9_parkLeast 6 = .ok (.ldc 127, 2) := by decide +kernel
theorem dX9_parkLeast_8 : decode cX9_parkLeast 8 = .ok (.istore_n 3, 1) := by decide +kernel
theorem dX9_parkLeast_9 : decode cX9_parkLeast 9 = .ok (.iconst 0, 1) := by decide +kernel
theorem dX9_parkLeast_10 : decode cX9_parkLeast 10 = .ok (.istore 4, 2) := by decide +kernel
theorem dX9_parkLeast_12 : decode cX9_parkLeast 12 = .ok (.iconst 0, 1) := by decide +kernel
theorem dX9_parkLeast_13 : decode cX9_parkLeast 13 = .ok (.istore 5, 2) := by decide +kernel
theorem dX9_parkLeast_15 : decode cX9_parkLeast 15 = .ok (.aload_n 0, 1) := by decide +kernel
theorem dX9_parkLeast_16 : decode cX9_parkLeast 16 = .ok (.getfield 75, 3) := by decide +kernel
theorem dX9_parkLeast_19 : decode cX9_parkLeast 19 = .ok (.iconst 0, 1) := by decide +kernel
theorem dX9_parkLeast_20 : decode cX9_parkLeast 20 = .ok (.iconst (-1), 1) := by decide +kernel
theorem dX9_parkLeast_21 : decode cX9_parkLeast 21 = .ok (.iastore, 1) := by decide +kernel
theorem dX9_parkLeast_22 : decode cX9_parkLeast 22 = .ok (.iload 5, 2) := by decide +kernel
theorem dX9_parkLeast_24 : decode cX9_parkLeast 24 = .ok (.ifCond .lt 285, 3) := by decide +kernel
theorem dX9_parkLeast_27 : decode cX9_parkLeast 27 = .ok (.iload 5, 2) := by decide +kernel
theorem dX9_parkLeast_29 : decode cX9_parkLeast 29 = .ok (.aload_n 0, 1) := by decide +kernel
theorem dX9_parkLeast_30 : decode cX9_parkLeast 30 = .ok (.getfield 94, 3) := by decide +kernel
theorem dX9_parkLeast_33 : decode cX9_parkLeast 33 = .ok (.if_icmp .ne 44, 3) := by decide +kernel
theorem dX9_parkLeast_36 : decode cX9_parkLeast 36 = .ok (.iload 4, 2) := by decide +kernel
theorem dX9_parkLeast_38 : decode cX9_parkLeast 38 = .ok (.istore_n 3, 1) := by decide +kernel
theorem dX9_parkLeast_39 : decode cX9_parkLeast 39 = .ok (.iconst 0, 1) := by decide +kernel
theorem dX9_parkLeast_40 : decode cX9_parkLeast 40 = .ok (.istore 6, 2) := by decide +kernel
theorem dX9_parkLeast_42 : decode cX9_parkLeast 42 = .ok (.iload 6, 2) := by decide +kernel
theorem dX9_parkLeast_44 : decode cX9_parkLeast 44 = .ok (.aload_n 0, 1) := by decide +kernel
theorem dX9_parkLeast_45 : decode cX9_parkLeast 45 = .ok (.getfield 94, 3) := by decide +kernel
theorem dX9_parkLeast_48 : decode cX9_parkLeast 48 = .ok (.if_icmp .ge 23, 3) := by decide +kernel
theorem dX9_parkLeast_51 : decode cX9_parkLeast 51 = .ok (.aload_n 0, 1) := by decide +kernel
theorem dX9_parkLeast_52 : decode cX9_parkLeast 52 = .ok (.getfield 78, 3) := by decide +kernel
theorem dX9_parkLeast_55 : decode cX9_parkLeast 55 = .ok (.iload 6, 2) := by decide +kernel
theorem dX9_parkLeast_57 : decode cX9_parkLeast 57 = .ok (.aload_n 0, 1) := by decide +kernel
theorem dX9_parkLeast_58 : decode cX9_parkLeast 58 = .ok (.getfield 75, 3) := by decide +kernel
theorem dX9_parkLeast_61 : decode cX9_parkLeast 61 = .ok (.iload 6, 2) := by decide +kernel
theorem dX9_parkLeast_63 : decode cX9_parkLeast 63 = .ok (.iaload, 1) := by decide +kernel
theorem dX9_parkLeast_64 : decode cX9_parkLeast 64 = .ok (.iastore, 1) := by decide +kernel
theorem dX9_parkLeast_65 : decode cX9_parkLeast 65 = .ok (.iinc 6 1, 3) := by decide +kernel
theorem dX9_parkLeast_68 : decode cX9_parkLeast 68 = .ok (.goto (-26), 3) := by decide +kernel
theorem dX9_parkLeast_71 : decode cX9_parkLeast 71 = .ok (.iinc 5 (-1), 3) := by decide +kernel
theorem dX9_parkLeast_74 : decode cX9_parkLeast 74 = .ok (.goto (-52), 3) := by decide +kernel
theorem dX9_parkLeast_77 : decode cX9_parkLeast 77 = .ok (.aload_n 0, 1) := by decide +kernel
theorem dX9_parkLeast_78 : decode cX9_parkLeast 78 = .ok (.getfield 75, 3) := by decide +kernel
theorem dX9_parkLeast_81 : decode cX9_parkLeast 81 = .ok (.iload 5, 2) := by decide +kernel
theorem dX9_parkLeast_83 : decode cX9_parkLeast 83 = .ok (.iaload, 1) := by decide +kernel
theorem dX9_parkLeast_84 : decode cX9_parkLeast 84 = .ok (.ifCond .lt 51, 3) := by decide +kernel
theorem dX9_parkLeast_87 : decode cX9_parkLeast 87 = .ok (.iload 4, 2) := by decide +kernel
theorem dX9_parkLeast_89 : decode cX9_parkLeast 89 = .ok (.aload_n 0, 1) := by decide +kernel
theorem dX9_parkLeast_90 : decode cX9_parkLeast 90 = .ok (.iload 5, 2) := by decide +kernel
theorem dX9_parkLeast_92 : decode cX9_parkLeast 92 = .ok (.aload_n 0, 1) := by decide +kernel
theorem dX9_parkLeast_93 : decode cX9_parkLeast 93 = .ok (.getfield 75, 3) := by decide +kernel
theorem dX9_parkLeast_96 : decode cX9_parkLeast 96 = .ok (.iload 5, 2) := by decide +kernel
theorem dX9_parkLeast_98 : decode cX9_parkLeast 98 = .ok (.iaload, 1) := by decide +kernel
theorem dX9_parkLeast_99 : decode cX9_parkLeast 99 = .ok (.invokevirtual 136, 3) := by decide +kernel
theorem dX9_parkLeast_102 : decode cX9_parkLeast 102 = .ok (.isub, 1) := by decide +kernel
theorem dX9_parkLeast_103 : decode cX9_parkLeast 103 = .ok (.istore 4, 2) := by decide +kernel
theorem dX9_parkLeast_105 : decode cX9_parkLeast 105 = .ok (.aload_n 0, 1) := by decide +kernel
theorem dX9_parkLeast_106 : decode cX9_parkLeast 106 = .ok (.getfield 75, 3) := by decide +kernel
theorem dX9_parkLeast_109 : decode cX9_parkLeast 109 = .ok (.iload 5, 2) := by decide +kernel
theorem dX9_parkLeast_111 : decode cX9_parkLeast 111 = .ok (.iaload, 1) := by decide +kernel
theorem dX9_parkLeast_112 : decode cX9_parkLeast 112 = .ok (.aload_n 0, 1) := by decide +kernel
theorem dX9_parkLeast_113 : decode cX9_parkLeast 113 = .ok (.getfield 87, 3) := by decide +kernel
theorem dX9_parkLeast_116 : decode cX9_parkLeast 116 = .ok (.if_icmp .ge 19, 3) := by decide +kernel
theorem dX9_parkLeast_119 : decode cX9_parkLeast 119 = .ok (.aload_n 0, 1) := by decide +kernel
theorem dX9_parkLeast_120 : decode cX9_parkLeast 120 = .ok (.getfield 81, 3) := by decide +kernel
theorem dX9_parkLeast_123 : decode cX9_parkLeast 123 = .ok (.aload_n 0, 1) := by decide +kernel
theorem dX9_parkLeast_124 : decode cX9_parkLeast 124 = .ok (.getfield 75, 3) := by decide +kernel
theorem dX9_parkLeast_127 : decode cX9_parkLeast 127 = .ok (.iload 5, 2) := by decide +kernel
theorem dX9_parkLeast_129 : decode cX9_parkLeast 129 = .ok (.iaload, 1) := by decide +kernel
theorem dX9_parkLeast_130 : decode cX9_parkLeast 130 = .ok (.dup2, 1) := by decide +kernel
theorem dX9_parkLeast_131 : decode cX9_parkLeast 131 = .ok (.iaload, 1) := by decide +kernel
theorem dX9_parkLeast_132 : decode cX9_parkLeast 132 = .ok (.iconst 1, 1) := by decide +kernel
theorem dX9_parkLeast_133 : decode cX9_parkLeast 133 = .ok (.iadd, 1) := by decide +kernel
theorem dX9_parkLeast_134 : decode cX9_parkLeast 134 = .ok (.iastore, 1) := by decide +kernel
theorem dX9_parkLeast_135 : decode cX9_parkLeast 135 = .ok (.aload_n 0, 1) := by decide +kernel
theorem dX9_parkLeast_136 : decode cX9_parkLeast 136 = .ok (.getfield 75, 3) := by decide +kernel
theorem dX9_parkLeast_139 : decode cX9_parkLeast 139 = .ok (.iload 5, 2) := by decide +kernel
theorem dX9_parkLeast_141 : decode cX9_parkLeast 141 = .ok (.dup2, 1) := by decide +kernel
theorem dX9_parkLeast_142 : decode cX9_parkLeast 142 = .ok (.iaload, 1) := by decide +kernel
theorem dX9_parkLeast_143 : decode cX9_parkLeast 143 = .ok (.iconst 1, 1) := by decide +kernel
theorem dX9_parkLeast_144 : decode cX9_parkLeast 144 = .ok (.iadd, 1) := by decide +kernel
theorem dX9_parkLeast_145 : decode cX9_parkLeast 145 = .ok (.iastore, 1) := by decide +kernel
theorem dX9_parkLeast_146 : decode cX9_parkLeast 146 = .ok (.aload_n 0, 1) := by decide +kernel
theorem dX9_parkLeast_147 : decode cX9_parkLeast 147 = .ok (.getfield 75, 3) := by decide +kernel
theorem dX9_parkLeast_150 : decode cX9_parkLeast 150 = .ok (.iload 5, 2) := by decide +kernel
theorem dX9_parkLeast_152 : decode cX9_parkLeast 152 = .ok (.iaload, 1) := by decide +kernel
theorem dX9_parkLeast_153 : decode cX9_parkLeast 153 = .ok (.aload_n 0, 1) := by decide +kernel
theorem dX9_parkLeast_154 : decode cX9_parkLeast 154 = .ok (.getfield 87, 3) := by decide +kernel
theorem dX9_parkLeast_157 : decode cX9_parkLeast 157 = .ok (.if_icmp .gt 53, 3) := by decide +kernel
theorem dX9_parkLeast_160 : decode cX9_parkLeast 160 = .ok (.aload_n 0, 1) := by decide +kernel
theorem dX9_parkLeast_161 : decode cX9_parkLeast 161 = .ok (.iload 5, 2) := by decide +kernel
theorem dX9_parkLeast_163 : decode cX9_parkLeast 163 = .ok (.aload_n 0, 1) := by decide +kernel
theorem dX9_parkLeast_164 : decode cX9_parkLeast 164 = .ok (.getfield 75, 3) := by decide +kernel
theorem dX9_parkLeast_167 : decode cX9_parkLeast 167 = .ok (.iload 5, 2) := by decide +kernel
theorem dX9_parkLeast_169 : decode cX9_parkLeast 169 = .ok (.iaload, 1) := by decide +kernel
theorem dX9_parkLeast_170 : decode cX9_parkLeast 170 = .ok (.invokevirtual 140, 3) := by decide +kernel
theorem dX9_parkLeast_173 : decode cX9_parkLeast 173 = .ok (.ifCond .eq 23, 3) := by decide +kernel
theorem dX9_parkLeast_176 : decode cX9_parkLeast 176 = .ok (.iload 4, 2) := by decide +kernel
theorem dX9_parkLeast_178 : decode cX9_parkLeast 178 = .ok (.aload_n 0, 1) := by decide +kernel
theorem dX9_parkLeast_179 : decode cX9_parkLeast 179 = .ok (.iload 5, 2) := by decide +kernel
theorem dX9_parkLeast_181 : decode cX9_parkLeast 181 = .ok (.aload_n 0, 1) := by decide +kernel
theorem dX9_parkLeast_182 : decode cX9_parkLeast 182 = .ok (.getfield 75, 3) := by decide +kernel
theorem dX9_parkLeast_185 : decode cX9_parkLeast 185 = .ok (.iload 5, 2) := by decide +kernel
theorem dX9_parkLeast_187 : decode cX9_parkLeast 187 = .ok (.iaload, 1) := by decide +kernel
theorem dX9_parkLeast_188 : decode cX9_parkLeast 188 = .ok (.invokevirtual 136, 3) := by decide +kernel
theorem dX9_parkLeast_191 : decode cX9_parkLeast 191 = .ok (.iadd, 1) := by decide +kernel
theorem dX9_parkLeast_192 : decode cX9_parkLeast 192 = .ok (.iload_n 3, 1) := by decide +kernel
theorem dX9_parkLeast_193 : decode cX9_parkLeast 193 = .ok (.if_icmp .lt 17, 3) := by decide +kernel
theorem dX9_parkLeast_196 : decode cX9_parkLeast 196 = .ok (.aload_n 0, 1) := by decide +kernel
theorem dX9_parkLeast_197 : decode cX9_parkLeast 197 = .ok (.getfield 75, 3) := by decide +kernel
theorem dX9_parkLeast_200 : decode cX9_parkLeast 200 = .ok (.iload 5, 2) := by decide +kernel
theorem dX9_parkLeast_202 : decode cX9_parkLeast 202 = .ok (.dup2, 1) := by decide +kernel
theorem dX9_parkLeast_203 : decode cX9_parkLeast 203 = .ok (.iaload, 1) := by decide +kernel
theorem dX9_parkLeast_204 : decode cX9_parkLeast 204 = .ok (.iconst 1, 1) := by decide +kernel
theorem dX9_parkLeast_205 : decode cX9_parkLeast 205 = .ok (.iadd, 1) := by decide +kernel
theorem dX9_parkLeast_206 : decode cX9_parkLeast 206 = .ok (.iastore, 1) := by decide +kernel
theorem dX9_parkLeast_207 : decode cX9_parkLeast 207 = .ok (.goto (-61), 3) := by decide +kernel
theorem dX9_parkLeast_210 : decode cX9_parkLeast 210 = .ok (.aload_n 0, 1) := by decide +kernel
theorem dX9_parkLeast_211 : decode cX9_parkLeast 211 = .ok (.getfield 75, 3) := by decide +kernel
theorem dX9_parkLeast_214 : decode cX9_parkLeast 214 = .ok (.iload 5, 2) := by decide +kernel
theorem dX9_parkLeast_216 : decode cX9_parkLeast 216 = .ok (.iaload, 1) := by decide +kernel
theorem dX9_parkLeast_217 : decode cX9_parkLeast 217 = .ok (.aload_n 0, 1) := by decide +kernel
theorem dX9_parkLeast_218 : decode cX9_parkLeast 218 = .ok (.getfield 87, 3) := by decide +kernel
theorem dX9_parkLeast_221 : decode cX9_parkLeast 221 = .ok (.if_icmp .le 17, 3) := by decide +kernel
theorem dX9_parkLeast_224 : decode cX9_parkLeast 224 = .ok (.aload_n 0, 1) := by decide +kernel
theorem dX9_parkLeast_225 : decode cX9_parkLeast 225 = .ok (.getfield 75, 3) := by decide +kernel
theorem dX9_parkLeast_228 : decode cX9_parkLeast 228 = .ok (.iload 5, 2) := by decide +kernel
theorem dX9_parkLeast_230 : decode cX9_parkLeast 230 = .ok (.iconst (-1), 1) := by decide +kernel
theorem dX9_parkLeast_231 : decode cX9_parkLeast 231 = .ok (.iastore, 1) := by decide +kernel
theorem dX9_parkLeast_232 : decode cX9_parkLeast 232 = .ok (.iinc 5 (-1), 3) := by decide +kernel
theorem dX9_parkLeast_235 : decode cX9_parkLeast 235 = .ok (.goto (-213), 3) := by decide +kernel
theorem dX9_parkLeast_238 : decode cX9_parkLeast 238 = .ok (.iload 4, 2) := by decide +kernel
theorem dX9_parkLeast_240 : decode cX9_parkLeast 240 = .ok (.aload_n 0, 1) := by decide +kernel
theorem dX9_parkLeast_241 : decode cX9_parkLeast 241 = .ok (.iload 5, 2) := by decide +kernel
theorem dX9_parkLeast_243 : decode cX9_parkLeast 243 = .ok (.aload_n 0, 1) := by decide +kernel
theorem dX9_parkLeast_244 : decode cX9_parkLeast 244 = .ok (.getfield 75, 3) := by decide +kernel
theorem dX9_parkLeast_247 : decode cX9_parkLeast 247 = .ok (.iload 5, 2) := by decide +kernel
theorem dX9_parkLeast_249 : decode cX9_parkLeast 249 = .ok (.iaload, 1) := by decide +kernel
theorem dX9_parkLeast_250 : decode cX9_parkLeast 250 = .ok (.invokevirtual 136, 3) := by decide +kernel
theorem dX9_parkLeast_253 : decode cX9_parkLeast 253 = .ok (.iadd, 1) := by decide +kernel
theorem dX9_parkLeast_254 : decode cX9_parkLeast 254 = .ok (.istore 4, 2) := by decide +kernel
theorem dX9_parkLeast_256 : decode cX9_parkLeast 256 = .ok (.aload_n 0, 1) := by decide +kernel
theorem dX9_parkLeast_257 : decode cX9_parkLeast 257 = .ok (.getfield 75, 3) := by decide +kernel
theorem dX9_parkLeast_260 : decode cX9_parkLeast 260 = .ok (.iload 5, 2) := by decide +kernel
theorem dX9_parkLeast_262 : decode cX9_parkLeast 262 = .ok (.iaload, 1) := by decide +kernel
theorem dX9_parkLeast_263 : decode cX9_parkLeast 263 = .ok (.aload_n 0, 1) := by decide +kernel
theorem dX9_parkLeast_264 : decode cX9_parkLeast 264 = .ok (.getfield 87, 3) := by decide +kernel
theorem dX9_parkLeast_267 : decode cX9_parkLeast 267 = .ok (.if_icmp .ge 19, 3) := by decide +kernel
theorem dX9_parkLeast_270 : decode cX9_parkLeast 270 = .ok (.aload_n 0, 1) := by decide +kernel
theorem dX9_parkLeast_271 : decode cX9_parkLeast 271 = .ok (.getfield 81, 3) := by decide +kernel
theorem dX9_parkLeast_274 : decode cX9_parkLeast 274 = .ok (.aload_n 0, 1) := by decide +kernel
theorem dX9_parkLeast_275 : decode cX9_parkLeast 275 = .ok (.getfield 75, 3) := by decide +kernel
theorem dX9_parkLeast_278 : decode cX9_parkLeast 278 = .ok (.iload 5, 2) := by decide +kernel
theorem dX9_parkLeast_280 : decode cX9_parkLeast 280 = .ok (.iaload, 1) := by decide +kernel
theorem dX9_parkLeast_281 : decode cX9_parkLeast 281 = .ok (.dup2, 1) := by decide +kernel
theorem dX9_parkLeast_282 : decode cX9_parkLeast 282 = .ok (.iaload, 1) := by decide +kernel
theorem dX9_parkLeast_283 : decode cX9_parkLeast 283 = .ok (.iconst 1, 1) := by decide +kernel
theorem dX9_parkLeast_284 : decode cX9_parkLeast 284 = .ok (.isub, 1) := by decide +kernel
theorem dX9_parkLeast_285 : decode cX9_parkLeast 285 = .ok (.iastore, 1) := by decide +kernel
theorem dX9_parkLeast_286 : decode cX9_parkLeast 286 = .ok (.iinc 5 1, 3) := by decide +kernel
theorem dX9_parkLeast_289 : decode cX9_parkLeast 289 = .ok (.iload 5, 2) := by decide +kernel
theorem dX9_parkLeast_291 : decode cX9_parkLeast 291 = .ok (.aload_n 0, 1) := by decide +kernel
theorem dX9_parkLeast_292 : decode cX9_parkLeast 292 = .ok (.getfield 94, 3) := by decide +kernel
theorem dX9_parkLeast_295 : decode cX9_parkLeast 295 = .ok (.if_icmp .ge (-273), 3) := by decide +kernel
theorem dX9_parkLeast_298 : decode cX9_parkLeast 298 = .ok (.aload_n 0, 1) := by decide +kernel
theorem dX9_parkLeast_299 : decode cX9_parkLeast 299 = .ok (.getfield 75, 3) := by decide +kernel
theorem dX9_parkLeast_302 : decode cX9_parkLeast 302 = .ok (.iload 5, 2) := by decide +kernel
theorem dX9_parkLeast_304 : decode cX9_parkLeast 304 = .ok (.iconst (-1), 1) := by decide +kernel
theorem dX9_parkLeast_305 : decode cX9_parkLeast 305 = .ok (.iastore, 1) := by decide +kernel
theorem dX9_parkLeast_306 : decode cX9_parkLeast 306 = .ok (.goto (-284), 3) := by decide +kernel
theorem dX9_parkLeast_309 : decode cX9_parkLeast 309 = .ok (.return_, 1) := by decide +kernel
theorem dX9_park_0 : decode cX9_park 0 = .ok (.iload_n 3, 1) := by decide +kernel
theorem dX9_park_1 : decode cX9_park 1 = .ok (.ifCond .eq 19, 3) := by decide +kernel
theorem dX9_park_4 : decode cX9_park 4 = .ok (.aload_n 0, 1) := by decide +kernel
theorem dX9_park_5 : decode cX9_park 5 = .ok (.getfield 94, 3) := by decide +kernel
theorem dX9_park_8 : decode cX9_park 8 = .ok (.ifCond .le 12, 3) := by decide +kernel
theorem dX9_park_11 : decode cX9_park 11 = .ok (.aload_n 0, 1) := by decide +kernel
theorem dX9_park_12 : decode cX9_park 12 = .ok (.iload_n 1, 1) := by decide +kernel
theorem dX9_park_13 : decode cX9_park 13 = .ok (.iload_n 2, 1) := by decide +kernel
theorem dX9_park_14 : decode cX9_park 14 = .ok (.invokevirtual 143, 3) := by decide +kernel
theorem dX9_park_17 : decode cX9_park 17 = .ok (.goto 9, 3) := by decide +kernel
theorem dX9_park_20 : decode cX9_park 20 = .ok (.aload_n 0, 1) := by decide +kernel
theorem dX9_park_21 : decode cX9_park 21 = .ok (.iload_n 1, 1) := by decide +kernel
theorem dX9_park_22 : decode cX9_park 22 = .ok (.iload_n 2, 1) := by decide +kernel
theorem dX9_park_23 : decode cX9_park 23 = .ok (.invokevirtual 146, 3) := by decide +kernel
theorem dX9_park_26 : decode cX9_park 26 = .ok (.return_, 1) := by decide +kernel
theorem dX9_stands_0 : decode cX9_stands 0 = .ok (.iload_n 1, 1) := by decide +kernel
theorem dX9_stands_1 : decode cX9_stands 1 = .ok (.invokestatic 104, 3) := by decide +kernel
theorem dX9_stands_4 : decode cX9_stands 4 = .ok (.ifCond .eq 18, 3) := by decide +kernel
theorem dX9_stands_7 : decode cX9_stands 7 = .ok (.iload_n 2, 1) := by decide +kernel
theorem dX9_stands_8 : decode cX9_stands 8 = .ok (.invokestatic 107, 3) := by decide +kernel
theorem dX9_stands_11 : decode cX9_stands 11 = .ok (.ifCond .eq 11, 3) := by decide +kernel
theorem dX9_stands_14 : decode cX9_stands 14 = .ok (.aload_n 0, 1) := by decide +kernel
theorem dX9_stands_15 : decode cX9_stands 15 = .ok (.iload_n 3, 1) := by decide +kernel
theorem dX9_stands_16 : decode cX9_stands 16 = .ok (.invokevirtual 117, 3) := by decide +kernel
theorem dX9_stands_19 : decode cX9_stands 19 = .ok (.ifCond .ne 5, 3) := by decide +kernel
theorem dX9_stands_22 : decode cX9_stands 22 = .ok (.iconst (-1), 1) := by decide +kernel
theorem dX9_stands_23 : decode cX9_stands 23 = .ok (.ireturn, 1) := by decide +kernel
theorem dX9_stands_24 : decode cX9_stands 24 = .ok (.aload_n 0, 1) := by decide +kernel
theorem dX9_stands_25 : decode cX9_stands 25 = .ok (.iload_n 1, 1) := by decide +kernel
theorem dX9_stands_26 : decode cX9_stands 26 = .ok (.iload_n 2, 1) := by decide +kernel
theorem dX9_stands_27 : decode cX9_stands 27 = .ok (.iload 4, 2) := by decide +kernel
theorem dX9_stands_29 : decode cX9_stands 29 = .ok (.invokevirtual 149, 3) := by decide +kernel
theorem dX9_stands_32 : decode cX9_stands 32 = .ok (.aload_n 0, 1) := by decide +kernel
theorem dX9_stands_33 : decode cX9_stands 33 = .ok (.getfield 78, 3) := by decide +kernel
theorem dX9_stands_36 : decode cX9_stands 36 = .ok (.iload_n 3, 1) := by decide +kernel
theorem dX9_stands_37 : decode cX9_stands 37 = .ok (.iaload, 1) := by decide +kernel
theorem dX9_stands_38 : decode cX9_stands 38 = .ok (.aload_n 0, 1) := by decide +kernel
theorem dX9_stands_39 : decode cX9_stands 39 = .ok (.getfield 87, 3) := by decide +kernel
theorem dX9_stands_42 : decode cX9_stands 42 = .ok (.if_icmp .ne 8, 3) := by decide +kernel
theorem dX9_stands_45 : decode cX9_stands 45 = .ok (.bipush (-3), 2) := by decide +kernel
theorem dX9_stands_47 : decode cX9_stands 47 = .ok (.goto 9, 3) := by decide +kernel
theorem dX9_stands_50 : decode cX9_stands 50 = .ok (.aload_n 0, 1) := by decide +kernel
theorem dX9_stands_51 : decode cX9_stands 51 = .ok (.getfield 78, 3) := by decide +kernel
theorem dX9_stands_54 : decode cX9_stands 54 = .ok (.iload_n 3, 1) := by decide +kernel
theorem dX9_stands_55 : decode cX9_stands 55 = .ok (.iaload, 1) := by decide +kernel
theorem dX9_stands_56 : decode cX9_stands 56 = .ok (.ireturn, 1) := by decide +kernel
theorem dX9_sumOf_0 : decode cX9_sumOf 0 = .ok (.iconst 0, 1) := by decide +kernel
theorem dX9_sumOf_1 : decode cX9_sumOf 1 = .ok (.istore_n 2, 1) := by decide +kernel
theorem dX9_sumOf_2 : decode cX9_sumOf 2 = .ok (.iconst 0, 1) := by decide +kernel
theorem dX9_sumOf_3 : decode cX9_sumOf 3 = .ok (.istore_n 3, 1) := by decide +kernel
theorem dX9_sumOf_4 : decode cX9_sumOf 4 = .ok (.iload_n 3, 1) := by decide +kernel
theorem dX9_sumOf_5 : decode cX9_sumOf 5 = .ok (.aload_n 0, 1) := by decide +kernel
theorem dX9_sumOf_6 : decode cX9_sumOf 6 = .ok (.getfield 94, 3) := by decide +kernel
theorem dX9_sumOf_9 : decode cX9_sumOf 9 = .ok (.if_icmp .ge 109, 3) := by decide +kernel
theorem dX9_sumOf_12 : decode cX9_sumOf 12 = .ok (.aload_n 0, 1) := by decide +kernel
theorem dX9_sumOf_13 : decode cX9_sumOf 13 = .ok (.getfield 78, 3) := by decide +kernel
theorem dX9_sumOf_16 : decode cX9_sumOf 16 = .ok (.iload_n 3, 1) := by decide +kernel
theorem dX9_sumOf_17 : decode cX9_sumOf 17 = .ok (.iaload, 1) := by decide +kernel
theorem dX9_sumOf_18 : decode cX9_sumOf 18 = .ok (.aload_n 0, 1) := by decide +kernel
theorem dX9_sumOf_19 : decode cX9_sumOf 19 = .ok (.getfield 87, 3) := by decide +kernel
theorem dX9_sumOf_22 : decode cX9_sumOf 22 = .ok (.if_icmp .ne 7, 3) := by decide +kernel
theorem dX9_sumOf_25 : decode cX9_sumOf 25 = .ok (.iconst 1, 1) := by decide +kernel
theorem dX9_sumOf_26 : decode cX9_sumOf 26 = .ok (.goto 4, 3) := by decide +kernel
theorem dX9_sumOf_29 : decode cX9_sumOf 29 = .ok (.iconst 0, 1) := by decide +kernel
theorem dX9_sumOf_30 : decode cX9_sumOf 30 = .ok (.istore 4, 2) := by decide +kernel
theorem dX9_sumOf_32 : decode cX9_sumOf 32 = .ok (.iload_n 1, 1) := by decide +kernel
theorem dX9_sumOf_33 : decode cX9_sumOf 33 = .ok (.iconst 1, 1) := by decide +kernel
theorem dX9_sumOf_34 : decode cX9_sumOf 34 = .ok (.if_icmp .ne 19, 3) := by decide +kernel
theorem dX9_sumOf_37 : decode cX9_sumOf 37 = .ok (.iload_n 2, 1) := by decide +kernel
theorem dX9_sumOf_38 : decode cX9_sumOf 38 = .ok (.iload 4, 2) := by decide +kernel
theorem dX9_sumOf_40 : decode cX9_sumOf 40 = .ok (.ifCond .eq 7, 3) := by decide +kernel
theorem dX9_sumOf_43 : decode cX9_sumOf 43 = .ok (.iconst 1, 1) := by decide +kernel
theorem dX9_sumOf_44 : decode cX9_sumOf 44 = .ok (.goto 4, 3) := by decide +kernel
theorem dX9_sumOf_47 : decode cX9_sumOf 47 = .ok (.iconst 0, 1) := by decide +kernel
theorem dX9_sumOf_48 : decode cX9_sumOf 48 = .ok (.iadd, 1) := by decide +kernel
theorem dX9_sumOf_49 : decode cX9_sumOf 49 = .ok (.istore_n 2, 1) := by decide +kernel
theorem dX9_sumOf_50 : decode cX9_sumOf 50 = .ok (.goto 62, 3) := by decide +kernel
theorem dX9_sumOf_53 : decode cX9_sumOf 53 = .ok (.iload 4, 2) := by decide +kernel
theorem dX9_sumOf_55 : decode cX9_sumOf 55 = .ok (.ifCond .ne 57, 3) := by decide +kernel
theorem dX9_sumOf_58 : decode cX9_sumOf 58 = .ok (.iload_n 2, 1) := by decide +kernel
theorem dX9_sumOf_59 : decode cX9_sumOf 59 = .ok (.iload_n 1, 1) := by decide +kernel
theorem dX9_sumOf_60 : decode cX9_sumOf 60 = .ok (.ifCond .ne 26, 3) := by decide +kernel
theorem dX9_sumOf_63 : decode cX9_sumOf 63 = .ok (.aload_n 0, 1) := by decide +kernel
theorem dX9_sumOf_64 : decode cX9_sumOf 64 = .ok (.getfield 19, 3) := by decide +kernel
theorem dX9_sumOf_67 : decode cX9_sumOf 67 = .ok (.iconst 5, 1) := by decide +kernel
theorem dX9_sumOf_68 : decode cX9_sumOf 68 = .ok (.aload_n 0, 1) := by decide +kernel
theorem dX9_sumOf_69 : decode cX9_sumOf 69 = .ok (.getfield 25, 3) := by decide +kernel
theorem dX9_sumOf_72 : decode cX9_sumOf 72 = .ok (.iload_n 3, 1) := by decide +kernel
theorem dX9_sumOf_73 : decode cX9_sumOf 73 = .ok (.iaload, 1) := by decide +kernel
theorem dX9_sumOf_74 : decode cX9_sumOf 74 = .ok (.imul, 1) := by decide +kernel
theorem dX9_sumOf_75 : decode cX9_sumOf 75 = .ok (.aload_n 0, 1) := by decide +kernel
theorem dX9_sumOf_76 : decode cX9_sumOf 76 = .ok (.getfield 78, 3) := by decide +kernel
theorem dX9_sumOf_79 : decode cX9_sumOf 79 = .ok (.iload_n 3, 1) := by decide +kernel
theorem dX9_sumOf_80 : decode cX9_sumOf 80 = .ok (.iaload, 1) := by decide +kernel
theorem dX9_sumOf_81 : decode cX9_sumOf 81 = .ok (.iadd, 1) := by decide +kernel
theorem dX9_sumOf_82 : decode cX9_sumOf 82 = .ok (.iaload, 1) := by decide +kernel
theorem dX9_sumOf_83 : decode cX9_sumOf 83 = .ok (.goto 27, 3) := by decide +kernel
theorem dX9_sumOf_86 : decode cX9_sumOf 86 = .ok (.aload_n 0, 1) := by decide +kernel
theorem dX9_sumOf_87 : decode cX9_sumOf 87 = .ok (.getfield 84, 3) := by decide +kernel
theorem dX9_sumOf_90 : decode cX9_sumOf 90 = .ok (.iconst 5, 1) := by decide +kernel
theorem dX9_sumOf_91 : decode cX9_sumOf 91 = .ok (.iload_n 3, 1) := by decide +kernel
theorem dX9_sumOf_92 : decode cX9_sumOf 92 = .ok (.imul, 1) := by decide +kernel
theorem dX9_sumOf_93 : decode cX9_sumOf 93 = .ok (.aload_n 0, 1) := by decide +kernel
theorem dX9_sumOf_94 : decode cX9_sumOf 94 = .ok (.getfield 78, 3) := by decide +kernel
theorem dX9_sumOf_97 : decode cX9_sumOf 97 = .ok (.iload_n 3, 1) := by decide +kernel
theorem dX9_sumOf_98 : decode cX9_sumOf 98 = .ok (.iaload, 1) := by decide +kernel
theorem dX9_sumOf_99 : decode cX9_sumOf 99 = .ok (.iadd, 1) := by decide +kernel
theorem dX9_sumOf_100 : decode cX9_sumOf 100 = .ok (.iaload, 1) := by decide +kernel
theorem dX9_sumOf_101 : decode cX9_sumOf 101 = .ok (.iconst 1, 1) := by decide +kernel
theorem dX9_sumOf_102 : decode cX9_sumOf 102 = .ok (.if_icmp .ne 7, 3) := by decide +kernel
theorem dX9_sumOf_105 : decode cX9_sumOf 105 = .ok (.iconst 1, 1) := by decide +kernel
theorem dX9_sumOf_106 : decode cX9_sumOf 106 = .ok (.goto 4, 3) := by decide +kernel
theorem dX9_sumOf_109 : decode cX9_sumOf 109 = .ok (.iconst 0, 1) := by decide +kernel
theorem dX9_sumOf_110 : decode cX9_sumOf 110 = .ok (.iadd, 1) := by decide +kernel
theorem dX9_sumOf_111 : decode cX9_sumOf 111 = .ok (.istore_n 2, 1) := by decide +kernel
theorem dX9_sumOf_112 : decode cX9_sumOf 112 = .ok (.iinc 3 1, 3) := by decide +kernel
theorem dX9_sumOf_115 : decode cX9_sumOf 115 = .ok (.goto (-111), 3) := by decide +kernel
theorem dX9_sumOf_118 : decode cX9_sumOf 118 = .ok (.iload_n 2, 1) := by decide +kernel
theorem dX9_sumOf_119 : decode cX9_sumOf 119 = .ok (.ireturn, 1) := by decide +kernel
theorem dX9_told_0 : decode cX9_told 0 = .ok (.iload_n 1, 1) := by decide +kernel
theorem dX9_told_1 : decode cX9_told 1 = .ok (.invokestatic 104, 3) := by decide +kernel
theorem dX9_told_4 : decode cX9_told 4 = .ok (.ifCond .eq 19, 3) := by decide +kernel
theorem dX9_told_7 : decode cX9_told 7 = .ok (.iload_n 2, 1) := by decide +kernel
theorem dX9_told_8 : decode cX9_told 8 = .ok (.invokestatic 107, 3) := by decide +kernel
theorem dX9_told_11 : decode cX9_told 11 = .ok (.ifCond .eq 12, 3) := by decide +kernel
theorem dX9_told_14 : decode cX9_told 14 = .ok (.iload_n 3, 1) := by decide +kernel
theorem dX9_told_15 : decode cX9_told 15 = .ok (.iconst 0, 1) := by decide +kernel
theorem dX9_told_16 : decode cX9_told 16 = .ok (.iconst 2, 1) := by decide +kernel
theorem dX9_told_17 : decode cX9_told 17 = .ok (.invokestatic 90, 3) := by decide +kernel
theorem dX9_told_20 : decode cX9_told 20 = .ok (.ifCond .ne 5, 3) := by decide +kernel
theorem dX9_told_23 : decode cX9_told 23 = .ok (.iconst (-1), 1) := by decide +kernel
theorem dX9_told_24 : decode cX9_told 24 = .ok (.ireturn, 1) := by decide +kernel
theorem dX9_told_25 : decode cX9_told 25 = .ok (.aload_n 0, 1) := by decide +kernel
theorem dX9_told_26 : decode cX9_told 26 = .ok (.iload_n 1, 1) := by decide +kernel
theorem dX9_told_27 : decode cX9_told 27 = .ok (.iload_n 2, 1) := by decide +kernel
theorem dX9_told_28 : decode cX9_told 28 = .ok (.iload 4, 2) := by decide +kernel
theorem dX9_told_30 : decode cX9_told 30 = .ok (.invokevirtual 149, 3) := by decide +kernel
theorem dX9_told_33 : decode cX9_told 33 = .ok (.aload_n 0, 1) := by decide +kernel
theorem dX9_told_34 : decode cX9_told 34 = .ok (.iload_n 3, 1) := by decide +kernel
theorem dX9_told_35 : decode cX9_told 35 = .ok (.invokevirtual 153, 3) := by decide +kernel
theorem dX9_told_38 : decode cX9_told 38 = .ok (.ireturn, 1) := by decide +kernel
theorem dX9_keep_0 : decode cX9_keep 0 = .ok (.iload_n 1, 1) := by decide +kernel
theorem dX9_keep_1 : decode cX9_keep 1 = .ok (.invokestatic 104, 3) := by decide +kernel
theorem dX9_keep_4 : decode cX9_keep 4 = .ok (.ifCond .eq 10, 3) := by decide +kernel
theorem dX9_keep_7 : decode cX9_keep 7 = .ok (.iload_n 2, 1) := by decide +kernel
theorem dX9_keep_8 : decode cX9_keep 8 = .ok (.invokestatic 107, 3) := by decide +kernel
theorem dX9_keep_11 : decode cX9_keep 11 = .ok (.ifCond .ne 5, 3) := by decide +kernel
theorem dX9_keep_14 : decode cX9_keep 14 = .ok (.iconst (-1), 1) := by decide +kernel
theorem dX9_keep_15 : decode cX9_keep 15 = .ok (.ireturn, 1) := by decide +kernel
theorem dX9_keep_16 : decode cX9_keep 16 = .ok (.aload_n 0, 1) := by decide +kernel
theorem dX9_keep_17 : decode cX9_keep 17 = .ok (.iload_n 1, 1) := by decide +kernel
theorem dX9_keep_18 : decode cX9_keep 18 = .ok (.iload_n 2, 1) := by decide +kernel
theorem dX9_keep_19 : decode cX9_keep 19 = .ok (.iconst 0, 1) := by decide +kernel
theorem dX9_keep_20 : decode cX9_keep 20 = .ok (.invokevirtual 149, 3) := by decide +kernel
theorem dX9_keep_23 : decode cX9_keep 23 = .ok (.aload_n 0, 1) := by decide +kernel
theorem dX9_keep_24 : decode cX9_keep 24 = .ok (.iconst 2, 1) := by decide +kernel
theorem dX9_keep_25 : decode cX9_keep 25 = .ok (.invokevirtual 153, 3) := by decide +kernel
theorem dX9_keep_28 : decode cX9_keep 28 = .ok (.istore_n 3, 1) := by decide +kernel
theorem dX9_keep_29 : decode cX9_keep 29 = .ok (.iconst 0, 1) := by decide +kernel
theorem dX9_keep_30 : decode cX9_keep 30 = .ok (.istore 4, 2) := by decide +kernel
theorem dX9_keep_32 : decode cX9_keep 32 = .ok (.iload 4, 2) := by decide +kernel
theorem dX9_keep_34 : decode cX9_keep 34 = .ok (.aload_n 0, 1) := by decide +kernel
theorem dX9_keep_35 : decode cX9_keep 35 = .ok (.getfield 94, 3) := by decide +kernel
theorem dX9_keep_38 : decode cX9_keep 38 = .ok (.if_icmp .ge 70, 3) := by decide +kernel
theorem dX9_keep_41 : decode cX9_keep 41 = .ok (.aload_n 0, 1) := by decide +kernel
theorem dX9_keep_42 : decode cX9_keep 42 = .ok (.getfield 78, 3) := by decide +kernel
theorem dX9_keep_45 : decode cX9_keep 45 = .ok (.iload 4, 2) := by decide +kernel
theorem dX9_keep_47 : decode cX9_keep 47 = .ok (.iaload, 1) := by decide +kernel
theorem dX9_keep_48 : decode cX9_keep 48 = .ok (.aload_n 0, 1) := by decide +kernel
theorem dX9_keep_49 : decode cX9_keep 49 = .ok (.getfield 87, 3) := by decide +kernel
theorem dX9_keep_52 : decode cX9_keep 52 = .ok (.if_icmp .ge 50, 3) := by decide +kernel
theorem dX9_keep_55 : decode cX9_keep 55 = .ok (.aload_n 0, 1) := by decide +kernel
theorem dX9_keep_56 : decode cX9_keep 56 = .ok (.getfield 84, 3) := by decide +kernel
theorem dX9_keep_59 : decode cX9_keep 59 = .ok (.iconst 5, 1) := by decide +kernel
theorem dX9_keep_60 : decode cX9_keep 60 = .ok (.iload 4, 2) := by decide +kernel
theorem dX9_keep_62 : decode cX9_keep 62 = .ok (.imul, 1) := by decide +kernel
theorem dX9_keep_63 : decode cX9_keep 63 = .ok (.aload_n 0, 1) := by decide +kernel
theorem dX9_keep_64 : decode cX9_keep 64 = .ok (.getfield 78, 3) := by decide +kernel
theorem dX9_keep_67 : decode cX9_keep 67 = .ok (.iload 4, 2) := by decide +kernel
theorem dX9_keep_69 : decode cX9_keep 69 = .ok (.iaload, 1) := by decide +kernel
theorem dX9_keep_70 : decode cX9_keep 70 = .ok (.iadd, 1) := by decide +kernel
theorem dX9_keep_71 : decode cX9_keep 71 = .ok (.iaload, 1) := by decide +kernel
theorem dX9_keep_72 : decode cX9_keep 72 = .ok (.iconst 1, 1) := by decide +kernel
theorem dX9_keep_73 : decode cX9_keep 73 = .ok (.if_icmp .ne 29, 3) := by decide +kernel
theorem dX9_keep_76 : decode cX9_keep 76 = .ok (.aload_n 0, 1) := by decide +kernel
theorem dX9_keep_77 : decode cX9_keep 77 = .ok (.getfield 32, 3) := by decide +kernel
theorem dX9_keep_80 : decode cX9_keep 80 = .ok (.iconst 4, 1) := by decide +kernel
theorem dX9_keep_81 : decode cX9_keep 81 = .ok (.iload 4, 2) := by decide +kernel
theorem dX9_keep_83 : decode cX9_keep 83 = .ok (.imul, 1) := by decide +kernel
theorem dX9_keep_84 : decode cX9_keep 84 = .ok (.aload_n 0, 1) := by decide +kernel
theorem dX9_keep_85 : decode cX9_keep 85 = .ok (.getfield 7, 3) := by decide +kernel
theorem dX9_keep_88 : decode cX9_keep 88 = .ok (.aload_n 0, 1) := by decide +kernel
theorem dX9_keep_89 : decode cX9_keep 89 = .ok (.getfield 78, 3) := by decide +kernel
theorem dX9_keep_92 : decode cX9_keep 92 = .ok (.iload 4, 2) := by decide +kernel
theorem dX9_keep_94 : decode cX9_keep 94 = .ok (.iaload, 1) := by decide +kernel
theorem dX9_keep_95 : decode cX9_keep 95 = .ok (.iaload, 1) := by decide +kernel
theorem dX9_keep_96 : decode cX9_keep 96 = .ok (.iadd, 1) := by decide +kernel
theorem dX9_keep_97 : decode cX9_keep 97 = .ok (.dup2, 1) := by decide +kernel
theorem dX9_keep_98 : decode cX9_keep 98 = .ok (.iaload, 1) := by decide +kernel
theorem dX9_keep_99 : decode cX9_keep 99 = .ok (.iconst 1, 1) := by decide +kernel
theorem dX9_keep_100 : decode cX9_keep 100 = .ok (.isub, 1) := by decide +kernel
theorem dX9_keep_101 : decode cX9_keep 101 = .ok (.iastore, 1) := by decide +kernel
theorem dX9_keep_102 : decode cX9_keep 102 = .ok (.iinc 4 1, 3) := by decide +kernel
theorem dX9_keep_105 : decode cX9_keep 105 = .ok (.goto (-73), 3) := by decide +kernel
theorem dX9_keep_108 : decode cX9_keep 108 = .ok (.iload_n 3, 1) := by decide +kernel
theorem dX9_keep_109 : decode cX9_keep 109 = .ok (.ireturn, 1) := by decide +kernel
theorem dX9_moved_0 : decode cX9_moved 0 = .ok (.iload_n 1, 1) := by decide +kernel
theorem dX9_moved_1 : decode cX9_moved 1 = .ok (.invokestatic 104, 3) := by decide +kernel
theorem dX9_moved_4 : decode cX9_moved 4 = .ok (.ifCond .eq 36, 3) := by decide +kernel
theorem dX9_moved_7 : decode cX9_moved 7 = .ok (.iload_n 2, 1) := by decide +kernel
theorem dX9_moved_8 : decode cX9_moved 8 = .ok (.invokestatic 107, 3) := by decide +kernel
theorem dX9_moved_11 : decode cX9_moved 11 = .ok (.ifCond .eq 29, 3) := by decide +kernel
theorem dX9_moved_14 : decode cX9_moved 14 = .ok (.aload_n 0, 1) := by decide +kernel
theorem dX9_moved_15 : decode cX9_moved 15 = .ok (.iload_n 3, 1) := by decide +kernel
theorem dX9_moved_16 : decode cX9_moved 16 = .ok (.invokevirtual 101, 3) := by decide +kernel
theorem dX9_moved_19 : decode cX9_moved 19 = .ok (.ifCond .eq 21, 3) := by decide +kernel
theorem dX9_moved_22 : decode cX9_moved 22 = .ok (.iload 4, 2) := by decide +kernel
theorem dX9_moved_24 : decode cX9_moved 24 = .ok (.invokestatic 97, 3) := by decide +kernel
theorem dX9_moved_27 : decode cX9_moved 27 = .ok (.ifCond .eq 13, 3) := by decide +kernel
theorem dX9_moved_30 : decode cX9_moved 30 = .ok (.iload 5, 2) := by decide +kernel
theorem dX9_moved_32 : decode cX9_moved 32 = .ok (.iconst 0, 1) := by decide +kernel
theorem dX9_moved_33 : decode cX9_moved 33 = .ok (.iconst 1, 1) := by decide +kernel
theorem dX9_moved_34 : decode cX9_moved 34 = .ok (.invokestatic 90, 3) := by decide +kernel
theorem dX9_moved_37 : decode cX9_moved 37 = .ok (.ifCond .ne 5, 3) := by decide +kernel
theorem dX9_moved_40 : decode cX9_moved 40 = .ok (.iconst (-1), 1) := by decide +kernel
theorem dX9_moved_41 : decode cX9_moved 41 = .ok (.ireturn, 1) := by decide +kernel
theorem dX9_moved_42 : decode cX9_moved 42 = .ok (.aload_n 0, 1) := by decide +kernel
theorem dX9_moved_43 : decode cX9_moved 43 = .ok (.getfield 7, 3) := by decide +kernel
theorem dX9_moved_46 : decode cX9_moved 46 = .ok (.iload_n 3, 1) := by decide +kernel
theorem dX9_moved_47 : decode cX9_moved 47 = .ok (.iaload, 1) := by decide +kernel
theorem dX9_moved_48 : decode cX9_moved 48 = .ok (.istore 6, 2) := by decide +kernel
theorem dX9_moved_50 : decode cX9_moved 50 = .ok (.aload_n 0, 1) := by decide +kernel
theorem dX9_moved_51 : decode cX9_moved 51 = .ok (.getfield 7, 3) := by decide +kernel
theorem dX9_moved_54 : decode cX9_moved 54 = .ok (.iload_n 3, 1) := by decide +kernel
theorem dX9_moved_55 : decode cX9_moved 55 = .ok (.iload 4, 2) := by decide +kernel
theorem dX9_moved_57 : decode cX9_moved 57 = .ok (.iastore, 1) := by decide +kernel
theorem dX9_moved_58 : decode cX9_moved 58 = .ok (.aload_n 0, 1) := by decide +kernel
theorem dX9_moved_59 : decode cX9_moved 59 = .ok (.iload_n 1, 1) := by decide +kernel
theorem dX9_moved_60 : decode cX9_moved 60 = .ok (.iload_n 2, 1) := by decide +kernel
theorem dX9_moved_61 : decode cX9_moved 61 = .ok (.iconst 1, 1) := by decide +kernel
theorem dX9_moved_62 : decode cX9_moved 62 = .ok (.invokevirtual 149, 3) := by decide +kernel
theorem dX9_moved_65 : decode cX9_moved 65 = .ok (.aload_n 0, 1) := by decide +kernel
theorem dX9_moved_66 : decode cX9_moved 66 = .ok (.iload 5, 2) := by decide +kernel
theorem dX9_moved_68 : decode cX9_moved 68 = .ok (.invokevirtual 153, 3) := by decide +kernel
theorem dX9_moved_71 : decode cX9_moved 71 = .ok (.istore 7, 2) := by decide +kernel
theorem dX9_moved_73 : decode cX9_moved 73 = .ok (.aload_n 0, 1) := by decide +kernel
theorem dX9_moved_74 : decode cX9_moved 74 = .ok (.getfield 7, 3) := by decide +kernel
theorem dX9_moved_77 : decode cX9_moved 77 = .ok (.iload_n 3, 1) := by decide +kernel
theorem dX9_moved_78 : decode cX9_moved 78 = .ok (.iload 6, 2) := by decide +kernel
theorem dX9_moved_80 : decode cX9_moved 80 = .ok (.iastore, 1) := by decide +kernel
theorem dX9_moved_81 : decode cX9_moved 81 = .ok (.iload 7, 2) := by decide +kernel
theorem dX9_moved_83 : decode cX9_moved 83 = .ok (.ireturn, 1) := by decide +kernel
theorem dX9_gain_0 : decode cX9_gain 0 = .ok (.aload_n 0, 1) := by decide +kernel
theorem dX9_gain_1 : decode cX9_gain 1 = .ok (.iload_n 1, 1) := by decide +kernel
theorem dX9_gain_2 : decode cX9_gain 2 = .ok (.invokevirtual 101, 3) := by decide +kernel
theorem dX9_gain_5 : decode cX9_gain 5 = .ok (.ifCond .eq 13, 3) := by decide +kernel
theorem dX9_gain_8 : decode cX9_gain 8 = .ok (.iload_n 2, 1) := by decide +kernel
theorem dX9_gain_9 : decode cX9_gain 9 = .ok (.iconst 0, 1) := by decide +kernel
theorem dX9_gain_10 : decode cX9_gain 10 = .ok (.bipush 99, 2) := by decide +kernel
theorem dX9_gain_12 : decode cX9_gain 12 = .ok (.invokestatic 90, 3) := by decide +kernel
theorem dX9_gain_15 : decode cX9_gain 15 = .ok (.ifCond .ne 5, 3) := by decide +kernel
theorem dX9_gain_18 : decode cX9_gain 18 = .ok (.iconst (-1), 1) := by decide +kernel
theorem dX9_gain_19 : decode cX9_gain 19 = .ok (.ireturn, 1) := by decide +kernel
theorem dX9_gain_20 : decode cX9_gain 20 = .ok (.aload_n 0, 1) := by decide +kernel
theorem dX9_gain_21 : decode cX9_gain 21 = .ok (.getfield 22, 3) := by decide +kernel
theorem dX9_gain_24 : decode cX9_gain 24 = .ok (.iload_n 1, 1) := by decide +kernel
theorem dX9_gain_25 : decode cX9_gain 25 = .ok (.iaload, 1) := by decide +kernel
theorem dX9_gain_26 : decode cX9_gain 26 = .ok (.istore_n 3, 1) := by decide +kernel
theorem dX9_gain_27 : decode cX9_gain 27 = .ok (.aload_n 0, 1) := by decide +kernel
theorem dX9_gain_28 : decode cX9_gain 28 = .ok (.getfield 22, 3) := by decide +kernel
theorem dX9_gain_31 : decode cX9_gain 31 = .ok (.iload_n 1, 1) := by decide +kernel
theorem dX9_gain_32 : decode cX9_gain 32 = .ok (.iload_n 2, 1) := by decide +kernel
theorem dX9_gain_33 : decode cX9_gain 33 = .ok (.iastore, 1) := by decide +kernel
theorem dX9_gain_34 : decode cX9_gain 34 = .ok (.iload_n 3, 1) := by decide +kernel
theorem dX9_gain_35 : decode cX9_gain 35 = .ok (.ireturn, 1) := by decide +kernel
theorem dX9_fine_0 : decode cX9_fine 0 = .ok (.iload_n 1, 1) := by decide +kernel
theorem dX9_fine_1 : decode cX9_fine 1 = .ok (.iconst 1, 1) := by decide +kernel
theorem dX9_fine_2 : decode cX9_fine 2 = .ok (.sipush 500, 3) := by decide +kernel
theorem dX9_fine_5 : decode cX9_fine 5 = .ok (.invokestatic 90, 3) := by decide +kernel
theorem dX9_fine_8 : decode cX9_fine 8 = .ok (.ifCond .ne 5, 3) := by decide +kernel
theorem dX9_fine_11 : decode cX9_fine 11 = .ok (.iconst (-1), 1) := by decide +kernel
theorem dX9_fine_12 : decode cX9_fine 12 = .ok (.ireturn, 1) := by decide +kernel
theorem dX9_fine_13 : decode cX9_fine 13 = .ok (.aload_n 0, 1) := by decide +kernel
theorem dX9_fine_14 : decode cX9_fine 14 = .ok (.getfield 53, 3) := by decide +kernel
theorem dX9_fine_17 : decode cX9_fine 17 = .ok (.istore_n 2, 1) := by decide +kernel
theorem dX9_fine_18 : decode cX9_fine 18 = .ok (.aload_n 0, 1) := by decide +kernel
theorem dX9_fine_19 : decode cX9_fine 19 = .ok (.iload_n 1, 1) := by decide +kernel
theorem dX9_fine_20 : decode cX9_fine 20 = .ok (.putfield 53, 3) := by decide +kernel
theorem dX9_fine_23 : decode cX9_fine 23 = .ok (.iload_n 2, 1) := by decide +kernel
theorem dX9_fine_24 : decode cX9_fine 24 = .ok (.ireturn, 1) := by decide +kernel
theorem dX9_findStake_0 : decode cX9_findStake 0 = .ok (.aload_n 0, 1) := by decide +kernel
theorem dX9_findStake_1 : decode cX9_findStake 1 = .ok (.iconst 0, 1) := by decide +kernel
theorem dX9_findStake_2 : decode cX9_findStake 2 = .ok (.putfield 157, 3) := by decide +kernel
theorem dX9_findStake_5 : decode cX9_findStake 5 = .ok (.aload_n 0, 1) := by decide +kernel
theorem dX9_findStake_6 : decode cX9_findStake 6 = .ok (.iconst 1, 1) := by decide +kernel
theorem dX9_findStake_7 : decode cX9_findStake 7 = .ok (.putfield 160, 3) := by decide +kernel
theorem dX9_findStake_10 : decode cX9_findStake 10 = .ok (.iconst 1, 1) := by decide +kernel
theorem dX9_findStake_11 : decode cX9_findStake 11 = .ok (.istore_n 1, 1) := by decide +kernel
theorem dX9_findStake_12 : decode cX9_findStake 12 = .ok (.iload_n 1, 1) := by decide +kernel
theorem dX9_findStake_13 : decode cX9_findStake 13 = .ok (.iconst 1, 1) := by decide +kernel
theorem dX9_findStake_14 : decode cX9_findStake 14 = .ok (.aload_n 0, 1) := by decide +kernel
theorem dX9_findStake_15 : decode cX9_findStake 15 = .ok (.getfield 87, 3) := by decide +kernel
theorem dX9_findStake_18 : decode cX9_findStake 18 = .ok (.ishl, 1) := by decide +kernel
theorem dX9_findStake_19 : decode cX9_findStake 19 = .ok (.if_icmp .ge 93, 3) := by decide +kernel
theorem dX9_findStake_22 : decode cX9_findStake 22 = .ok (.aload_n 0, 1) := by decide +kernel
theorem dX9_findStake_23 : decode cX9_findStake 23 = .ok (.getfield 53, 3) := by decide +kernel
theorem dX9_findStake_26 : decode cX9_findStake 26 = .ok (.ineg, 1) := by decide +kernel
theorem dX9_findStake_27 : decode cX9_findStake 27 = .ok (.istore_n 2, 1) := by decide +kernel
theorem dX9_findStake_28 : decode cX9_findStake 28 = .ok (.iconst 0, 1) := by decide +kernel
theorem dX9_findStake_29 : decode cX9_findStake 29 = .ok (.istore_n 3, 1) := by decide +kernel
theorem dX9_findStake_30 : decode cX9_findStake 30 = .ok (.iconst 0, 1) := by decide +kernel
theorem dX9_findStake_31 : decode cX9_findStake 31 = .ok (.istore 4, 2) := by decide +kernel
theorem dX9_findStake_33 : decode cX9_findStake 33 = .ok (.iload 4, 2) := by decide +kernel
theorem dX9_findStake_35 : decode cX9_findStake 35 = .ok (.aload_n 0, 1) := by decide +kernel
theorem dX9_findStake_36 : decode cX9_findStake 36 = .ok (.getfield 87, 3) := by decide +kernel
theorem dX9_findStake_39 : decode cX9_findStake 39 = .ok (.if_icmp .ge 42, 3) := by decide +kernel
theorem dX9_findStake_42 : decode cX9_findStake 42 = .ok (.iload_n 2, 1) := by decide +kernel
theorem dX9_findStake_43 : decode cX9_findStake 43 = .ok (.iload_n 1, 1) := by decide +kernel
theorem dX9_findStake_44 : decode cX9_findStake 44 = .ok (.iload 4, 2) := by decide +kernel
theorem dX9_findStake_46 : decode cX9_findStake 46 = .ok (.ishr, 1) := by decide +kernel
theorem dX9_findStake_47 : decode cX9_findStake 47 = .ok (.iconst 1, 1) := by decide +kernel
theorem dX9_findStake_48 : decode cX9_findStake 48 = .ok (.iand, 1) := by decide +kernel
theorem dX9_findStake_49 : decode cX9_findStake 49 = .ok (.iconst 1, 1) := by decide +kernel
theorem dX9_findStake_50 : decode cX9_findStake 50 = .ok (.if_icmp .ne 13, 3) := by decide +kernel
theorem dX9_findStake_53 : decode cX9_findStake 53 = .ok (.aload_n 0, 1) := by decide +kernel
theorem dX9_findStake_54 : decode cX9_findStake 54 = .ok (.getfield 22, 3) := by decide +kernel
theorem dX9_findStake_57 : decode cX9_findStake 57 = .ok (.iload 4, 2) := by decide +kernel
theorem dX9_findStake_59 : decode cX9_findStake 59 = .ok (.iaload, 1) := by decide +kernel
theorem dX9_findStake_60 : decode cX9_findStake 60 = .ok (.goto 4, 3) := by decide +kernel
theorem dX9_findStake_63 : decode cX9_findStake 63 = .ok (.iconst 0, 1) := by decide +kernel
theorem dX9_findStake_64 : decode cX9_findStake 64 = .ok (.iadd, 1) := by decide +kernel
theorem dX9_findStake_65 : decode cX9_findStake 65 = .ok (.istore_n 2, 1) := by decide +kernel
theorem dX9_findStake_66 : decode cX9_findStake 66 = .ok (.iload_n 3, 1) := by decide +kernel
theorem dX9_findStake_67 : decode cX9_findStake 67 = .ok (.iload_n 1, 1) := by decide +kernel
theorem dX9_findStake_68 : decode cX9_findStake 68 = .ok (.iload 4, 2) := by decide +kernel
theorem dX9_findStake_70 : decode cX9_findStake 70 = .ok (.ishr, 1) := by decide +kernel
theorem dX9_findStake_71 : decode cX9_findStake 71 = .ok (.iconst 1, 1) := by decide +kernel
theorem dX9_findStake_72 : decode cX9_findStake 72 = .ok (.iand, 1) := by decide +kernel
theorem dX9_findStake_73 : decode cX9_findStake 73 = .ok (.iadd, 1) := by decide +kernel
theorem dX9_findStake_74 : decode cX9_findStake 74 = .ok (.istore_n 3, 1) := by decide +kernel
theorem dX9_findStake_75 : decode cX9_findStake 75 = .ok (.iinc 4 1, 3) := by decide +kernel
theorem dX9_findStake_78 : decode cX9_findStake 78 = .ok (.goto (-45), 3) := by decide +kernel
theorem dX9_findStake_81 : decode cX9_findStake 81 = .ok (.iload_n 2, 1) := by decide +kernel
theorem dX9_findStake_82 : decode cX9_findStake 82 = .ok (.aload_n 0, 1) := by decide +kernel
theorem dX9_findStake_83 : decode cX9_findStake 83 = .ok (.getfield 160, 3) := by decide +kernel
theorem dX9_findStake_86 : decode cX9_findStake 86 = .ok (.imul, 1) := by decide +kernel
theorem dX9_findStake_87 : decode cX9_findStake 87 = .ok (.aload_n 0, 1) := by decide +kernel
theorem dX9_findStake_88 : decode cX9_findStake 88 = .ok (.getfield 157, 3) := by decide +kernel
theorem dX9_findStake_91 : decode cX9_findStake 91 = .ok (.iload_n 3, 1) := by decide +kernel
theorem dX9_findStake_92 : decode cX9_findStake 92 = .ok (.imul, 1) := by decide +kernel
theorem dX9_findStake_93 : decode cX9_findStake 93 = .ok (.if_icmp .le 13, 3) := by decide +kernel
theorem dX9_findStake_96 : decode cX9_findStake 96 = .ok (.aload_n 0, 1) := by decide +kernel
theorem dX9_findStake_97 : decode cX9_findStake 97 = .ok (.iload_n 2, 1) := by decide +kernel
theorem dX9_findStake_98 : decode cX9_findStake 98 = .ok (.putfield 157, 3) := by decide +kernel
theorem dX9_findStake_101 : decode cX9_findStake 101 = .ok (.aload_n 0, 1) := by decide +kernel
theorem dX9_findStake_102 : decode cX9_findStake 102 = .ok (.iload_n 3, 1) := by decide +kernel
theorem dX9_findStake_103 : decode cX9_findStake 103 = .ok (.putfield 160, 3) := by decide +kernel
theorem dX9_findStake_106 : decode cX9_findStake 106 = .ok (.iinc 1 1, 3) := by decide +kernel
theorem dX9_findStake_109 : decode cX9_findStake 109 = .ok (.goto (-97), 3) := by decide +kernel
theorem dX9_findStake_112 : decode cX9_findStake 112 = .ok (.return_, 1) := by decide +kernel
theorem dX9_common_0 : decode cX9_common 0 = .ok (.iload_n 0, 1) := by decide +kernel
theorem dX9_common_1 : decode cX9_common 1 = .ok (.istore_n 2, 1) := by decide +kernel
theorem dX9_common_2 : decode cX9_common 2 = .ok (.iload_n 1, 1) := by decide +kernel
theorem dX9_common_3 : decode cX9_common 3 = .ok (.istore_n 3, 1) := by decide +kernel
theorem dX9_common_4 : decode cX9_common 4 = .ok (.iload_n 3, 1) := by decide +kernel
theorem dX9_common_5 : decode cX9_common 5 = .ok (.ifCond .eq 16, 3) := by decide +kernel
theorem dX9_common_8 : decode cX9_common 8 = .ok (.iload_n 2, 1) := by decide +kernel
theorem dX9_common_9 : decode cX9_common 9 = .ok (.iload_n 3, 1) := by decide +kernel
theorem dX9_common_10 : decode cX9_common 10 = .ok (.irem, 1) := by decide +kernel
theorem dX9_common_11 : decode cX9_common 11 = .ok (.istore 4, 2) := by decide +kernel
theorem dX9_common_13 : decode cX9_common 13 = .ok (.iload_n 3, 1) := by decide +kernel
theorem dX9_common_14 : decode cX9_common 14 = .ok (.istore_n 2, 1) := by decide +kernel
theorem dX9_common_15 : decode cX9_common 15 = .ok (.iload 4, 2) := by decide +kernel
theorem dX9_common_17 : decode cX9_common 17 = .ok (.istore_n 3, 1) := by decide +kernel
theorem dX9_common_18 : decode cX9_common 18 = .ok (.goto (-14), 3) := by decide +kernel
theorem dX9_common_21 : decode cX9_common 21 = .ok (.iload_n 2, 1) := by decide +kernel
theorem dX9_common_22 : decode cX9_common 22 = .ok (.ireturn, 1) := by decide +kernel
theorem dX9_part_0 : decode cX9_part 0 = .ok (.iload_n 0, 1) := by decide +kernel
theorem dX9_part_1 : decode cX9_part 1 = .ok (.ifCond .gt 5, 3) := by decide +kernel
theorem dX9_part_4 : decode cX9_part 4 = .ok (.iload_n 2, 1) := by decide +kernel
theorem dX9_part_5 : decode cX9_part 5 = .ok (.ireturn, 1) := by decide +kernel
theorem dX9_part_6 : decode cX9_part 6 = .ok (.iload_n 2, 1) := by decide +kernel
theorem dX9_part_7 : decode cX9_part 7 = .ok (.ifCond .ne 7, 3) := by decide +kernel
theorem dX9_part_10 : decode cX9_part 10 = .ok (.iload_n 0, 1) := by decide +kernel
theorem dX9_part_11 : decode cX9_part 11 = .ok (.goto 4, 3) := by decide +kernel
theorem dX9_part_14 : decode cX9_part 14 = .ok (.iload_n 1, 1) := by decide +kernel
theorem dX9_part_15 : decode cX9_part 15 = .ok (.iload_n 0, 1) := by decide +kernel
theorem dX9_part_16 : decode cX9_part 16 = .ok (.iload_n 1, 1) := by decide +kernel
theorem dX9_part_17 : decode cX9_part 17 = .ok (.invokestatic 163, 3) := by decide +kernel
theorem dX9_part_20 : decode cX9_part 20 = .ok (.idiv, 1) := by decide +kernel
theorem dX9_part_21 : decode cX9_part 21 = .ok (.ireturn, 1) := by decide +kernel
theorem dX9_turn_0 : decode cX9_turn 0 = .ok (.aload_n 0, 1) := by decide +kernel
theorem dX9_turn_1 : decode cX9_turn 1 = .ok (.iload_n 1, 1) := by decide +kernel
theorem dX9_turn_2 : decode cX9_turn 2 = .ok (.invokevirtual 101, 3) := by decide +kernel
theorem dX9_turn_5 : decode cX9_turn 5 = .ok (.ifCond .eq 12, 3) := by decide +kernel
theorem dX9_turn_8 : decode cX9_turn 8 = .ok (.iload_n 2, 1) := by decide +kernel
theorem dX9_turn_9 : decode cX9_turn 9 = .ok (.iconst 0, 1) := by decide +kernel
theorem dX9_turn_10 : decode cX9_turn 10 = .ok (.iconst 1, 1) := by decide +kernel
theorem dX9_turn_11 : decode cX9_turn 11 = .ok (.invokestatic 90, 3) := by decide +kernel
theorem dX9_turn_14 : decode cX9_turn 14 = .ok (.ifCond .ne 5, 3) := by decide +kernel
theorem dX9_turn_17 : decode cX9_turn 17 = .ok (.iconst (-1), 1) := by decide +kernel
theorem dX9_turn_18 : decode cX9_turn 18 = .ok (.ireturn, 1) := by decide +kernel
theorem dX9_turn_19 : decode cX9_turn 19 = .ok (.aload_n 0, 1) := by decide +kernel
theorem dX9_turn_20 : decode cX9_turn 20 = .ok (.invokevirtual 166, 3) := by decide +kernel
theorem dX9_turn_23 : decode cX9_turn 23 = .ok (.aload_n 0, 1) := by decide +kernel
theorem dX9_turn_24 : decode cX9_turn 24 = .ok (.getfield 22, 3) := by decide +kernel
theorem dX9_turn_27 : decode cX9_turn 27 = .ok (.iload_n 1, 1) := by decide +kernel
theorem dX9_turn_28 : decode cX9_turn 28 = .ok (.iaload, 1) := by decide +kernel
theorem dX9_turn_29 : decode cX9_turn 29 = .ok (.aload_n 0, 1) := by decide +kernel
theorem dX9_turn_30 : decode cX9_turn 30 = .ok (.getfield 160, 3) := by decide +kernel
theorem dX9_turn_33 : decode cX9_turn 33 = .ok (.imul, 1) := by decide +kernel
theorem dX9_turn_34 : decode cX9_turn 34 = .ok (.aload_n 0, 1) := by decide +kernel
theorem dX9_turn_35 : decode cX9_turn 35 = .ok (.getfield 157, 3) := by decide +kernel
theorem dX9_turn_38 : decode cX9_turn 38 = .ok (.isub, 1) := by decide +kernel
theorem dX9_turn_39 : decode cX9_turn 39 = .ok (.aload_n 0, 1) := by decide +kernel
theorem dX9_turn_40 : decode cX9_turn 40 = .ok (.getfield 160, 3) := by decide +kernel
theorem dX9_turn_43 : decode cX9_turn 43 = .ok (.aload_n 0, 1) := by decide +kernel
theorem dX9_turn_44 : decode cX9_turn 44 = .ok (.getfield 53, 3) := by decide +kernel
theorem dX9_turn_47 : decode cX9_turn 47 = .ok (.imul, 1) := by decide +kernel
theorem dX9_turn_48 : decode cX9_turn 48 = .ok (.iload_n 2, 1) := by decide +kernel
theorem dX9_turn_49 : decode cX9_turn 49 = .ok (.invokestatic 169, 3) := by decide +kernel
theorem dX9_turn_52 : decode cX9_turn 52 = .ok (.ireturn, 1) := by decide +kernel
theorem dX9_stake_0 : decode cX9_stake 0 = .ok (.iload_n 1, 1) := by decide +kernel
theorem dX9_stake_1 : decode cX9_stake 1 = .ok (.iconst 0, 1) := by decide +kernel
theorem dX9_stake_2 : decode cX9_stake 2 = .ok (.iconst 1, 1) := by decide +kernel
theorem dX9_stake_3 : decode cX9_stake 3 = .ok (.invokestatic 90, 3) := by decide +kernel
theorem dX9_stake_6 : decode cX9_stake 6 = .ok (.ifCond .ne 5, 3) := by decide +kernel
theorem dX9_stake_9 : decode cX9_stake 9 = .ok (.iconst (-1), 1) := by decide +kernel
theorem dX9_stake_10 : decode cX9_stake 10 = .ok (.ireturn, 1) := by decide +kernel
theorem dX9_stake_11 : decode cX9_stake 11 = .ok (.aload_n 0, 1) := by decide +kernel
theorem dX9_stake_12 : decode cX9_stake 12 = .ok (.invokevirtual 166, 3) := by decide +kernel
theorem dX9_stake_15 : decode cX9_stake 15 = .ok (.aload_n 0, 1) := by decide +kernel
theorem dX9_stake_16 : decode cX9_stake 16 = .ok (.getfield 157, 3) := by decide +kernel
theorem dX9_stake_19 : decode cX9_stake 19 = .ok (.aload_n 0, 1) := by decide +kernel
theorem dX9_stake_20 : decode cX9_stake 20 = .ok (.getfield 160, 3) := by decide +kernel
theorem dX9_stake_23 : decode cX9_stake 23 = .ok (.iload_n 1, 1) := by decide +kernel
theorem dX9_stake_24 : decode cX9_stake 24 = .ok (.invokestatic 169, 3) := by decide +kernel
theorem dX9_stake_27 : decode cX9_stake 27 = .ok (.ireturn, 1) := by decide +kernel
theorem dX9_ticket_0 : decode cX9_ticket 0 = .ok (.aload_n 0, 1) := by decide +kernel
theorem dX9_ticket_1 : decode cX9_ticket 1 = .ok (.iload_n 1, 1) := by decide +kernel
theorem dX9_ticket_2 : decode cX9_ticket 2 = .ok (.invokevirtual 117, 3) := by decide +kernel
theorem dX9_ticket_5 : decode cX9_ticket 5 = .ok (.ifCond .eq 28, 3) := by decide +kernel
theorem dX9_ticket_8 : decode cX9_ticket 8 = .ok (.aload_n 0, 1) := by decide +kernel
theorem dX9_ticket_9 : decode cX9_ticket 9 = .ok (.iload_n 2, 1) := by decide +kernel
theorem dX9_ticket_10 : decode cX9_ticket 10 = .ok (.invokevirtual 101, 3) := by decide +kernel
theorem dX9_ticket_13 : decode cX9_ticket 13 = .ok (.ifCond .eq 20, 3) := by decide +kernel
theorem dX9_ticket_16 : decode cX9_ticket 16 = .ok (.iload_n 3, 1) := by decide +kernel
theorem dX9_ticket_17 : decode cX9_ticket 17 = .ok (.invokestatic 107, 3) := by decide +kernel
theorem dX9_ticket_20 : decode cX9_ticket 20 = .ok (.ifCond .eq 13, 3) := by decide +kernel
theorem dX9_ticket_23 : decode cX9_ticket 23 = .ok (.iload 4, 2) := by decide +kernel
theorem dX9_ticket_25 : decode cX9_ticket 25 = .ok (.iconst 0, 1) := by decide +kernel
theorem dX9_ticket_26 : decode cX9_ticket 26 = .ok (.iconst 2, 1) := by decide +kernel
theorem dX9_ticket_27 : decode cX9_ticket 27 = .ok (.invokestatic 90, 3) := by decide +kernel
theorem dX9_ticket_30 : decode cX9_ticket 30 = .ok (.ifCond .ne 5, 3) := by decide +kernel
theorem dX9_ticket_33 : decode cX9_ticket 33 = .ok (.iconst (-1), 1) := by decide +kernel
theorem dX9_ticket_34 : decode cX9_ticket 34 = .ok (.ireturn, 1) := by decide +kernel
theorem dX9_ticket_35 : decode cX9_ticket 35 = .ok (.aload_n 0, 1) := by decide +kernel
theorem dX9_ticket_36 : decode cX9_ticket 36 = .ok (.getfield 172, 3) := by decide +kernel
theorem dX9_ticket_39 : decode cX9_ticket 39 = .ok (.bipush 20, 2) := by decide +kernel
theorem dX9_ticket_41 : decode cX9_ticket 41 = .ok (.if_icmp .ne 6, 3) := by decide +kernel
theorem dX9_ticket_44 : decode cX9_ticket 44 = .ok (.bipush (-2), 2) := by decide +kernel
theorem dX9_ticket_46 : decode cX9_ticket 46 = .ok (.ireturn, 1) := by decide +kernel
theorem dX9_ticket_47 : decode cX9_ticket 47 = .ok (.aload_n 0, 1) := by decide +kernel
theorem dX9_ticket_48 : decode cX9_ticket 48 = .ok (.getfield 57, 3) := by decide +kernel
theorem dX9_ticket_51 : decode cX9_ticket 51 = .ok (.aload_n 0, 1) := by decide +kernel
theorem dX9_ticket_52 : decode cX9_ticket 52 = .ok (.getfield 172, 3) := by decide +kernel
theorem dX9_ticket_55 : decode cX9_ticket 55 = .ok (.iload_n 1, 1) := by decide +kernel
theorem dX9_ticket_56 : decode cX9_ticket 56 = .ok (.iastore, 1) := by decide +kernel
theorem dX9_ticket_57 : decode cX9_ticket 57 = .ok (.aload_n 0, 1) := by decide +kernel
theorem dX9_ticket_58 : decode cX9_ticket 58 = .ok (.getfield 60, 3) := by decide +kernel
theorem dX9_ticket_61 : decode cX9_ticket 61 = .ok (.aload_n 0, 1) := by decide +kernel
theorem dX9_ticket_62 : decode cX9_ticket 62 = .ok (.getfield 172, 3) := by decide +kernel
theorem dX9_ticket_65 : decode cX9_ticket 65 = .ok (.iload_n 2, 1) := by decide +kernel
theorem dX9_ticket_66 : decode cX9_ticket 66 = .ok (.iastore, 1) := by decide +kernel
theorem dX9_ticket_67 : decode cX9_ticket 67 = .ok (.aload_n 0, 1) := by decide +kernel
theorem dX9_ticket_68 : decode cX9_ticket 68 = .ok (.getfield 63, 3) := by decide +kernel
theorem dX9_ticket_71 : decode cX9_ticket 71 = .ok (.aload_n 0, 1) := by decide +kernel
theorem dX9_ticket_72 : decode cX9_ticket 72 = .ok (.getfield 172, 3) := by decide +kernel
theorem dX9_ticket_75 : decode cX9_ticket 75 = .ok (.iload_n 3, 1) := by decide +kernel
theorem dX9_ticket_76 : decode cX9_ticket 76 = .ok (.iastore, 1) := by decide +kernel
theorem dX9_ticket_77 : decode cX9_ticket 77 = .ok (.aload_n 0, 1) := by decide +kernel
theorem dX9_ticket_78 : decode cX9_ticket 78 = .ok (.getfield 66, 3) := by decide +kernel
theorem dX9_ticket_81 : decode cX9_ticket 81 = .ok (.aload_n 0, 1) := by decide +kernel
theorem dX9_ticket_82 : decode cX9_ticket 82 = .ok (.getfield 172, 3) := by decide +kernel
theorem dX9_ticket_85 : decode cX9_ticket 85 = .ok (.iload 4, 2) := by decide +kernel
theorem dX9_ticket_87 : decode cX9_ticket 87 = .ok (.iastore, 1) := by decide +kernel
theorem dX9_ticket_88 : decode cX9_ticket 88 = .ok (.aload_n 0, 1) := by decide +kernel
theorem dX9_ticket_89 : decode cX9_ticket 89 = .ok (.getfield 69, 3) := by decide +kernel
theorem dX9_ticket_92 : decode cX9_ticket 92 = .ok (.aload_n 0, 1) := by decide +kernel
theorem dX9_ticket_93 : decode cX9_ticket 93 = .ok (.getfield 172, 3) := by decide +kernel
theorem dX9_ticket_96 : decode cX9_ticket 96 = .ok (.aload_n 0, 1) := by decide +kernel
theorem dX9_ticket_97 : decode cX9_ticket 97 = .ok (.getfield 7, 3) := by decide +kernel
theorem dX9_ticket_100 : decode cX9_ticket 100 = .ok (.iload_n 2, 1) := by decide +kernel
theorem dX9_ticket_101 : decode cX9_ticket 101 = .ok (.iaload, 1) := by decide +kernel
theorem dX9_ticket_102 : decode cX9_ticket 102 = .ok (.iastore, 1) := by decide +kernel
theorem dX9_ticket_103 : decode cX9_ticket 103 = .ok (.aload_n 0, 1) := by decide +kernel
theorem dX9_ticket_104 : decode cX9_ticket 104 = .ok (.getfield 72, 3) := by decide +kernel
theorem dX9_ticket_107 : decode cX9_ticket 107 = .ok (.aload_n 0, 1) := by decide +kernel
theorem dX9_ticket_108 : decode cX9_ticket 108 = .ok (.getfield 172, 3) := by decide +kernel
theorem dX9_ticket_111 : decode cX9_ticket 111 = .ok (.aload_n 0, 1) := by decide +kernel
theorem dX9_ticket_112 : decode cX9_ticket 112 = .ok (.iload_n 1, 1) := by decide +kernel
theorem dX9_ticket_113 : decode cX9_ticket 113 = .ok (.aload_n 0, 1) := by decide +kernel
theorem dX9_ticket_114 : decode cX9_ticket 114 = .ok (.getfield 7, 3) := by decide +kernel
theorem dX9_ticket_117 : decode cX9_ticket 117 = .ok (.iload_n 2, 1) := by decide +kernel
theorem dX9_ticket_118 : decode cX9_ticket 118 = .ok (.iaload, 1) := by decide +kernel
theorem dX9_ticket_119 : decode cX9_ticket 119 = .ok (.iload_n 3, 1) := by decide +kernel
theorem dX9_ticket_120 : decode cX9_ticket 120 = .ok (.invokevirtual 123, 3) := by decide +kernel
theorem dX9_ticket_123 : decode cX9_ticket 123 = .ok (.iastore, 1) := by decide +kernel
theorem dX9_ticket_124 : decode cX9_ticket 124 = .ok (.aload_n 0, 1) := by decide +kernel
theorem dX9_ticket_125 : decode cX9_ticket 125 = .ok (.dup, 1) := by decide +kernel
theorem dX9_ticket_126 : decode cX9_ticket 126 = .ok (.getfield 172, 3) := by decide +kernel
theorem dX9_ticket_129 : decode cX9_ticket 129 = .ok (.iconst 1, 1) := by decide +kernel
theorem dX9_ticket_130 : decode cX9_ticket 130 = .ok (.iadd, 1) := by decide +kernel
theorem dX9_ticket_131 : decode cX9_ticket 131 = .ok (.putfield 172, 3) := by decide +kernel
theorem dX9_ticket_134 : decode cX9_ticket 134 = .ok (.aload_n 0, 1) := by decide +kernel
theorem dX9_ticket_135 : decode cX9_ticket 135 = .ok (.getfield 172, 3) := by decide +kernel
theorem dX9_ticket_138 : decode cX9_ticket 138 = .ok (.iconst 1, 1) := by decide +kernel
theorem dX9_ticket_139 : decode cX9_ticket 139 = .ok (.isub, 1) := by decide +kernel
theorem dX9_ticket_140 : decode cX9_ticket 140 = .ok (.ireturn, 1) := by decide +kernel
theorem dX9_judged_0 : decode cX9_judged 0 = .ok (.aload_n 0, 1) := by decide +kernel
theorem dX9_judged_1 : decode cX9_judged 1 = .ok (.getfield 72, 3) := by decide +kernel
theorem dX9_judged_4 : decode cX9_judged 4 = .ok (.iload_n 1, 1) := by decide +kernel
theorem dX9_judged_5 : decode cX9_judged 5 = .ok (.iaload, 1) := by decide +kernel
theorem dX9_judged_6 : decode cX9_judged 6 = .ok (.ifCond .gt 12, 3) := by decide +kernel
theorem dX9_judged_9 : decode cX9_judged 9 = .ok (.aload_n 0, 1) := by decide +kernel
theorem dX9_judged_10 : decode cX9_judged 10 = .ok (.getfield 66, 3) := by decide +kernel
theorem dX9_judged_13 : decode cX9_judged 13 = .ok (.iload_n 1, 1) := by decide +kernel
theorem dX9_judged_14 : decode cX9_judged 14 = .ok (.iaload, 1) := by decide +kernel
theorem dX9_judged_15 : decode cX9_judged 15 = .ok (.ifCond .ne 7, 3) := by decide +kernel
theorem dX9_judged_18 : decode cX9_judged 18 = .ok (.iconst 0, 1) := by decide +kernel
theorem dX9_judged_19 : decode cX9_judged 19 = .ok (.goto 18, 3) := by decide +kernel
theorem dX9_judged_22 : decode cX9_judged 22 = .ok (.aload_n 0, 1) := by decide +kernel
theorem dX9_judged_23 : decode cX9_judged 23 = .ok (.getfield 66, 3) := by decide +kernel
theorem dX9_judged_26 : decode cX9_judged 26 = .ok (.iload_n 1, 1) := by decide +kernel
theorem dX9_judged_27 : decode cX9_judged 27 = .ok (.iaload, 1) := by decide +kernel
theorem dX9_judged_28 : decode cX9_judged 28 = .ok (.iconst 1, 1) := by decide +kernel
theorem dX9_judged_29 : decode cX9_judged 29 = .ok (.if_icmp .ne 7, 3) := by decide +kernel
theorem dX9_judged_32 : decode cX9_judged 32 = .ok (.iconst 1, 1) := by decide +kernel
theorem dX9_judged_33 : decode cX9_judged 33 = .ok (.goto 4, 3) := by decide +kernel
theorem dX9_judged_36 : decode cX9_judged 36 = .ok (.iconst 2, 1) := by decide +kernel
theorem dX9_judged_37 : decode cX9_judged 37 = .ok (.ireturn, 1) := by decide +kernel
theorem dX9_likes_0 : decode cX9_likes 0 = .ok (.iconst 0, 1) := by decide +kernel
theorem dX9_likes_1 : decode cX9_likes 1 = .ok (.istore_n 3, 1) := by decide +kernel
theorem dX9_likes_2 : decode cX9_likes 2 = .ok (.iconst 0, 1) := by decide +kernel
theorem dX9_likes_3 : decode cX9_likes 3 = .ok (.istore 4, 2) := by decide +kernel
theorem dX9_likes_5 : decode cX9_likes 5 = .ok (.iload 4, 2) := by decide +kernel
theorem dX9_likes_7 : decode cX9_likes 7 = .ok (.aload_n 0, 1) := by decide +kernel
theorem dX9_likes_8 : decode cX9_likes 8 = .ok (.getfield 172, 3) := by decide +kernel
theorem dX9_likes_11 : decode cX9_likes 11 = .ok (.if_icmp .ge 66, 3) := by decide +kernel
theorem dX9_likes_14 : decode cX9_likes 14 = .ok (.iload_n 3, 1) := by decide +kernel
theorem dX9_likes_15 : decode cX9_likes 15 = .ok (.iload 4, 2) := by decide +kernel
theorem dX9_likes_17 : decode cX9_likes 17 = .ok (.iload_n 1, 1) := by decide +kernel
theorem dX9_likes_18 : decode cX9_likes 18 = .ok (.if_icmp .eq 50, 3) := by decide +kernel
theorem dX9_likes_21 : decode cX9_likes 21 = .ok (.aload_n 0, 1) := by decide +kernel
theorem dX9_likes_22 : decode cX9_likes 22 = .ok (.getfield 69, 3) := by decide +kernel
theorem dX9_likes_25 : decode cX9_likes 25 = .ok (.iload 4, 2) := by decide +kernel
theorem dX9_likes_27 : decode cX9_likes 27 = .ok (.iaload, 1) := by decide +kernel
theorem dX9_likes_28 : decode cX9_likes 28 = .ok (.aload_n 0, 1) := by decide +kernel
theorem dX9_likes_29 : decode cX9_likes 29 = .ok (.getfield 69, 3) := by decide +kernel
theorem dX9_likes_32 : decode cX9_likes 32 = .ok (.iload_n 1, 1) := by decide +kernel
theorem dX9_likes_33 : decode cX9_likes 33 = .ok (.iaload, 1) := by decide +kernel
theorem dX9_likes_34 : decode cX9_likes 34 = .ok (.if_icmp .ne 34, 3) := by decide +kernel
theorem dX9_likes_37 : decode cX9_likes 37 = .ok (.aload_n 0, 1) := by decide +kernel
theorem dX9_likes_38 : decode cX9_likes 38 = .ok (.getfield 63, 3) := by decide +kernel
theorem dX9_likes_41 : decode cX9_likes 41 = .ok (.iload 4, 2) := by decide +kernel
theorem dX9_likes_43 : decode cX9_likes 43 = .ok (.iaload, 1) := by decide +kernel
theorem dX9_likes_44 : decode cX9_likes 44 = .ok (.aload_n 0, 1) := by decide +kernel
theorem dX9_likes_45 : decode cX9_likes 45 = .ok (.getfield 63, 3) := by decide +kernel
theorem dX9_likes_48 : decode cX9_likes 48 = .ok (.iload_n 1, 1) := by decide +kernel
theorem dX9_likes_49 : decode cX9_likes 49 = .ok (.iaload, 1) := by decide +kernel
theorem dX9_likes_50 : decode cX9_likes 50 = .ok (.if_icmp .ne 18, 3) := by decide +kernel
theorem dX9_likes_53 : decode cX9_likes 53 = .ok (.aload_n 0, 1) := by decide +kernel
theorem dX9_likes_54 : decode cX9_likes 54 = .ok (.getfield 66, 3) := by decide +kernel
theorem dX9_likes_57 : decode cX9_likes 57 = .ok (.iload 4, 2) := by decide +kernel
theorem dX9_likes_59 : decode cX9_likes 59 = .ok (.iaload, 1) := by decide +kernel
theorem dX9_likes_60 : decode cX9_likes 60 = .ok (.iload_n 2, 1) := by decide +kernel
theorem dX9_likes_61 : decode cX9_likes 61 = .ok (.if_icmp .ne 7, 3) := by decide +kernel
theorem dX9_likes_64 : decode cX9_likes 64 = .ok (.iconst 1, 1) := by decide +kernel
theorem dX9_likes_65 : decode cX9_likes 65 = .ok (.goto 4, 3) := by decide +kernel
theorem dX9_likes_68 : decode cX9_likes 68 = .ok (.iconst 0, 1) := by decide +kernel
theorem dX9_likes_69 : decode cX9_likes 69 = .ok (.iadd, 1) := by decide +kernel
theorem dX9_likes_70 : decode cX9_likes 70 = .ok (.istore_n 3, 1) := by decide +kernel
theorem dX9_likes_71 : decode cX9_likes 71 = .ok (.iinc 4 1, 3) := by decide +kernel
theorem dX9_likes_74 : decode cX9_likes 74 = .ok (.goto (-69), 3) := by decide +kernel
theorem dX9_likes_77 : decode cX9_likes 77 = .ok (.iload_n 3, 1) := by decide +kernel
theorem dX9_likes_78 : decode cX9_likes 78 = .ok (.ireturn, 1) := by decide +kernel
theorem dX9_byLikes_0 : decode cX9_byLikes 0 = .ok (.aload_n 0, 1) := by decide +kernel
theorem dX9_byLikes_1 : decode cX9_byLikes 1 = .ok (.iload_n 1, 1) := by decide +kernel
theorem dX9_byLikes_2 : decode cX9_byLikes 2 = .ok (.invokevirtual 175, 3) := by decide +kernel
theorem dX9_byLikes_5 : decode cX9_byLikes 5 = .ok (.iconst 2, 1) := by decide +kernel
theorem dX9_byLikes_6 : decode cX9_byLikes 6 = .ok (.if_icmp .eq 9, 3) := by decide +kernel
theorem dX9_byLikes_9 : decode cX9_byLikes 9 = .ok (.aload_n 0, 1) := by decide +kernel
theorem dX9_byLikes_10 : decode cX9_byLikes 10 = .ok (.iload_n 1, 1) := by decide +kernel
theorem dX9_byLikes_11 : decode cX9_byLikes 11 = .ok (.invokevirtual 175, 3) := by decide +kernel
theorem dX9_byLikes_14 : decode cX9_byLikes 14 = .ok (.ireturn, 1) := by decide +kernel
theorem dX9_byLikes_15 : decode cX9_byLikes 15 = .ok (.aload_n 0, 1) := by decide +kernel
theorem dX9_byLikes_16 : decode cX9_byLikes 16 = .ok (.iload_n 1, 1) := by decide +kernel
theorem dX9_byLikes_17 : decode cX9_byLikes 17 = .ok (.iconst 1, 1) := by decide +kernel
theorem dX9_byLikes_18 : decode cX9_byLikes 18 = .ok (.invokevirtual 178, 3) := by decide +kernel
theorem dX9_byLikes_21 : decode cX9_byLikes 21 = .ok (.istore_n 2, 1) := by decide +kernel
theorem dX9_byLikes_22 : decode cX9_byLikes 22 = .ok (.aload_n 0, 1) := by decide +kernel
theorem dX9_byLikes_23 : decode cX9_byLikes 23 = .ok (.iload_n 1, 1) := by decide +kernel
theorem dX9_byLikes_24 : decode cX9_byLikes 24 = .ok (.iconst 0, 1) := by decide +kernel
theorem dX9_byLikes_25 : decode cX9_byLikes 25 = .ok (.invokevirtual 178, 3) := by decide +kernel
theorem dX9_byLikes_28 : decode cX9_byLikes 28 = .ok (.istore_n 3, 1) := by decide +kernel
theorem dX9_byLikes_29 : decode cX9_byLikes 29 = .ok (.iload_n 2, 1) := by decide +kernel
theorem dX9_byLikes_30 : decode cX9_byLikes 30 = .ok (.iload_n 3, 1) := by decide +kernel
theorem dX9_byLikes_31 : decode cX9_byLikes 31 = .ok (.if_icmp .le 7, 3) := by decide +kernel
theorem dX9_byLikes_34 : decode cX9_byLikes 34 = .ok (.iconst 1, 1) := by decide +kernel
theorem dX9_byLikes_35 : decode cX9_byLikes 35 = .ok (.goto 13, 3) := by decide +kernel
theorem dX9_byLikes_38 : decode cX9_byLikes 38 = .ok (.iload_n 2, 1) := by decide +kernel
theorem dX9_byLikes_39 : decode cX9_byLikes 39 = .ok (.iload_n 3, 1) := by decide +kernel
theorem dX9_byLikes_40 : decode cX9_byLikes 40 = .ok (.if_icmp .ge 7, 3) := by decide +kernel
theorem dX9_byLikes_43 : decode cX9_byLikes 43 = .ok (.iconst 0, 1) := by decide +kernel
theorem dX9_byLikes_44 : decode cX9_byLikes 44 = .ok (.goto 4, 3) := by decide +kernel
theorem dX9_byLikes_47 : decode cX9_byLikes 47 = .ok (.iconst 2, 1) := by decide +kernel
theorem dX9_byLikes_48 : decode cX9_byLikes 48 = .ok (.ireturn, 1) := by decide +kernel
theorem dX9_of_0 : decode cX9_of 0 = .ok (.iload_n 1, 1) := by decide +kernel
theorem dX9_of_1 : decode cX9_of 1 = .ok (.iconst 0, 1) := by decide +kernel
theorem dX9_of_2 : decode cX9_of 2 = .ok (.aload_n 0, 1) := by decide +kernel
theorem dX9_of_3 : decode cX9_of 3 = .ok (.getfield 172, 3) := by decide +kernel
theorem dX9_of_6 : decode cX9_of 6 = .ok (.iconst 1, 1) := by decide +kernel
theorem dX9_of_7 : decode cX9_of 7 = .ok (.isub, 1) := by decide +kernel
theorem dX9_of_8 : decode cX9_of 8 = .ok (.invokestatic 90, 3) := by decide +kernel
theorem dX9_of_11 : decode cX9_of 11 = .ok (.ifCond .ne 5, 3) := by decide +kernel
theorem dX9_of_14 : decode cX9_of 14 = .ok (.iconst (-1), 1) := by decide +kernel
theorem dX9_of_15 : decode cX9_of 15 = .ok (.ireturn, 1) := by decide +kernel
theorem dX9_of_16 : decode cX9_of 16 = .ok (.iload_n 2, 1) := by decide +kernel
theorem dX9_of_17 : decode cX9_of 17 = .ok (.tableswitch 108 0 7 #[47, 54, 61, 68, 75, 82, 88, 94], 47) := by decide +kernel
theorem dX9_of_64 : decode cX9_of 64 = .ok (.aload_n 0, 1) := by decide +kernel
theorem dX9_of_65 : decode cX9_of 65 = .ok (.getfield 57, 3) := by decide +kernel
theorem dX9_of_68 : decode cX9_of 68 = .ok (.iload_n 1, 1) := by decide +kernel
theorem dX9_of_69 : decode cX9_of 69 = .ok (.iaload, 1) := by decide +kernel
theorem dX9_of_70 : decode cX9_of 70 = .ok (.ireturn, 1) := by decide +kernel
theorem dX9_of_71 : decode cX9_of 71 = .ok (.aload_n 0, 1) := by decide +kernel
theorem dX9_of_72 : decode cX9_of 72 = .ok (.getfield 60, 3) := by decide +kernel
theorem dX9_of_75 : decode cX9_of 75 = .ok (.iload_n 1, 1) := by decide +kernel
theorem dX9_of_76 : decode cX9_of 76 = .ok (.iaload, 1) := by decide +kernel
theorem dX9_of_77 : decode cX9_of 77 = .ok (.ireturn, 1) := by decide +kernel
theorem dX9_of_78 : decode cX9_of 78 = .ok (.aload_n 0, 1) := by decide +kernel
theorem dX9_of_79 : decode cX9_of 79 = .ok (.getfield 63, 3) := by decide +kernel
theorem dX9_of_82 : decode cX9_of 82 = .ok (.iload_n 1, 1) := by decide +kernel
theorem dX9_of_83 : decode cX9_of 83 = .ok (.iaload, 1) := by decide +kernel
theorem dX9_of_84 : decode cX9_of 84 = .ok (.ireturn, 1) := by decide +kernel
theorem dX9_of_85 : decode cX9_of 85 = .ok (.aload_n 0, 1) := by decide +kernel
theorem dX9_of_86 : decode cX9_of 86 = .ok (.getfield 66, 3) := by decide +kernel
theorem dX9_of_89 : decode cX9_of 89 = .ok (.iload_n 1, 1) := by decide +kernel
theorem dX9_of_90 : decode cX9_of 90 = .ok (.iaload, 1) := by decide +kernel
theorem dX9_of_91 : decode cX9_of 91 = .ok (.ireturn, 1) := by decide +kernel
theorem dX9_of_92 : decode cX9_of 92 = .ok (.aload_n 0, 1) := by decide +kernel
theorem dX9_of_93 : decode cX9_of 93 = .ok (.getfield 69, 3) := by decide +kernel
theorem dX9_of_96 : decode cX9_of 96 = .ok (.iload_n 1, 1) := by decide +kernel
theorem dX9_of_97 : decode cX9_of 97 = .ok (.iaload, 1) := by decide +kernel
theorem dX9_of_98 : decode cX9_of 98 = .ok (.ireturn, 1) := by decide +kernel
theorem dX9_of_99 : decode cX9_of 99 = .ok (.aload_n 0, 1) := by decide +kernel
theorem dX9_of_100 : decode cX9_of 100 = .ok (.iload_n 1, 1) := by decide +kernel
theorem dX9_of_101 : decode cX9_of 101 = .ok (.invokevirtual 175, 3) := by decide +kernel
theorem dX9_of_104 : decode cX9_of 104 = .ok (.ireturn, 1) := by decide +kernel
theorem dX9_of_105 : decode cX9_of 105 = .ok (.aload_n 0, 1) := by decide +kernel
theorem dX9_of_106 : decode cX9_of 106 = .ok (.iload_n 1, 1) := by decide +kernel
theorem dX9_of_107 : decode cX9_of 107 = .ok (.invokevirtual 181, 3) := by decide +kernel
theorem dX9_of_110 : decode cX9_of 110 = .ok (.ireturn, 1) := by decide +kernel
theorem dX9_of_111 : decode cX9_of 111 = .ok (.aload_n 0, 1) := by decide +kernel
theorem dX9_of_112 : decode cX9_of 112 = .ok (.iload_n 1, 1) := by decide +kernel
theorem dX9_of_113 : decode cX9_of 113 = .ok (.iconst 0, 1) := by decide +kernel
theorem dX9_of_114 : decode cX9_of 114 = .ok (.invokevirtual 178, 3) := by decide +kernel
theorem dX9_of_117 : decode cX9_of 117 = .ok (.aload_n 0, 1) := by decide +kernel
theorem dX9_of_118 : decode cX9_of 118 = .ok (.iload_n 1, 1) := by decide +kernel
theorem dX9_of_119 : decode cX9_of 119 = .ok (.iconst 1, 1) := by decide +kernel
theorem dX9_of_120 : decode cX9_of 120 = .ok (.invokevirtual 178, 3) := by decide +kernel
theorem dX9_of_123 : decode cX9_of 123 = .ok (.iadd, 1) := by decide +kernel
theorem dX9_of_124 : decode cX9_of 124 = .ok (.ireturn, 1) := by decide +kernel
theorem dX9_of_125 : decode cX9_of 125 = .ok (.iconst (-1), 1) := by decide +kernel
theorem dX9_of_126 : decode cX9_of 126 = .ok (.ireturn, 1) := by decide +kernel
theorem dX9_ticketsThat_0 : decode cX9_ticketsThat 0 = .ok (.iconst 0, 1) := by decide +kernel
theorem dX9_ticketsThat_1 : decode cX9_ticketsThat 1 = .ok (.istore_n 2, 1) := by decide +kernel
theorem dX9_ticketsThat_2 : decode cX9_ticketsThat 2 = .ok (.iconst 0, 1) := by decide +kernel
theorem dX9_ticketsThat_3 : decode cX9_ticketsThat 3 = .ok (.istore_n 3, 1) := by decide +kernel
theorem dX9_ticketsThat_4 : decode cX9_ticketsThat 4 = .ok (.iload_n 3, 1) := by decide +kernel
theorem dX9_ticketsThat_5 : decode cX9_ticketsThat 5 = .ok (.aload_n 0, 1) := by decide +kernel
theorem dX9_ticketsThat_6 : decode cX9_ticketsThat 6 = .ok (.getfield 172, 3) := by decide +kernel
theorem dX9_ticketsThat_9 : decode cX9_ticketsThat 9 = .ok (.if_icmp .ge 26, 3) := by decide +kernel
theorem dX9_ticketsThat_12 : decode cX9_ticketsThat 12 = .ok (.iload_n 2, 1) := by decide +kernel
theorem dX9_ticketsThat_13 : decode cX9_ticketsThat 13 = .ok (.aload_n 0, 1) := by decide +kernel
theorem dX9_ticketsThat_14 : decode cX9_ticketsThat 14 = .ok (.iload_n 3, 1) := by decide +kernel
theorem dX9_ticketsThat_15 : decode cX9_ticketsThat 15 = .ok (.invokevirtual 175, 3) := by decide +kernel
theorem dX9_ticketsThat_18 : decode cX9_ticketsThat 18 = .ok (.iload_n 1, 1) := by decide +kernel
theorem dX9_ticketsThat_19 : decode cX9_ticketsThat 19 = .ok (.if_icmp .ne 7, 3) := by decide +kernel
theorem dX9_ticketsThat_22 : decode cX9_ticketsThat 22 = .ok (.iconst 1, 1) := by decide +kernel
theorem dX9_ticketsThat_23 : decode cX9_ticketsThat 23 = .ok (.goto 4, 3) := by decide +kernel
theorem dX9_ticketsThat_26 : decode cX9_ticketsThat 26 = .ok (.iconst 0, 1) := by decide +kernel
theorem dX9_ticketsThat_27 : decode cX9_ticketsThat 27 = .ok (.iadd, 1) := by decide +kernel
theorem dX9_ticketsThat_28 : decode cX9_ticketsThat 28 = .ok (.istore_n 2, 1) := by decide +kernel
theorem dX9_ticketsThat_29 : decode cX9_ticketsThat 29 = .ok (.iinc 3 1, 3) := by decide +kernel
theorem dX9_ticketsThat_32 : decode cX9_ticketsThat 32 = .ok (.goto (-28), 3) := by decide +kernel
theorem dX9_ticketsThat_35 : decode cX9_ticketsThat 35 = .ok (.iload_n 2, 1) := by decide +kernel
theorem dX9_ticketsThat_36 : decode cX9_ticketsThat 36 = .ok (.ireturn, 1) := by decide +kernel
theorem dX9_allBays_0 : decode cX9_allBays 0 = .ok (.iconst 0, 1) := by decide +kernel
theorem dX9_allBays_1 : decode cX9_allBays 1 = .ok (.istore_n 1, 1) := by decide +kernel
theorem dX9_allBays_2 : decode cX9_allBays 2 = .ok (.iconst 0, 1) := by decide +kernel
theorem dX9_allBays_3 : decode cX9_allBays 3 = .ok (.istore_n 2, 1) := by decide +kernel
theorem dX9_allBays_4 : decode cX9_allBays 4 = .ok (.iload_n 2, 1) := by decide +kernel
theorem dX9_allBays_5 : decode cX9_allBays 5 = .ok (.aload_n 0, 1) := by decide +kernel
theorem dX9_allBays_6 : decode cX9_allBays 6 = .ok (.getfield 87, 3) := by decide +kernel
theorem dX9_allBays_9 : decode cX9_allBays 9 = .ok (.if_icmp .ge 18, 3) := by decide +kernel
theorem dX9_allBays_12 : decode cX9_allBays 12 = .ok (.iload_n 1, 1) := by decide +kernel
theorem dX9_allBays_13 : decode cX9_allBays 13 = .ok (.aload_n 0, 1) := by decide +kernel
theorem dX9_allBays_14 : decode cX9_allBays 14 = .ok (.getfield 13, 3) := by decide +kernel
theorem dX9_allBays_17 : decode cX9_allBays 17 = .ok (.iload_n 2, 1) := by decide +kernel
theorem dX9_allBays_18 : decode cX9_allBays 18 = .ok (.iaload, 1) := by decide +kernel
theorem dX9_allBays_19 : decode cX9_allBays 19 = .ok (.iadd, 1) := by decide +kernel
theorem dX9_allBays_20 : decode cX9_allBays 20 = .ok (.istore_n 1, 1) := by decide +kernel
theorem dX9_allBays_21 : decode cX9_allBays 21 = .ok (.iinc 2 1, 3) := by decide +kernel
theorem dX9_allBays_24 : decode cX9_allBays 24 = .ok (.goto (-20), 3) := by decide +kernel
theorem dX9_allBays_27 : decode cX9_allBays 27 = .ok (.iload_n 1, 1) := by decide +kernel
theorem dX9_allBays_28 : decode cX9_allBays 28 = .ok (.ireturn, 1) := by decide +kernel
theorem dX9_allCards_0 : decode cX9_allCards 0 = .ok (.iconst 0, 1) := by decide +kernel
theorem dX9_allCards_1 : decode cX9_allCards 1 = .ok (.istore_n 1, 1) := by decide +kernel
theorem dX9_allCards_2 : decode cX9_allCards 2 = .ok (.iconst 0, 1) := by decide +kernel
theorem dX9_allCards_3 : decode cX9_allCards 3 = .ok (.istore_n 2, 1) := by decide +kernel
theorem dX9_allCards_4 : decode cX9_allCards 4 = .ok (.iload_n 2, 1) := by decide +kernel
theorem dX9_allCards_5 : decode cX9_allCards 5 = .ok (.iconst 4, 1) := by decide +kernel
theorem dX9_allCards_6 : decode cX9_allCards 6 = .ok (.aload_n 0, 1) := by decide +kernel
theorem dX9_allCards_7 : decode cX9_allCards 7 = .ok (.getfield 94, 3) := by decide +kernel
theorem dX9_allCards_10 : decode cX9_allCards 10 = .ok (.imul, 1) := by decide +kernel
theorem dX9_allCards_11 : decode cX9_allCards 11 = .ok (.if_icmp .ge 18, 3) := by decide +kernel
theorem dX9_allCards_14 : decode cX9_allCards 14 = .ok (.iload_n 1, 1) := by decide +kernel
theorem dX9_allCards_15 : decode cX9_allCards 15 = .ok (.aload_n 0, 1) := by decide +kernel
theorem dX9_allCards_16 : decode cX9_allCards 16 = .ok (.getfield 32, 3) := by decide +kernel
theorem dX9_allCards_19 : decode cX9_allCards 19 = .ok (.iload_n 2, 1) := by decide +kernel
theorem dX9_allCards_20 : decode cX9_allCards 20 = .ok (.iaload, 1) := by decide +kernel
theorem dX9_allCards_21 : decode cX9_allCards 21 = .ok (.iadd, 1) := by decide +kernel
theorem dX9_allCards_22 : decode cX9_allCards 22 = .ok (.istore_n 1, 1) := by decide +kernel
theorem dX9_allCards_23 : decode cX9_allCards 23 = .ok (.iinc 2 1, 3) := by decide +kernel
theorem dX9_allCards_26 : decode cX9_allCards 26 = .ok (.goto (-22), 3) := by decide +kernel
theorem dX9_allCards_29 : decode cX9_allCards 29 = .ok (.iload_n 1, 1) := by decide +kernel
theorem dX9_allCards_30 : decode cX9_allCards 30 = .ok (.ireturn, 1) := by decide +kernel
theorem dX9_many_0 : decode cX9_many 0 = .ok (.iload_n 1, 1) := by decide +kernel
theorem dX9_many_1 : decode cX9_many 1 = .ok (.tableswitch 90 0 7 #[47, 52, 57, 62, 68, 74, 80, 85], 47) := by decide +kernel
theorem dX9_many_48 : decode cX9_many 48 = .ok (.aload_n 0, 1) := by decide +kernel
theorem dX9_many_49 : decode cX9_many 49 = .ok (.getfield 87, 3) := by decide +kernel
theorem dX9_many_52 : decode cX9_many 52 = .ok (.ireturn, 1) := by decide +kernel
theorem dX9_many_53 : decode cX9_many 53 = .ok (.aload_n 0, 1) := by decide +kernel
theorem dX9_many_54 : decode cX9_many 54 = .ok (.getfield 94, 3) := by decide +kernel
theorem dX9_many_57 : decode cX9_many 57 = .ok (.ireturn, 1) := by decide +kernel
theorem dX9_many_58 : decode cX9_many 58 = .ok (.aload_n 0, 1) := by decide +kernel
theorem dX9_many_59 : decode cX9_many 59 = .ok (.getfield 172, 3) := by decide +kernel
theorem dX9_many_62 : decode cX9_many 62 = .ok (.ireturn, 1) := by decide +kernel
theorem dX9_many_63 : decode cX9_many 63 = .ok (.aload_n 0, 1) := by decide +kernel
theorem dX9_many_64 : decode cX9_many 64 = .ok (.iconst 1, 1) := by decide +kernel
theorem dX9_many_65 : decode cX9_many 65 = .ok (.invokevirtual 184, 3) := by decide +kernel
theorem dX9_many_68 : decode cX9_many 68 = .ok (.ireturn, 1) := by decide +kernel
theorem dX9_many_69 : decode cX9_many 69 = .ok (.aload_n 0, 1) := by decide +kernel
theorem dX9_many_70 : decode cX9_many 70 = .ok (.iconst 0, 1) := by decide +kernel
theorem dX9_many_71 : decode cX9_many 71 = .ok (.invokevirtual 184, 3) := by decide +kernel
theorem dX9_many_74 : decode cX9_many 74 = .ok (.ireturn, 1) := by decide +kernel
theorem dX9_many_75 : decode cX9_many 75 = .ok (.aload_n 0, 1) := by decide +kernel
theorem dX9_many_76 : decode cX9_many 76 = .ok (.iconst 2, 1) := by decide +kernel
theorem dX9_many_77 : decode cX9_many 77 = .ok (.invokevirtual 184, 3) := by decide +kernel
theorem dX9_many_80 : decode cX9_many 80 = .ok (.ireturn, 1) := by decide +kernel
theorem dX9_many_81 : decode cX9_many 81 = .ok (.aload_n 0, 1) := by decide +kernel
theorem dX9_many_82 : decode cX9_many 82 = .ok (.invokevirtual 187, 3) := by decide +kernel
theorem dX9_many_85 : decode cX9_many 85 = .ok (.ireturn, 1) := by decide +kernel
theorem dX9_many_86 : decode cX9_many 86 = .ok (.aload_n 0, 1) := by decide +kernel
theorem dX9_many_87 : decode cX9_many 87 = .ok (.invokevirtual 191, 3) := by decide +kernel
theorem dX9_many_90 : decode cX9_many 90 = .ok (.ireturn, 1) := by decide +kernel
theorem dX9_many_91 : decode cX9_many 91 = .ok (.iconst (-1), 1) := by decide +kernel
theorem dX9_many_92 : decode cX9_many 92 = .ok (.ireturn, 1) := by decide +kernel
