theorem dX11_in_0 : decode cX11_in 0 = .ok (.lload_n 0, 1) := by decide +kernel
theorem dX11_in_1 : decode cX11_in 1 = .ok (.lload_n 2, 1) := by decide +kernel
theorem dX11_in_2 : decode cX11_in 2 = .ok (.lcmp, 1) := by decide +kernel
theorem dX11_in_3 : decode cX11_in 3 = .ok (.ifCond .lt 14, 3) := by decide +kernel
theorem dX11_in_6 : decode cX11_in 6 = .ok (.lload_n 0, 1) := by decide +kernel
theorem dX11_in_7 : decode cX11_in 7 = .ok (.lload 4, 2) := by decide +kernel
theorem dX11_in_9 : decode cX11_in 9 = .ok (.lcmp, 1) := by decide +kernel
theorem dX11_in_10 : decode cX11_in 10 = .ok (.ifCond .gt 7, 3) := by decide +kernel
theorem dX11_in_13 : decode cX11_in 13 = .ok (.iconst 1, 1) := by decide +kernel
theorem dX11_in_14 : decode cX11_in 14 = .ok (.goto 4, 3) := by decide +kernel
theorem dX11_in_17 : decode cX11_in 17 = .ok (.iconst 0, 1) := by decide +kernel
theorem dX11_in_18 : decode cX11_in 18 = .ok (.ireturn, 1) := by decide +kernel
theorem dX11_init_0 : decode cX11_init 0 = .ok (.aload_n 0, 1) := by decide +kernel
theorem dX11_init_1 : decode cX11_init 1 = .ok (.invokespecial 1, 3) := by decide +kernel
theorem dX11_init_4 : decode cX11_init 4 = .ok (.aload_n 0, 1) := by decide +kernel
theorem dX11_init_5 : decode cX11_init 5 = .ok (.sipush 648, 3) := by decide +kernel
theorem dX11_init_8 : decode cX11_init 8 = .ok (.newarray .int, 2) := by decide +kernel
theorem dX11_init_10 : decode cX11_init 10 = .ok (.putfield 7, 3) := by decide +kernel
theorem dX11_init_13 : decode cX11_init 13 = .ok (.aload_n 0, 1) := by decide +kernel
theorem dX11_init_14 : decode cX11_init 14 = .ok (.bipush 8, 2) := by decide +kernel
theorem dX11_init_16 : decode cX11_init 16 = .ok (.newarray .long, 2) := by decide +kernel
theorem dX11_init_18 : decode cX11_init 18 = .ok (.putfield 13, 3) := by decide +kernel
theorem dX11_init_21 : decode cX11_init 21 = .ok (.aload_n 0, 1) := by decide +kernel
theorem dX11_init_22 : decode cX11_init 22 = .ok (.sipush 328, 3) := by decide +kernel
theorem dX11_init_25 : decode cX11_init 25 = .ok (.newarray .int, 2) := by decide +kernel
theorem dX11_init_27 : decode cX11_init 27 = .ok (.putfield 17, 3) := by decide +kernel
theorem dX11_init_30 : decode cX11_init 30 = .ok (.aload_n 0, 1) := by decide +kernel
theorem dX11_init_31 : decode cX11_init 31 = .ok (.bipush 8, 2) := by decide +kernel
theorem dX11_init_33 : decode cX11_init 33 = .ok (.newarray .int, 2) := by decide +kernel
theorem dX11_init_35 : decode cX11_init 35 = .ok (.putfield 20, 3) := by decide +kernel
theorem dX11_init_38 : decode cX11_init 38 = .ok (.aload_n 0, 1) := by decide +kernel
theorem dX11_init_39 : decode cX11_init 39 = .ok (.bipush 120, 2) := by decide +kernel
theorem dX11_init_41 : decode cX11_init 41 = .ok (.newarray .int, 2) := by decide +kernel
theorem dX11_init_43 : decode cX11_init 43 = .ok (.putfield 23, 3) := by decide +kernel
theorem dX11_init_46 : decode cX11_init 46 = .ok (.aload_n 0, 1) := by decide +kernel
theorem dX11_init_47 : decode cX11_init 47 = .ok (.bipush 64, 2) := by decide +kernel
theorem dX11_init_49 : decode cX11_init 49 = .ok (.newarray .int, 2) := by decide +kernel
theorem dX11_init_51 : decode cX11_init 51 = .ok (.putfield 26, 3) := by decide +kernel
theorem dX11_init_54 : decode cX11_init 54 = .ok (.aload_n 0, 1) := by decide +kernel
theorem dX11_init_55 : decode cX11_init 55 = .ok (.bipush 8, 2) := by decide +kernel
theorem dX11_init_57 : decode cX11_init 57 = .ok (.newarray .int, 2) := by decide +kernel
theorem dX11_init_59 : decode cX11_init 59 = .ok (.putfield 29, 3) := by decide +kernel
theorem dX11_init_62 : decode cX11_init 62 = .ok (.aload_n 0, 1) := by decide +kernel
theorem dX11_init_63 : decode cX11_init 63 = .ok (.bipush 8, 2) := by decide +kernel
theorem dX11_init_65 : decode cX11_init 65 = .ok (.newarray .int, 2) := by decide +kernel
theorem dX11_init_67 : decode cX11_init 67 = .ok (.putfield 32, 3) := by decide +kernel
theorem dX11_init_70 : decode cX11_init 70 = .ok (.aload_n 0, 1) := by decide +kernel
theorem dX11_init_71 : decode cX11_init 71 = .ok (.bipush 6, 2) := by decide +kernel
theorem dX11_init_73 : decode cX11_init 73 = .ok (.newarray .int, 2) := by decide +kernel
theorem dX11_init_75 : decode cX11_init 75 = .ok (.putfield 35, 3) := by decide +kernel
theorem dX11_init_78 : decode cX11_init 78 = .ok (.aload_n 0, 1) := by decide +kernel
theorem dX11_init_79 : decode cX11_init 79 = .ok (.iconst 4, 1) := by decide +kernel
theorem dX11_init_80 : decode cX11_init 80 = .ok (.newarray .int, 2) := by decide +kernel
theorem dX11_init_82 : decode cX11_init 82 = .ok (.putfield 38, 3) := by decide +kernel
theorem dX11_init_85 : decode cX11_init 85 = .ok (.aload_n 0, 1) := by decide +kernel
theorem dX11_init_86 : decode cX11_init 86 = .ok (.bipush 6, 2) := by decide +kernel
theorem dX11_init_88 : decode cX11_init 88 = .ok (.newarray .int, 2) := by decide +kernel
theorem dX11_init_90 : decode cX11_init 90 = .ok (.putfield 41, 3) := by decide +kernel
theorem dX11_init_93 : decode cX11_init 93 = .ok (.aload_n 0, 1) := by decide +kernel
theorem dX11_init_94 : decode cX11_init 94 = .ok (.bipush 10, 2) := by decide +kernel
theorem dX11_init_96 : decode cX11_init 96 = .ok (.newarray .int, 2) := by decide +kernel
theorem dX11_init_98 : decode cX11_init 98 = .ok (.putfield 44, 3) := by decide +kernel
theorem dX11_init_101 : decode cX11_init 101 = .ok (.aload_n 0, 1) := by decide +kernel
theorem dX11_init_102 : decode cX11_init 102 = .ok (.bipush 36, 2) := by decide +kernel
theorem dX11_init_104 : decode cX11_init 104 = .ok (.newarray .int, 2) := by decide +kernel
theorem dX11_init_106 : decode cX11_init 106 = .ok (.putfield 47, 3) := by decide +kernel
theorem dX11_init_109 : decode cX11_init 109 = .ok (.aload_n 0, 1) := by decide +kernel
theorem dX11_init_110 : decode cX11_init 110 = .ok (.sipush 1296, 3) := by decide +kernel
theorem dX11_init_113 : decode cX11_init 113 = .ok (.newarray .int, 2) := by decide +kernel
theorem dX11_init_115 : decode cX11_init 115 = .ok (.putfield 50, 3) := by decide +kernel
theorem dX11_init_118 : decode cX11_init 118 = .ok (.aload_n 0, 1) := by decide +kernel
theorem dX11_init_119 : decode cX11_init 119 = .ok (.bipush 16, 2) := by decide +kernel
theorem dX11_init_121 : decode cX11_init 121 = .ok (.newarray .long, 2) := by decide +kernel
theorem dX11_init_123 : decode cX11_init 123 = .ok (.putfield 53, 3) := by decide +kernel
theorem dX11_init_126 : decode cX11_init 126 = .ok (.aload_n 0, 1) := by decide +kernel
theorem dX11_init_127 : decode cX11_init 127 = .ok (.iconst 2, 1) := by decide +kernel
theorem dX11_init_128 : decode cX11_init 128 = .ok (.newarray .boolean, 2) := by decide +kernel
theorem dX11_init_130 : decode cX11_init 130 = .ok (.putfield 56, 3) := by decide +kernel
theorem dX11_init_133 : decode cX11_init 133 = .ok (.aload_n 0, 1) := by decide +kernel
theorem dX11_init_134 : decode cX11_init 134 = .ok (.iconst 4, 1) := by decide +kernel
theorem dX11_init_135 : decode cX11_init 135 = .ok (.newarray .int, 2) := by decide +kernel
theorem dX11_init_137 : decode cX11_init 137 = .ok (.putfield 60, 3) := by decide +kernel
theorem dX11_init_140 : decode cX11_init 140 = .ok (.aload_n 0, 1) := by decide +kernel
theorem dX11_init_141 : decode cX11_init 141 = .ok (.iconst 4, 1) := by decide +kernel
theorem dX11_init_142 : decode cX11_init 142 = .ok (.newarray .int, 2) := by decide +kernel
theorem dX11_init_144 : decode cX11_init 144 = .ok (.putfield 63, 3) := by decide +kernel
theorem dX11_init_147 : decode cX11_init 147 = .ok (.aload_n 0, 1) := by decide +kernel
theorem dX11_init_148 : decode cX11_init 148 = .ok (.sipush 160, 3) := by decide +kernel
theorem dX11_init_151 : decode cX11_init 151 = .ok (.newarray .int, 2) := by decide +kernel
theorem dX11_init_153 : decode cX11_init 153 = .ok (.putfield 66, 3) := by decide +kernel
theorem dX11_init_156 : decode cX11_init 156 = .ok (.aload_n 0, 1) := by decide +kernel
theorem dX11_init_157 : decode cX11_init 157 = .ok (.bipush 40, 2) := by decide +kernel
theorem dX11_init_159 : decode cX11_init 159 = .ok (.newarray .int, 2) := by decide +kernel
theorem dX11_init_161 : decode cX11_init 161 = .ok (.putfield 69, 3) := by decide +kernel
theorem dX11_init_164 : decode cX11_init 164 = .ok (.iconst 0, 1) := by decide +kernel
theorem dX11_init_165 : decode cX11_init 165 = .ok (.istore_n 1, 1) := by decide +kernel
theorem dX11_init_166 : decode cX11_init 166 = .ok (.iload_n 1, 1) := by decide +kernel
theorem dX11_init_167 : decode cX11_init 167 = .ok (.iconst 4, 1) := by decide +kernel
theorem dX11_init_168 : decode cX11_init 168 = .ok (.if_icmp .ge 16, 3) := by decide +kernel
theorem dX11_init_171 : decode cX11_init 171 = .ok (.aload_n 0, 1) := by decide +kernel
theorem dX11_init_172 : decode cX11_init 172 = .ok (.getfield 60, 3) := by decide +kernel
theorem dX11_init_175 : decode cX11_init 175 = .ok (.iload_n 1, 1) := by decide +kernel
theorem dX11_init_176 : decode cX11_init 176 = .ok (.iconst (-1), 1) := by decide +kernel
theorem dX11_init_177 : decode cX11_init 177 = .ok (.iastore, 1) := by decide +kernel
theorem dX11_init_178 : decode cX11_init 178 = .ok (.iinc 1 1, 3) := by decide +kernel
theorem dX11_init_181 : decode cX11_init 181 = .ok (.goto (-15), 3) := by decide +kernel
theorem dX11_init_184 : decode cX11_init 184 = .ok (.aload_n 0, 1) := by decide +kernel
theorem dX11_init_185 : decode cX11_init 185 = .ok (.getfield 7, 3) := by decide +kernel
theorem dX11_init_188 : decode cX11_init 188 = .ok (.sipush 128, 3) := by decide +kernel
theorem dX11_init_191 : decode cX11_init 191 = .ok (.sipush 500, 3) := by decide +kernel
theorem dX11_init_194 : decode cX11_init 194 = .ok (.iastore, 1) := by decide +kernel
theorem dX11_init_195 : decode cX11_init 195 = .ok (.aload_n 0, 1) := by decide +kernel
theorem dX11_init_196 : decode cX11_init 196 = .ok (.getfield 7, 3) := by decide +kernel
theorem dX11_init_199 : decode cX11_init 199 = .ok (.sipush 129, 3) := by decide +kernel
theorem dX11_init_202 : decode cX11_init 202 = .ok (.bipush 21, 2) := by decide +kernel
theorem dX11_init_204 : decode cX11_init 204 = .ok (.iastore, 1) := by decide +kernel
theorem dX11_init_205 : decode cX11_init 205 = .ok (.aload_n 0, 1) := by decide +kernel
theorem dX11_init_206 : decode cX11_init 206 = .ok (.getfield 7, 3) := by decide +kernel
theorem dX11_init_209 : decode cX11_init 209 = .ok (.sipush 131, 3) := by decide +kernel
theorem dX11_init_212 : decode cX11_init 212 = .ok (.bipush 7, 2) := by decide +kernel
theorem dX11_init_214 : decode cX11_init 214 = .ok (.iastore, 1) := by decide +kernel
theorem dX11_init_215 : decode cX11_init 215 = .ok (.return_, 1) := by decide +kernel
theorem dX11_rooms_0 : decode cX11_rooms 0 = .ok (.aload_n 0, 1) := by decide +kernel
theorem dX11_rooms_1 : decode cX11_rooms 1 = .ok (.getfield 7, 3) := by decide +kernel
theorem dX11_rooms_4 : decode cX11_rooms 4 = .ok (.iconst 0, 1) := by decide +kernel
theorem dX11_rooms_5 : decode cX11_rooms 5 = .ok (.iaload, 1) := by decide +kernel
theorem dX11_rooms_6 : decode cX11_rooms 6 = .ok (.ireturn, 1) := by decide +kernel
theorem dX11_isRoom_0 : decode cX11_isRoom 0 = .ok (.iload_n 1, 1) := by decide +kernel
theorem dX11_isRoom_1 : decode cX11_isRoom 1 = .ok (.i2l, 1) := by decide +kernel
theorem dX11_isRoom_2 : decode cX11_isRoom 2 = .ok (.lconst 0, 1) := by decide +kernel
theorem dX11_isRoom_3 : decode cX11_isRoom 3 = .ok (.aload_n 0, 1) := by decide +kernel
theorem dX11_isRoom_4 : decode cX11_isRoom 4 = .ok (.getfield 7, 3) := by decide +kernel
theorem dX11_isRoom_7 : decode cX11_isRoom 7 = .ok (.iconst 0, 1) := by decide +kernel
theorem dX11_isRoom_8 : decode cX11_isRoom 8 = .ok (.iaload, 1) := by decide +kernel
theorem dX11_isRoom_9 : decode cX11_isRoom 9 = .ok (.iconst 1, 1) := by decide +kernel
theorem dX11_isRoom_10 : decode cX11_isRoom 10 = .ok (.isub, 1) := by decide +kernel
theorem dX11_isRoom_11 : decode cX11_isRoom 11 = .ok (.i2l, 1) := by decide +kernel
theorem dX11_isRoom_12 : decode cX11_isRoom 12 = .ok (.invokestatic 72, 3) := by decide +kernel
theorem dX11_isRoom_15 : decode cX11_isRoom 15 = .ok (.ireturn, 1) := by decide +kernel
theorem dX11_of_0 : decode cX11_of 0 = .ok (.aload_n 0, 1) := by decide +kernel
theorem dX11_of_1 : decode cX11_of 1 = .ok (.getfield 7, 3) := by decide +kernel
theorem dX11_of_4 : decode cX11_of 4 = .ok (.bipush 8, 2) := by decide +kernel
theorem dX11_of_6 : decode cX11_of 6 = .ok (.bipush 6, 2) := by decide +kernel
theorem dX11_of_8 : decode cX11_of 8 = .ok (.iload_n 1, 1) := by decide +kernel
theorem dX11_of_9 : decode cX11_of 9 = .ok (.imul, 1) := by decide +kernel
theorem dX11_of_10 : decode cX11_of 10 = .ok (.iadd, 1) := by decide +kernel
theorem dX11_of_11 : decode cX11_of 11 = .ok (.iload_n 2, 1) := by decide +kernel
theorem dX11_of_12 : decode cX11_of 12 = .ok (.iadd, 1) := by decide +kernel
theorem dX11_of_13 : decode cX11_of 13 = .ok (.iaload, 1) := by decide +kernel
theorem dX11_of_14 : decode cX11_of 14 = .ok (.ireturn, 1) := by decide +kernel
theorem dX11_wireOf_0 : decode cX11_wireOf 0 = .ok (.aload_n 0, 1) := by decide +kernel
theorem dX11_wireOf_1 : decode cX11_wireOf 1 = .ok (.getfield 7, 3) := by decide +kernel
theorem dX11_wireOf_4 : decode cX11_wireOf 4 = .ok (.bipush 64, 2) := by decide +kernel
theorem dX11_wireOf_6 : decode cX11_wireOf 6 = .ok (.bipush 8, 2) := by decide +kernel
theorem dX11_wireOf_8 : decode cX11_wireOf 8 = .ok (.iload_n 1, 1) := by decide +kernel
theorem dX11_wireOf_9 : decode cX11_wireOf 9 = .ok (.imul, 1) := by decide +kernel
theorem dX11_wireOf_10 : decode cX11_wireOf 10 = .ok (.iadd, 1) := by decide +kernel
theorem dX11_wireOf_11 : decode cX11_wireOf 11 = .ok (.iload_n 2, 1) := by decide +kernel
theorem dX11_wireOf_12 : decode cX11_wireOf 12 = .ok (.iadd, 1) := by decide +kernel
theorem dX11_wireOf_13 : decode cX11_wireOf 13 = .ok (.iaload, 1) := by decide +kernel
theorem dX11_wireOf_14 : decode cX11_wireOf 14 = .ok (.ireturn, 1) := by decide +kernel
theorem dX11_sings_0 : decode cX11_sings 0 = .ok (.aload_n 0, 1) := by decide +kernel
theorem dX11_sings_1 : decode cX11_sings 1 = .ok (.iload_n 1, 1) := by decide +kernel
theorem dX11_sings_2 : decode cX11_sings 2 = .ok (.iconst 0, 1) := by decide +kernel
theorem dX11_sings_3 : decode cX11_sings 3 = .ok (.invokevirtual 76, 3) := by decide +kernel
theorem dX11_sings_6 : decode cX11_sings 6 = .ok (.iconst 4, 1) := by decide +kernel
theorem dX11_sings_7 : decode cX11_sings 7 = .ok (.if_icmp .ge 7, 3) := by decide +kernel
theorem dX11_sings_10 : decode cX11_sings 10 = .ok (.iconst 1, 1) := by decide +kernel
theorem dX11_sings_11 : decode cX11_sings 11 = .ok (.goto 4, 3) := by decide +kernel
theorem dX11_sings_14 : decode cX11_sings 14 = .ok (.iconst 0, 1) := by decide +kernel
theorem dX11_sings_15 : decode cX11_sings 15 = .ok (.ireturn, 1) := by decide +kernel
theorem dX11_isCut_0 : decode cX11_isCut 0 = .ok (.aload_n 0, 1) := by decide +kernel
theorem dX11_isCut_1 : decode cX11_isCut 1 = .ok (.iload_n 1, 1) := by decide +kernel
theorem dX11_isCut_2 : decode cX11_isCut 2 = .ok (.iconst 0, 1) := by decide +kernel
theorem dX11_isCut_3 : decode cX11_isCut 3 = .ok (.invokevirtual 76, 3) := by decide +kernel
theorem dX11_isCut_6 : decode cX11_isCut 6 = .ok (.iconst 5, 1) := by decide +kernel
theorem dX11_isCut_7 : decode cX11_isCut 7 = .ok (.if_icmp .ne 7, 3) := by decide +kernel
theorem dX11_isCut_10 : decode cX11_isCut 10 = .ok (.iconst 1, 1) := by decide +kernel
theorem dX11_isCut_11 : decode cX11_isCut 11 = .ok (.goto 4, 3) := by decide +kernel
theorem dX11_isCut_14 : decode cX11_isCut 14 = .ok (.iconst 0, 1) := by decide +kernel
theorem dX11_isCut_15 : decode cX11_isCut 15 = .ok (.ireturn, 1) := by decide +kernel
theorem dX11_highest_0 : decode cX11_highest 0 = .ok (.iload_n 0, 1) := by decide +kernel
theorem dX11_highest_1 : decode cX11_highest 1 = .ok (.ifCond .ne 7, 3) := by decide +kernel
theorem dX11_highest_4 : decode cX11_highest 4 = .ok (.iconst 5, 1) := by decide +kernel
theorem dX11_highest_5 : decode cX11_highest 5 = .ok (.goto 47, 3) := by decide +kernel
theorem dX11_highest_8 : decode cX11_highest 8 = .ok (.iload_n 0, 1) := by decide +kernel
theorem dX11_highest_9 : decode cX11_highest 9 = .ok (.iconst 1, 1) := by decide +kernel
theorem dX11_highest_10 : decode cX11_highest 10 = .ok (.if_icmp .ne 8, 3) := by decide +kernel
theorem dX11_highest_13 : decode cX11_highest 13 = .ok (.bipush 99, 2) := by decide +kernel
theorem dX11_highest_15 : decode cX11_highest 15 = .ok (.goto 37, 3) := by decide +kernel
theorem dX11_highest_18 : decode cX11_highest 18 = .ok (.iload_n 0, 1) := by decide +kernel
theorem dX11_highest_19 : decode cX11_highest 19 = .ok (.iconst 2, 1) := by decide +kernel
theorem dX11_highest_20 : decode cX11_highest 20 = .ok (.if_icmp .ne 8, 3) := by decide +kernel
theorem dX11_highest_23 : decode cX11_highest 23 = .ok (.bipush 100, 2) := by decide +kernel
theorem dX11_highest_25 : decode cX11_highest 25 = .ok (.goto 27, 3) := by decide +kernel
theorem dX11_highest_28 : decode cX11_highest 28 = .ok (.iload_n 0, 1) := by decide +kernel
theorem dX11_highest_29 : decode cX11_highest 29 = .ok (.iconst 3, 1) := by decide +kernel
theorem dX11_highest_30 : decode cX11_highest 30 = .ok (.if_icmp .ne 9, 3) := by decide +kernel
theorem dX11_highest_33 : decode cX11_highest 33 = .ok (.sipush 999, 3) := by decide +kernel
theorem dX11_highest_36 : decode cX11_highest 36 = .ok (.goto 16, 3) := by decide +kernel
theorem dX11_highest_39 : decode cX11_highest 39 = .ok (.iload_n 0, 1) := by decide +kernel
theorem dX11_highest_40 : decode cX11_highest 40 = .ok (.iconst 4, 1) := by decide +kernel
theorem dX11_highest_41 : decode cX11_highest 41 = .ok (.if_icmp .ne 9, 3) := by decide +kernel
theorem dX11_highest_44 : decode cX11_highest 44 = .ok (.sipush 400, 3) := by decide +kernel
theorem dX11_highest_47 : decode cX11_highest 47 = .ok (.goto 5, 3) := by decide +kernel
theorem dX11_highest_50 : decode cX11_highest 50 = .ok (.bipush 63, 2) := by decide +kernel
theorem dX11_highest_52 : decode cX11_highest 52 = .ok (.ireturn, 1) := by decide +kernel
theorem dX11_room_0 : decode cX11_room 0 = .ok (.iload_n 1, 1) := by decide +kernel
theorem dX11_room_1 : decode cX11_room 1 = .ok (.i2l, 1) := by decide +kernel
theorem dX11_room_2 : decode cX11_room 2 = .ok (.lconst 0, 1) := by decide +kernel
theorem dX11_room_3 : decode cX11_room 3 = .ok (.ldc2_w 80, 3) := by decide +kernel
theorem dX11_room_6 : decode cX11_room 6 = .ok (.invokestatic 72, 3) := by decide +kernel
theorem dX11_room_9 : decode cX11_room 9 = .ok (.ifCond .ne 5, 3) := by decide +kernel
theorem dX11_room_12 : decode cX11_room 12 = .ok (.iconst (-1), 1) := by decide +kernel
theorem dX11_room_13 : decode cX11_room 13 = .ok (.ireturn, 1) := by decide +kernel
theorem dX11_room_14 : decode cX11_room 14 = .ok (.aload_n 0, 1) := by decide +kernel
theorem dX11_room_15 : decode cX11_room 15 = .ok (.invokevirtual 82, 3) := by decide +kernel
theorem dX11_room_18 : decode cX11_room 18 = .ok (.bipush 8, 2) := by decide +kernel
theorem dX11_room_20 : decode cX11_room 20 = .ok (.if_icmp .ne 6, 3) := by decide +kernel
theorem dX11_room_23 : decode cX11_room 23 = .ok (.bipush (-3), 2) := by decide +kernel
theorem dX11_room_25 : decode cX11_room 25 = .ok (.ireturn, 1) := by decide +kernel
theorem dX11_room_26 : decode cX11_room 26 = .ok (.bipush 8, 2) := by decide +kernel
theorem dX11_room_28 : decode cX11_room 28 = .ok (.bipush 6, 2) := by decide +kernel
theorem dX11_room_30 : decode cX11_room 30 = .ok (.aload_n 0, 1) := by decide +kernel
theorem dX11_room_31 : decode cX11_room 31 = .ok (.invokevirtual 82, 3) := by decide +kernel
theorem dX11_room_34 : decode cX11_room 34 = .ok (.imul, 1) := by decide +kernel
theorem dX11_room_35 : decode cX11_room 35 = .ok (.iadd, 1) := by decide +kernel
theorem dX11_room_36 : decode cX11_room 36 = .ok (.istore_n 2, 1) := by decide +kernel
theorem dX11_room_37 : decode cX11_room 37 = .ok (.aload_n 0, 1) := by decide +kernel
theorem dX11_room_38 : decode cX11_room 38 = .ok (.getfield 7, 3) := by decide +kernel
theorem dX11_room_41 : decode cX11_room 41 = .ok (.iload_n 2, 1) := by decide +kernel
theorem dX11_room_42 : decode cX11_room 42 = .ok (.iload_n 1, 1) := by decide +kernel
theorem dX11_room_43 : decode cX11_room 43 = .ok (.iastore, 1) := by decide +kernel
theorem dX11_room_44 : decode cX11_room 44 = .ok (.aload_n 0, 1) := by decide +kernel
theorem dX11_room_45 : decode cX11_room 45 = .ok (.getfield 7, 3) := by decide +kernel
theorem dX11_room_48 : decode cX11_room 48 = .ok (.iload_n 2, 1) := by decide +kernel
theorem dX11_room_49 : decode cX11_room 49 = .ok (.iconst 1, 1) := by decide +kernel
theorem dX11_room_50 : decode cX11_room 50 = .ok (.iadd, 1) := by decide +kernel
theorem dX11_room_51 : decode cX11_room 51 = .ok (.bipush 10, 2) := by decide +kernel
theorem dX11_room_53 : decode cX11_room 53 = .ok (.iastore, 1) := by decide +kernel
theorem dX11_room_54 : decode cX11_room 54 = .ok (.aload_n 0, 1) := by decide +kernel
theorem dX11_room_55 : decode cX11_room 55 = .ok (.getfield 7, 3) := by decide +kernel
theorem dX11_room_58 : decode cX11_room 58 = .ok (.iload_n 2, 1) := by decide +kernel
theorem dX11_room_59 : decode cX11_room 59 = .ok (.iconst 2, 1) := by decide +kernel
theorem dX11_room_60 : decode cX11_room 60 = .ok (.iadd, 1) := by decide +kernel
theorem dX11_room_61 : decode cX11_room 61 = .ok (.bipush 50, 2) := by decide +kernel
theorem dX11_room_63 : decode cX11_room 63 = .ok (.iastore, 1) := by decide +kernel
theorem dX11_room_64 : decode cX11_room 64 = .ok (.aload_n 0, 1) := by decide +kernel
theorem dX11_room_65 : decode cX11_room 65 = .ok (.getfield 7, 3) := by decide +kernel
theorem dX11_room_68 : decode cX11_room 68 = .ok (.iconst 0, 1) := by decide +kernel
theorem dX11_room_69 : decode cX11_room 69 = .ok (.dup2, 1) := by decide +kernel
theorem dX11_room_70 : decode cX11_room 70 = .ok (.iaload, 1) := by decide +kernel
theorem dX11_room_71 : decode cX11_room 71 = .ok (.iconst 1, 1) := by decide +kernel
theorem dX11_room_72 : decode cX11_room 72 = .ok (.iadd, 1) := by decide +kernel
theorem dX11_room_73 : decode cX11_room 73 = .ok (.iastore, 1) := by decide +kernel
theorem dX11_room_74 : decode cX11_room 74 = .ok (.aload_n 0, 1) := by decide +kernel
theorem dX11_room_75 : decode cX11_room 75 = .ok (.invokevirtual 82, 3) := by decide +kernel
theorem dX11_room_78 : decode cX11_room 78 = .ok (.iconst 1, 1) := by decide +kernel
theorem dX11_room_79 : decode cX11_room 79 = .ok (.isub, 1) := by decide +kernel
theorem dX11_room_80 : decode cX11_room 80 = .ok (.ireturn, 1) := by decide +kernel
theorem dX11_set_0 : decode cX11_set 0 = .ok (.aload_n 0, 1) := by decide +kernel
theorem dX11_set_1 : decode cX11_set 1 = .ok (.iload_n 1, 1) := by decide +kernel
theorem dX11_set_2 : decode cX11_set 2 = .ok (.invokevirtual 86, 3) := by decide +kernel
theorem dX11_set_5 : decode cX11_set 5 = .ok (.ifCond .eq 29, 3) := by decide +kernel
theorem dX11_set_8 : decode cX11_set 8 = .ok (.iload_n 2, 1) := by decide +kernel
theorem dX11_set_9 : decode cX11_set 9 = .ok (.i2l, 1) := by decide +kernel
theorem dX11_set_10 : decode cX11_set 10 = .ok (.lconst 0, 1) := by decide +kernel
theorem dX11_set_11 : decode cX11_set 11 = .ok (.ldc2_w 80, 3) := by decide +kernel
theorem dX11_set_14 : decode cX11_set 14 = .ok (.invokestatic 72, 3) := by decide +kernel
theorem dX11_set_17 : decode cX11_set 17 = .ok (.ifCond .eq 17, 3) := by decide +kernel
theorem dX11_set_20 : decode cX11_set 20 = .ok (.iload_n 3, 1) := by decide +kernel
theorem dX11_set_21 : decode cX11_set 21 = .ok (.i2l, 1) := by decide +kernel
theorem dX11_set_22 : decode cX11_set 22 = .ok (.lconst 0, 1) := by decide +kernel
theorem dX11_set_23 : decode cX11_set 23 = .ok (.iload_n 2, 1) := by decide +kernel
theorem dX11_set_24 : decode cX11_set 24 = .ok (.invokestatic 90, 3) := by decide +kernel
theorem dX11_set_27 : decode cX11_set 27 = .ok (.i2l, 1) := by decide +kernel
theorem dX11_set_28 : decode cX11_set 28 = .ok (.invokestatic 72, 3) := by decide +kernel
theorem dX11_set_31 : decode cX11_set 31 = .ok (.ifCond .ne 5, 3) := by decide +kernel
theorem dX11_set_34 : decode cX11_set 34 = .ok (.iconst (-1), 1) := by decide +kernel
theorem dX11_set_35 : decode cX11_set 35 = .ok (.ireturn, 1) := by decide +kernel
theorem dX11_set_36 : decode cX11_set 36 = .ok (.aload_n 0, 1) := by decide +kernel
theorem dX11_set_37 : decode cX11_set 37 = .ok (.iload_n 1, 1) := by decide +kernel
theorem dX11_set_38 : decode cX11_set 38 = .ok (.iload_n 2, 1) := by decide +kernel
theorem dX11_set_39 : decode cX11_set 39 = .ok (.invokevirtual 76, 3) := by decide +kernel
theorem dX11_set_42 : decode cX11_set 42 = .ok (.istore 4, 2) := by decide +kernel
theorem dX11_set_44 : decode cX11_set 44 = .ok (.aload_n 0, 1) := by decide +kernel
theorem dX11_set_45 : decode cX11_set 45 = .ok (.getfield 7, 3) := by decide +kernel
theorem dX11_set_48 : decode cX11_set 48 = .ok (.bipush 8, 2) := by decide +kernel
theorem dX11_set_50 : decode cX11_set 50 = .ok (.bipush 6, 2) := by decide +kernel
theorem dX11_set_52 : decode cX11_set 52 = .ok (.iload_n 1, 1) := by decide +kernel
theorem dX11_set_53 : decode cX11_set 53 = .ok (.imul, 1) := by decide +kernel
theorem dX11_set_54 : decode cX11_set 54 = .ok (.iadd, 1) := by decide +kernel
theorem dX11_set_55 : decode cX11_set 55 = .ok (.iload_n 2, 1) := by decide +kernel
theorem dX11_set_56 : decode cX11_set 56 = .ok (.iadd, 1) := by decide +kernel
theorem dX11_set_57 : decode cX11_set 57 = .ok (.iload_n 3, 1) := by decide +kernel
theorem dX11_set_58 : decode cX11_set 58 = .ok (.iastore, 1) := by decide +kernel
theorem dX11_set_59 : decode cX11_set 59 = .ok (.iload 4, 2) := by decide +kernel
theorem dX11_set_61 : decode cX11_set 61 = .ok (.ireturn, 1) := by decide +kernel
theorem dX11_wire_0 : decode cX11_wire 0 = .ok (.aload_n 0, 1) := by decide +kernel
theorem dX11_wire_1 : decode cX11_wire 1 = .ok (.iload_n 1, 1) := by decide +kernel
theorem dX11_wire_2 : decode cX11_wire 2 = .ok (.invokevirtual 86, 3) := by decide +kernel
theorem dX11_wire_5 : decode cX11_wire 5 = .ok (.ifCond .eq 28, 3) := by decide +kernel
theorem dX11_wire_8 : decode cX11_wire 8 = .ok (.aload_n 0, 1) := by decide +kernel
theorem dX11_wire_9 : decode cX11_wire 9 = .ok (.iload_n 2, 1) := by decide +kernel
theorem dX11_wire_10 : decode cX11_wire 10 = .ok (.invokevirtual 86, 3) := by decide +kernel
theorem dX11_wire_13 : decode cX11_wire 13 = .ok (.ifCond .eq 20, 3) := by decide +kernel
theorem dX11_wire_16 : decode cX11_wire 16 = .ok (.iload_n 1, 1) := by decide +kernel
theorem dX11_wire_17 : decode cX11_wire 17 = .ok (.iload_n 2, 1) := by decide +kernel
theorem dX11_wire_18 : decode cX11_wire 18 = .ok (.if_icmp .eq 15, 3) := by decide +kernel
theorem dX11_wire_21 : decode cX11_wire 21 = .ok (.iload_n 3, 1) := by decide +kernel
theorem dX11_wire_22 : decode cX11_wire 22 = .ok (.i2l, 1) := by decide +kernel
theorem dX11_wire_23 : decode cX11_wire 23 = .ok (.lconst 0, 1) := by decide +kernel
theorem dX11_wire_24 : decode cX11_wire 24 = .ok (.ldc2_w 94, 3) := by decide +kernel
theorem dX11_wire_27 : decode cX11_wire 27 = .ok (.invokestatic 72, 3) := by decide +kernel
theorem dX11_wire_30 : decode cX11_wire 30 = .ok (.ifCond .ne 5, 3) := by decide +kernel
theorem dX11_wire_33 : decode cX11_wire 33 = .ok (.iconst (-1), 1) := by decide +kernel
theorem dX11_wire_34 : decode cX11_wire 34 = .ok (.ireturn, 1) := by decide +kernel
theorem dX11_wire_35 : decode cX11_wire 35 = .ok (.aload_n 0, 1) := by decide +kernel
theorem dX11_wire_36 : decode cX11_wire 36 = .ok (.iload_n 1, 1) := by decide +kernel
theorem dX11_wire_37 : decode cX11_wire 37 = .ok (.iload_n 2, 1) := by decide +kernel
theorem dX11_wire_38 : decode cX11_wire 38 = .ok (.invokevirtual 96, 3) := by decide +kernel
theorem dX11_wire_41 : decode cX11_wire 41 = .ok (.istore 4, 2) := by decide +kernel
theorem dX11_wire_43 : decode cX11_wire 43 = .ok (.aload_n 0, 1) := by decide +kernel
theorem dX11_wire_44 : decode cX11_wire 44 = .ok (.getfield 7, 3) := by decide +kernel
theorem dX11_wire_47 : decode cX11_wire 47 = .ok (.bipush 64, 2) := by decide +kernel
theorem dX11_wire_49 : decode cX11_wire 49 = .ok (.bipush 8, 2) := by decide +kernel
theorem dX11_wire_51 : decode cX11_wire 51 = .ok (.iload_n 1, 1) := by decide +kernel
theorem dX11_wire_52 : decode cX11_wire 52 = .ok (.imul, 1) := by decide +kernel
theorem dX11_wire_53 : decode cX11_wire 53 = .ok (.iadd, 1) := by decide +kernel
theorem dX11_wire_54 : decode cX11_wire 54 = .ok (.iload_n 2, 1) := by decide +kernel
theorem dX11_wire_55 : decode cX11_wire 55 = .ok (.iadd, 1) := by decide +kernel
theorem dX11_wire_56 : decode cX11_wire 56 = .ok (.iload_n 3, 1) := by decide +kernel
theorem dX11_wire_57 : decode cX11_wire 57 = .ok (.iastore, 1) := by decide +kernel
theorem dX11_wire_58 : decode cX11_wire 58 = .ok (.iload 4, 2) := by decide +kernel
theorem dX11_wire_60 : decode cX11_wire 60 = .ok (.ireturn, 1) := by decide +kernel
theorem dX11_wires_0 : decode cX11_wires 0 = .ok (.aload_n 0, 1) := by decide +kernel
theorem dX11_wires_1 : decode cX11_wires 1 = .ok (.iload_n 1, 1) := by decide +kernel
theorem dX11_wires_2 : decode cX11_wires 2 = .ok (.invokevirtual 86, 3) := by decide +kernel
theorem dX11_wires_5 : decode cX11_wires 5 = .ok (.ifCond .eq 17, 3) := by decide +kernel
theorem dX11_wires_8 : decode cX11_wires 8 = .ok (.iload_n 2, 1) := by decide +kernel
theorem dX11_wires_9 : decode cX11_wires 9 = .ok (.invokestatic 99, 3) := by decide +kernel
theorem dX11_wires_12 : decode cX11_wires 12 = .ok (.ifCond .eq 10, 3) := by decide +kernel
theorem dX11_wires_15 : decode cX11_wires 15 = .ok (.iload_n 3, 1) := by decide +kernel
theorem dX11_wires_16 : decode cX11_wires 16 = .ok (.invokestatic 102, 3) := by decide +kernel
theorem dX11_wires_19 : decode cX11_wires 19 = .ok (.ifCond .ne 5, 3) := by decide +kernel
theorem dX11_wires_22 : decode cX11_wires 22 = .ok (.iconst (-1), 1) := by decide +kernel
theorem dX11_wires_23 : decode cX11_wires 23 = .ok (.ireturn, 1) := by decide +kernel
theorem dX11_wires_24 : decode cX11_wires 24 = .ok (.aload_n 0, 1) := by decide +kernel
theorem dX11_wires_25 : decode cX11_wires 25 = .ok (.iload_n 2, 1) := by decide +kernel
theorem dX11_wires_26 : decode cX11_wires 26 = .ok (.iload_n 3, 1) := by decide +kernel
theorem dX11_wires_27 : decode cX11_wires 27 = .ok (.iload 4, 2) := by decide +kernel
theorem dX11_wires_29 : decode cX11_wires 29 = .ok (.aload_n 0, 1) := by decide +kernel
theorem dX11_wires_30 : decode cX11_wires 30 = .ok (.invokevirtual 82, 3) := by decide +kernel
theorem dX11_wires_33 : decode cX11_wires 33 = .ok (.invokevirtual 105, 3) := by decide +kernel
theorem dX11_wires_36 : decode cX11_wires 36 = .ok (.istore 5, 2) := by decide +kernel
theorem dX11_wires_38 : decode cX11_wires 38 = .ok (.iload 5, 2) := by decide +kernel
theorem dX11_wires_40 : decode cX11_wires 40 = .ok (.ifCond .ge 6, 3) := by decide +kernel
theorem dX11_wires_43 : decode cX11_wires 43 = .ok (.iload 5, 2) := by decide +kernel
theorem dX11_wires_45 : decode cX11_wires 45 = .ok (.ireturn, 1) := by decide +kernel
theorem dX11_wires_46 : decode cX11_wires 46 = .ok (.iconst 0, 1) := by decide +kernel
theorem dX11_wires_47 : decode cX11_wires 47 = .ok (.istore 6, 2) := by decide +kernel
theorem dX11_wires_49 : decode cX11_wires 49 = .ok (.iload 6, 2) := by decide +kernel
theorem dX11_wires_51 : decode cX11_wires 51 = .ok (.aload_n 0, 1) := by decide +kernel
theorem dX11_wires_52 : decode cX11_wires 52 = .ok (.invokevirtual 82, 3) := by decide +kernel
theorem dX11_wires_55 : decode cX11_wires 55 = .ok (.if_icmp .ge 48, 3) := by decide +kernel
theorem dX11_wires_58 : decode cX11_wires 58 = .ok (.aload_n 0, 1) := by decide +kernel
theorem dX11_wires_59 : decode cX11_wires 59 = .ok (.getfield 66, 3) := by decide +kernel
theorem dX11_wires_62 : decode cX11_wires 62 = .ok (.bipush 40, 2) := by decide +kernel
theorem dX11_wires_64 : decode cX11_wires 64 = .ok (.iload_n 2, 1) := by decide +kernel
theorem dX11_wires_65 : decode cX11_wires 65 = .ok (.imul, 1) := by decide +kernel
theorem dX11_wires_66 : decode cX11_wires 66 = .ok (.iload 4, 2) := by decide +kernel
theorem dX11_wires_68 : decode cX11_wires 68 = .ok (.iadd, 1) := by decide +kernel
theorem dX11_wires_69 : decode cX11_wires 69 = .ok (.iload 6, 2) := by decide +kernel
theorem dX11_wires_71 : decode cX11_wires 71 = .ok (.iadd, 1) := by decide +kernel
theorem dX11_wires_72 : decode cX11_wires 72 = .ok (.iaload, 1) := by decide +kernel
theorem dX11_wires_73 : decode cX11_wires 73 = .ok (.i2l, 1) := by decide +kernel
theorem dX11_wires_74 : decode cX11_wires 74 = .ok (.lconst 0, 1) := by decide +kernel
theorem dX11_wires_75 : decode cX11_wires 75 = .ok (.iload 6, 2) := by decide +kernel
theorem dX11_wires_77 : decode cX11_wires 77 = .ok (.iload_n 1, 1) := by decide +kernel
theorem dX11_wires_78 : decode cX11_wires 78 = .ok (.if_icmp .ne 7, 3) := by decide +kernel
theorem dX11_wires_81 : decode cX11_wires 81 = .ok (.lconst 0, 1) := by decide +kernel
theorem dX11_wires_82 : decode cX11_wires 82 = .ok (.goto 6, 3) := by decide +kernel
theorem dX11_wires_85 : decode cX11_wires 85 = .ok (.ldc2_w 94, 3) := by decide +kernel
theorem dX11_wires_88 : decode cX11_wires 88 = .ok (.invokestatic 72, 3) := by decide +kernel
theorem dX11_wires_91 : decode cX11_wires 91 = .ok (.ifCond .ne 6, 3) := by decide +kernel
theorem dX11_wires_94 : decode cX11_wires 94 = .ok (.bipush (-2), 2) := by decide +kernel
theorem dX11_wires_96 : decode cX11_wires 96 = .ok (.ireturn, 1) := by decide +kernel
theorem dX11_wires_97 : decode cX11_wires 97 = .ok (.iinc 6 1, 3) := by decide +kernel
theorem dX11_wires_100 : decode cX11_wires 100 = .ok (.goto (-51), 3) := by decide +kernel
theorem dX11_wires_103 : decode cX11_wires 103 = .ok (.iconst 0, 1) := by decide +kernel
theorem dX11_wires_104 : decode cX11_wires 104 = .ok (.istore 6, 2) := by decide +kernel
theorem dX11_wires_106 : decode cX11_wires 106 = .ok (.iconst 0, 1) := by decide +kernel
theorem dX11_wires_107 : decode cX11_wires 107 = .ok (.istore 7, 2) := by decide +kernel
theorem dX11_wires_109 : decode cX11_wires 109 = .ok (.iload 7, 2) := by decide +kernel
theorem dX11_wires_111 : decode cX11_wires 111 = .ok (.aload_n 0, 1) := by decide +kernel
theorem dX11_wires_112 : decode cX11_wires 112 = .ok (.invokevirtual 82, 3) := by decide +kernel
theorem dX11_wires_115 : decode cX11_wires 115 = .ok (.if_icmp .ge 67, 3) := by decide +kernel
theorem dX11_wires_118 : decode cX11_wires 118 = .ok (.aload_n 0, 1) := by decide +kernel
theorem dX11_wires_119 : decode cX11_wires 119 = .ok (.getfield 7, 3) := by decide +kernel
theorem dX11_wires_122 : decode cX11_wires 122 = .ok (.bipush 64, 2) := by decide +kernel
theorem dX11_wires_124 : decode cX11_wires 124 = .ok (.bipush 8, 2) := by decide +kernel
theorem dX11_wires_126 : decode cX11_wires 126 = .ok (.iload_n 1, 1) := by decide +kernel
theorem dX11_wires_127 : decode cX11_wires 127 = .ok (.imul, 1) := by decide +kernel
theorem dX11_wires_128 : decode cX11_wires 128 = .ok (.iadd, 1) := by decide +kernel
theorem dX11_wires_129 : decode cX11_wires 129 = .ok (.iload 7, 2) := by decide +kernel
theorem dX11_wires_131 : decode cX11_wires 131 = .ok (.iadd, 1) := by decide +kernel
theorem dX11_wires_132 : decode cX11_wires 132 = .ok (.aload_n 0, 1) := by decide +kernel
theorem dX11_wires_133 : decode cX11_wires 133 = .ok (.getfield 66, 3) := by decide +kernel
theorem dX11_wires_136 : decode cX11_wires 136 = .ok (.bipush 40, 2) := by decide +kernel
theorem dX11_wires_138 : decode cX11_wires 138 = .ok (.iload_n 2, 1) := by decide +kernel
theorem dX11_wires_139 : decode cX11_wires 139 = .ok (.imul, 1) := by decide +kernel
theorem dX11_wires_140 : decode cX11_wires 140 = .ok (.iload 4, 2) := by decide +kernel
theorem dX11_wires_142 : decode cX11_wires 142 = .ok (.iadd, 1) := by decide +kernel
theorem dX11_wires_143 : decode cX11_wires 143 = .ok (.iload 7, 2) := by decide +kernel
theorem dX11_wires_145 : decode cX11_wires 145 = .ok (.iadd, 1) := by decide +kernel
theorem dX11_wires_146 : decode cX11_wires 146 = .ok (.iaload, 1) := by decide +kernel
theorem dX11_wires_147 : decode cX11_wires 147 = .ok (.iastore, 1) := by decide +kernel
theorem dX11_wires_148 : decode cX11_wires 148 = .ok (.iload 6, 2) := by decide +kernel
theorem dX11_wires_150 : decode cX11_wires 150 = .ok (.aload_n 0, 1) := by decide +kernel
theorem dX11_wires_151 : decode cX11_wires 151 = .ok (.getfield 66, 3) := by decide +kernel
theorem dX11_wires_154 : decode cX11_wires 154 = .ok (.bipush 40, 2) := by decide +kernel
theorem dX11_wires_156 : decode cX11_wires 156 = .ok (.iload_n 2, 1) := by decide +kernel
theorem dX11_wires_157 : decode cX11_wires 157 = .ok (.imul, 1) := by decide +kernel
theorem dX11_wires_158 : decode cX11_wires 158 = .ok (.iload 4, 2) := by decide +kernel
theorem dX11_wires_160 : decode cX11_wires 160 = .ok (.iadd, 1) := by decide +kernel
theorem dX11_wires_161 : decode cX11_wires 161 = .ok (.iload 7, 2) := by decide +kernel
theorem dX11_wires_163 : decode cX11_wires 163 = .ok (.iadd, 1) := by decide +kernel
theorem dX11_wires_164 : decode cX11_wires 164 = .ok (.iaload, 1) := by decide +kernel
theorem dX11_wires_165 : decode cX11_wires 165 = .ok (.ifCond .le 7, 3) := by decide +kernel
theorem dX11_wires_168 : decode cX11_wires 168 = .ok (.iconst 1, 1) := by decide +kernel
theorem dX11_wires_169 : decode cX11_wires 169 = .ok (.goto 4, 3) := by decide +kernel
theorem dX11_wires_172 : decode cX11_wires 172 = .ok (.iconst 0, 1) := by decide +kernel
theorem dX11_wires_173 : decode cX11_wires 173 = .ok (.iadd, 1) := by decide +kernel
theorem dX11_wires_174 : decode cX11_wires 174 = .ok (.istore 6, 2) := by decide +kernel
theorem dX11_wires_176 : decode cX11_wires 176 = .ok (.iinc 7 1, 3) := by decide +kernel
theorem dX11_wires_179 : decode cX11_wires 179 = .ok (.goto (-70), 3) := by decide +kernel
theorem dX11_wires_182 : decode cX11_wires 182 = .ok (.iload 6, 2) := by decide +kernel
theorem dX11_wires_184 : decode cX11_wires 184 = .ok (.ireturn, 1) := by decide +kernel
theorem dX11_pace_0 : decode cX11_pace 0 = .ok (.iload_n 1, 1) := by decide +kernel
theorem dX11_pace_1 : decode cX11_pace 1 = .ok (.i2l, 1) := by decide +kernel
theorem dX11_pace_2 : decode cX11_pace 2 = .ok (.lconst 1, 1) := by decide +kernel
theorem dX11_pace_3 : decode cX11_pace 3 = .ok (.ldc2_w 109, 3) := by decide +kernel
theorem dX11_pace_6 : decode cX11_pace 6 = .ok (.invokestatic 72, 3) := by decide +kernel
theorem dX11_pace_9 : decode cX11_pace 9 = .ok (.ifCond .ne 5, 3) := by decide +kernel
theorem dX11_pace_12 : decode cX11_pace 12 = .ok (.iconst (-1), 1) := by decide +kernel
theorem dX11_pace_13 : decode cX11_pace 13 = .ok (.ireturn, 1) := by decide +kernel
theorem dX11_pace_14 : decode cX11_pace 14 = .ok (.aload_n 0, 1) := by decide +kernel
theorem dX11_pace_15 : decode cX11_pace 15 = .ok (.getfield 7, 3) := by decide +kernel
theorem dX11_pace_18 : decode cX11_pace 18 = .ok (.sipush 128, 3) := by decide +kernel
theorem dX11_pace_21 : decode cX11_pace 21 = .ok (.iaload, 1) := by decide +kernel
theorem dX11_pace_22 : decode cX11_pace 22 = .ok (.istore_n 2, 1) := by decide +kernel
theorem dX11_pace_23 : decode cX11_pace 23 = .ok (.aload_n 0, 1) := by decide +kernel
theorem dX11_pace_24 : decode cX11_pace 24 = .ok (.getfield 7, 3) := by decide +kernel
theorem dX11_pace_27 : decode cX11_pace 27 = .ok (.sipush 128, 3) := by decide +kernel
theorem dX11_pace_30 : decode cX11_pace 30 = .ok (.iload_n 1, 1) := by decide +kernel
theorem dX11_pace_31 : decode cX11_pace 31 = .ok (.iastore, 1) := by decide +kernel
theorem dX11_pace_32 : decode cX11_pace 32 = .ok (.iload_n 2, 1) := by decide +kernel
theorem dX11_pace_33 : decode cX11_pace 33 = .ok (.ireturn, 1) := by decide +kernel
theorem dX11_pull_0 : decode cX11_pull 0 = .ok (.iconst 0, 1) := by decide +kernel
theorem dX11_pull_1 : decode cX11_pull 1 = .ok (.istore 4, 2) := by decide +kernel
theorem dX11_pull_3 : decode cX11_pull 3 = .ok (.iconst 0, 1) := by decide +kernel
theorem dX11_pull_4 : decode cX11_pull 4 = .ok (.istore 5, 2) := by decide +kernel
theorem dX11_pull_6 : decode cX11_pull 6 = .ok (.aload_n 0, 1) := by decide +kernel
theorem dX11_pull_7 : decode cX11_pull 7 = .ok (.iload_n 1, 1) := by decide +kernel
theorem dX11_pull_8 : decode cX11_pull 8 = .ok (.iconst 0, 1) := by decide +kernel
theorem dX11_pull_9 : decode cX11_pull 9 = .ok (.invokevirtual 76, 3) := by decide +kernel
theorem dX11_pull_12 : decode cX11_pull 12 = .ok (.iconst 3, 1) := by decide +kernel
theorem dX11_pull_13 : decode cX11_pull 13 = .ok (.if_icmp .ne 12, 3) := by decide +kernel
theorem dX11_pull_16 : decode cX11_pull 16 = .ok (.aload_n 0, 1) := by decide +kernel
theorem dX11_pull_17 : decode cX11_pull 17 = .ok (.iload_n 1, 1) := by decide +kernel
theorem dX11_pull_18 : decode cX11_pull 18 = .ok (.iconst 4, 1) := by decide +kernel
theorem dX11_pull_19 : decode cX11_pull 19 = .ok (.invokevirtual 76, 3) := by decide +kernel
theorem dX11_pull_22 : decode cX11_pull 22 = .ok (.goto 4, 3) := by decide +kernel
theorem dX11_pull_25 : decode cX11_pull 25 = .ok (.iconst 0, 1) := by decide +kernel
theorem dX11_pull_26 : decode cX11_pull 26 = .ok (.istore 6, 2) := by decide +kernel
theorem dX11_pull_28 : decode cX11_pull 28 = .ok (.iconst 0, 1) := by decide +kernel
theorem dX11_pull_29 : decode cX11_pull 29 = .ok (.istore 7, 2) := by decide +kernel
theorem dX11_pull_31 : decode cX11_pull 31 = .ok (.iload 7, 2) := by decide +kernel
theorem dX11_pull_33 : decode cX11_pull 33 = .ok (.aload_n 0, 1) := by decide +kernel
theorem dX11_pull_34 : decode cX11_pull 34 = .ok (.invokevirtual 82, 3) := by decide +kernel
theorem dX11_pull_37 : decode cX11_pull 37 = .ok (.if_icmp .ge 89, 3) := by decide +kernel
theorem dX11_pull_40 : decode cX11_pull 40 = .ok (.iload 7, 2) := by decide +kernel
theorem dX11_pull_42 : decode cX11_pull 42 = .ok (.iload_n 1, 1) := by decide +kernel
theorem dX11_pull_43 : decode cX11_pull 43 = .ok (.if_icmp .eq 77, 3) := by decide +kernel
theorem dX11_pull_46 : decode cX11_pull 46 = .ok (.aload_n 0, 1) := by decide +kernel
theorem dX11_pull_47 : decode cX11_pull 47 = .ok (.iload 7, 2) := by decide +kernel
theorem dX11_pull_49 : decode cX11_pull 49 = .ok (.invokevirtual 111, 3) := by decide +kernel
theorem dX11_pull_52 : decode cX11_pull 52 = .ok (.ifCond .eq 68, 3) := by decide +kernel
theorem dX11_pull_55 : decode cX11_pull 55 = .ok (.aload_n 0, 1) := by decide +kernel
theorem dX11_pull_56 : decode cX11_pull 56 = .ok (.iload 7, 2) := by decide +kernel
theorem dX11_pull_58 : decode cX11_pull 58 = .ok (.iload_n 1, 1) := by decide +kernel
theorem dX11_pull_59 : decode cX11_pull 59 = .ok (.invokevirtual 96, 3) := by decide +kernel
theorem dX11_pull_62 : decode cX11_pull 62 = .ok (.ifCond .le 58, 3) := by decide +kernel
theorem dX11_pull_65 : decode cX11_pull 65 = .ok (.iload_n 3, 1) := by decide +kernel
theorem dX11_pull_66 : decode cX11_pull 66 = .ok (.ifCond .le 7, 3) := by decide +kernel
theorem dX11_pull_69 : decode cX11_pull 69 = .ok (.iload_n 3, 1) := by decide +kernel
theorem dX11_pull_70 : decode cX11_pull 70 = .ok (.goto 10, 3) := by decide +kernel
theorem dX11_pull_73 : decode cX11_pull 73 = .ok (.aload_n 0, 1) := by decide +kernel
theorem dX11_pull_74 : decode cX11_pull 74 = .ok (.iload 7, 2) := by decide +kernel
theorem dX11_pull_76 : decode cX11_pull 76 = .ok (.iload_n 1, 1) := by decide +kernel
theorem dX11_pull_77 : decode cX11_pull 77 = .ok (.invokevirtual 96, 3) := by decide +kernel
theorem dX11_pull_80 : decode cX11_pull 80 = .ok (.istore 8, 2) := by decide +kernel
theorem dX11_pull_82 : decode cX11_pull 82 = .ok (.iload 5, 2) := by decide +kernel
theorem dX11_pull_84 : decode cX11_pull 84 = .ok (.aload_n 0, 1) := by decide +kernel
theorem dX11_pull_85 : decode cX11_pull 85 = .ok (.getfield 17, 3) := by decide +kernel
theorem dX11_pull_88 : decode cX11_pull 88 = .ok (.bipush 8, 2) := by decide +kernel
theorem dX11_pull_90 : decode cX11_pull 90 = .ok (.iload_n 2, 1) := by decide +kernel
theorem dX11_pull_91 : decode cX11_pull 91 = .ok (.imul, 1) := by decide +kernel
theorem dX11_pull_92 : decode cX11_pull 92 = .ok (.iload 7, 2) := by decide +kernel
theorem dX11_pull_94 : decode cX11_pull 94 = .ok (.iadd, 1) := by decide +kernel
theorem dX11_pull_95 : decode cX11_pull 95 = .ok (.iaload, 1) := by decide +kernel
theorem dX11_pull_96 : decode cX11_pull 96 = .ok (.iload 8, 2) := by decide +kernel
theorem dX11_pull_98 : decode cX11_pull 98 = .ok (.iadd, 1) := by decide +kernel
theorem dX11_pull_99 : decode cX11_pull 99 = .ok (.iload 6, 2) := by decide +kernel
theorem dX11_pull_101 : decode cX11_pull 101 = .ok (.isub, 1) := by decide +kernel
theorem dX11_pull_102 : decode cX11_pull 102 = .ok (.aload_n 0, 1) := by decide +kernel
theorem dX11_pull_103 : decode cX11_pull 103 = .ok (.getfield 17, 3) := by decide +kernel
theorem dX11_pull_106 : decode cX11_pull 106 = .ok (.bipush 8, 2) := by decide +kernel
theorem dX11_pull_108 : decode cX11_pull 108 = .ok (.iload_n 2, 1) := by decide +kernel
theorem dX11_pull_109 : decode cX11_pull 109 = .ok (.imul, 1) := by decide +kernel
theorem dX11_pull_110 : decode cX11_pull 110 = .ok (.iload_n 1, 1) := by decide +kernel
theorem dX11_pull_111 : decode cX11_pull 111 = .ok (.iadd, 1) := by decide +kernel
theorem dX11_pull_112 : decode cX11_pull 112 = .ok (.iaload, 1) := by decide +kernel
theorem dX11_pull_113 : decode cX11_pull 113 = .ok (.isub, 1) := by decide +kernel
theorem dX11_pull_114 : decode cX11_pull 114 = .ok (.iadd, 1) := by decide +kernel
theorem dX11_pull_115 : decode cX11_pull 115 = .ok (.istore 5, 2) := by decide +kernel
theorem dX11_pull_117 : decode cX11_pull 117 = .ok (.iinc 4 1, 3) := by decide +kernel
theorem dX11_pull_120 : decode cX11_pull 120 = .ok (.iinc 7 1, 3) := by decide +kernel
theorem dX11_pull_123 : decode cX11_pull 123 = .ok (.goto (-92), 3) := by decide +kernel
theorem dX11_pull_126 : decode cX11_pull 126 = .ok (.iload 4, 2) := by decide +kernel
theorem dX11_pull_128 : decode cX11_pull 128 = .ok (.ifCond .ne 7, 3) := by decide +kernel
theorem dX11_pull_131 : decode cX11_pull 131 = .ok (.iconst 0, 1) := by decide +kernel
theorem dX11_pull_132 : decode cX11_pull 132 = .ok (.goto 8, 3) := by decide +kernel
theorem dX11_pull_135 : decode cX11_pull 135 = .ok (.iload 5, 2) := by decide +kernel
theorem dX11_pull_137 : decode cX11_pull 137 = .ok (.iload 4, 2) := by decide +kernel
theorem dX11_pull_139 : decode cX11_pull 139 = .ok (.idiv, 1) := by decide +kernel
theorem dX11_pull_140 : decode cX11_pull 140 = .ok (.ireturn, 1) := by decide +kernel
theorem dX11_laysBeats_0 : decode cX11_laysBeats 0 = .ok (.aload_n 0, 1) := by decide +kernel
theorem dX11_laysBeats_1 : decode cX11_laysBeats 1 = .ok (.getfield 7, 3) := by decide +kernel
theorem dX11_laysBeats_4 : decode cX11_laysBeats 4 = .ok (.sipush 128, 3) := by decide +kernel
theorem dX11_laysBeats_7 : decode cX11_laysBeats 7 = .ok (.iaload, 1) := by decide +kernel
theorem dX11_laysBeats_8 : decode cX11_laysBeats 8 = .ok (.istore_n 3, 1) := by decide +kernel
theorem dX11_laysBeats_9 : decode cX11_laysBeats 9 = .ok (.iconst 0, 1) := by decide +kernel
theorem dX11_laysBeats_10 : decode cX11_laysBeats 10 = .ok (.istore 4, 2) := by decide +kernel
theorem dX11_laysBeats_12 : decode cX11_laysBeats 12 = .ok (.iload 4, 2) := by decide +kernel
theorem dX11_laysBeats_14 : decode cX11_laysBeats 14 = .ok (.aload_n 0, 1) := by decide +kernel
theorem dX11_laysBeats_15 : decode cX11_laysBeats 15 = .ok (.invokevirtual 82, 3) := by decide +kernel
theorem dX11_laysBeats_18 : decode cX11_laysBeats 18 = .ok (.if_icmp .ge 39, 3) := by decide +kernel
theorem dX11_laysBeats_21 : decode cX11_laysBeats 21 = .ok (.aload_n 0, 1) := by decide +kernel
theorem dX11_laysBeats_22 : decode cX11_laysBeats 22 = .ok (.getfield 17, 3) := by decide +kernel
theorem dX11_laysBeats_25 : decode cX11_laysBeats 25 = .ok (.iload 4, 2) := by decide +kernel
theorem dX11_laysBeats_27 : decode cX11_laysBeats 27 = .ok (.aload_n 0, 1) := by decide +kernel
theorem dX11_laysBeats_28 : decode cX11_laysBeats 28 = .ok (.iload 4, 2) := by decide +kernel
theorem dX11_laysBeats_30 : decode cX11_laysBeats 30 = .ok (.iconst 0, 1) := by decide +kernel
theorem dX11_laysBeats_31 : decode cX11_laysBeats 31 = .ok (.invokevirtual 76, 3) := by decide +kernel
theorem dX11_laysBeats_34 : decode cX11_laysBeats 34 = .ok (.iconst 2, 1) := by decide +kernel
theorem dX11_laysBeats_35 : decode cX11_laysBeats 35 = .ok (.if_icmp .ne 14, 3) := by decide +kernel
theorem dX11_laysBeats_38 : decode cX11_laysBeats 38 = .ok (.aload_n 0, 1) := by decide +kernel
theorem dX11_laysBeats_39 : decode cX11_laysBeats 39 = .ok (.iload 4, 2) := by decide +kernel
theorem dX11_laysBeats_41 : decode cX11_laysBeats 41 = .ok (.iconst 3, 1) := by decide +kernel
theorem dX11_laysBeats_42 : decode cX11_laysBeats 42 = .ok (.invokevirtual 76, 3) := by decide +kernel
theorem dX11_laysBeats_45 : decode cX11_laysBeats 45 = .ok (.ineg, 1) := by decide +kernel
theorem dX11_laysBeats_46 : decode cX11_laysBeats 46 = .ok (.goto 4, 3) := by decide +kernel
theorem dX11_laysBeats_49 : decode cX11_laysBeats 49 = .ok (.iconst 0, 1) := by decide +kernel
theorem dX11_laysBeats_50 : decode cX11_laysBeats 50 = .ok (.iastore, 1) := by decide +kernel
theorem dX11_laysBeats_51 : decode cX11_laysBeats 51 = .ok (.iinc 4 1, 3) := by decide +kernel
theorem dX11_laysBeats_54 : decode cX11_laysBeats 54 = .ok (.goto (-42), 3) := by decide +kernel
theorem dX11_laysBeats_57 : decode cX11_laysBeats 57 = .ok (.iconst 1, 1) := by decide +kernel
theorem dX11_laysBeats_58 : decode cX11_laysBeats 58 = .ok (.istore 4, 2) := by decide +kernel
theorem dX11_laysBeats_60 : decode cX11_laysBeats 60 = .ok (.iload 4, 2) := by decide +kernel
theorem dX11_laysBeats_62 : decode cX11_laysBeats 62 = .ok (.iload_n 1, 1) := by decide +kernel
theorem dX11_laysBeats_63 : decode cX11_laysBeats 63 = .ok (.if_icmp .gt 157, 3) := by decide +kernel
theorem dX11_laysBeats_66 : decode cX11_laysBeats 66 = .ok (.iconst 0, 1) := by decide +kernel
theorem dX11_laysBeats_67 : decode cX11_laysBeats 67 = .ok (.istore 5, 2) := by decide +kernel
theorem dX11_laysBeats_69 : decode cX11_laysBeats 69 = .ok (.iload 5, 2) := by decide +kernel
theorem dX11_laysBeats_71 : decode cX11_laysBeats 71 = .ok (.aload_n 0, 1) := by decide +kernel
theorem dX11_laysBeats_72 : decode cX11_laysBeats 72 = .ok (.invokevirtual 82, 3) := by decide +kernel
theorem dX11_laysBeats_75 : decode cX11_laysBeats 75 = .ok (.if_icmp .ge 139, 3) := by decide +kernel
theorem dX11_laysBeats_78 : decode cX11_laysBeats 78 = .ok (.aload_n 0, 1) := by decide +kernel
theorem dX11_laysBeats_79 : decode cX11_laysBeats 79 = .ok (.iload 5, 2) := by decide +kernel
theorem dX11_laysBeats_81 : decode cX11_laysBeats 81 = .ok (.iconst 0, 1) := by decide +kernel
theorem dX11_laysBeats_82 : decode cX11_laysBeats 82 = .ok (.invokevirtual 76, 3) := by decide +kernel
theorem dX11_laysBeats_85 : decode cX11_laysBeats 85 = .ok (.istore 6, 2) := by decide +kernel
theorem dX11_laysBeats_87 : decode cX11_laysBeats 87 = .ok (.aload_n 0, 1) := by decide +kernel
theorem dX11_laysBeats_88 : decode cX11_laysBeats 88 = .ok (.getfield 17, 3) := by decide +kernel
theorem dX11_laysBeats_91 : decode cX11_laysBeats 91 = .ok (.bipush 8, 2) := by decide +kernel
theorem dX11_laysBeats_93 : decode cX11_laysBeats 93 = .ok (.iload 4, 2) := by decide +kernel
theorem dX11_laysBeats_95 : decode cX11_laysBeats 95 = .ok (.iconst 1, 1) := by decide +kernel
theorem dX11_laysBeats_96 : decode cX11_laysBeats 96 = .ok (.isub, 1) := by decide +kernel
theorem dX11_laysBeats_97 : decode cX11_laysBeats 97 = .ok (.imul, 1) := by decide +kernel
theorem dX11_laysBeats_98 : decode cX11_laysBeats 98 = .ok (.iload 5, 2) := by decide +kernel
theorem dX11_laysBeats_100 : decode cX11_laysBeats 100 = .ok (.iadd, 1) := by decide +kernel
theorem dX11_laysBeats_101 : decode cX11_laysBeats 101 = .ok (.iaload, 1) := by decide +kernel
theorem dX11_laysBeats_102 : decode cX11_laysBeats 102 = .ok (.istore 7, 2) := by decide +kernel
theorem dX11_laysBeats_104 : decode cX11_laysBeats 104 = .ok (.iload 7, 2) := by decide +kernel
theorem dX11_laysBeats_106 : decode cX11_laysBeats 106 = .ok (.iload_n 3, 1) := by decide +kernel
theorem dX11_laysBeats_107 : decode cX11_laysBeats 107 = .ok (.iadd, 1) := by decide +kernel
theorem dX11_laysBeats_108 : decode cX11_laysBeats 108 = .ok (.aload_n 0, 1) := by decide +kernel
theorem dX11_laysBeats_109 : decode cX11_laysBeats 109 = .ok (.iload 5, 2) := by decide +kernel
theorem dX11_laysBeats_111 : decode cX11_laysBeats 111 = .ok (.iconst 1, 1) := by decide +kernel
theorem dX11_laysBeats_112 : decode cX11_laysBeats 112 = .ok (.invokevirtual 76, 3) := by decide +kernel
theorem dX11_laysBeats_115 : decode cX11_laysBeats 115 = .ok (.iadd, 1) := by decide +kernel
theorem dX11_laysBeats_116 : decode cX11_laysBeats 116 = .ok (.aload_n 0, 1) := by decide +kernel
theorem dX11_laysBeats_117 : decode cX11_laysBeats 117 = .ok (.iload 5, 2) := by decide +kernel
theorem dX11_laysBeats_119 : decode cX11_laysBeats 119 = .ok (.iconst 2, 1) := by decide +kernel
theorem dX11_laysBeats_120 : decode cX11_laysBeats 120 = .ok (.invokevirtual 76, 3) := by decide +kernel
theorem dX11_laysBeats_123 : decode cX11_laysBeats 123 = .ok (.aload_n 0, 1) := by decide +kernel
theorem dX11_laysBeats_124 : decode cX11_laysBeats 124 = .ok (.iload 5, 2) := by decide +kernel
theorem dX11_laysBeats_126 : decode cX11_laysBeats 126 = .ok (.iload 4, 2) := by decide +kernel
theorem dX11_laysBeats_128 : decode cX11_laysBeats 128 = .ok (.iconst 1, 1) := by decide +kernel
theorem dX11_laysBeats_129 : decode cX11_laysBeats 129 = .ok (.isub, 1) := by decide +kernel
theorem dX11_laysBeats_130 : decode cX11_laysBeats 130 = .ok (.iload_n 2, 1) := by decide +kernel
theorem dX11_laysBeats_131 : decode cX11_laysBeats 131 = .ok (.invokevirtual 114, 3) := by decide +kernel
theorem dX11_laysBeats_134 : decode cX11_laysBeats 134 = .ok (.imul, 1) := by decide +kernel
theorem dX11_laysBeats_135 : decode cX11_laysBeats 135 = .ok (.bipush 100, 2) := by decide +kernel
theorem dX11_laysBeats_137 : decode cX11_laysBeats 137 = .ok (.idiv, 1) := by decide +kernel
theorem dX11_laysBeats_138 : decode cX11_laysBeats 138 = .ok (.iadd, 1) := by decide +kernel
theorem dX11_laysBeats_139 : decode cX11_laysBeats 139 = .ok (.istore 8, 2) := by decide +kernel
theorem dX11_laysBeats_141 : decode cX11_laysBeats 141 = .ok (.iload 8, 2) := by decide +kernel
theorem dX11_laysBeats_143 : decode cX11_laysBeats 143 = .ok (.iload 7, 2) := by decide +kernel
theorem dX11_laysBeats_145 : decode cX11_laysBeats 145 = .ok (.if_icmp .le 8, 3) := by decide +kernel
theorem dX11_laysBeats_148 : decode cX11_laysBeats 148 = .ok (.iload 8, 2) := by decide +kernel
theorem dX11_laysBeats_150 : decode cX11_laysBeats 150 = .ok (.goto 7, 3) := by decide +kernel
theorem dX11_laysBeats_153 : decode cX11_laysBeats 153 = .ok (.iload 7, 2) := by decide +kernel
theorem dX11_laysBeats_155 : decode cX11_laysBeats 155 = .ok (.iconst 1, 1) := by decide +kernel
theorem dX11_laysBeats_156 : decode cX11_laysBeats 156 = .ok (.iadd, 1) := by decide +kernel
theorem dX11_laysBeats_157 : decode cX11_laysBeats 157 = .ok (.istore 8, 2) := by decide +kernel
theorem dX11_laysBeats_159 : decode cX11_laysBeats 159 = .ok (.aload_n 0, 1) := by decide +kernel
theorem dX11_laysBeats_160 : decode cX11_laysBeats 160 = .ok (.getfield 17, 3) := by decide +kernel
theorem dX11_laysBeats_163 : decode cX11_laysBeats 163 = .ok (.bipush 8, 2) := by decide +kernel
theorem dX11_laysBeats_165 : decode cX11_laysBeats 165 = .ok (.iload 4, 2) := by decide +kernel
theorem dX11_laysBeats_167 : decode cX11_laysBeats 167 = .ok (.imul, 1) := by decide +kernel
theorem dX11_laysBeats_168 : decode cX11_laysBeats 168 = .ok (.iload 5, 2) := by decide +kernel
theorem dX11_laysBeats_170 : decode cX11_laysBeats 170 = .ok (.iadd, 1) := by decide +kernel
theorem dX11_laysBeats_171 : decode cX11_laysBeats 171 = .ok (.iload 6, 2) := by decide +kernel
theorem dX11_laysBeats_173 : decode cX11_laysBeats 173 = .ok (.iconst 1, 1) := by decide +kernel
theorem dX11_laysBeats_174 : decode cX11_laysBeats 174 = .ok (.if_icmp .ne 10, 3) := by decide +kernel
theorem dX11_laysBeats_177 : decode cX11_laysBeats 177 = .ok (.iload 4, 2) := by decide +kernel
theorem dX11_laysBeats_179 : decode cX11_laysBeats 179 = .ok (.iload_n 3, 1) := by decide +kernel
theorem dX11_laysBeats_180 : decode cX11_laysBeats 180 = .ok (.imul, 1) := by decide +kernel
theorem dX11_laysBeats_181 : decode cX11_laysBeats 181 = .ok (.goto 26, 3) := by decide +kernel
theorem dX11_laysBeats_184 : decode cX11_laysBeats 184 = .ok (.iload 6, 2) := by decide +kernel
theorem dX11_laysBeats_186 : decode cX11_laysBeats 186 = .ok (.iconst 2, 1) := by decide +kernel
theorem dX11_laysBeats_187 : decode cX11_laysBeats 187 = .ok (.if_icmp .ne 18, 3) := by decide +kernel
theorem dX11_laysBeats_190 : decode cX11_laysBeats 190 = .ok (.iload 4, 2) := by decide +kernel
theorem dX11_laysBeats_192 : decode cX11_laysBeats 192 = .ok (.iload_n 3, 1) := by decide +kernel
theorem dX11_laysBeats_193 : decode cX11_laysBeats 193 = .ok (.imul, 1) := by decide +kernel
theorem dX11_laysBeats_194 : decode cX11_laysBeats 194 = .ok (.aload_n 0, 1) := by decide +kernel
theorem dX11_laysBeats_195 : decode cX11_laysBeats 195 = .ok (.iload 5, 2) := by decide +kernel
theorem dX11_laysBeats_197 : decode cX11_laysBeats 197 = .ok (.iconst 3, 1) := by decide +kernel
theorem dX11_laysBeats_198 : decode cX11_laysBeats 198 = .ok (.invokevirtual 76, 3) := by decide +kernel
theorem dX11_laysBeats_201 : decode cX11_laysBeats 201 = .ok (.isub, 1) := by decide +kernel
theorem dX11_laysBeats_202 : decode cX11_laysBeats 202 = .ok (.goto 5, 3) := by decide +kernel
theorem dX11_laysBeats_205 : decode cX11_laysBeats 205 = .ok (.iload 8, 2) := by decide +kernel
theorem dX11_laysBeats_207 : decode cX11_laysBeats 207 = .ok (.iastore, 1) := by decide +kernel
theorem dX11_laysBeats_208 : decode cX11_laysBeats 208 = .ok (.iinc 5 1, 3) := by decide +kernel
theorem dX11_laysBeats_211 : decode cX11_laysBeats 211 = .ok (.goto (-142), 3) := by decide +kernel
theorem dX11_laysBeats_214 : decode cX11_laysBeats 214 = .ok (.iinc 4 1, 3) := by decide +kernel
theorem dX11_laysBeats_217 : decode cX11_laysBeats 217 = .ok (.goto (-157), 3) := by decide +kernel
theorem dX11_laysBeats_220 : decode cX11_laysBeats 220 = .ok (.return_, 1) := by decide +kernel
theorem dX11_time_0 : decode cX11_time 0 = .ok (.aload_n 0, 1) := by decide +kernel
theorem dX11_time_1 : decode cX11_time 1 = .ok (.iload_n 1, 1) := by decide +kernel
theorem dX11_time_2 : decode cX11_time 2 = .ok (.invokevirtual 86, 3) := by decide +kernel
theorem dX11_time_5 : decode cX11_time 5 = .ok (.ifCond .eq 15, 3) := by decide +kernel
theorem dX11_time_8 : decode cX11_time 8 = .ok (.iload_n 2, 1) := by decide +kernel
theorem dX11_time_9 : decode cX11_time 9 = .ok (.i2l, 1) := by decide +kernel
theorem dX11_time_10 : decode cX11_time 10 = .ok (.lconst 0, 1) := by decide +kernel
theorem dX11_time_11 : decode cX11_time 11 = .ok (.ldc2_w 118, 3) := by decide +kernel
theorem dX11_time_14 : decode cX11_time 14 = .ok (.invokestatic 72, 3) := by decide +kernel
theorem dX11_time_17 : decode cX11_time 17 = .ok (.ifCond .ne 6, 3) := by decide +kernel
theorem dX11_time_20 : decode cX11_time 20 = .ok (.ldc 120, 2) := by decide +kernel
theorem dX11_time_22 : decode cX11_time 22 = .ok (.ireturn, 1) := by decide +kernel
theorem dX11_time_23 : decode cX11_time 23 = .ok (.aload_n 0, 1) := by decide +kernel
theorem dX11_time_24 : decode cX11_time 24 = .ok (.iload_n 1, 1) := by decide +kernel
theorem dX11_time_25 : decode cX11_time 25 = .ok (.invokevirtual 111, 3) := by decide +kernel
theorem dX11_time_28 : decode cX11_time 28 = .ok (.ifCond .ne 6, 3) := by decide +kernel
theorem dX11_time_31 : decode cX11_time 31 = .ok (.ldc 121, 2) := by decide +kernel
theorem dX11_time_33 : decode cX11_time 33 = .ok (.ireturn, 1) := by decide +kernel
theorem dX11_time_34 : decode cX11_time 34 = .ok (.aload_n 0, 1) := by decide +kernel
theorem dX11_time_35 : decode cX11_time 35 = .ok (.iload_n 2, 1) := by decide +kernel
theorem dX11_time_36 : decode cX11_time 36 = .ok (.iconst 0, 1) := by decide +kernel
theorem dX11_time_37 : decode cX11_time 37 = .ok (.invokevirtual 122, 3) := by decide +kernel
theorem dX11_time_40 : decode cX11_time 40 = .ok (.aload_n 0, 1) := by decide +kernel
theorem dX11_time_41 : decode cX11_time 41 = .ok (.getfield 17, 3) := by decide +kernel
theorem dX11_time_44 : decode cX11_time 44 = .ok (.bipush 8, 2) := by decide +kernel
theorem dX11_time_46 : decode cX11_time 46 = .ok (.iload_n 2, 1) := by decide +kernel
theorem dX11_time_47 : decode cX11_time 47 = .ok (.imul, 1) := by decide +kernel
theorem dX11_time_48 : decode cX11_time 48 = .ok (.iload_n 1, 1) := by decide +kernel
theorem dX11_time_49 : decode cX11_time 49 = .ok (.iadd, 1) := by decide +kernel
theorem dX11_time_50 : decode cX11_time 50 = .ok (.iaload, 1) := by decide +kernel
theorem dX11_time_51 : decode cX11_time 51 = .ok (.ireturn, 1) := by decide +kernel
theorem dX11_singers_0 : decode cX11_singers 0 = .ok (.iconst 0, 1) := by decide +kernel
theorem dX11_singers_1 : decode cX11_singers 1 = .ok (.istore_n 1, 1) := by decide +kernel
theorem dX11_singers_2 : decode cX11_singers 2 = .ok (.iconst 0, 1) := by decide +kernel
theorem dX11_singers_3 : decode cX11_singers 3 = .ok (.istore_n 2, 1) := by decide +kernel
theorem dX11_singers_4 : decode cX11_singers 4 = .ok (.iload_n 2, 1) := by decide +kernel
theorem dX11_singers_5 : decode cX11_singers 5 = .ok (.aload_n 0, 1) := by decide +kernel
theorem dX11_singers_6 : decode cX11_singers 6 = .ok (.invokevirtual 82, 3) := by decide +kernel
theorem dX11_singers_9 : decode cX11_singers 9 = .ok (.if_icmp .ge 27, 3) := by decide +kernel
theorem dX11_singers_12 : decode cX11_singers 12 = .ok (.iload_n 1, 1) := by decide +kernel
theorem dX11_singers_13 : decode cX11_singers 13 = .ok (.aload_n 0, 1) := by decide +kernel
theorem dX11_singers_14 : decode cX11_singers 14 = .ok (.iload_n 2, 1) := by decide +kernel
theorem dX11_singers_15 : decode cX11_singers 15 = .ok (.invokevirtual 111, 3) := by decide +kernel
theorem dX11_singers_18 : decode cX11_singers 18 = .ok (.ifCond .eq 9, 3) := by decide +kernel
theorem dX11_singers_21 : decode cX11_singers 21 = .ok (.iconst 1, 1) := by decide +kernel
theorem dX11_singers_22 : decode cX11_singers 22 = .ok (.iload_n 2, 1) := by decide +kernel
theorem dX11_singers_23 : decode cX11_singers 23 = .ok (.ishl, 1) := by decide +kernel
theorem dX11_singers_24 : decode cX11_singers 24 = .ok (.goto 4, 3) := by decide +kernel
theorem dX11_singers_27 : decode cX11_singers 27 = .ok (.iconst 0, 1) := by decide +kernel
theorem dX11_singers_28 : decode cX11_singers 28 = .ok (.ior, 1) := by decide +kernel
theorem dX11_singers_29 : decode cX11_singers 29 = .ok (.istore_n 1, 1) := by decide +kernel
theorem dX11_singers_30 : decode cX11_singers 30 = .ok (.iinc 2 1, 3) := by decide +kernel
theorem dX11_singers_33 : decode cX11_singers 33 = .ok (.goto (-29), 3) := by decide +kernel
theorem dX11_singers_36 : decode cX11_singers 36 = .ok (.iload_n 1, 1) := by decide +kernel
theorem dX11_singers_37 : decode cX11_singers 37 = .ok (.ireturn, 1) := by decide +kernel
theorem dX11_size_0 : decode cX11_size 0 = .ok (.iconst 0, 1) := by decide +kernel
theorem dX11_size_1 : decode cX11_size 1 = .ok (.istore_n 1, 1) := by decide +kernel
theorem dX11_size_2 : decode cX11_size 2 = .ok (.iconst 0, 1) := by decide +kernel
theorem dX11_size_3 : decode cX11_size 3 = .ok (.istore_n 2, 1) := by decide +kernel
theorem dX11_size_4 : decode cX11_size 4 = .ok (.iload_n 2, 1) := by decide +kernel
theorem dX11_size_5 : decode cX11_size 5 = .ok (.bipush 8, 2) := by decide +kernel
theorem dX11_size_7 : decode cX11_size 7 = .ok (.if_icmp .ge 17, 3) := by decide +kernel
theorem dX11_size_10 : decode cX11_size 10 = .ok (.iload_n 1, 1) := by decide +kernel
theorem dX11_size_11 : decode cX11_size 11 = .ok (.iload_n 0, 1) := by decide +kernel
theorem dX11_size_12 : decode cX11_size 12 = .ok (.iload_n 2, 1) := by decide +kernel
theorem dX11_size_13 : decode cX11_size 13 = .ok (.ishr, 1) := by decide +kernel
theorem dX11_size_14 : decode cX11_size 14 = .ok (.iconst 1, 1) := by decide +kernel
theorem dX11_size_15 : decode cX11_size 15 = .ok (.iand, 1) := by decide +kernel
theorem dX11_size_16 : decode cX11_size 16 = .ok (.iadd, 1) := by decide +kernel
theorem dX11_size_17 : decode cX11_size 17 = .ok (.istore_n 1, 1) := by decide +kernel
theorem dX11_size_18 : decode cX11_size 18 = .ok (.iinc 2 1, 3) := by decide +kernel
theorem dX11_size_21 : decode cX11_size 21 = .ok (.goto (-17), 3) := by decide +kernel
theorem dX11_size_24 : decode cX11_size 24 = .ok (.iload_n 1, 1) := by decide +kernel
theorem dX11_size_25 : decode cX11_size 25 = .ok (.ireturn, 1) := by decide +kernel
theorem dX11_paceBy_0 : decode cX11_paceBy 0 = .ok (.aload_n 0, 1) := by decide +kernel
theorem dX11_paceBy_1 : decode cX11_paceBy 1 = .ok (.iload_n 1, 1) := by decide +kernel
theorem dX11_paceBy_2 : decode cX11_paceBy 2 = .ok (.iload_n 2, 1) := by decide +kernel
theorem dX11_paceBy_3 : decode cX11_paceBy 3 = .ok (.invokevirtual 122, 3) := by decide +kernel
theorem dX11_paceBy_6 : decode cX11_paceBy 6 = .ok (.aload_n 0, 1) := by decide +kernel
theorem dX11_paceBy_7 : decode cX11_paceBy 7 = .ok (.invokevirtual 126, 3) := by decide +kernel
theorem dX11_paceBy_10 : decode cX11_paceBy 10 = .ok (.istore_n 3, 1) := by decide +kernel
theorem dX11_paceBy_11 : decode cX11_paceBy 11 = .ok (.iconst 0, 1) := by decide +kernel
theorem dX11_paceBy_12 : decode cX11_paceBy 12 = .ok (.istore 4, 2) := by decide +kernel
theorem dX11_paceBy_14 : decode cX11_paceBy 14 = .ok (.iconst 0, 1) := by decide +kernel
theorem dX11_paceBy_15 : decode cX11_paceBy 15 = .ok (.istore 5, 2) := by decide +kernel
theorem dX11_paceBy_17 : decode cX11_paceBy 17 = .ok (.iload 5, 2) := by decide +kernel
theorem dX11_paceBy_19 : decode cX11_paceBy 19 = .ok (.aload_n 0, 1) := by decide +kernel
theorem dX11_paceBy_20 : decode cX11_paceBy 20 = .ok (.invokevirtual 82, 3) := by decide +kernel
theorem dX11_paceBy_23 : decode cX11_paceBy 23 = .ok (.if_icmp .ge 55, 3) := by decide +kernel
theorem dX11_paceBy_26 : decode cX11_paceBy 26 = .ok (.iload 4, 2) := by decide +kernel
theorem dX11_paceBy_28 : decode cX11_paceBy 28 = .ok (.iload_n 3, 1) := by decide +kernel
theorem dX11_paceBy_29 : decode cX11_paceBy 29 = .ok (.iload 5, 2) := by decide +kernel
theorem dX11_paceBy_31 : decode cX11_paceBy 31 = .ok (.ishr, 1) := by decide +kernel
theorem dX11_paceBy_32 : decode cX11_paceBy 32 = .ok (.iconst 1, 1) := by decide +kernel
theorem dX11_paceBy_33 : decode cX11_paceBy 33 = .ok (.iand, 1) := by decide +kernel
theorem dX11_paceBy_34 : decode cX11_paceBy 34 = .ok (.iconst 1, 1) := by decide +kernel
theorem dX11_paceBy_35 : decode cX11_paceBy 35 = .ok (.if_icmp .ne 33, 3) := by decide +kernel
theorem dX11_paceBy_38 : decode cX11_paceBy 38 = .ok (.aload_n 0, 1) := by decide +kernel
theorem dX11_paceBy_39 : decode cX11_paceBy 39 = .ok (.getfield 17, 3) := by decide +kernel
theorem dX11_paceBy_42 : decode cX11_paceBy 42 = .ok (.bipush 8, 2) := by decide +kernel
theorem dX11_paceBy_44 : decode cX11_paceBy 44 = .ok (.iload_n 1, 1) := by decide +kernel
theorem dX11_paceBy_45 : decode cX11_paceBy 45 = .ok (.imul, 1) := by decide +kernel
theorem dX11_paceBy_46 : decode cX11_paceBy 46 = .ok (.iload 5, 2) := by decide +kernel
theorem dX11_paceBy_48 : decode cX11_paceBy 48 = .ok (.iadd, 1) := by decide +kernel
theorem dX11_paceBy_49 : decode cX11_paceBy 49 = .ok (.iaload, 1) := by decide +kernel
theorem dX11_paceBy_50 : decode cX11_paceBy 50 = .ok (.aload_n 0, 1) := by decide +kernel
theorem dX11_paceBy_51 : decode cX11_paceBy 51 = .ok (.getfield 17, 3) := by decide +kernel
theorem dX11_paceBy_54 : decode cX11_paceBy 54 = .ok (.bipush 8, 2) := by decide +kernel
theorem dX11_paceBy_56 : decode cX11_paceBy 56 = .ok (.iload_n 1, 1) := by decide +kernel
theorem dX11_paceBy_57 : decode cX11_paceBy 57 = .ok (.iconst 1, 1) := by decide +kernel
theorem dX11_paceBy_58 : decode cX11_paceBy 58 = .ok (.isub, 1) := by decide +kernel
theorem dX11_paceBy_59 : decode cX11_paceBy 59 = .ok (.imul, 1) := by decide +kernel
theorem dX11_paceBy_60 : decode cX11_paceBy 60 = .ok (.iload 5, 2) := by decide +kernel
theorem dX11_paceBy_62 : decode cX11_paceBy 62 = .ok (.iadd, 1) := by decide +kernel
theorem dX11_paceBy_63 : decode cX11_paceBy 63 = .ok (.iaload, 1) := by decide +kernel
theorem dX11_paceBy_64 : decode cX11_paceBy 64 = .ok (.isub, 1) := by decide +kernel
theorem dX11_paceBy_65 : decode cX11_paceBy 65 = .ok (.goto 4, 3) := by decide +kernel
theorem dX11_paceBy_68 : decode cX11_paceBy 68 = .ok (.iconst 0, 1) := by decide +kernel
theorem dX11_paceBy_69 : decode cX11_paceBy 69 = .ok (.iadd, 1) := by decide +kernel
theorem dX11_paceBy_70 : decode cX11_paceBy 70 = .ok (.istore 4, 2) := by decide +kernel
theorem dX11_paceBy_72 : decode cX11_paceBy 72 = .ok (.iinc 5 1, 3) := by decide +kernel
theorem dX11_paceBy_75 : decode cX11_paceBy 75 = .ok (.goto (-58), 3) := by decide +kernel
theorem dX11_paceBy_78 : decode cX11_paceBy 78 = .ok (.iload 4, 2) := by decide +kernel
theorem dX11_paceBy_80 : decode cX11_paceBy 80 = .ok (.iload_n 3, 1) := by decide +kernel
theorem dX11_paceBy_81 : decode cX11_paceBy 81 = .ok (.invokestatic 129, 3) := by decide +kernel
theorem dX11_paceBy_84 : decode cX11_paceBy 84 = .ok (.idiv, 1) := by decide +kernel
theorem dX11_paceBy_85 : decode cX11_paceBy 85 = .ok (.ireturn, 1) := by decide +kernel
theorem dX11_paceAt_0 : decode cX11_paceAt 0 = .ok (.iload_n 1, 1) := by decide +kernel
theorem dX11_paceAt_1 : decode cX11_paceAt 1 = .ok (.i2l, 1) := by decide +kernel
theorem dX11_paceAt_2 : decode cX11_paceAt 2 = .ok (.lconst 1, 1) := by decide +kernel
theorem dX11_paceAt_3 : decode cX11_paceAt 3 = .ok (.ldc2_w 118, 3) := by decide +kernel
theorem dX11_paceAt_6 : decode cX11_paceAt 6 = .ok (.invokestatic 72, 3) := by decide +kernel
theorem dX11_paceAt_9 : decode cX11_paceAt 9 = .ok (.ifCond .ne 5, 3) := by decide +kernel
theorem dX11_paceAt_12 : decode cX11_paceAt 12 = .ok (.iconst (-1), 1) := by decide +kernel
theorem dX11_paceAt_13 : decode cX11_paceAt 13 = .ok (.ireturn, 1) := by decide +kernel
theorem dX11_paceAt_14 : decode cX11_paceAt 14 = .ok (.aload_n 0, 1) := by decide +kernel
theorem dX11_paceAt_15 : decode cX11_paceAt 15 = .ok (.invokevirtual 126, 3) := by decide +kernel
theorem dX11_paceAt_18 : decode cX11_paceAt 18 = .ok (.ifCond .ne 8, 3) := by decide +kernel
theorem dX11_paceAt_21 : decode cX11_paceAt 21 = .ok (.bipush (-4), 2) := by decide +kernel
theorem dX11_paceAt_23 : decode cX11_paceAt 23 = .ok (.goto 9, 3) := by decide +kernel
theorem dX11_paceAt_26 : decode cX11_paceAt 26 = .ok (.aload_n 0, 1) := by decide +kernel
theorem dX11_paceAt_27 : decode cX11_paceAt 27 = .ok (.iload_n 1, 1) := by decide +kernel
theorem dX11_paceAt_28 : decode cX11_paceAt 28 = .ok (.iconst 0, 1) := by decide +kernel
theorem dX11_paceAt_29 : decode cX11_paceAt 29 = .ok (.invokevirtual 132, 3) := by decide +kernel
theorem dX11_paceAt_32 : decode cX11_paceAt 32 = .ok (.ireturn, 1) := by decide +kernel
theorem dX11_slows_0 : decode cX11_slows 0 = .ok (.iload_n 1, 1) := by decide +kernel
theorem dX11_slows_1 : decode cX11_slows 1 = .ok (.i2l, 1) := by decide +kernel
theorem dX11_slows_2 : decode cX11_slows 2 = .ok (.lconst 1, 1) := by decide +kernel
theorem dX11_slows_3 : decode cX11_slows 3 = .ok (.ldc2_w 118, 3) := by decide +kernel
theorem dX11_slows_6 : decode cX11_slows 6 = .ok (.invokestatic 72, 3) := by decide +kernel
theorem dX11_slows_9 : decode cX11_slows 9 = .ok (.ifCond .eq 15, 3) := by decide +kernel
theorem dX11_slows_12 : decode cX11_slows 12 = .ok (.iload_n 2, 1) := by decide +kernel
theorem dX11_slows_13 : decode cX11_slows 13 = .ok (.i2l, 1) := by decide +kernel
theorem dX11_slows_14 : decode cX11_slows 14 = .ok (.lconst 0, 1) := by decide +kernel
theorem dX11_slows_15 : decode cX11_slows 15 = .ok (.ldc2_w 135, 3) := by decide +kernel
theorem dX11_slows_18 : decode cX11_slows 18 = .ok (.invokestatic 72, 3) := by decide +kernel
theorem dX11_slows_21 : decode cX11_slows 21 = .ok (.ifCond .ne 5, 3) := by decide +kernel
theorem dX11_slows_24 : decode cX11_slows 24 = .ok (.iconst (-1), 1) := by decide +kernel
theorem dX11_slows_25 : decode cX11_slows 25 = .ok (.ireturn, 1) := by decide +kernel
theorem dX11_slows_26 : decode cX11_slows 26 = .ok (.iconst 1, 1) := by decide +kernel
theorem dX11_slows_27 : decode cX11_slows 27 = .ok (.istore_n 3, 1) := by decide +kernel
theorem dX11_slows_28 : decode cX11_slows 28 = .ok (.iload_n 3, 1) := by decide +kernel
theorem dX11_slows_29 : decode cX11_slows 29 = .ok (.sipush 400, 3) := by decide +kernel
theorem dX11_slows_32 : decode cX11_slows 32 = .ok (.if_icmp .gt 28, 3) := by decide +kernel
theorem dX11_slows_35 : decode cX11_slows 35 = .ok (.aload_n 0, 1) := by decide +kernel
theorem dX11_slows_36 : decode cX11_slows 36 = .ok (.invokevirtual 126, 3) := by decide +kernel
theorem dX11_slows_39 : decode cX11_slows 39 = .ok (.ifCond .le 21, 3) := by decide +kernel
theorem dX11_slows_42 : decode cX11_slows 42 = .ok (.aload_n 0, 1) := by decide +kernel
theorem dX11_slows_43 : decode cX11_slows 43 = .ok (.iload_n 1, 1) := by decide +kernel
theorem dX11_slows_44 : decode cX11_slows 44 = .ok (.iload_n 3, 1) := by decide +kernel
theorem dX11_slows_45 : decode cX11_slows 45 = .ok (.invokevirtual 132, 3) := by decide +kernel
theorem dX11_slows_48 : decode cX11_slows 48 = .ok (.iload_n 2, 1) := by decide +kernel
theorem dX11_slows_49 : decode cX11_slows 49 = .ok (.if_icmp .le 5, 3) := by decide +kernel
theorem dX11_slows_52 : decode cX11_slows 52 = .ok (.iload_n 3, 1) := by decide +kernel
theorem dX11_slows_53 : decode cX11_slows 53 = .ok (.ireturn, 1) := by decide +kernel
theorem dX11_slows_54 : decode cX11_slows 54 = .ok (.iinc 3 1, 3) := by decide +kernel
theorem dX11_slows_57 : decode cX11_slows 57 = .ok (.goto (-29), 3) := by decide +kernel
theorem dX11_slows_60 : decode cX11_slows 60 = .ok (.bipush (-4), 2) := by decide +kernel
theorem dX11_slows_62 : decode cX11_slows 62 = .ok (.ireturn, 1) := by decide +kernel
theorem dX11_apart_0 : decode cX11_apart 0 = .ok (.iload_n 1, 1) := by decide +kernel
theorem dX11_apart_1 : decode cX11_apart 1 = .ok (.i2l, 1) := by decide +kernel
theorem dX11_apart_2 : decode cX11_apart 2 = .ok (.lconst 0, 1) := by decide +kernel
theorem dX11_apart_3 : decode cX11_apart 3 = .ok (.ldc2_w 118, 3) := by decide +kernel
theorem dX11_apart_6 : decode cX11_apart 6 = .ok (.invokestatic 72, 3) := by decide +kernel
theorem dX11_apart_9 : decode cX11_apart 9 = .ok (.ifCond .ne 5, 3) := by decide +kernel
theorem dX11_apart_12 : decode cX11_apart 12 = .ok (.iconst (-1), 1) := by decide +kernel
theorem dX11_apart_13 : decode cX11_apart 13 = .ok (.ireturn, 1) := by decide +kernel
theorem dX11_apart_14 : decode cX11_apart 14 = .ok (.aload_n 0, 1) := by decide +kernel
theorem dX11_apart_15 : decode cX11_apart 15 = .ok (.invokevirtual 126, 3) := by decide +kernel
theorem dX11_apart_18 : decode cX11_apart 18 = .ok (.istore_n 2, 1) := by decide +kernel
theorem dX11_apart_19 : decode cX11_apart 19 = .ok (.iload_n 2, 1) := by decide +kernel
theorem dX11_apart_20 : decode cX11_apart 20 = .ok (.ifCond .ne 6, 3) := by decide +kernel
theorem dX11_apart_23 : decode cX11_apart 23 = .ok (.bipush (-4), 2) := by decide +kernel
theorem dX11_apart_25 : decode cX11_apart 25 = .ok (.ireturn, 1) := by decide +kernel
theorem dX11_apart_26 : decode cX11_apart 26 = .ok (.aload_n 0, 1) := by decide +kernel
theorem dX11_apart_27 : decode cX11_apart 27 = .ok (.iload_n 1, 1) := by decide +kernel
theorem dX11_apart_28 : decode cX11_apart 28 = .ok (.iconst 0, 1) := by decide +kernel
theorem dX11_apart_29 : decode cX11_apart 29 = .ok (.invokevirtual 122, 3) := by decide +kernel
theorem dX11_apart_32 : decode cX11_apart 32 = .ok (.iconst 0, 1) := by decide +kernel
theorem dX11_apart_33 : decode cX11_apart 33 = .ok (.istore_n 3, 1) := by decide +kernel
theorem dX11_apart_34 : decode cX11_apart 34 = .ok (.iconst 0, 1) := by decide +kernel
theorem dX11_apart_35 : decode cX11_apart 35 = .ok (.istore 4, 2) := by decide +kernel
theorem dX11_apart_37 : decode cX11_apart 37 = .ok (.iconst 0, 1) := by decide +kernel
theorem dX11_apart_38 : decode cX11_apart 38 = .ok (.istore 5, 2) := by decide +kernel
theorem dX11_apart_40 : decode cX11_apart 40 = .ok (.iconst 0, 1) := by decide +kernel
theorem dX11_apart_41 : decode cX11_apart 41 = .ok (.istore 6, 2) := by decide +kernel
theorem dX11_apart_43 : decode cX11_apart 43 = .ok (.iload 6, 2) := by decide +kernel
theorem dX11_apart_45 : decode cX11_apart 45 = .ok (.aload_n 0, 1) := by decide +kernel
theorem dX11_apart_46 : decode cX11_apart 46 = .ok (.invokevirtual 82, 3) := by decide +kernel
theorem dX11_apart_49 : decode cX11_apart 49 = .ok (.if_icmp .ge 76, 3) := by decide +kernel
theorem dX11_apart_52 : decode cX11_apart 52 = .ok (.iload_n 2, 1) := by decide +kernel
theorem dX11_apart_53 : decode cX11_apart 53 = .ok (.iload 6, 2) := by decide +kernel
theorem dX11_apart_55 : decode cX11_apart 55 = .ok (.ishr, 1) := by decide +kernel
theorem dX11_apart_56 : decode cX11_apart 56 = .ok (.iconst 1, 1) := by decide +kernel
theorem dX11_apart_57 : decode cX11_apart 57 = .ok (.iand, 1) := by decide +kernel
theorem dX11_apart_58 : decode cX11_apart 58 = .ok (.iconst 1, 1) := by decide +kernel
theorem dX11_apart_59 : decode cX11_apart 59 = .ok (.if_icmp .ne 60, 3) := by decide +kernel
theorem dX11_apart_62 : decode cX11_apart 62 = .ok (.aload_n 0, 1) := by decide +kernel
theorem dX11_apart_63 : decode cX11_apart 63 = .ok (.getfield 17, 3) := by decide +kernel
theorem dX11_apart_66 : decode cX11_apart 66 = .ok (.bipush 8, 2) := by decide +kernel
theorem dX11_apart_68 : decode cX11_apart 68 = .ok (.iload_n 1, 1) := by decide +kernel
theorem dX11_apart_69 : decode cX11_apart 69 = .ok (.imul, 1) := by decide +kernel
theorem dX11_apart_70 : decode cX11_apart 70 = .ok (.iload 6, 2) := by decide +kernel
theorem dX11_apart_72 : decode cX11_apart 72 = .ok (.iadd, 1) := by decide +kernel
theorem dX11_apart_73 : decode cX11_apart 73 = .ok (.iaload, 1) := by decide +kernel
theorem dX11_apart_74 : decode cX11_apart 74 = .ok (.istore 7, 2) := by decide +kernel
theorem dX11_apart_76 : decode cX11_apart 76 = .ok (.iload_n 3, 1) := by decide +kernel
theorem dX11_apart_77 : decode cX11_apart 77 = .ok (.ifCond .eq 10, 3) := by decide +kernel
theorem dX11_apart_80 : decode cX11_apart 80 = .ok (.iload 7, 2) := by decide +kernel
theorem dX11_apart_82 : decode cX11_apart 82 = .ok (.iload 4, 2) := by decide +kernel
theorem dX11_apart_84 : decode cX11_apart 84 = .ok (.if_icmp .ge 8, 3) := by decide +kernel
theorem dX11_apart_87 : decode cX11_apart 87 = .ok (.iload 7, 2) := by decide +kernel
theorem dX11_apart_89 : decode cX11_apart 89 = .ok (.goto 5, 3) := by decide +kernel
theorem dX11_apart_92 : decode cX11_apart 92 = .ok (.iload 4, 2) := by decide +kernel
theorem dX11_apart_94 : decode cX11_apart 94 = .ok (.istore 4, 2) := by decide +kernel
theorem dX11_apart_96 : decode cX11_apart 96 = .ok (.iload_n 3, 1) := by decide +kernel
theorem dX11_apart_97 : decode cX11_apart 97 = .ok (.ifCond .eq 10, 3) := by decide +kernel
theorem dX11_apart_100 : decode cX11_apart 100 = .ok (.iload 7, 2) := by decide +kernel
theorem dX11_apart_102 : decode cX11_apart 102 = .ok (.iload 5, 2) := by decide +kernel
theorem dX11_apart_104 : decode cX11_apart 104 = .ok (.if_icmp .le 8, 3) := by decide +kernel
theorem dX11_apart_107 : decode cX11_apart 107 = .ok (.iload 7, 2) := by decide +kernel
theorem dX11_apart_109 : decode cX11_apart 109 = .ok (.goto 5, 3) := by decide +kernel
theorem dX11_apart_112 : decode cX11_apart 112 = .ok (.iload 5, 2) := by decide +kernel
theorem dX11_apart_114 : decode cX11_apart 114 = .ok (.istore 5, 2) := by decide +kernel
theorem dX11_apart_116 : decode cX11_apart 116 = .ok (.iinc 3 1, 3) := by decide +kernel
theorem dX11_apart_119 : decode cX11_apart 119 = .ok (.iinc 6 1, 3) := by decide +kernel
theorem dX11_apart_122 : decode cX11_apart 122 = .ok (.goto (-79), 3) := by decide +kernel
theorem dX11_apart_125 : decode cX11_apart 125 = .ok (.iload 5, 2) := by decide +kernel
theorem dX11_apart_127 : decode cX11_apart 127 = .ok (.iload 4, 2) := by decide +kernel
theorem dX11_apart_129 : decode cX11_apart 129 = .ok (.isub, 1) := by decide +kernel
theorem dX11_apart_130 : decode cX11_apart 130 = .ok (.ireturn, 1) := by decide +kernel
theorem dX11_count_0 : decode cX11_count 0 = .ok (.iconst 0, 1) := by decide +kernel
theorem dX11_count_1 : decode cX11_count 1 = .ok (.istore_n 2, 1) := by decide +kernel
theorem dX11_count_2 : decode cX11_count 2 = .ok (.bipush 64, 2) := by decide +kernel
theorem dX11_count_4 : decode cX11_count 4 = .ok (.istore_n 3, 1) := by decide +kernel
theorem dX11_count_5 : decode cX11_count 5 = .ok (.iload_n 3, 1) := by decide +kernel
theorem dX11_count_6 : decode cX11_count 6 = .ok (.sipush 128, 3) := by decide +kernel
theorem dX11_count_9 : decode cX11_count 9 = .ok (.if_icmp .ge 26, 3) := by decide +kernel
theorem dX11_count_12 : decode cX11_count 12 = .ok (.iload_n 2, 1) := by decide +kernel
theorem dX11_count_13 : decode cX11_count 13 = .ok (.aload_n 0, 1) := by decide +kernel
theorem dX11_count_14 : decode cX11_count 14 = .ok (.getfield 7, 3) := by decide +kernel
theorem dX11_count_17 : decode cX11_count 17 = .ok (.iload_n 3, 1) := by decide +kernel
theorem dX11_count_18 : decode cX11_count 18 = .ok (.iaload, 1) := by decide +kernel
theorem dX11_count_19 : decode cX11_count 19 = .ok (.ifCond .le 7, 3) := by decide +kernel
theorem dX11_count_22 : decode cX11_count 22 = .ok (.iconst 1, 1) := by decide +kernel
theorem dX11_count_23 : decode cX11_count 23 = .ok (.goto 4, 3) := by decide +kernel
theorem dX11_count_26 : decode cX11_count 26 = .ok (.iconst 0, 1) := by decide +kernel
theorem dX11_count_27 : decode cX11_count 27 = .ok (.iadd, 1) := by decide +kernel
theorem dX11_count_28 : decode cX11_count 28 = .ok (.istore_n 2, 1) := by decide +kernel
theorem dX11_count_29 : decode cX11_count 29 = .ok (.iinc 3 1, 3) := by decide +kernel
theorem dX11_count_32 : decode cX11_count 32 = .ok (.goto (-27), 3) := by decide +kernel
theorem dX11_count_35 : decode cX11_count 35 = .ok (.iconst 0, 1) := by decide +kernel
theorem dX11_count_36 : decode cX11_count 36 = .ok (.istore_n 3, 1) := by decide +kernel
theorem dX11_count_37 : decode cX11_count 37 = .ok (.iconst 0, 1) := by decide +kernel
theorem dX11_count_38 : decode cX11_count 38 = .ok (.istore 4, 2) := by decide +kernel
theorem dX11_count_40 : decode cX11_count 40 = .ok (.iload 4, 2) := by decide +kernel
theorem dX11_count_42 : decode cX11_count 42 = .ok (.aload_n 0, 1) := by decide +kernel
theorem dX11_count_43 : decode cX11_count 43 = .ok (.getfield 7, 3) := by decide +kernel
theorem dX11_count_46 : decode cX11_count 46 = .ok (.sipush 130, 3) := by decide +kernel
theorem dX11_count_49 : decode cX11_count 49 = .ok (.iaload, 1) := by decide +kernel
theorem dX11_count_50 : decode cX11_count 50 = .ok (.if_icmp .ge 33, 3) := by decide +kernel
theorem dX11_count_53 : decode cX11_count 53 = .ok (.iload_n 3, 1) := by decide +kernel
theorem dX11_count_54 : decode cX11_count 54 = .ok (.aload_n 0, 1) := by decide +kernel
theorem dX11_count_55 : decode cX11_count 55 = .ok (.getfield 7, 3) := by decide +kernel
theorem dX11_count_58 : decode cX11_count 58 = .ok (.sipush 136, 3) := by decide +kernel
theorem dX11_count_61 : decode cX11_count 61 = .ok (.iload 4, 2) := by decide +kernel
theorem dX11_count_63 : decode cX11_count 63 = .ok (.iadd, 1) := by decide +kernel
theorem dX11_count_64 : decode cX11_count 64 = .ok (.iaload, 1) := by decide +kernel
theorem dX11_count_65 : decode cX11_count 65 = .ok (.bipush 10, 2) := by decide +kernel
theorem dX11_count_67 : decode cX11_count 67 = .ok (.if_icmp .lt 7, 3) := by decide +kernel
theorem dX11_count_70 : decode cX11_count 70 = .ok (.iconst 1, 1) := by decide +kernel
theorem dX11_count_71 : decode cX11_count 71 = .ok (.goto 4, 3) := by decide +kernel
theorem dX11_count_74 : decode cX11_count 74 = .ok (.iconst 0, 1) := by decide +kernel
theorem dX11_count_75 : decode cX11_count 75 = .ok (.iadd, 1) := by decide +kernel
theorem dX11_count_76 : decode cX11_count 76 = .ok (.istore_n 3, 1) := by decide +kernel
theorem dX11_count_77 : decode cX11_count 77 = .ok (.iinc 4 1, 3) := by decide +kernel
theorem dX11_count_80 : decode cX11_count 80 = .ok (.goto (-40), 3) := by decide +kernel
theorem dX11_count_83 : decode cX11_count 83 = .ok (.iload_n 1, 1) := by decide +kernel
theorem dX11_count_84 : decode cX11_count 84 = .ok (.tableswitch 75 0 5 #[40, 45, 53, 55, 64, 66], 40) := by decide +kernel
theorem dX11_count_124 : decode cX11_count 124 = .ok (.aload_n 0, 1) := by decide +kernel
theorem dX11_count_125 : decode cX11_count 125 = .ok (.invokevirtual 82, 3) := by decide +kernel
theorem dX11_count_128 : decode cX11_count 128 = .ok (.ireturn, 1) := by decide +kernel
theorem dX11_count_129 : decode cX11_count 129 = .ok (.aload_n 0, 1) := by decide +kernel
theorem dX11_count_130 : decode cX11_count 130 = .ok (.invokevirtual 126, 3) := by decide +kernel
theorem dX11_count_133 : decode cX11_count 133 = .ok (.invokestatic 129, 3) := by decide +kernel
theorem dX11_count_136 : decode cX11_count 136 = .ok (.ireturn, 1) := by decide +kernel
theorem dX11_count_137 : decode cX11_count 137 = .ok (.iload_n 2, 1) := by decide +kernel
theorem dX11_count_138 : decode cX11_count 138 = .ok (.ireturn, 1) := by decide +kernel
theorem dX11_count_139 : decode cX11_count 139 = .ok (.aload_n 0, 1) := by decide +kernel
theorem dX11_count_140 : decode cX11_count 140 = .ok (.getfield 7, 3) := by decide +kernel
theorem dX11_count_143 : decode cX11_count 143 = .ok (.sipush 130, 3) := by decide +kernel
theorem dX11_count_146 : decode cX11_count 146 = .ok (.iaload, 1) := by decide +kernel
theorem dX11_count_147 : decode cX11_count 147 = .ok (.ireturn, 1) := by decide +kernel
theorem dX11_count_148 : decode cX11_count 148 = .ok (.iload_n 3, 1) := by decide +kernel
theorem dX11_count_149 : decode cX11_count 149 = .ok (.ireturn, 1) := by decide +kernel
theorem dX11_count_150 : decode cX11_count 150 = .ok (.aload_n 0, 1) := by decide +kernel
theorem dX11_count_151 : decode cX11_count 151 = .ok (.getfield 7, 3) := by decide +kernel
theorem dX11_count_154 : decode cX11_count 154 = .ok (.sipush 132, 3) := by decide +kernel
theorem dX11_count_157 : decode cX11_count 157 = .ok (.iaload, 1) := by decide +kernel
theorem dX11_count_158 : decode cX11_count 158 = .ok (.ireturn, 1) := by decide +kernel
theorem dX11_count_159 : decode cX11_count 159 = .ok (.iconst (-1), 1) := by decide +kernel
theorem dX11_count_160 : decode cX11_count 160 = .ok (.ireturn, 1) := by decide +kernel
theorem dX11_hold_0 : decode cX11_hold 0 = .ok (.aload_n 0, 1) := by decide +kernel
theorem dX11_hold_1 : decode cX11_hold 1 = .ok (.iload_n 1, 1) := by decide +kernel
theorem dX11_hold_2 : decode cX11_hold 2 = .ok (.invokevirtual 86, 3) := by decide +kernel
theorem dX11_hold_5 : decode cX11_hold 5 = .ok (.ifCond .eq 13, 3) := by decide +kernel
theorem dX11_hold_8 : decode cX11_hold 8 = .ok (.iload_n 2, 1) := by decide +kernel
theorem dX11_hold_9 : decode cX11_hold 9 = .ok (.i2l, 1) := by decide +kernel
theorem dX11_hold_10 : decode cX11_hold 10 = .ok (.lconst 0, 1) := by decide +kernel
theorem dX11_hold_11 : decode cX11_hold 11 = .ok (.lconst 1, 1) := by decide +kernel
theorem dX11_hold_12 : decode cX11_hold 12 = .ok (.invokestatic 72, 3) := by decide +kernel
theorem dX11_hold_15 : decode cX11_hold 15 = .ok (.ifCond .ne 5, 3) := by decide +kernel
theorem dX11_hold_18 : decode cX11_hold 18 = .ok (.iconst (-1), 1) := by decide +kernel
theorem dX11_hold_19 : decode cX11_hold 19 = .ok (.ireturn, 1) := by decide +kernel
theorem dX11_hold_20 : decode cX11_hold 20 = .ok (.aload_n 0, 1) := by decide +kernel
theorem dX11_hold_21 : decode cX11_hold 21 = .ok (.iload_n 1, 1) := by decide +kernel
theorem dX11_hold_22 : decode cX11_hold 22 = .ok (.invokevirtual 137, 3) := by decide +kernel
theorem dX11_hold_25 : decode cX11_hold 25 = .ok (.ifCond .eq 6, 3) := by decide +kernel
theorem dX11_hold_28 : decode cX11_hold 28 = .ok (.bipush (-4), 2) := by decide +kernel
theorem dX11_hold_30 : decode cX11_hold 30 = .ok (.ireturn, 1) := by decide +kernel
theorem dX11_hold_31 : decode cX11_hold 31 = .ok (.iconst 0, 1) := by decide +kernel
theorem dX11_hold_32 : decode cX11_hold 32 = .ok (.istore_n 3, 1) := by decide +kernel
theorem dX11_hold_33 : decode cX11_hold 33 = .ok (.iconst 0, 1) := by decide +kernel
theorem dX11_hold_34 : decode cX11_hold 34 = .ok (.istore 4, 2) := by decide +kernel
theorem dX11_hold_36 : decode cX11_hold 36 = .ok (.iconst 0, 1) := by decide +kernel
theorem dX11_hold_37 : decode cX11_hold 37 = .ok (.istore 5, 2) := by decide +kernel
theorem dX11_hold_39 : decode cX11_hold 39 = .ok (.iconst 0, 1) := by decide +kernel
theorem dX11_hold_40 : decode cX11_hold 40 = .ok (.istore 6, 2) := by decide +kernel
theorem dX11_hold_42 : decode cX11_hold 42 = .ok (.iload 6, 2) := by decide +kernel
theorem dX11_hold_44 : decode cX11_hold 44 = .ok (.aload_n 0, 1) := by decide +kernel
theorem dX11_hold_45 : decode cX11_hold 45 = .ok (.invokevirtual 82, 3) := by decide +kernel
theorem dX11_hold_48 : decode cX11_hold 48 = .ok (.if_icmp .ge 64, 3) := by decide +kernel
theorem dX11_hold_51 : decode cX11_hold 51 = .ok (.iload 6, 2) := by decide +kernel
theorem dX11_hold_53 : decode cX11_hold 53 = .ok (.iload_n 1, 1) := by decide +kernel
theorem dX11_hold_54 : decode cX11_hold 54 = .ok (.if_icmp .eq 52, 3) := by decide +kernel
theorem dX11_hold_57 : decode cX11_hold 57 = .ok (.aload_n 0, 1) := by decide +kernel
theorem dX11_hold_58 : decode cX11_hold 58 = .ok (.iload 6, 2) := by decide +kernel
theorem dX11_hold_60 : decode cX11_hold 60 = .ok (.invokevirtual 111, 3) := by decide +kernel
theorem dX11_hold_63 : decode cX11_hold 63 = .ok (.ifCond .eq 43, 3) := by decide +kernel
theorem dX11_hold_66 : decode cX11_hold 66 = .ok (.aload_n 0, 1) := by decide +kernel
theorem dX11_hold_67 : decode cX11_hold 67 = .ok (.iload 6, 2) := by decide +kernel
theorem dX11_hold_69 : decode cX11_hold 69 = .ok (.iload_n 1, 1) := by decide +kernel
theorem dX11_hold_70 : decode cX11_hold 70 = .ok (.invokevirtual 96, 3) := by decide +kernel
theorem dX11_hold_73 : decode cX11_hold 73 = .ok (.istore 7, 2) := by decide +kernel
theorem dX11_hold_75 : decode cX11_hold 75 = .ok (.iload 7, 2) := by decide +kernel
theorem dX11_hold_77 : decode cX11_hold 77 = .ok (.ifCond .ne 6, 3) := by decide +kernel
theorem dX11_hold_80 : decode cX11_hold 80 = .ok (.bipush (-4), 2) := by decide +kernel
theorem dX11_hold_82 : decode cX11_hold 82 = .ok (.ireturn, 1) := by decide +kernel
theorem dX11_hold_83 : decode cX11_hold 83 = .ok (.iload 7, 2) := by decide +kernel
theorem dX11_hold_85 : decode cX11_hold 85 = .ok (.iload_n 3, 1) := by decide +kernel
theorem dX11_hold_86 : decode cX11_hold 86 = .ok (.if_icmp .le 8, 3) := by decide +kernel
theorem dX11_hold_89 : decode cX11_hold 89 = .ok (.iload 7, 2) := by decide +kernel
theorem dX11_hold_91 : decode cX11_hold 91 = .ok (.goto 4, 3) := by decide +kernel
theorem dX11_hold_94 : decode cX11_hold 94 = .ok (.iload_n 3, 1) := by decide +kernel
theorem dX11_hold_95 : decode cX11_hold 95 = .ok (.istore_n 3, 1) := by decide +kernel
theorem dX11_hold_96 : decode cX11_hold 96 = .ok (.iload 4, 2) := by decide +kernel
theorem dX11_hold_98 : decode cX11_hold 98 = .ok (.iload 7, 2) := by decide +kernel
theorem dX11_hold_100 : decode cX11_hold 100 = .ok (.iadd, 1) := by decide +kernel
theorem dX11_hold_101 : decode cX11_hold 101 = .ok (.istore 4, 2) := by decide +kernel
theorem dX11_hold_103 : decode cX11_hold 103 = .ok (.iinc 5 1, 3) := by decide +kernel
theorem dX11_hold_106 : decode cX11_hold 106 = .ok (.iinc 6 1, 3) := by decide +kernel
theorem dX11_hold_109 : decode cX11_hold 109 = .ok (.goto (-67), 3) := by decide +kernel
theorem dX11_hold_112 : decode cX11_hold 112 = .ok (.iload_n 2, 1) := by decide +kernel
theorem dX11_hold_113 : decode cX11_hold 113 = .ok (.ifCond .ne 7, 3) := by decide +kernel
theorem dX11_hold_116 : decode cX11_hold 116 = .ok (.iload_n 3, 1) := by decide +kernel
theorem dX11_hold_117 : decode cX11_hold 117 = .ok (.goto 10, 3) := by decide +kernel
theorem dX11_hold_120 : decode cX11_hold 120 = .ok (.iload 5, 2) := by decide +kernel
theorem dX11_hold_122 : decode cX11_hold 122 = .ok (.iload_n 3, 1) := by decide +kernel
theorem dX11_hold_123 : decode cX11_hold 123 = .ok (.imul, 1) := by decide +kernel
theorem dX11_hold_124 : decode cX11_hold 124 = .ok (.iload 4, 2) := by decide +kernel
theorem dX11_hold_126 : decode cX11_hold 126 = .ok (.isub, 1) := by decide +kernel
theorem dX11_hold_127 : decode cX11_hold 127 = .ok (.ireturn, 1) := by decide +kernel
theorem dX11_bars_0 : decode cX11_bars 0 = .ok (.iconst 0, 1) := by decide +kernel
theorem dX11_bars_1 : decode cX11_bars 1 = .ok (.istore_n 3, 1) := by decide +kernel
theorem dX11_bars_2 : decode cX11_bars 2 = .ok (.iconst 0, 1) := by decide +kernel
theorem dX11_bars_3 : decode cX11_bars 3 = .ok (.istore 4, 2) := by decide +kernel
theorem dX11_bars_5 : decode cX11_bars 5 = .ok (.iload 4, 2) := by decide +kernel
theorem dX11_bars_7 : decode cX11_bars 7 = .ok (.aload_n 0, 1) := by decide +kernel
theorem dX11_bars_8 : decode cX11_bars 8 = .ok (.invokevirtual 82, 3) := by decide +kernel
theorem dX11_bars_11 : decode cX11_bars 11 = .ok (.if_icmp .ge 270, 3) := by decide +kernel
theorem dX11_bars_14 : decode cX11_bars 14 = .ok (.iload_n 2, 1) := by decide +kernel
theorem dX11_bars_15 : decode cX11_bars 15 = .ok (.ifCond .eq 266, 3) := by decide +kernel
theorem dX11_bars_18 : decode cX11_bars 18 = .ok (.iload_n 1, 1) := by decide +kernel
theorem dX11_bars_19 : decode cX11_bars 19 = .ok (.iload 4, 2) := by decide +kernel
theorem dX11_bars_21 : decode cX11_bars 21 = .ok (.ishr, 1) := by decide +kernel
theorem dX11_bars_22 : decode cX11_bars 22 = .ok (.iconst 1, 1) := by decide +kernel
theorem dX11_bars_23 : decode cX11_bars 23 = .ok (.iand, 1) := by decide +kernel
theorem dX11_bars_24 : decode cX11_bars 24 = .ok (.iconst 1, 1) := by decide +kernel
theorem dX11_bars_25 : decode cX11_bars 25 = .ok (.if_icmp .ne 250, 3) := by decide +kernel
theorem dX11_bars_28 : decode cX11_bars 28 = .ok (.aload_n 0, 1) := by decide +kernel
theorem dX11_bars_29 : decode cX11_bars 29 = .ok (.iload 4, 2) := by decide +kernel
theorem dX11_bars_31 : decode cX11_bars 31 = .ok (.invokevirtual 137, 3) := by decide +kernel
theorem dX11_bars_34 : decode cX11_bars 34 = .ok (.ifCond .ne 7, 3) := by decide +kernel
theorem dX11_bars_37 : decode cX11_bars 37 = .ok (.iconst 1, 1) := by decide +kernel
theorem dX11_bars_38 : decode cX11_bars 38 = .ok (.goto 4, 3) := by decide +kernel
theorem dX11_bars_41 : decode cX11_bars 41 = .ok (.iconst 0, 1) := by decide +kernel
theorem dX11_bars_42 : decode cX11_bars 42 = .ok (.istore 5, 2) := by decide +kernel
theorem dX11_bars_44 : decode cX11_bars 44 = .ok (.sipush 1000, 3) := by decide +kernel
theorem dX11_bars_47 : decode cX11_bars 47 = .ok (.istore 6, 2) := by decide +kernel
theorem dX11_bars_49 : decode cX11_bars 49 = .ok (.iconst 0, 1) := by decide +kernel
theorem dX11_bars_50 : decode cX11_bars 50 = .ok (.istore 7, 2) := by decide +kernel
theorem dX11_bars_52 : decode cX11_bars 52 = .ok (.iload 7, 2) := by decide +kernel
theorem dX11_bars_54 : decode cX11_bars 54 = .ok (.aload_n 0, 1) := by decide +kernel
theorem dX11_bars_55 : decode cX11_bars 55 = .ok (.invokevirtual 82, 3) := by decide +kernel
theorem dX11_bars_58 : decode cX11_bars 58 = .ok (.if_icmp .ge 87, 3) := by decide +kernel
theorem dX11_bars_61 : decode cX11_bars 61 = .ok (.iload_n 2, 1) := by decide +kernel
theorem dX11_bars_62 : decode cX11_bars 62 = .ok (.iload 7, 2) := by decide +kernel
theorem dX11_bars_64 : decode cX11_bars 64 = .ok (.ishr, 1) := by decide +kernel
theorem dX11_bars_65 : decode cX11_bars 65 = .ok (.iconst 1, 1) := by decide +kernel
theorem dX11_bars_66 : decode cX11_bars 66 = .ok (.iand, 1) := by decide +kernel
theorem dX11_bars_67 : decode cX11_bars 67 = .ok (.iconst 1, 1) := by decide +kernel
theorem dX11_bars_68 : decode cX11_bars 68 = .ok (.if_icmp .ne 7, 3) := by decide +kernel
theorem dX11_bars_71 : decode cX11_bars 71 = .ok (.iconst 1, 1) := by decide +kernel
theorem dX11_bars_72 : decode cX11_bars 72 = .ok (.goto 4, 3) := by decide +kernel
theorem dX11_bars_75 : decode cX11_bars 75 = .ok (.iconst 0, 1) := by decide +kernel
theorem dX11_bars_76 : decode cX11_bars 76 = .ok (.istore 8, 2) := by decide +kernel
theorem dX11_bars_78 : decode cX11_bars 78 = .ok (.iload 5, 2) := by decide +kernel
theorem dX11_bars_80 : decode cX11_bars 80 = .ok (.ifCond .eq 23, 3) := by decide +kernel
theorem dX11_bars_83 : decode cX11_bars 83 = .ok (.iload 8, 2) := by decide +kernel
theorem dX11_bars_85 : decode cX11_bars 85 = .ok (.ifCond .eq 14, 3) := by decide +kernel
theorem dX11_bars_88 : decode cX11_bars 88 = .ok (.aload_n 0, 1) := by decide +kernel
theorem dX11_bars_89 : decode cX11_bars 89 = .ok (.iload 7, 2) := by decide +kernel
theorem dX11_bars_91 : decode cX11_bars 91 = .ok (.iload 4, 2) := by decide +kernel
theorem dX11_bars_93 : decode cX11_bars 93 = .ok (.invokevirtual 96, 3) := by decide +kernel
theorem dX11_bars_96 : decode cX11_bars 96 = .ok (.ifCond .le 7, 3) := by decide +kernel
theorem dX11_bars_99 : decode cX11_bars 99 = .ok (.iconst 1, 1) := by decide +kernel
theorem dX11_bars_100 : decode cX11_bars 100 = .ok (.goto 4, 3) := by decide +kernel
theorem dX11_bars_103 : decode cX11_bars 103 = .ok (.iconst 0, 1) := by decide +kernel
theorem dX11_bars_104 : decode cX11_bars 104 = .ok (.istore 5, 2) := by decide +kernel
theorem dX11_bars_106 : decode cX11_bars 106 = .ok (.iload 8, 2) := by decide +kernel
theorem dX11_bars_108 : decode cX11_bars 108 = .ok (.ifCond .eq 27, 3) := by decide +kernel
theorem dX11_bars_111 : decode cX11_bars 111 = .ok (.aload_n 0, 1) := by decide +kernel
theorem dX11_bars_112 : decode cX11_bars 112 = .ok (.iload 7, 2) := by decide +kernel
theorem dX11_bars_114 : decode cX11_bars 114 = .ok (.iload 4, 2) := by decide +kernel
theorem dX11_bars_116 : decode cX11_bars 116 = .ok (.invokevirtual 96, 3) := by decide +kernel
theorem dX11_bars_119 : decode cX11_bars 119 = .ok (.iload 6, 2) := by decide +kernel
theorem dX11_bars_121 : decode cX11_bars 121 = .ok (.if_icmp .ge 14, 3) := by decide +kernel
theorem dX11_bars_124 : decode cX11_bars 124 = .ok (.aload_n 0, 1) := by decide +kernel
theorem dX11_bars_125 : decode cX11_bars 125 = .ok (.iload 7, 2) := by decide +kernel
theorem dX11_bars_127 : decode cX11_bars 127 = .ok (.iload 4, 2) := by decide +kernel
theorem dX11_bars_129 : decode cX11_bars 129 = .ok (.invokevirtual 96, 3) := by decide +kernel
theorem dX11_bars_132 : decode cX11_bars 132 = .ok (.goto 5, 3) := by decide +kernel
theorem dX11_bars_135 : decode cX11_bars 135 = .ok (.iload 6, 2) := by decide +kernel
theorem dX11_bars_137 : decode cX11_bars 137 = .ok (.istore 6, 2) := by decide +kernel
theorem dX11_bars_139 : decode cX11_bars 139 = .ok (.iinc 7 1, 3) := by decide +kernel
theorem dX11_bars_142 : decode cX11_bars 142 = .ok (.goto (-90), 3) := by decide +kernel
theorem dX11_bars_145 : decode cX11_bars 145 = .ok (.sipush 5000, 3) := by decide +kernel
theorem dX11_bars_148 : decode cX11_bars 148 = .ok (.istore 7, 2) := by decide +kernel
theorem dX11_bars_150 : decode cX11_bars 150 = .ok (.iconst 0, 1) := by decide +kernel
theorem dX11_bars_151 : decode cX11_bars 151 = .ok (.istore 8, 2) := by decide +kernel
theorem dX11_bars_153 : decode cX11_bars 153 = .ok (.iload 8, 2) := by decide +kernel
theorem dX11_bars_155 : decode cX11_bars 155 = .ok (.aload_n 0, 1) := by decide +kernel
theorem dX11_bars_156 : decode cX11_bars 156 = .ok (.invokevirtual 82, 3) := by decide +kernel
theorem dX11_bars_159 : decode cX11_bars 159 = .ok (.if_icmp .ge 105, 3) := by decide +kernel
theorem dX11_bars_162 : decode cX11_bars 162 = .ok (.iload 5, 2) := by decide +kernel
theorem dX11_bars_164 : decode cX11_bars 164 = .ok (.ifCond .eq 100, 3) := by decide +kernel
theorem dX11_bars_167 : decode cX11_bars 167 = .ok (.iload_n 2, 1) := by decide +kernel
theorem dX11_bars_168 : decode cX11_bars 168 = .ok (.iload 8, 2) := by decide +kernel
theorem dX11_bars_170 : decode cX11_bars 170 = .ok (.ishr, 1) := by decide +kernel
theorem dX11_bars_171 : decode cX11_bars 171 = .ok (.iconst 1, 1) := by decide +kernel
theorem dX11_bars_172 : decode cX11_bars 172 = .ok (.iand, 1) := by decide +kernel
theorem dX11_bars_173 : decode cX11_bars 173 = .ok (.iconst 1, 1) := by decide +kernel
theorem dX11_bars_174 : decode cX11_bars 174 = .ok (.if_icmp .ne 84, 3) := by decide +kernel
theorem dX11_bars_177 : decode cX11_bars 177 = .ok (.aload_n 0, 1) := by decide +kernel
theorem dX11_bars_178 : decode cX11_bars 178 = .ok (.getfield 20, 3) := by decide +kernel
theorem dX11_bars_181 : decode cX11_bars 181 = .ok (.iload 8, 2) := by decide +kernel
theorem dX11_bars_183 : decode cX11_bars 183 = .ok (.iload_n 3, 1) := by decide +kernel
theorem dX11_bars_184 : decode cX11_bars 184 = .ok (.ifCond .ne 17, 3) := by decide +kernel
theorem dX11_bars_187 : decode cX11_bars 187 = .ok (.aload_n 0, 1) := by decide +kernel
theorem dX11_bars_188 : decode cX11_bars 188 = .ok (.iload 8, 2) := by decide +kernel
theorem dX11_bars_190 : decode cX11_bars 190 = .ok (.iload 4, 2) := by decide +kernel
theorem dX11_bars_192 : decode cX11_bars 192 = .ok (.invokevirtual 96, 3) := by decide +kernel
theorem dX11_bars_195 : decode cX11_bars 195 = .ok (.iload 6, 2) := by decide +kernel
theorem dX11_bars_197 : decode cX11_bars 197 = .ok (.isub, 1) := by decide +kernel
theorem dX11_bars_198 : decode cX11_bars 198 = .ok (.goto 10, 3) := by decide +kernel
theorem dX11_bars_201 : decode cX11_bars 201 = .ok (.aload_n 0, 1) := by decide +kernel
theorem dX11_bars_202 : decode cX11_bars 202 = .ok (.getfield 20, 3) := by decide +kernel
theorem dX11_bars_205 : decode cX11_bars 205 = .ok (.iload 8, 2) := by decide +kernel
theorem dX11_bars_207 : decode cX11_bars 207 = .ok (.iaload, 1) := by decide +kernel
theorem dX11_bars_208 : decode cX11_bars 208 = .ok (.iastore, 1) := by decide +kernel
theorem dX11_bars_209 : decode cX11_bars 209 = .ok (.aload_n 0, 1) := by decide +kernel
theorem dX11_bars_210 : decode cX11_bars 210 = .ok (.iload 8, 2) := by decide +kernel
theorem dX11_bars_212 : decode cX11_bars 212 = .ok (.iload 4, 2) := by decide +kernel
theorem dX11_bars_214 : decode cX11_bars 214 = .ok (.invokevirtual 96, 3) := by decide +kernel
theorem dX11_bars_217 : decode cX11_bars 217 = .ok (.aload_n 0, 1) := by decide +kernel
theorem dX11_bars_218 : decode cX11_bars 218 = .ok (.getfield 20, 3) := by decide +kernel
theorem dX11_bars_221 : decode cX11_bars 221 = .ok (.iload 8, 2) := by decide +kernel
theorem dX11_bars_223 : decode cX11_bars 223 = .ok (.iaload, 1) := by decide +kernel
theorem dX11_bars_224 : decode cX11_bars 224 = .ok (.isub, 1) := by decide +kernel
theorem dX11_bars_225 : decode cX11_bars 225 = .ok (.istore 9, 2) := by decide +kernel
theorem dX11_bars_227 : decode cX11_bars 227 = .ok (.iload 7, 2) := by decide +kernel
theorem dX11_bars_229 : decode cX11_bars 229 = .ok (.sipush 5000, 3) := by decide +kernel
theorem dX11_bars_232 : decode cX11_bars 232 = .ok (.if_icmp .ne 8, 3) := by decide +kernel
theorem dX11_bars_235 : decode cX11_bars 235 = .ok (.iload 9, 2) := by decide +kernel
theorem dX11_bars_237 : decode cX11_bars 237 = .ok (.goto 5, 3) := by decide +kernel
theorem dX11_bars_240 : decode cX11_bars 240 = .ok (.iload 7, 2) := by decide +kernel
theorem dX11_bars_242 : decode cX11_bars 242 = .ok (.istore 7, 2) := by decide +kernel
theorem dX11_bars_244 : decode cX11_bars 244 = .ok (.iload 9, 2) := by decide +kernel
theorem dX11_bars_246 : decode cX11_bars 246 = .ok (.iload 7, 2) := by decide +kernel
theorem dX11_bars_248 : decode cX11_bars 248 = .ok (.if_icmp .ne 7, 3) := by decide +kernel
theorem dX11_bars_251 : decode cX11_bars 251 = .ok (.iconst 1, 1) := by decide +kernel
theorem dX11_bars_252 : decode cX11_bars 252 = .ok (.goto 4, 3) := by decide +kernel
theorem dX11_bars_255 : decode cX11_bars 255 = .ok (.iconst 0, 1) := by decide +kernel
theorem dX11_bars_256 : decode cX11_bars 256 = .ok (.istore 5, 2) := by decide +kernel
theorem dX11_bars_258 : decode cX11_bars 258 = .ok (.iinc 8 1, 3) := by decide +kernel
theorem dX11_bars_261 : decode cX11_bars 261 = .ok (.goto (-108), 3) := by decide +kernel
theorem dX11_bars_264 : decode cX11_bars 264 = .ok (.iload 5, 2) := by decide +kernel
theorem dX11_bars_266 : decode cX11_bars 266 = .ok (.ifCond .ne 6, 3) := by decide +kernel
theorem dX11_bars_269 : decode cX11_bars 269 = .ok (.iload 4, 2) := by decide +kernel
theorem dX11_bars_271 : decode cX11_bars 271 = .ok (.ireturn, 1) := by decide +kernel
theorem dX11_bars_272 : decode cX11_bars 272 = .ok (.iinc 3 1, 3) := by decide +kernel
theorem dX11_bars_275 : decode cX11_bars 275 = .ok (.iinc 4 1, 3) := by decide +kernel
theorem dX11_bars_278 : decode cX11_bars 278 = .ok (.goto (-273), 3) := by decide +kernel
theorem dX11_bars_281 : decode cX11_bars 281 = .ok (.bipush (-4), 2) := by decide +kernel
theorem dX11_bars_283 : decode cX11_bars 283 = .ok (.ireturn, 1) := by decide +kernel
theorem dX11_together_0 : decode cX11_together 0 = .ok (.iload_n 1, 1) := by decide +kernel
theorem dX11_together_1 : decode cX11_together 1 = .ok (.i2l, 1) := by decide +kernel
theorem dX11_together_2 : decode cX11_together 2 = .ok (.lconst 1, 1) := by decide +kernel
theorem dX11_together_3 : decode cX11_together 3 = .ok (.iconst 1, 1) := by decide +kernel
theorem dX11_together_4 : decode cX11_together 4 = .ok (.aload_n 0, 1) := by decide +kernel
theorem dX11_together_5 : decode cX11_together 5 = .ok (.invokevirtual 82, 3) := by decide +kernel
theorem dX11_together_8 : decode cX11_together 8 = .ok (.ishl, 1) := by decide +kernel
theorem dX11_together_9 : decode cX11_together 9 = .ok (.iconst 1, 1) := by decide +kernel
theorem dX11_together_10 : decode cX11_together 10 = .ok (.isub, 1) := by decide +kernel
theorem dX11_together_11 : decode cX11_together 11 = .ok (.i2l, 1) := by decide +kernel
theorem dX11_together_12 : decode cX11_together 12 = .ok (.invokestatic 72, 3) := by decide +kernel
theorem dX11_together_15 : decode cX11_together 15 = .ok (.ifCond .eq 29, 3) := by decide +kernel
theorem dX11_together_18 : decode cX11_together 18 = .ok (.iload_n 2, 1) := by decide +kernel
theorem dX11_together_19 : decode cX11_together 19 = .ok (.i2l, 1) := by decide +kernel
theorem dX11_together_20 : decode cX11_together 20 = .ok (.lconst 0, 1) := by decide +kernel
theorem dX11_together_21 : decode cX11_together 21 = .ok (.ldc2_w 140, 3) := by decide +kernel
theorem dX11_together_24 : decode cX11_together 24 = .ok (.invokestatic 72, 3) := by decide +kernel
theorem dX11_together_27 : decode cX11_together 27 = .ok (.ifCond .eq 17, 3) := by decide +kernel
theorem dX11_together_30 : decode cX11_together 30 = .ok (.iload_n 2, 1) := by decide +kernel
theorem dX11_together_31 : decode cX11_together 31 = .ok (.bipush 8, 2) := by decide +kernel
theorem dX11_together_33 : decode cX11_together 33 = .ok (.if_icmp .ge 13, 3) := by decide +kernel
theorem dX11_together_36 : decode cX11_together 36 = .ok (.aload_n 0, 1) := by decide +kernel
theorem dX11_together_37 : decode cX11_together 37 = .ok (.iload_n 2, 1) := by decide +kernel
theorem dX11_together_38 : decode cX11_together 38 = .ok (.invokevirtual 86, 3) := by decide +kernel
theorem dX11_together_41 : decode cX11_together 41 = .ok (.ifCond .ne 5, 3) := by decide +kernel
theorem dX11_together_44 : decode cX11_together 44 = .ok (.iconst (-1), 1) := by decide +kernel
theorem dX11_together_45 : decode cX11_together 45 = .ok (.ireturn, 1) := by decide +kernel
theorem dX11_together_46 : decode cX11_together 46 = .ok (.aload_n 0, 1) := by decide +kernel
theorem dX11_together_47 : decode cX11_together 47 = .ok (.invokevirtual 126, 3) := by decide +kernel
theorem dX11_together_50 : decode cX11_together 50 = .ok (.iload_n 1, 1) := by decide +kernel
theorem dX11_together_51 : decode cX11_together 51 = .ok (.iconst (-1), 1) := by decide +kernel
theorem dX11_together_52 : decode cX11_together 52 = .ok (.ixor, 1) := by decide +kernel
theorem dX11_together_53 : decode cX11_together 53 = .ok (.iand, 1) := by decide +kernel
theorem dX11_together_54 : decode cX11_together 54 = .ok (.istore_n 3, 1) := by decide +kernel
theorem dX11_together_55 : decode cX11_together 55 = .ok (.iload_n 2, 1) := by decide +kernel
theorem dX11_together_56 : decode cX11_together 56 = .ok (.bipush 8, 2) := by decide +kernel
theorem dX11_together_58 : decode cX11_together 58 = .ok (.if_icmp .ge 14, 3) := by decide +kernel
theorem dX11_together_61 : decode cX11_together 61 = .ok (.iload_n 3, 1) := by decide +kernel
theorem dX11_together_62 : decode cX11_together 62 = .ok (.iload_n 2, 1) := by decide +kernel
theorem dX11_together_63 : decode cX11_together 63 = .ok (.ishr, 1) := by decide +kernel
theorem dX11_together_64 : decode cX11_together 64 = .ok (.iconst 1, 1) := by decide +kernel
theorem dX11_together_65 : decode cX11_together 65 = .ok (.iand, 1) := by decide +kernel
theorem dX11_together_66 : decode cX11_together 66 = .ok (.ifCond .ne 6, 3) := by decide +kernel
theorem dX11_together_69 : decode cX11_together 69 = .ok (.bipush (-2), 2) := by decide +kernel
theorem dX11_together_71 : decode cX11_together 71 = .ok (.ireturn, 1) := by decide +kernel
theorem dX11_together_72 : decode cX11_together 72 = .ok (.aload_n 0, 1) := by decide +kernel
theorem dX11_together_73 : decode cX11_together 73 = .ok (.iload_n 1, 1) := by decide +kernel
theorem dX11_together_74 : decode cX11_together 74 = .ok (.iload_n 3, 1) := by decide +kernel
theorem dX11_together_75 : decode cX11_together 75 = .ok (.invokevirtual 142, 3) := by decide +kernel
theorem dX11_together_78 : decode cX11_together 78 = .ok (.istore 4, 2) := by decide +kernel
theorem dX11_together_80 : decode cX11_together 80 = .ok (.iload_n 2, 1) := by decide +kernel
theorem dX11_together_81 : decode cX11_together 81 = .ok (.bipush 8, 2) := by decide +kernel
theorem dX11_together_83 : decode cX11_together 83 = .ok (.if_icmp .ne 8, 3) := by decide +kernel
theorem dX11_together_86 : decode cX11_together 86 = .ok (.iload 4, 2) := by decide +kernel
theorem dX11_together_88 : decode cX11_together 88 = .ok (.goto 19, 3) := by decide +kernel
theorem dX11_together_91 : decode cX11_together 91 = .ok (.iload 4, 2) := by decide +kernel
theorem dX11_together_93 : decode cX11_together 93 = .ok (.ifCond .ge 12, 3) := by decide +kernel
theorem dX11_together_96 : decode cX11_together 96 = .ok (.aload_n 0, 1) := by decide +kernel
theorem dX11_together_97 : decode cX11_together 97 = .ok (.getfield 20, 3) := by decide +kernel
theorem dX11_together_100 : decode cX11_together 100 = .ok (.iload_n 2, 1) := by decide +kernel
theorem dX11_together_101 : decode cX11_together 101 = .ok (.iaload, 1) := by decide +kernel
theorem dX11_together_102 : decode cX11_together 102 = .ok (.goto 5, 3) := by decide +kernel
theorem dX11_together_105 : decode cX11_together 105 = .ok (.bipush (-4), 2) := by decide +kernel
theorem dX11_together_107 : decode cX11_together 107 = .ok (.ireturn, 1) := by decide +kernel
theorem dX11_type_0 : decode cX11_type 0 = .ok (.iload_n 3, 1) := by decide +kernel
theorem dX11_type_1 : decode cX11_type 1 = .ok (.i2l, 1) := by decide +kernel
theorem dX11_type_2 : decode cX11_type 2 = .ok (.lconst 1, 1) := by decide +kernel
theorem dX11_type_3 : decode cX11_type 3 = .ok (.ldc2_w 140, 3) := by decide +kernel
theorem dX11_type_6 : decode cX11_type 6 = .ok (.invokestatic 72, 3) := by decide +kernel
theorem dX11_type_9 : decode cX11_type 9 = .ok (.ifCond .ne 5, 3) := by decide +kernel
theorem dX11_type_12 : decode cX11_type 12 = .ok (.iconst (-1), 1) := by decide +kernel
theorem dX11_type_13 : decode cX11_type 13 = .ok (.ireturn, 1) := by decide +kernel
theorem dX11_type_14 : decode cX11_type 14 = .ok (.iconst 0, 1) := by decide +kernel
theorem dX11_type_15 : decode cX11_type 15 = .ok (.istore 4, 2) := by decide +kernel
theorem dX11_type_17 : decode cX11_type 17 = .ok (.iload 4, 2) := by decide +kernel
theorem dX11_type_19 : decode cX11_type 19 = .ok (.iload_n 3, 1) := by decide +kernel
theorem dX11_type_20 : decode cX11_type 20 = .ok (.if_icmp .ge 34, 3) := by decide +kernel
theorem dX11_type_23 : decode cX11_type 23 = .ok (.lload_n 1, 1) := by decide +kernel
theorem dX11_type_24 : decode cX11_type 24 = .ok (.bipush 8, 2) := by decide +kernel
theorem dX11_type_26 : decode cX11_type 26 = .ok (.iload 4, 2) := by decide +kernel
theorem dX11_type_28 : decode cX11_type 28 = .ok (.imul, 1) := by decide +kernel
theorem dX11_type_29 : decode cX11_type 29 = .ok (.lshr, 1) := by decide +kernel
theorem dX11_type_30 : decode cX11_type 30 = .ok (.ldc2_w 145, 3) := by decide +kernel
theorem dX11_type_33 : decode cX11_type 33 = .ok (.land, 1) := by decide +kernel
theorem dX11_type_34 : decode cX11_type 34 = .ok (.ldc2_w 147, 3) := by decide +kernel
theorem dX11_type_37 : decode cX11_type 37 = .ok (.ldc2_w 149, 3) := by decide +kernel
theorem dX11_type_40 : decode cX11_type 40 = .ok (.invokestatic 72, 3) := by decide +kernel
theorem dX11_type_43 : decode cX11_type 43 = .ok (.ifCond .ne 5, 3) := by decide +kernel
theorem dX11_type_46 : decode cX11_type 46 = .ok (.iconst (-1), 1) := by decide +kernel
theorem dX11_type_47 : decode cX11_type 47 = .ok (.ireturn, 1) := by decide +kernel
theorem dX11_type_48 : decode cX11_type 48 = .ok (.iinc 4 1, 3) := by decide +kernel
theorem dX11_type_51 : decode cX11_type 51 = .ok (.goto (-34), 3) := by decide +kernel
theorem dX11_type_54 : decode cX11_type 54 = .ok (.aload_n 0, 1) := by decide +kernel
theorem dX11_type_55 : decode cX11_type 55 = .ok (.getfield 151, 3) := by decide +kernel
theorem dX11_type_58 : decode cX11_type 58 = .ok (.iload_n 3, 1) := by decide +kernel
theorem dX11_type_59 : decode cX11_type 59 = .ok (.iadd, 1) := by decide +kernel
theorem dX11_type_60 : decode cX11_type 60 = .ok (.bipush 120, 2) := by decide +kernel
theorem dX11_type_62 : decode cX11_type 62 = .ok (.if_icmp .le 6, 3) := by decide +kernel
theorem dX11_type_65 : decode cX11_type 65 = .ok (.bipush (-3), 2) := by decide +kernel
theorem dX11_type_67 : decode cX11_type 67 = .ok (.ireturn, 1) := by decide +kernel
theorem dX11_type_68 : decode cX11_type 68 = .ok (.iload_n 3, 1) := by decide +kernel
theorem dX11_type_69 : decode cX11_type 69 = .ok (.iconst 1, 1) := by decide +kernel
theorem dX11_type_70 : decode cX11_type 70 = .ok (.isub, 1) := by decide +kernel
theorem dX11_type_71 : decode cX11_type 71 = .ok (.istore 4, 2) := by decide +kernel
theorem dX11_type_73 : decode cX11_type 73 = .ok (.iload 4, 2) := by decide +kernel
theorem dX11_type_75 : decode cX11_type 75 = .ok (.ifCond .lt 40, 3) := by decide +kernel
theorem dX11_type_78 : decode cX11_type 78 = .ok (.aload_n 0, 1) := by decide +kernel
theorem dX11_type_79 : decode cX11_type 79 = .ok (.getfield 23, 3) := by decide +kernel
theorem dX11_type_82 : decode cX11_type 82 = .ok (.aload_n 0, 1) := by decide +kernel
theorem dX11_type_83 : decode cX11_type 83 = .ok (.getfield 151, 3) := by decide +kernel
theorem dX11_type_86 : decode cX11_type 86 = .ok (.lload_n 1, 1) := by decide +kernel
theorem dX11_type_87 : decode cX11_type 87 = .ok (.bipush 8, 2) := by decide +kernel
theorem dX11_type_89 : decode cX11_type 89 = .ok (.iload 4, 2) := by decide +kernel
theorem dX11_type_91 : decode cX11_type 91 = .ok (.imul, 1) := by decide +kernel
theorem dX11_type_92 : decode cX11_type 92 = .ok (.lshr, 1) := by decide +kernel
theorem dX11_type_93 : decode cX11_type 93 = .ok (.ldc2_w 145, 3) := by decide +kernel
theorem dX11_type_96 : decode cX11_type 96 = .ok (.land, 1) := by decide +kernel
theorem dX11_type_97 : decode cX11_type 97 = .ok (.l2i, 1) := by decide +kernel
theorem dX11_type_98 : decode cX11_type 98 = .ok (.iastore, 1) := by decide +kernel
theorem dX11_type_99 : decode cX11_type 99 = .ok (.aload_n 0, 1) := by decide +kernel
theorem dX11_type_100 : decode cX11_type 100 = .ok (.dup, 1) := by decide +kernel
theorem dX11_type_101 : decode cX11_type 101 = .ok (.getfield 151, 3) := by decide +kernel
theorem dX11_type_104 : decode cX11_type 104 = .ok (.iconst 1, 1) := by decide +kernel
theorem dX11_type_105 : decode cX11_type 105 = .ok (.iadd, 1) := by decide +kernel
theorem dX11_type_106 : decode cX11_type 106 = .ok (.putfield 151, 3) := by decide +kernel
theorem dX11_type_109 : decode cX11_type 109 = .ok (.iinc 4 (-1), 3) := by decide +kernel
theorem dX11_type_112 : decode cX11_type 112 = .ok (.goto (-39), 3) := by decide +kernel
theorem dX11_type_115 : decode cX11_type 115 = .ok (.aload_n 0, 1) := by decide +kernel
theorem dX11_type_116 : decode cX11_type 116 = .ok (.getfield 151, 3) := by decide +kernel
theorem dX11_type_119 : decode cX11_type 119 = .ok (.ireturn, 1) := by decide +kernel
theorem dX11_next_0 : decode cX11_next 0 = .ok (.aload_n 0, 1) := by decide +kernel
theorem dX11_next_1 : decode cX11_next 1 = .ok (.getfield 155, 3) := by decide +kernel
theorem dX11_next_4 : decode cX11_next 4 = .ok (.aload_n 0, 1) := by decide +kernel
theorem dX11_next_5 : decode cX11_next 5 = .ok (.getfield 151, 3) := by decide +kernel
theorem dX11_next_8 : decode cX11_next 8 = .ok (.if_icmp .ge 30, 3) := by decide +kernel
theorem dX11_next_11 : decode cX11_next 11 = .ok (.aload_n 0, 1) := by decide +kernel
theorem dX11_next_12 : decode cX11_next 12 = .ok (.getfield 23, 3) := by decide +kernel
theorem dX11_next_15 : decode cX11_next 15 = .ok (.aload_n 0, 1) := by decide +kernel
theorem dX11_next_16 : decode cX11_next 16 = .ok (.getfield 155, 3) := by decide +kernel
theorem dX11_next_19 : decode cX11_next 19 = .ok (.iaload, 1) := by decide +kernel
theorem dX11_next_20 : decode cX11_next 20 = .ok (.bipush 32, 2) := by decide +kernel
theorem dX11_next_22 : decode cX11_next 22 = .ok (.if_icmp .ne 16, 3) := by decide +kernel
theorem dX11_next_25 : decode cX11_next 25 = .ok (.aload_n 0, 1) := by decide +kernel
theorem dX11_next_26 : decode cX11_next 26 = .ok (.dup, 1) := by decide +kernel
theorem dX11_next_27 : decode cX11_next 27 = .ok (.getfield 155, 3) := by decide +kernel
theorem dX11_next_30 : decode cX11_next 30 = .ok (.iconst 1, 1) := by decide +kernel
theorem dX11_next_31 : decode cX11_next 31 = .ok (.iadd, 1) := by decide +kernel
theorem dX11_next_32 : decode cX11_next 32 = .ok (.putfield 155, 3) := by decide +kernel
theorem dX11_next_35 : decode cX11_next 35 = .ok (.goto (-35), 3) := by decide +kernel
theorem dX11_next_38 : decode cX11_next 38 = .ok (.aload_n 0, 1) := by decide +kernel
theorem dX11_next_39 : decode cX11_next 39 = .ok (.getfield 155, 3) := by decide +kernel
theorem dX11_next_42 : decode cX11_next 42 = .ok (.aload_n 0, 1) := by decide +kernel
theorem dX11_next_43 : decode cX11_next 43 = .ok (.getfield 151, 3) := by decide +kernel
theorem dX11_next_46 : decode cX11_next 46 = .ok (.if_icmp .ge 15, 3) := by decide +kernel
theorem dX11_next_49 : decode cX11_next 49 = .ok (.aload_n 0, 1) := by decide +kernel
theorem dX11_next_50 : decode cX11_next 50 = .ok (.getfield 23, 3) := by decide +kernel
theorem dX11_next_53 : decode cX11_next 53 = .ok (.aload_n 0, 1) := by decide +kernel
theorem dX11_next_54 : decode cX11_next 54 = .ok (.getfield 155, 3) := by decide +kernel
theorem dX11_next_57 : decode cX11_next 57 = .ok (.iaload, 1) := by decide +kernel
theorem dX11_next_58 : decode cX11_next 58 = .ok (.goto 4, 3) := by decide +kernel
theorem dX11_next_61 : decode cX11_next 61 = .ok (.iconst 0, 1) := by decide +kernel
theorem dX11_next_62 : decode cX11_next 62 = .ok (.ireturn, 1) := by decide +kernel
theorem dX11_reads_0 : decode cX11_reads 0 = .ok (.aload_n 0, 1) := by decide +kernel
theorem dX11_reads_1 : decode cX11_reads 1 = .ok (.invokevirtual 158, 3) := by decide +kernel
theorem dX11_reads_4 : decode cX11_reads 4 = .ok (.istore_n 3, 1) := by decide +kernel
theorem dX11_reads_5 : decode cX11_reads 5 = .ok (.aload_n 0, 1) := by decide +kernel
theorem dX11_reads_6 : decode cX11_reads 6 = .ok (.getfield 155, 3) := by decide +kernel
theorem dX11_reads_9 : decode cX11_reads 9 = .ok (.istore 4, 2) := by decide +kernel
theorem dX11_reads_11 : decode cX11_reads 11 = .ok (.iload_n 3, 1) := by decide +kernel
theorem dX11_reads_12 : decode cX11_reads 12 = .ok (.i2l, 1) := by decide +kernel
theorem dX11_reads_13 : decode cX11_reads 13 = .ok (.ldc2_w 161, 3) := by decide +kernel
theorem dX11_reads_16 : decode cX11_reads 16 = .ok (.ldc2_w 163, 3) := by decide +kernel
theorem dX11_reads_19 : decode cX11_reads 19 = .ok (.invokestatic 72, 3) := by decide +kernel
theorem dX11_reads_22 : decode cX11_reads 22 = .ok (.ifCond .eq 10, 3) := by decide +kernel
theorem dX11_reads_25 : decode cX11_reads 25 = .ok (.iload_n 3, 1) := by decide +kernel
theorem dX11_reads_26 : decode cX11_reads 26 = .ok (.bipush 96, 2) := by decide +kernel
theorem dX11_reads_28 : decode cX11_reads 28 = .ok (.isub, 1) := by decide +kernel
theorem dX11_reads_29 : decode cX11_reads 29 = .ok (.goto 4, 3) := by decide +kernel
theorem dX11_reads_32 : decode cX11_reads 32 = .ok (.iconst 0, 1) := by decide +kernel
theorem dX11_reads_33 : decode cX11_reads 33 = .ok (.istore 5, 2) := by decide +kernel
theorem dX11_reads_35 : decode cX11_reads 35 = .ok (.iload 5, 2) := by decide +kernel
theorem dX11_reads_37 : decode cX11_reads 37 = .ok (.ifCond .ne 9, 3) := by decide +kernel
theorem dX11_reads_40 : decode cX11_reads 40 = .ok (.iload_n 3, 1) := by decide +kernel
theorem dX11_reads_41 : decode cX11_reads 41 = .ok (.bipush 45, 2) := by decide +kernel
theorem dX11_reads_43 : decode cX11_reads 43 = .ok (.if_icmp .ne 9, 3) := by decide +kernel
theorem dX11_reads_46 : decode cX11_reads 46 = .ok (.iload_n 2, 1) := by decide +kernel
theorem dX11_reads_47 : decode cX11_reads 47 = .ok (.bipush 40, 2) := by decide +kernel
theorem dX11_reads_49 : decode cX11_reads 49 = .ok (.if_icmp .ne 5, 3) := by decide +kernel
theorem dX11_reads_52 : decode cX11_reads 52 = .ok (.iconst (-1), 1) := by decide +kernel
theorem dX11_reads_53 : decode cX11_reads 53 = .ok (.ireturn, 1) := by decide +kernel
theorem dX11_reads_54 : decode cX11_reads 54 = .ok (.aload_n 0, 1) := by decide +kernel
theorem dX11_reads_55 : decode cX11_reads 55 = .ok (.dup, 1) := by decide +kernel
theorem dX11_reads_56 : decode cX11_reads 56 = .ok (.getfield 155, 3) := by decide +kernel
theorem dX11_reads_59 : decode cX11_reads 59 = .ok (.iconst 1, 1) := by decide +kernel
theorem dX11_reads_60 : decode cX11_reads 60 = .ok (.iadd, 1) := by decide +kernel
theorem dX11_reads_61 : decode cX11_reads 61 = .ok (.putfield 155, 3) := by decide +kernel
theorem dX11_reads_64 : decode cX11_reads 64 = .ok (.iconst 1, 1) := by decide +kernel
theorem dX11_reads_65 : decode cX11_reads 65 = .ok (.istore 6, 2) := by decide +kernel
theorem dX11_reads_67 : decode cX11_reads 67 = .ok (.aload_n 0, 1) := by decide +kernel
theorem dX11_reads_68 : decode cX11_reads 68 = .ok (.invokevirtual 158, 3) := by decide +kernel
theorem dX11_reads_71 : decode cX11_reads 71 = .ok (.i2l, 1) := by decide +kernel
theorem dX11_reads_72 : decode cX11_reads 72 = .ok (.ldc2_w 165, 3) := by decide +kernel
theorem dX11_reads_75 : decode cX11_reads 75 = .ok (.ldc2_w 167, 3) := by decide +kernel
theorem dX11_reads_78 : decode cX11_reads 78 = .ok (.invokestatic 72, 3) := by decide +kernel
theorem dX11_reads_81 : decode cX11_reads 81 = .ok (.ifCond .eq 22, 3) := by decide +kernel
theorem dX11_reads_84 : decode cX11_reads 84 = .ok (.aload_n 0, 1) := by decide +kernel
theorem dX11_reads_85 : decode cX11_reads 85 = .ok (.invokevirtual 158, 3) := by decide +kernel
theorem dX11_reads_88 : decode cX11_reads 88 = .ok (.bipush 48, 2) := by decide +kernel
theorem dX11_reads_90 : decode cX11_reads 90 = .ok (.isub, 1) := by decide +kernel
theorem dX11_reads_91 : decode cX11_reads 91 = .ok (.istore 6, 2) := by decide +kernel
theorem dX11_reads_93 : decode cX11_reads 93 = .ok (.aload_n 0, 1) := by decide +kernel
theorem dX11_reads_94 : decode cX11_reads 94 = .ok (.dup, 1) := by decide +kernel
theorem dX11_reads_95 : decode cX11_reads 95 = .ok (.getfield 155, 3) := by decide +kernel
theorem dX11_reads_98 : decode cX11_reads 98 = .ok (.iconst 1, 1) := by decide +kernel
theorem dX11_reads_99 : decode cX11_reads 99 = .ok (.iadd, 1) := by decide +kernel
theorem dX11_reads_100 : decode cX11_reads 100 = .ok (.putfield 155, 3) := by decide +kernel
theorem dX11_reads_103 : decode cX11_reads 103 = .ok (.iload_n 1, 1) := by decide +kernel
theorem dX11_reads_104 : decode cX11_reads 104 = .ok (.iload 6, 2) := by decide +kernel
theorem dX11_reads_106 : decode cX11_reads 106 = .ok (.iadd, 1) := by decide +kernel
theorem dX11_reads_107 : decode cX11_reads 107 = .ok (.bipush 64, 2) := by decide +kernel
theorem dX11_reads_109 : decode cX11_reads 109 = .ok (.if_icmp .le 11, 3) := by decide +kernel
theorem dX11_reads_112 : decode cX11_reads 112 = .ok (.aload_n 0, 1) := by decide +kernel
theorem dX11_reads_113 : decode cX11_reads 113 = .ok (.iload 4, 2) := by decide +kernel
theorem dX11_reads_115 : decode cX11_reads 115 = .ok (.putfield 155, 3) := by decide +kernel
theorem dX11_reads_118 : decode cX11_reads 118 = .ok (.iconst (-1), 1) := by decide +kernel
theorem dX11_reads_119 : decode cX11_reads 119 = .ok (.ireturn, 1) := by decide +kernel
theorem dX11_reads_120 : decode cX11_reads 120 = .ok (.iconst 0, 1) := by decide +kernel
theorem dX11_reads_121 : decode cX11_reads 121 = .ok (.istore 7, 2) := by decide +kernel
theorem dX11_reads_123 : decode cX11_reads 123 = .ok (.iload 7, 2) := by decide +kernel
theorem dX11_reads_125 : decode cX11_reads 125 = .ok (.iload 6, 2) := by decide +kernel
theorem dX11_reads_127 : decode cX11_reads 127 = .ok (.if_icmp .ge 20, 3) := by decide +kernel
theorem dX11_reads_130 : decode cX11_reads 130 = .ok (.aload_n 0, 1) := by decide +kernel
theorem dX11_reads_131 : decode cX11_reads 131 = .ok (.getfield 26, 3) := by decide +kernel
theorem dX11_reads_134 : decode cX11_reads 134 = .ok (.iload_n 1, 1) := by decide +kernel
theorem dX11_reads_135 : decode cX11_reads 135 = .ok (.iload 7, 2) := by decide +kernel
theorem dX11_reads_137 : decode cX11_reads 137 = .ok (.iadd, 1) := by decide +kernel
theorem dX11_reads_138 : decode cX11_reads 138 = .ok (.iload 5, 2) := by decide +kernel
theorem dX11_reads_140 : decode cX11_reads 140 = .ok (.iastore, 1) := by decide +kernel
theorem dX11_reads_141 : decode cX11_reads 141 = .ok (.iinc 7 1, 3) := by decide +kernel
theorem dX11_reads_144 : decode cX11_reads 144 = .ok (.goto (-21), 3) := by decide +kernel
theorem dX11_reads_147 : decode cX11_reads 147 = .ok (.aload_n 0, 1) := by decide +kernel
theorem dX11_reads_148 : decode cX11_reads 148 = .ok (.invokevirtual 158, 3) := by decide +kernel
theorem dX11_reads_151 : decode cX11_reads 151 = .ok (.bipush 46, 2) := by decide +kernel
theorem dX11_reads_153 : decode cX11_reads 153 = .ok (.if_icmp .ne 29, 3) := by decide +kernel
theorem dX11_reads_156 : decode cX11_reads 156 = .ok (.aload_n 0, 1) := by decide +kernel
theorem dX11_reads_157 : decode cX11_reads 157 = .ok (.getfield 26, 3) := by decide +kernel
theorem dX11_reads_160 : decode cX11_reads 160 = .ok (.iload_n 1, 1) := by decide +kernel
theorem dX11_reads_161 : decode cX11_reads 161 = .ok (.iload 6, 2) := by decide +kernel
theorem dX11_reads_163 : decode cX11_reads 163 = .ok (.iadd, 1) := by decide +kernel
theorem dX11_reads_164 : decode cX11_reads 164 = .ok (.iconst 1, 1) := by decide +kernel
theorem dX11_reads_165 : decode cX11_reads 165 = .ok (.isub, 1) := by decide +kernel
theorem dX11_reads_166 : decode cX11_reads 166 = .ok (.dup2, 1) := by decide +kernel
theorem dX11_reads_167 : decode cX11_reads 167 = .ok (.iaload, 1) := by decide +kernel
theorem dX11_reads_168 : decode cX11_reads 168 = .ok (.bipush 10, 2) := by decide +kernel
theorem dX11_reads_170 : decode cX11_reads 170 = .ok (.iadd, 1) := by decide +kernel
theorem dX11_reads_171 : decode cX11_reads 171 = .ok (.iastore, 1) := by decide +kernel
theorem dX11_reads_172 : decode cX11_reads 172 = .ok (.aload_n 0, 1) := by decide +kernel
theorem dX11_reads_173 : decode cX11_reads 173 = .ok (.dup, 1) := by decide +kernel
theorem dX11_reads_174 : decode cX11_reads 174 = .ok (.getfield 155, 3) := by decide +kernel
theorem dX11_reads_177 : decode cX11_reads 177 = .ok (.iconst 1, 1) := by decide +kernel
theorem dX11_reads_178 : decode cX11_reads 178 = .ok (.iadd, 1) := by decide +kernel
theorem dX11_reads_179 : decode cX11_reads 179 = .ok (.putfield 155, 3) := by decide +kernel
theorem dX11_reads_182 : decode cX11_reads 182 = .ok (.iload_n 1, 1) := by decide +kernel
theorem dX11_reads_183 : decode cX11_reads 183 = .ok (.iload 6, 2) := by decide +kernel
theorem dX11_reads_185 : decode cX11_reads 185 = .ok (.iadd, 1) := by decide +kernel
theorem dX11_reads_186 : decode cX11_reads 186 = .ok (.ireturn, 1) := by decide +kernel
theorem dX11_piece_0 : decode cX11_piece 0 = .ok (.aload_n 0, 1) := by decide +kernel
theorem dX11_piece_1 : decode cX11_piece 1 = .ok (.iconst 0, 1) := by decide +kernel
theorem dX11_piece_2 : decode cX11_piece 2 = .ok (.putfield 155, 3) := by decide +kernel
theorem dX11_piece_5 : decode cX11_piece 5 = .ok (.iconst 0, 1) := by decide +kernel
theorem dX11_piece_6 : decode cX11_piece 6 = .ok (.istore_n 1, 1) := by decide +kernel
theorem dX11_piece_7 : decode cX11_piece 7 = .ok (.iconst 0, 1) := by decide +kernel
theorem dX11_piece_8 : decode cX11_piece 8 = .ok (.istore_n 2, 1) := by decide +kernel
theorem dX11_piece_9 : decode cX11_piece 9 = .ok (.iconst 1, 1) := by decide +kernel
theorem dX11_piece_10 : decode cX11_piece 10 = .ok (.istore_n 3, 1) := by decide +kernel
theorem dX11_piece_11 : decode cX11_piece 11 = .ok (.iload_n 3, 1) := by decide +kernel
theorem dX11_piece_12 : decode cX11_piece 12 = .ok (.ifCond .eq 33, 3) := by decide +kernel
theorem dX11_piece_15 : decode cX11_piece 15 = .ok (.aload_n 0, 1) := by decide +kernel
theorem dX11_piece_16 : decode cX11_piece 16 = .ok (.iload_n 1, 1) := by decide +kernel
theorem dX11_piece_17 : decode cX11_piece 17 = .ok (.iload_n 2, 1) := by decide +kernel
theorem dX11_piece_18 : decode cX11_piece 18 = .ok (.invokevirtual 169, 3) := by decide +kernel
theorem dX11_piece_21 : decode cX11_piece 21 = .ok (.istore_n 1, 1) := by decide +kernel
theorem dX11_piece_22 : decode cX11_piece 22 = .ok (.iinc 2 1, 3) := by decide +kernel
theorem dX11_piece_25 : decode cX11_piece 25 = .ok (.iload_n 1, 1) := by decide +kernel
theorem dX11_piece_26 : decode cX11_piece 26 = .ok (.ifCond .lt 14, 3) := by decide +kernel
theorem dX11_piece_29 : decode cX11_piece 29 = .ok (.aload_n 0, 1) := by decide +kernel
theorem dX11_piece_30 : decode cX11_piece 30 = .ok (.invokevirtual 158, 3) := by decide +kernel
theorem dX11_piece_33 : decode cX11_piece 33 = .ok (.ifCond .eq 7, 3) := by decide +kernel
theorem dX11_piece_36 : decode cX11_piece 36 = .ok (.iconst 1, 1) := by decide +kernel
theorem dX11_piece_37 : decode cX11_piece 37 = .ok (.goto 4, 3) := by decide +kernel
theorem dX11_piece_40 : decode cX11_piece 40 = .ok (.iconst 0, 1) := by decide +kernel
theorem dX11_piece_41 : decode cX11_piece 41 = .ok (.istore_n 3, 1) := by decide +kernel
theorem dX11_piece_42 : decode cX11_piece 42 = .ok (.goto (-31), 3) := by decide +kernel
theorem dX11_piece_45 : decode cX11_piece 45 = .ok (.aload_n 0, 1) := by decide +kernel
theorem dX11_piece_46 : decode cX11_piece 46 = .ok (.iconst 0, 1) := by decide +kernel
theorem dX11_piece_47 : decode cX11_piece 47 = .ok (.putfield 151, 3) := by decide +kernel
theorem dX11_piece_50 : decode cX11_piece 50 = .ok (.iload_n 1, 1) := by decide +kernel
theorem dX11_piece_51 : decode cX11_piece 51 = .ok (.ifCond .ge 11, 3) := by decide +kernel
theorem dX11_piece_54 : decode cX11_piece 54 = .ok (.bipush (-20), 2) := by decide +kernel
theorem dX11_piece_56 : decode cX11_piece 56 = .ok (.aload_n 0, 1) := by decide +kernel
theorem dX11_piece_57 : decode cX11_piece 57 = .ok (.getfield 155, 3) := by decide +kernel
theorem dX11_piece_60 : decode cX11_piece 60 = .ok (.isub, 1) := by decide +kernel
theorem dX11_piece_61 : decode cX11_piece 61 = .ok (.ireturn, 1) := by decide +kernel
theorem dX11_piece_62 : decode cX11_piece 62 = .ok (.iconst 0, 1) := by decide +kernel
theorem dX11_piece_63 : decode cX11_piece 63 = .ok (.istore 4, 2) := by decide +kernel
theorem dX11_piece_65 : decode cX11_piece 65 = .ok (.iload 4, 2) := by decide +kernel
theorem dX11_piece_67 : decode cX11_piece 67 = .ok (.iload_n 1, 1) := by decide +kernel
theorem dX11_piece_68 : decode cX11_piece 68 = .ok (.if_icmp .ge 27, 3) := by decide +kernel
theorem dX11_piece_71 : decode cX11_piece 71 = .ok (.aload_n 0, 1) := by decide +kernel
theorem dX11_piece_72 : decode cX11_piece 72 = .ok (.getfield 7, 3) := by decide +kernel
theorem dX11_piece_75 : decode cX11_piece 75 = .ok (.sipush 136, 3) := by decide +kernel
theorem dX11_piece_78 : decode cX11_piece 78 = .ok (.iload 4, 2) := by decide +kernel
theorem dX11_piece_80 : decode cX11_piece 80 = .ok (.iadd, 1) := by decide +kernel
theorem dX11_piece_81 : decode cX11_piece 81 = .ok (.aload_n 0, 1) := by decide +kernel
theorem dX11_piece_82 : decode cX11_piece 82 = .ok (.getfield 26, 3) := by decide +kernel
theorem dX11_piece_85 : decode cX11_piece 85 = .ok (.iload 4, 2) := by decide +kernel
theorem dX11_piece_87 : decode cX11_piece 87 = .ok (.iaload, 1) := by decide +kernel
theorem dX11_piece_88 : decode cX11_piece 88 = .ok (.iastore, 1) := by decide +kernel
theorem dX11_piece_89 : decode cX11_piece 89 = .ok (.iinc 4 1, 3) := by decide +kernel
theorem dX11_piece_92 : decode cX11_piece 92 = .ok (.goto (-27), 3) := by decide +kernel
theorem dX11_piece_95 : decode cX11_piece 95 = .ok (.aload_n 0, 1) := by decide +kernel
theorem dX11_piece_96 : decode cX11_piece 96 = .ok (.getfield 7, 3) := by decide +kernel
theorem dX11_piece_99 : decode cX11_piece 99 = .ok (.sipush 130, 3) := by decide +kernel
theorem dX11_piece_102 : decode cX11_piece 102 = .ok (.iload_n 1, 1) := by decide +kernel
theorem dX11_piece_103 : decode cX11_piece 103 = .ok (.iastore, 1) := by decide +kernel
theorem dX11_piece_104 : decode cX11_piece 104 = .ok (.iload_n 1, 1) := by decide +kernel
theorem dX11_piece_105 : decode cX11_piece 105 = .ok (.ireturn, 1) := by decide +kernel
theorem dX11_sound_0 : decode cX11_sound 0 = .ok (.iload_n 1, 1) := by decide +kernel
theorem dX11_sound_1 : decode cX11_sound 1 = .ok (.i2l, 1) := by decide +kernel
theorem dX11_sound_2 : decode cX11_sound 2 = .ok (.lconst 0, 1) := by decide +kernel
theorem dX11_sound_3 : decode cX11_sound 3 = .ok (.aload_n 0, 1) := by decide +kernel
theorem dX11_sound_4 : decode cX11_sound 4 = .ok (.getfield 7, 3) := by decide +kernel
theorem dX11_sound_7 : decode cX11_sound 7 = .ok (.sipush 130, 3) := by decide +kernel
theorem dX11_sound_10 : decode cX11_sound 10 = .ok (.iaload, 1) := by decide +kernel
theorem dX11_sound_11 : decode cX11_sound 11 = .ok (.iconst 1, 1) := by decide +kernel
theorem dX11_sound_12 : decode cX11_sound 12 = .ok (.isub, 1) := by decide +kernel
theorem dX11_sound_13 : decode cX11_sound 13 = .ok (.i2l, 1) := by decide +kernel
theorem dX11_sound_14 : decode cX11_sound 14 = .ok (.invokestatic 72, 3) := by decide +kernel
theorem dX11_sound_17 : decode cX11_sound 17 = .ok (.ifCond .eq 16, 3) := by decide +kernel
theorem dX11_sound_20 : decode cX11_sound 20 = .ok (.aload_n 0, 1) := by decide +kernel
theorem dX11_sound_21 : decode cX11_sound 21 = .ok (.getfield 7, 3) := by decide +kernel
theorem dX11_sound_24 : decode cX11_sound 24 = .ok (.sipush 136, 3) := by decide +kernel
theorem dX11_sound_27 : decode cX11_sound 27 = .ok (.iload_n 1, 1) := by decide +kernel
theorem dX11_sound_28 : decode cX11_sound 28 = .ok (.iadd, 1) := by decide +kernel
theorem dX11_sound_29 : decode cX11_sound 29 = .ok (.iaload, 1) := by decide +kernel
theorem dX11_sound_30 : decode cX11_sound 30 = .ok (.goto 4, 3) := by decide +kernel
theorem dX11_sound_33 : decode cX11_sound 33 = .ok (.iconst (-1), 1) := by decide +kernel
theorem dX11_sound_34 : decode cX11_sound 34 = .ok (.ireturn, 1) := by decide +kernel
theorem dX11_fit_0 : decode cX11_fit 0 = .ok (.iload_n 1, 1) := by decide +kernel
theorem dX11_fit_1 : decode cX11_fit 1 = .ok (.i2l, 1) := by decide +kernel
theorem dX11_fit_2 : decode cX11_fit 2 = .ok (.lconst 0, 1) := by decide +kernel
theorem dX11_fit_3 : decode cX11_fit 3 = .ok (.ldc2_w 172, 3) := by decide +kernel
theorem dX11_fit_6 : decode cX11_fit 6 = .ok (.invokestatic 72, 3) := by decide +kernel
theorem dX11_fit_9 : decode cX11_fit 9 = .ok (.ifCond .ne 5, 3) := by decide +kernel
theorem dX11_fit_12 : decode cX11_fit 12 = .ok (.iconst (-1), 1) := by decide +kernel
theorem dX11_fit_13 : decode cX11_fit 13 = .ok (.ireturn, 1) := by decide +kernel
theorem dX11_fit_14 : decode cX11_fit 14 = .ok (.aload_n 0, 1) := by decide +kernel
theorem dX11_fit_15 : decode cX11_fit 15 = .ok (.getfield 7, 3) := by decide +kernel
theorem dX11_fit_18 : decode cX11_fit 18 = .ok (.sipush 129, 3) := by decide +kernel
theorem dX11_fit_21 : decode cX11_fit 21 = .ok (.iaload, 1) := by decide +kernel
theorem dX11_fit_22 : decode cX11_fit 22 = .ok (.istore_n 2, 1) := by decide +kernel
theorem dX11_fit_23 : decode cX11_fit 23 = .ok (.aload_n 0, 1) := by decide +kernel
theorem dX11_fit_24 : decode cX11_fit 24 = .ok (.getfield 7, 3) := by decide +kernel
theorem dX11_fit_27 : decode cX11_fit 27 = .ok (.sipush 129, 3) := by decide +kernel
theorem dX11_fit_30 : decode cX11_fit 30 = .ok (.iload_n 1, 1) := by decide +kernel
theorem dX11_fit_31 : decode cX11_fit 31 = .ok (.iastore, 1) := by decide +kernel
theorem dX11_fit_32 : decode cX11_fit 32 = .ok (.iload_n 2, 1) := by decide +kernel
theorem dX11_fit_33 : decode cX11_fit 33 = .ok (.ireturn, 1) := by decide +kernel
theorem dX11_clashesAt_0 : decode cX11_clashesAt 0 = .ok (.iconst 0, 1) := by decide +kernel
theorem dX11_clashesAt_1 : decode cX11_clashesAt 1 = .ok (.istore_n 2, 1) := by decide +kernel
theorem dX11_clashesAt_2 : decode cX11_clashesAt 2 = .ok (.iload_n 1, 1) := by decide +kernel
theorem dX11_clashesAt_3 : decode cX11_clashesAt 3 = .ok (.istore_n 3, 1) := by decide +kernel
theorem dX11_clashesAt_4 : decode cX11_clashesAt 4 = .ok (.iload_n 3, 1) := by decide +kernel
theorem dX11_clashesAt_5 : decode cX11_clashesAt 5 = .ok (.aload_n 0, 1) := by decide +kernel
theorem dX11_clashesAt_6 : decode cX11_clashesAt 6 = .ok (.getfield 7, 3) := by decide +kernel
theorem dX11_clashesAt_9 : decode cX11_clashesAt 9 = .ok (.sipush 130, 3) := by decide +kernel
theorem dX11_clashesAt_12 : decode cX11_clashesAt 12 = .ok (.iaload, 1) := by decide +kernel
theorem dX11_clashesAt_13 : decode cX11_clashesAt 13 = .ok (.if_icmp .ge 97, 3) := by decide +kernel
theorem dX11_clashesAt_16 : decode cX11_clashesAt 16 = .ok (.aload_n 0, 1) := by decide +kernel
theorem dX11_clashesAt_17 : decode cX11_clashesAt 17 = .ok (.getfield 7, 3) := by decide +kernel
theorem dX11_clashesAt_20 : decode cX11_clashesAt 20 = .ok (.sipush 136, 3) := by decide +kernel
theorem dX11_clashesAt_23 : decode cX11_clashesAt 23 = .ok (.iload_n 3, 1) := by decide +kernel
theorem dX11_clashesAt_24 : decode cX11_clashesAt 24 = .ok (.iadd, 1) := by decide +kernel
theorem dX11_clashesAt_25 : decode cX11_clashesAt 25 = .ok (.iaload, 1) := by decide +kernel
theorem dX11_clashesAt_26 : decode cX11_clashesAt 26 = .ok (.bipush 10, 2) := by decide +kernel
theorem dX11_clashesAt_28 : decode cX11_clashesAt 28 = .ok (.irem, 1) := by decide +kernel
theorem dX11_clashesAt_29 : decode cX11_clashesAt 29 = .ok (.istore 4, 2) := by decide +kernel
theorem dX11_clashesAt_31 : decode cX11_clashesAt 31 = .ok (.aload_n 0, 1) := by decide +kernel
theorem dX11_clashesAt_32 : decode cX11_clashesAt 32 = .ok (.getfield 7, 3) := by decide +kernel
theorem dX11_clashesAt_35 : decode cX11_clashesAt 35 = .ok (.sipush 136, 3) := by decide +kernel
theorem dX11_clashesAt_38 : decode cX11_clashesAt 38 = .ok (.iload_n 3, 1) := by decide +kernel
theorem dX11_clashesAt_39 : decode cX11_clashesAt 39 = .ok (.iadd, 1) := by decide +kernel
theorem dX11_clashesAt_40 : decode cX11_clashesAt 40 = .ok (.iload_n 1, 1) := by decide +kernel
theorem dX11_clashesAt_41 : decode cX11_clashesAt 41 = .ok (.isub, 1) := by decide +kernel
theorem dX11_clashesAt_42 : decode cX11_clashesAt 42 = .ok (.iaload, 1) := by decide +kernel
theorem dX11_clashesAt_43 : decode cX11_clashesAt 43 = .ok (.bipush 10, 2) := by decide +kernel
theorem dX11_clashesAt_45 : decode cX11_clashesAt 45 = .ok (.irem, 1) := by decide +kernel
theorem dX11_clashesAt_46 : decode cX11_clashesAt 46 = .ok (.istore 5, 2) := by decide +kernel
theorem dX11_clashesAt_48 : decode cX11_clashesAt 48 = .ok (.iload 4, 2) := by decide +kernel
theorem dX11_clashesAt_50 : decode cX11_clashesAt 50 = .ok (.iload 5, 2) := by decide +kernel
theorem dX11_clashesAt_52 : decode cX11_clashesAt 52 = .ok (.if_icmp .le 11, 3) := by decide +kernel
theorem dX11_clashesAt_55 : decode cX11_clashesAt 55 = .ok (.iload 4, 2) := by decide +kernel
theorem dX11_clashesAt_57 : decode cX11_clashesAt 57 = .ok (.iload 5, 2) := by decide +kernel
theorem dX11_clashesAt_59 : decode cX11_clashesAt 59 = .ok (.isub, 1) := by decide +kernel
theorem dX11_clashesAt_60 : decode cX11_clashesAt 60 = .ok (.goto 8, 3) := by decide +kernel
theorem dX11_clashesAt_63 : decode cX11_clashesAt 63 = .ok (.iload 5, 2) := by decide +kernel
theorem dX11_clashesAt_65 : decode cX11_clashesAt 65 = .ok (.iload 4, 2) := by decide +kernel
theorem dX11_clashesAt_67 : decode cX11_clashesAt 67 = .ok (.isub, 1) := by decide +kernel
theorem dX11_clashesAt_68 : decode cX11_clashesAt 68 = .ok (.istore 6, 2) := by decide +kernel
theorem dX11_clashesAt_70 : decode cX11_clashesAt 70 = .ok (.iload_n 2, 1) := by decide +kernel
theorem dX11_clashesAt_71 : decode cX11_clashesAt 71 = .ok (.iload 4, 2) := by decide +kernel
theorem dX11_clashesAt_73 : decode cX11_clashesAt 73 = .ok (.ifCond .le 28, 3) := by decide +kernel
theorem dX11_clashesAt_76 : decode cX11_clashesAt 76 = .ok (.iload 5, 2) := by decide +kernel
theorem dX11_clashesAt_78 : decode cX11_clashesAt 78 = .ok (.ifCond .le 23, 3) := by decide +kernel
theorem dX11_clashesAt_81 : decode cX11_clashesAt 81 = .ok (.aload_n 0, 1) := by decide +kernel
theorem dX11_clashesAt_82 : decode cX11_clashesAt 82 = .ok (.getfield 7, 3) := by decide +kernel
theorem dX11_clashesAt_85 : decode cX11_clashesAt 85 = .ok (.sipush 129, 3) := by decide +kernel
theorem dX11_clashesAt_88 : decode cX11_clashesAt 88 = .ok (.iaload, 1) := by decide +kernel
theorem dX11_clashesAt_89 : decode cX11_clashesAt 89 = .ok (.iload 6, 2) := by decide +kernel
theorem dX11_clashesAt_91 : decode cX11_clashesAt 91 = .ok (.ishr, 1) := by decide +kernel
theorem dX11_clashesAt_92 : decode cX11_clashesAt 92 = .ok (.iconst 1, 1) := by decide +kernel
theorem dX11_clashesAt_93 : decode cX11_clashesAt 93 = .ok (.iand, 1) := by decide +kernel
theorem dX11_clashesAt_94 : decode cX11_clashesAt 94 = .ok (.ifCond .ne 7, 3) := by decide +kernel
theorem dX11_clashesAt_97 : decode cX11_clashesAt 97 = .ok (.iconst 1, 1) := by decide +kernel
theorem dX11_clashesAt_98 : decode cX11_clashesAt 98 = .ok (.goto 4, 3) := by decide +kernel
theorem dX11_clashesAt_101 : decode cX11_clashesAt 101 = .ok (.iconst 0, 1) := by decide +kernel
theorem dX11_clashesAt_102 : decode cX11_clashesAt 102 = .ok (.iadd, 1) := by decide +kernel
theorem dX11_clashesAt_103 : decode cX11_clashesAt 103 = .ok (.istore_n 2, 1) := by decide +kernel
theorem dX11_clashesAt_104 : decode cX11_clashesAt 104 = .ok (.iinc 3 1, 3) := by decide +kernel
theorem dX11_clashesAt_107 : decode cX11_clashesAt 107 = .ok (.goto (-103), 3) := by decide +kernel
theorem dX11_clashesAt_110 : decode cX11_clashesAt 110 = .ok (.iload_n 2, 1) := by decide +kernel
theorem dX11_clashesAt_111 : decode cX11_clashesAt 111 = .ok (.ireturn, 1) := by decide +kernel
theorem dX11_clashes_0 : decode cX11_clashes 0 = .ok (.iload_n 1, 1) := by decide +kernel
theorem dX11_clashes_1 : decode cX11_clashes 1 = .ok (.i2l, 1) := by decide +kernel
theorem dX11_clashes_2 : decode cX11_clashes 2 = .ok (.lconst 1, 1) := by decide +kernel
theorem dX11_clashes_3 : decode cX11_clashes 3 = .ok (.aload_n 0, 1) := by decide +kernel
theorem dX11_clashes_4 : decode cX11_clashes 4 = .ok (.getfield 7, 3) := by decide +kernel
theorem dX11_clashes_7 : decode cX11_clashes 7 = .ok (.sipush 130, 3) := by decide +kernel
theorem dX11_clashes_10 : decode cX11_clashes 10 = .ok (.iaload, 1) := by decide +kernel
theorem dX11_clashes_11 : decode cX11_clashes 11 = .ok (.iconst 1, 1) := by decide +kernel
theorem dX11_clashes_12 : decode cX11_clashes 12 = .ok (.isub, 1) := by decide +kernel
theorem dX11_clashes_13 : decode cX11_clashes 13 = .ok (.i2l, 1) := by decide +kernel
theorem dX11_clashes_14 : decode cX11_clashes 14 = .ok (.invokestatic 72, 3) := by decide +kernel
theorem dX11_clashes_17 : decode cX11_clashes 17 = .ok (.ifCond .eq 11, 3) := by decide +kernel
theorem dX11_clashes_20 : decode cX11_clashes 20 = .ok (.aload_n 0, 1) := by decide +kernel
theorem dX11_clashes_21 : decode cX11_clashes 21 = .ok (.iload_n 1, 1) := by decide +kernel
theorem dX11_clashes_22 : decode cX11_clashes 22 = .ok (.invokevirtual 174, 3) := by decide +kernel
theorem dX11_clashes_25 : decode cX11_clashes 25 = .ok (.goto 4, 3) := by decide +kernel
theorem dX11_clashes_28 : decode cX11_clashes 28 = .ok (.iconst (-1), 1) := by decide +kernel
theorem dX11_clashes_29 : decode cX11_clashes 29 = .ok (.ireturn, 1) := by decide +kernel
theorem dX11_canon_0 : decode cX11_canon 0 = .ok (.iload_n 1, 1) := by decide +kernel
theorem dX11_canon_1 : decode cX11_canon 1 = .ok (.ifCond .ge 5, 3) := by decide +kernel
theorem dX11_canon_4 : decode cX11_canon 4 = .ok (.iconst (-1), 1) := by decide +kernel
theorem dX11_canon_5 : decode cX11_canon 5 = .ok (.ireturn, 1) := by decide +kernel
theorem dX11_canon_6 : decode cX11_canon 6 = .ok (.iload_n 1, 1) := by decide +kernel
theorem dX11_canon_7 : decode cX11_canon 7 = .ok (.istore_n 2, 1) := by decide +kernel
theorem dX11_canon_8 : decode cX11_canon 8 = .ok (.iconst 1, 1) := by decide +kernel
theorem dX11_canon_9 : decode cX11_canon 9 = .ok (.istore_n 3, 1) := by decide +kernel
theorem dX11_canon_10 : decode cX11_canon 10 = .ok (.iload_n 3, 1) := by decide +kernel
theorem dX11_canon_11 : decode cX11_canon 11 = .ok (.aload_n 0, 1) := by decide +kernel
theorem dX11_canon_12 : decode cX11_canon 12 = .ok (.getfield 7, 3) := by decide +kernel
theorem dX11_canon_15 : decode cX11_canon 15 = .ok (.sipush 130, 3) := by decide +kernel
theorem dX11_canon_18 : decode cX11_canon 18 = .ok (.iaload, 1) := by decide +kernel
theorem dX11_canon_19 : decode cX11_canon 19 = .ok (.if_icmp .ge 48, 3) := by decide +kernel
theorem dX11_canon_22 : decode cX11_canon 22 = .ok (.aload_n 0, 1) := by decide +kernel
theorem dX11_canon_23 : decode cX11_canon 23 = .ok (.iload_n 3, 1) := by decide +kernel
theorem dX11_canon_24 : decode cX11_canon 24 = .ok (.invokevirtual 174, 3) := by decide +kernel
theorem dX11_canon_27 : decode cX11_canon 27 = .ok (.ifCond .ne 7, 3) := by decide +kernel
theorem dX11_canon_30 : decode cX11_canon 30 = .ok (.iconst 1, 1) := by decide +kernel
theorem dX11_canon_31 : decode cX11_canon 31 = .ok (.goto 4, 3) := by decide +kernel
theorem dX11_canon_34 : decode cX11_canon 34 = .ok (.iconst 0, 1) := by decide +kernel
theorem dX11_canon_35 : decode cX11_canon 35 = .ok (.istore 4, 2) := by decide +kernel
theorem dX11_canon_37 : decode cX11_canon 37 = .ok (.iload 4, 2) := by decide +kernel
theorem dX11_canon_39 : decode cX11_canon 39 = .ok (.ifCond .eq 9, 3) := by decide +kernel
theorem dX11_canon_42 : decode cX11_canon 42 = .ok (.iload_n 2, 1) := by decide +kernel
theorem dX11_canon_43 : decode cX11_canon 43 = .ok (.ifCond .ne 5, 3) := by decide +kernel
theorem dX11_canon_46 : decode cX11_canon 46 = .ok (.iload_n 3, 1) := by decide +kernel
theorem dX11_canon_47 : decode cX11_canon 47 = .ok (.ireturn, 1) := by decide +kernel
theorem dX11_canon_48 : decode cX11_canon 48 = .ok (.iload_n 2, 1) := by decide +kernel
theorem dX11_canon_49 : decode cX11_canon 49 = .ok (.iload 4, 2) := by decide +kernel
theorem dX11_canon_51 : decode cX11_canon 51 = .ok (.ifCond .eq 7, 3) := by decide +kernel
theorem dX11_canon_54 : decode cX11_canon 54 = .ok (.iconst 1, 1) := by decide +kernel
theorem dX11_canon_55 : decode cX11_canon 55 = .ok (.goto 4, 3) := by decide +kernel
theorem dX11_canon_58 : decode cX11_canon 58 = .ok (.iconst 0, 1) := by decide +kernel
theorem dX11_canon_59 : decode cX11_canon 59 = .ok (.isub, 1) := by decide +kernel
theorem dX11_canon_60 : decode cX11_canon 60 = .ok (.istore_n 2, 1) := by decide +kernel
theorem dX11_canon_61 : decode cX11_canon 61 = .ok (.iinc 3 1, 3) := by decide +kernel
theorem dX11_canon_64 : decode cX11_canon 64 = .ok (.goto (-54), 3) := by decide +kernel
theorem dX11_canon_67 : decode cX11_canon 67 = .ok (.bipush (-4), 2) := by decide +kernel
theorem dX11_canon_69 : decode cX11_canon 69 = .ok (.ireturn, 1) := by decide +kernel
theorem dX11_sea_0 : decode cX11_sea 0 = .ok (.iload_n 1, 1) := by decide +kernel
theorem dX11_sea_1 : decode cX11_sea 1 = .ok (.i2l, 1) := by decide +kernel
theorem dX11_sea_2 : decode cX11_sea 2 = .ok (.lconst 1, 1) := by decide +kernel
theorem dX11_sea_3 : decode cX11_sea 3 = .ok (.ldc2_w 177, 3) := by decide +kernel
theorem dX11_sea_6 : decode cX11_sea 6 = .ok (.invokestatic 72, 3) := by decide +kernel
theorem dX11_sea_9 : decode cX11_sea 9 = .ok (.ifCond .eq 15, 3) := by decide +kernel
theorem dX11_sea_12 : decode cX11_sea 12 = .ok (.iload_n 2, 1) := by decide +kernel
theorem dX11_sea_13 : decode cX11_sea 13 = .ok (.i2l, 1) := by decide +kernel
theorem dX11_sea_14 : decode cX11_sea 14 = .ok (.lconst 1, 1) := by decide +kernel
theorem dX11_sea_15 : decode cX11_sea 15 = .ok (.ldc2_w 179, 3) := by decide +kernel
theorem dX11_sea_18 : decode cX11_sea 18 = .ok (.invokestatic 72, 3) := by decide +kernel
theorem dX11_sea_21 : decode cX11_sea 21 = .ok (.ifCond .ne 5, 3) := by decide +kernel
theorem dX11_sea_24 : decode cX11_sea 24 = .ok (.iconst (-1), 1) := by decide +kernel
theorem dX11_sea_25 : decode cX11_sea 25 = .ok (.ireturn, 1) := by decide +kernel
theorem dX11_sea_26 : decode cX11_sea 26 = .ok (.iload_n 2, 1) := by decide +kernel
theorem dX11_sea_27 : decode cX11_sea 27 = .ok (.iload_n 1, 1) := by decide +kernel
theorem dX11_sea_28 : decode cX11_sea 28 = .ok (.irem, 1) := by decide +kernel
theorem dX11_sea_29 : decode cX11_sea 29 = .ok (.ifCond .ne 12, 3) := by decide +kernel
theorem dX11_sea_32 : decode cX11_sea 32 = .ok (.iload_n 2, 1) := by decide +kernel
theorem dX11_sea_33 : decode cX11_sea 33 = .ok (.iload_n 1, 1) := by decide +kernel
theorem dX11_sea_34 : decode cX11_sea 34 = .ok (.idiv, 1) := by decide +kernel
theorem dX11_sea_35 : decode cX11_sea 35 = .ok (.sipush 2000, 3) := by decide +kernel
theorem dX11_sea_38 : decode cX11_sea 38 = .ok (.if_icmp .le 8, 3) := by decide +kernel
theorem dX11_sea_41 : decode cX11_sea 41 = .ok (.bipush (-4), 2) := by decide +kernel
theorem dX11_sea_43 : decode cX11_sea 43 = .ok (.goto 6, 3) := by decide +kernel
theorem dX11_sea_46 : decode cX11_sea 46 = .ok (.iload_n 2, 1) := by decide +kernel
theorem dX11_sea_47 : decode cX11_sea 47 = .ok (.iload_n 1, 1) := by decide +kernel
theorem dX11_sea_48 : decode cX11_sea 48 = .ok (.idiv, 1) := by decide +kernel
theorem dX11_sea_49 : decode cX11_sea 49 = .ok (.ireturn, 1) := by decide +kernel
theorem dX11_lose_0 : decode cX11_lose 0 = .ok (.iload_n 1, 1) := by decide +kernel
theorem dX11_lose_1 : decode cX11_lose 1 = .ok (.i2l, 1) := by decide +kernel
theorem dX11_lose_2 : decode cX11_lose 2 = .ok (.lconst 1, 1) := by decide +kernel
theorem dX11_lose_3 : decode cX11_lose 3 = .ok (.ldc2_w 181, 3) := by decide +kernel
theorem dX11_lose_6 : decode cX11_lose 6 = .ok (.invokestatic 72, 3) := by decide +kernel
theorem dX11_lose_9 : decode cX11_lose 9 = .ok (.ifCond .eq 24, 3) := by decide +kernel
theorem dX11_lose_12 : decode cX11_lose 12 = .ok (.aload_n 0, 1) := by decide +kernel
theorem dX11_lose_13 : decode cX11_lose 13 = .ok (.iload_n 2, 1) := by decide +kernel
theorem dX11_lose_14 : decode cX11_lose 14 = .ok (.invokevirtual 86, 3) := by decide +kernel
theorem dX11_lose_17 : decode cX11_lose 17 = .ok (.ifCond .eq 16, 3) := by decide +kernel
theorem dX11_lose_20 : decode cX11_lose 20 = .ok (.aload_n 0, 1) := by decide +kernel
theorem dX11_lose_21 : decode cX11_lose 21 = .ok (.iload_n 3, 1) := by decide +kernel
theorem dX11_lose_22 : decode cX11_lose 22 = .ok (.invokevirtual 86, 3) := by decide +kernel
theorem dX11_lose_25 : decode cX11_lose 25 = .ok (.ifCond .eq 8, 3) := by decide +kernel
theorem dX11_lose_28 : decode cX11_lose 28 = .ok (.iload_n 2, 1) := by decide +kernel
theorem dX11_lose_29 : decode cX11_lose 29 = .ok (.iload_n 3, 1) := by decide +kernel
theorem dX11_lose_30 : decode cX11_lose 30 = .ok (.if_icmp .ne 5, 3) := by decide +kernel
theorem dX11_lose_33 : decode cX11_lose 33 = .ok (.iconst (-1), 1) := by decide +kernel
theorem dX11_lose_34 : decode cX11_lose 34 = .ok (.ireturn, 1) := by decide +kernel
theorem dX11_lose_35 : decode cX11_lose 35 = .ok (.sipush 200, 3) := by decide +kernel
theorem dX11_lose_38 : decode cX11_lose 38 = .ok (.bipush 64, 2) := by decide +kernel
theorem dX11_lose_40 : decode cX11_lose 40 = .ok (.iload_n 1, 1) := by decide +kernel
theorem dX11_lose_41 : decode cX11_lose 41 = .ok (.iconst 1, 1) := by decide +kernel
theorem dX11_lose_42 : decode cX11_lose 42 = .ok (.isub, 1) := by decide +kernel
theorem dX11_lose_43 : decode cX11_lose 43 = .ok (.imul, 1) := by decide +kernel
theorem dX11_lose_44 : decode cX11_lose 44 = .ok (.iadd, 1) := by decide +kernel
theorem dX11_lose_45 : decode cX11_lose 45 = .ok (.bipush 8, 2) := by decide +kernel
theorem dX11_lose_47 : decode cX11_lose 47 = .ok (.iload_n 2, 1) := by decide +kernel
theorem dX11_lose_48 : decode cX11_lose 48 = .ok (.imul, 1) := by decide +kernel
theorem dX11_lose_49 : decode cX11_lose 49 = .ok (.iadd, 1) := by decide +kernel
theorem dX11_lose_50 : decode cX11_lose 50 = .ok (.iload_n 3, 1) := by decide +kernel
theorem dX11_lose_51 : decode cX11_lose 51 = .ok (.iadd, 1) := by decide +kernel
theorem dX11_lose_52 : decode cX11_lose 52 = .ok (.istore 5, 2) := by decide +kernel
theorem dX11_lose_54 : decode cX11_lose 54 = .ok (.aload_n 0, 1) := by decide +kernel
theorem dX11_lose_55 : decode cX11_lose 55 = .ok (.getfield 7, 3) := by decide +kernel
theorem dX11_lose_58 : decode cX11_lose 58 = .ok (.iload 5, 2) := by decide +kernel
theorem dX11_lose_60 : decode cX11_lose 60 = .ok (.iaload, 1) := by decide +kernel
theorem dX11_lose_61 : decode cX11_lose 61 = .ok (.istore 6, 2) := by decide +kernel
theorem dX11_lose_63 : decode cX11_lose 63 = .ok (.aload_n 0, 1) := by decide +kernel
theorem dX11_lose_64 : decode cX11_lose 64 = .ok (.getfield 7, 3) := by decide +kernel
theorem dX11_lose_67 : decode cX11_lose 67 = .ok (.iload 5, 2) := by decide +kernel
theorem dX11_lose_69 : decode cX11_lose 69 = .ok (.iload 4, 2) := by decide +kernel
theorem dX11_lose_71 : decode cX11_lose 71 = .ok (.ifCond .eq 7, 3) := by decide +kernel
theorem dX11_lose_74 : decode cX11_lose 74 = .ok (.iconst 1, 1) := by decide +kernel
theorem dX11_lose_75 : decode cX11_lose 75 = .ok (.goto 4, 3) := by decide +kernel
theorem dX11_lose_78 : decode cX11_lose 78 = .ok (.iconst 0, 1) := by decide +kernel
theorem dX11_lose_79 : decode cX11_lose 79 = .ok (.iastore, 1) := by decide +kernel
theorem dX11_lose_80 : decode cX11_lose 80 = .ok (.iload 6, 2) := by decide +kernel
theorem dX11_lose_82 : decode cX11_lose 82 = .ok (.ireturn, 1) := by decide +kernel
theorem dX11_tells_0 : decode cX11_tells 0 = .ok (.iconst 0, 1) := by decide +kernel
theorem dX11_tells_1 : decode cX11_tells 1 = .ok (.istore_n 2, 1) := by decide +kernel
theorem dX11_tells_2 : decode cX11_tells 2 = .ok (.iload_n 2, 1) := by decide +kernel
theorem dX11_tells_3 : decode cX11_tells 3 = .ok (.aload_n 0, 1) := by decide +kernel
theorem dX11_tells_4 : decode cX11_tells 4 = .ok (.invokevirtual 82, 3) := by decide +kernel
theorem dX11_tells_7 : decode cX11_tells 7 = .ok (.if_icmp .ge 18, 3) := by decide +kernel
theorem dX11_tells_10 : decode cX11_tells 10 = .ok (.aload_n 0, 1) := by decide +kernel
theorem dX11_tells_11 : decode cX11_tells 11 = .ok (.getfield 29, 3) := by decide +kernel
theorem dX11_tells_14 : decode cX11_tells 14 = .ok (.iload_n 2, 1) := by decide +kernel
theorem dX11_tells_15 : decode cX11_tells 15 = .ok (.iconst 1, 1) := by decide +kernel
theorem dX11_tells_16 : decode cX11_tells 16 = .ok (.iload_n 2, 1) := by decide +kernel
theorem dX11_tells_17 : decode cX11_tells 17 = .ok (.ishl, 1) := by decide +kernel
theorem dX11_tells_18 : decode cX11_tells 18 = .ok (.iastore, 1) := by decide +kernel
theorem dX11_tells_19 : decode cX11_tells 19 = .ok (.iinc 2 1, 3) := by decide +kernel
theorem dX11_tells_22 : decode cX11_tells 22 = .ok (.goto (-20), 3) := by decide +kernel
theorem dX11_tells_25 : decode cX11_tells 25 = .ok (.iconst 1, 1) := by decide +kernel
theorem dX11_tells_26 : decode cX11_tells 26 = .ok (.istore_n 2, 1) := by decide +kernel
theorem dX11_tells_27 : decode cX11_tells 27 = .ok (.iload_n 2, 1) := by decide +kernel
theorem dX11_tells_28 : decode cX11_tells 28 = .ok (.iload_n 1, 1) := by decide +kernel
theorem dX11_tells_29 : decode cX11_tells 29 = .ok (.if_icmp .gt 174, 3) := by decide +kernel
theorem dX11_tells_32 : decode cX11_tells 32 = .ok (.iconst 0, 1) := by decide +kernel
theorem dX11_tells_33 : decode cX11_tells 33 = .ok (.istore_n 3, 1) := by decide +kernel
theorem dX11_tells_34 : decode cX11_tells 34 = .ok (.iload_n 3, 1) := by decide +kernel
theorem dX11_tells_35 : decode cX11_tells 35 = .ok (.aload_n 0, 1) := by decide +kernel
theorem dX11_tells_36 : decode cX11_tells 36 = .ok (.invokevirtual 82, 3) := by decide +kernel
theorem dX11_tells_39 : decode cX11_tells 39 = .ok (.if_icmp .ge 130, 3) := by decide +kernel
theorem dX11_tells_42 : decode cX11_tells 42 = .ok (.aload_n 0, 1) := by decide +kernel
theorem dX11_tells_43 : decode cX11_tells 43 = .ok (.getfield 32, 3) := by decide +kernel
theorem dX11_tells_46 : decode cX11_tells 46 = .ok (.iload_n 3, 1) := by decide +kernel
theorem dX11_tells_47 : decode cX11_tells 47 = .ok (.aload_n 0, 1) := by decide +kernel
theorem dX11_tells_48 : decode cX11_tells 48 = .ok (.getfield 29, 3) := by decide +kernel
theorem dX11_tells_51 : decode cX11_tells 51 = .ok (.iload_n 3, 1) := by decide +kernel
theorem dX11_tells_52 : decode cX11_tells 52 = .ok (.iaload, 1) := by decide +kernel
theorem dX11_tells_53 : decode cX11_tells 53 = .ok (.iastore, 1) := by decide +kernel
theorem dX11_tells_54 : decode cX11_tells 54 = .ok (.iconst 0, 1) := by decide +kernel
theorem dX11_tells_55 : decode cX11_tells 55 = .ok (.istore 4, 2) := by decide +kernel
theorem dX11_tells_57 : decode cX11_tells 57 = .ok (.iload 4, 2) := by decide +kernel
theorem dX11_tells_59 : decode cX11_tells 59 = .ok (.aload_n 0, 1) := by decide +kernel
theorem dX11_tells_60 : decode cX11_tells 60 = .ok (.invokevirtual 82, 3) := by decide +kernel
theorem dX11_tells_63 : decode cX11_tells 63 = .ok (.if_icmp .ge 100, 3) := by decide +kernel
theorem dX11_tells_66 : decode cX11_tells 66 = .ok (.iload 4, 2) := by decide +kernel
theorem dX11_tells_68 : decode cX11_tells 68 = .ok (.iload_n 3, 1) := by decide +kernel
theorem dX11_tells_69 : decode cX11_tells 69 = .ok (.if_icmp .eq 60, 3) := by decide +kernel
theorem dX11_tells_72 : decode cX11_tells 72 = .ok (.aload_n 0, 1) := by decide +kernel
theorem dX11_tells_73 : decode cX11_tells 73 = .ok (.iload 4, 2) := by decide +kernel
theorem dX11_tells_75 : decode cX11_tells 75 = .ok (.invokevirtual 137, 3) := by decide +kernel
theorem dX11_tells_78 : decode cX11_tells 78 = .ok (.ifCond .ne 51, 3) := by decide +kernel
theorem dX11_tells_81 : decode cX11_tells 81 = .ok (.aload_n 0, 1) := by decide +kernel
theorem dX11_tells_82 : decode cX11_tells 82 = .ok (.iload_n 3, 1) := by decide +kernel
theorem dX11_tells_83 : decode cX11_tells 83 = .ok (.invokevirtual 137, 3) := by decide +kernel
theorem dX11_tells_86 : decode cX11_tells 86 = .ok (.ifCond .ne 43, 3) := by decide +kernel
theorem dX11_tells_89 : decode cX11_tells 89 = .ok (.aload_n 0, 1) := by decide +kernel
theorem dX11_tells_90 : decode cX11_tells 90 = .ok (.iload 4, 2) := by decide +kernel
theorem dX11_tells_92 : decode cX11_tells 92 = .ok (.iload_n 3, 1) := by decide +kernel
theorem dX11_tells_93 : decode cX11_tells 93 = .ok (.invokevirtual 96, 3) := by decide +kernel
theorem dX11_tells_96 : decode cX11_tells 96 = .ok (.ifCond .le 33, 3) := by decide +kernel
theorem dX11_tells_99 : decode cX11_tells 99 = .ok (.aload_n 0, 1) := by decide +kernel
theorem dX11_tells_100 : decode cX11_tells 100 = .ok (.getfield 7, 3) := by decide +kernel
theorem dX11_tells_103 : decode cX11_tells 103 = .ok (.sipush 200, 3) := by decide +kernel
theorem dX11_tells_106 : decode cX11_tells 106 = .ok (.bipush 64, 2) := by decide +kernel
theorem dX11_tells_108 : decode cX11_tells 108 = .ok (.iload_n 2, 1) := by decide +kernel
theorem dX11_tells_109 : decode cX11_tells 109 = .ok (.iconst 1, 1) := by decide +kernel
theorem dX11_tells_110 : decode cX11_tells 110 = .ok (.isub, 1) := by decide +kernel
theorem dX11_tells_111 : decode cX11_tells 111 = .ok (.imul, 1) := by decide +kernel
theorem dX11_tells_112 : decode cX11_tells 112 = .ok (.iadd, 1) := by decide +kernel
theorem dX11_tells_113 : decode cX11_tells 113 = .ok (.bipush 8, 2) := by decide +kernel
theorem dX11_tells_115 : decode cX11_tells 115 = .ok (.iload 4, 2) := by decide +kernel
theorem dX11_tells_117 : decode cX11_tells 117 = .ok (.imul, 1) := by decide +kernel
theorem dX11_tells_118 : decode cX11_tells 118 = .ok (.iadd, 1) := by decide +kernel
theorem dX11_tells_119 : decode cX11_tells 119 = .ok (.iload_n 3, 1) := by decide +kernel
theorem dX11_tells_120 : decode cX11_tells 120 = .ok (.iadd, 1) := by decide +kernel
theorem dX11_tells_121 : decode cX11_tells 121 = .ok (.iaload, 1) := by decide +kernel
theorem dX11_tells_122 : decode cX11_tells 122 = .ok (.ifCond .ne 7, 3) := by decide +kernel
theorem dX11_tells_125 : decode cX11_tells 125 = .ok (.iconst 1, 1) := by decide +kernel
theorem dX11_tells_126 : decode cX11_tells 126 = .ok (.goto 4, 3) := by decide +kernel
theorem dX11_tells_129 : decode cX11_tells 129 = .ok (.iconst 0, 1) := by decide +kernel
theorem dX11_tells_130 : decode cX11_tells 130 = .ok (.istore 5, 2) := by decide +kernel
theorem dX11_tells_132 : decode cX11_tells 132 = .ok (.aload_n 0, 1) := by decide +kernel
theorem dX11_tells_133 : decode cX11_tells 133 = .ok (.getfield 32, 3) := by decide +kernel
theorem dX11_tells_136 : decode cX11_tells 136 = .ok (.iload_n 3, 1) := by decide +kernel
theorem dX11_tells_137 : decode cX11_tells 137 = .ok (.dup2, 1) := by decide +kernel
theorem dX11_tells_138 : decode cX11_tells 138 = .ok (.iaload, 1) := by decide +kernel
theorem dX11_tells_139 : decode cX11_tells 139 = .ok (.iload 5, 2) := by decide +kernel
theorem dX11_tells_141 : decode cX11_tells 141 = .ok (.ifCond .eq 13, 3) := by decide +kernel
theorem dX11_tells_144 : decode cX11_tells 144 = .ok (.aload_n 0, 1) := by decide +kernel
theorem dX11_tells_145 : decode cX11_tells 145 = .ok (.getfield 29, 3) := by decide +kernel
theorem dX11_tells_148 : decode cX11_tells 148 = .ok (.iload 4, 2) := by decide +kernel
theorem dX11_tells_150 : decode cX11_tells 150 = .ok (.iaload, 1) := by decide +kernel
theorem dX11_tells_151 : decode cX11_tells 151 = .ok (.goto 4, 3) := by decide +kernel
theorem dX11_tells_154 : decode cX11_tells 154 = .ok (.iconst 0, 1) := by decide +kernel
theorem dX11_tells_155 : decode cX11_tells 155 = .ok (.ior, 1) := by decide +kernel
theorem dX11_tells_156 : decode cX11_tells 156 = .ok (.iastore, 1) := by decide +kernel
theorem dX11_tells_157 : decode cX11_tells 157 = .ok (.iinc 4 1, 3) := by decide +kernel
theorem dX11_tells_160 : decode cX11_tells 160 = .ok (.goto (-103), 3) := by decide +kernel
theorem dX11_tells_163 : decode cX11_tells 163 = .ok (.iinc 3 1, 3) := by decide +kernel
theorem dX11_tells_166 : decode cX11_tells 166 = .ok (.goto (-132), 3) := by decide +kernel
theorem dX11_tells_169 : decode cX11_tells 169 = .ok (.iconst 0, 1) := by decide +kernel
theorem dX11_tells_170 : decode cX11_tells 170 = .ok (.istore_n 3, 1) := by decide +kernel
theorem dX11_tells_171 : decode cX11_tells 171 = .ok (.iload_n 3, 1) := by decide +kernel
theorem dX11_tells_172 : decode cX11_tells 172 = .ok (.aload_n 0, 1) := by decide +kernel
theorem dX11_tells_173 : decode cX11_tells 173 = .ok (.invokevirtual 82, 3) := by decide +kernel
theorem dX11_tells_176 : decode cX11_tells 176 = .ok (.if_icmp .ge 21, 3) := by decide +kernel
theorem dX11_tells_179 : decode cX11_tells 179 = .ok (.aload_n 0, 1) := by decide +kernel
theorem dX11_tells_180 : decode cX11_tells 180 = .ok (.getfield 29, 3) := by decide +kernel
theorem dX11_tells_183 : decode cX11_tells 183 = .ok (.iload_n 3, 1) := by decide +kernel
theorem dX11_tells_184 : decode cX11_tells 184 = .ok (.aload_n 0, 1) := by decide +kernel
theorem dX11_tells_185 : decode cX11_tells 185 = .ok (.getfield 32, 3) := by decide +kernel
theorem dX11_tells_188 : decode cX11_tells 188 = .ok (.iload_n 3, 1) := by decide +kernel
theorem dX11_tells_189 : decode cX11_tells 189 = .ok (.iaload, 1) := by decide +kernel
theorem dX11_tells_190 : decode cX11_tells 190 = .ok (.iastore, 1) := by decide +kernel
theorem dX11_tells_191 : decode cX11_tells 191 = .ok (.iinc 3 1, 3) := by decide +kernel
theorem dX11_tells_194 : decode cX11_tells 194 = .ok (.goto (-23), 3) := by decide +kernel
theorem dX11_tells_197 : decode cX11_tells 197 = .ok (.iinc 2 1, 3) := by decide +kernel
theorem dX11_tells_200 : decode cX11_tells 200 = .ok (.goto (-173), 3) := by decide +kernel
theorem dX11_tells_203 : decode cX11_tells 203 = .ok (.return_, 1) := by decide +kernel
theorem dX11_knows_0 : decode cX11_knows 0 = .ok (.aload_n 0, 1) := by decide +kernel
theorem dX11_knows_1 : decode cX11_knows 1 = .ok (.iload_n 1, 1) := by decide +kernel
theorem dX11_knows_2 : decode cX11_knows 2 = .ok (.invokevirtual 86, 3) := by decide +kernel
theorem dX11_knows_5 : decode cX11_knows 5 = .ok (.ifCond .eq 15, 3) := by decide +kernel
theorem dX11_knows_8 : decode cX11_knows 8 = .ok (.iload_n 2, 1) := by decide +kernel
theorem dX11_knows_9 : decode cX11_knows 9 = .ok (.i2l, 1) := by decide +kernel
theorem dX11_knows_10 : decode cX11_knows 10 = .ok (.lconst 0, 1) := by decide +kernel
theorem dX11_knows_11 : decode cX11_knows 11 = .ok (.ldc2_w 181, 3) := by decide +kernel
theorem dX11_knows_14 : decode cX11_knows 14 = .ok (.invokestatic 72, 3) := by decide +kernel
theorem dX11_knows_17 : decode cX11_knows 17 = .ok (.ifCond .ne 5, 3) := by decide +kernel
theorem dX11_knows_20 : decode cX11_knows 20 = .ok (.iconst (-1), 1) := by decide +kernel
theorem dX11_knows_21 : decode cX11_knows 21 = .ok (.ireturn, 1) := by decide +kernel
theorem dX11_knows_22 : decode cX11_knows 22 = .ok (.aload_n 0, 1) := by decide +kernel
theorem dX11_knows_23 : decode cX11_knows 23 = .ok (.iload_n 2, 1) := by decide +kernel
theorem dX11_knows_24 : decode cX11_knows 24 = .ok (.invokevirtual 183, 3) := by decide +kernel
theorem dX11_knows_27 : decode cX11_knows 27 = .ok (.aload_n 0, 1) := by decide +kernel
theorem dX11_knows_28 : decode cX11_knows 28 = .ok (.getfield 29, 3) := by decide +kernel
theorem dX11_knows_31 : decode cX11_knows 31 = .ok (.iload_n 1, 1) := by decide +kernel
theorem dX11_knows_32 : decode cX11_knows 32 = .ok (.iaload, 1) := by decide +kernel
theorem dX11_knows_33 : decode cX11_knows 33 = .ok (.ireturn, 1) := by decide +kernel
theorem dX11_goes_0 : decode cX11_goes 0 = .ok (.aload_n 0, 1) := by decide +kernel
theorem dX11_goes_1 : decode cX11_goes 1 = .ok (.iload_n 1, 1) := by decide +kernel
theorem dX11_goes_2 : decode cX11_goes 2 = .ok (.invokevirtual 86, 3) := by decide +kernel
theorem dX11_goes_5 : decode cX11_goes 5 = .ok (.ifCond .eq 15, 3) := by decide +kernel
theorem dX11_goes_8 : decode cX11_goes 8 = .ok (.iload_n 2, 1) := by decide +kernel
theorem dX11_goes_9 : decode cX11_goes 9 = .ok (.i2l, 1) := by decide +kernel
theorem dX11_goes_10 : decode cX11_goes 10 = .ok (.lconst 0, 1) := by decide +kernel
theorem dX11_goes_11 : decode cX11_goes 11 = .ok (.ldc2_w 181, 3) := by decide +kernel
theorem dX11_goes_14 : decode cX11_goes 14 = .ok (.invokestatic 72, 3) := by decide +kernel
theorem dX11_goes_17 : decode cX11_goes 17 = .ok (.ifCond .ne 5, 3) := by decide +kernel
theorem dX11_goes_20 : decode cX11_goes 20 = .ok (.iconst (-1), 1) := by decide +kernel
theorem dX11_goes_21 : decode cX11_goes 21 = .ok (.ireturn, 1) := by decide +kernel
theorem dX11_goes_22 : decode cX11_goes 22 = .ok (.aload_n 0, 1) := by decide +kernel
theorem dX11_goes_23 : decode cX11_goes 23 = .ok (.iload_n 2, 1) := by decide +kernel
theorem dX11_goes_24 : decode cX11_goes 24 = .ok (.invokevirtual 183, 3) := by decide +kernel
theorem dX11_goes_27 : decode cX11_goes 27 = .ok (.bipush 64, 2) := by decide +kernel
theorem dX11_goes_29 : decode cX11_goes 29 = .ok (.istore_n 3, 1) := by decide +kernel
theorem dX11_goes_30 : decode cX11_goes 30 = .ok (.iconst 0, 1) := by decide +kernel
theorem dX11_goes_31 : decode cX11_goes 31 = .ok (.istore 4, 2) := by decide +kernel
theorem dX11_goes_33 : decode cX11_goes 33 = .ok (.iconst 0, 1) := by decide +kernel
theorem dX11_goes_34 : decode cX11_goes 34 = .ok (.istore 5, 2) := by decide +kernel
theorem dX11_goes_36 : decode cX11_goes 36 = .ok (.iload 5, 2) := by decide +kernel
theorem dX11_goes_38 : decode cX11_goes 38 = .ok (.aload_n 0, 1) := by decide +kernel
theorem dX11_goes_39 : decode cX11_goes 39 = .ok (.invokevirtual 82, 3) := by decide +kernel
theorem dX11_goes_42 : decode cX11_goes 42 = .ok (.if_icmp .ge 50, 3) := by decide +kernel
theorem dX11_goes_45 : decode cX11_goes 45 = .ok (.aload_n 0, 1) := by decide +kernel
theorem dX11_goes_46 : decode cX11_goes 46 = .ok (.iload 5, 2) := by decide +kernel
theorem dX11_goes_48 : decode cX11_goes 48 = .ok (.invokevirtual 137, 3) := by decide +kernel
theorem dX11_goes_51 : decode cX11_goes 51 = .ok (.ifCond .ne 35, 3) := by decide +kernel
theorem dX11_goes_54 : decode cX11_goes 54 = .ok (.iload 4, 2) := by decide +kernel
theorem dX11_goes_56 : decode cX11_goes 56 = .ok (.iconst 1, 1) := by decide +kernel
theorem dX11_goes_57 : decode cX11_goes 57 = .ok (.iload 5, 2) := by decide +kernel
theorem dX11_goes_59 : decode cX11_goes 59 = .ok (.ishl, 1) := by decide +kernel
theorem dX11_goes_60 : decode cX11_goes 60 = .ok (.ior, 1) := by decide +kernel
theorem dX11_goes_61 : decode cX11_goes 61 = .ok (.istore 4, 2) := by decide +kernel
theorem dX11_goes_63 : decode cX11_goes 63 = .ok (.aload_n 0, 1) := by decide +kernel
theorem dX11_goes_64 : decode cX11_goes 64 = .ok (.iload 5, 2) := by decide +kernel
theorem dX11_goes_66 : decode cX11_goes 66 = .ok (.iconst 5, 1) := by decide +kernel
theorem dX11_goes_67 : decode cX11_goes 67 = .ok (.invokevirtual 76, 3) := by decide +kernel
theorem dX11_goes_70 : decode cX11_goes 70 = .ok (.iload_n 3, 1) := by decide +kernel
theorem dX11_goes_71 : decode cX11_goes 71 = .ok (.if_icmp .ge 13, 3) := by decide +kernel
theorem dX11_goes_74 : decode cX11_goes 74 = .ok (.aload_n 0, 1) := by decide +kernel
theorem dX11_goes_75 : decode cX11_goes 75 = .ok (.iload 5, 2) := by decide +kernel
theorem dX11_goes_77 : decode cX11_goes 77 = .ok (.iconst 5, 1) := by decide +kernel
theorem dX11_goes_78 : decode cX11_goes 78 = .ok (.invokevirtual 76, 3) := by decide +kernel
theorem dX11_goes_81 : decode cX11_goes 81 = .ok (.goto 4, 3) := by decide +kernel
theorem dX11_goes_84 : decode cX11_goes 84 = .ok (.iload_n 3, 1) := by decide +kernel
theorem dX11_goes_85 : decode cX11_goes 85 = .ok (.istore_n 3, 1) := by decide +kernel
theorem dX11_goes_86 : decode cX11_goes 86 = .ok (.iinc 5 1, 3) := by decide +kernel
theorem dX11_goes_89 : decode cX11_goes 89 = .ok (.goto (-53), 3) := by decide +kernel
theorem dX11_goes_92 : decode cX11_goes 92 = .ok (.aload_n 0, 1) := by decide +kernel
theorem dX11_goes_93 : decode cX11_goes 93 = .ok (.iload_n 1, 1) := by decide +kernel
theorem dX11_goes_94 : decode cX11_goes 94 = .ok (.invokevirtual 137, 3) := by decide +kernel
theorem dX11_goes_97 : decode cX11_goes 97 = .ok (.ifCond .ne 17, 3) := by decide +kernel
theorem dX11_goes_100 : decode cX11_goes 100 = .ok (.aload_n 0, 1) := by decide +kernel
theorem dX11_goes_101 : decode cX11_goes 101 = .ok (.getfield 29, 3) := by decide +kernel
theorem dX11_goes_104 : decode cX11_goes 104 = .ok (.iload_n 1, 1) := by decide +kernel
theorem dX11_goes_105 : decode cX11_goes 105 = .ok (.iaload, 1) := by decide +kernel
theorem dX11_goes_106 : decode cX11_goes 106 = .ok (.iload 4, 2) := by decide +kernel
theorem dX11_goes_108 : decode cX11_goes 108 = .ok (.iand, 1) := by decide +kernel
theorem dX11_goes_109 : decode cX11_goes 109 = .ok (.iload 4, 2) := by decide +kernel
theorem dX11_goes_111 : decode cX11_goes 111 = .ok (.if_icmp .eq 6, 3) := by decide +kernel
theorem dX11_goes_114 : decode cX11_goes 114 = .ok (.bipush (-4), 2) := by decide +kernel
theorem dX11_goes_116 : decode cX11_goes 116 = .ok (.ireturn, 1) := by decide +kernel
theorem dX11_goes_117 : decode cX11_goes 117 = .ok (.iconst 0, 1) := by decide +kernel
theorem dX11_goes_118 : decode cX11_goes 118 = .ok (.istore 5, 2) := by decide +kernel
theorem dX11_goes_120 : decode cX11_goes 120 = .ok (.iconst 0, 1) := by decide +kernel
theorem dX11_goes_121 : decode cX11_goes 121 = .ok (.istore 6, 2) := by decide +kernel
theorem dX11_goes_123 : decode cX11_goes 123 = .ok (.iload 6, 2) := by decide +kernel
theorem dX11_goes_125 : decode cX11_goes 125 = .ok (.aload_n 0, 1) := by decide +kernel
theorem dX11_goes_126 : decode cX11_goes 126 = .ok (.getfield 7, 3) := by decide +kernel
theorem dX11_goes_129 : decode cX11_goes 129 = .ok (.sipush 130, 3) := by decide +kernel
theorem dX11_goes_132 : decode cX11_goes 132 = .ok (.iaload, 1) := by decide +kernel
theorem dX11_goes_133 : decode cX11_goes 133 = .ok (.if_icmp .ge 44, 3) := by decide +kernel
theorem dX11_goes_136 : decode cX11_goes 136 = .ok (.aload_n 0, 1) := by decide +kernel
theorem dX11_goes_137 : decode cX11_goes 137 = .ok (.getfield 7, 3) := by decide +kernel
theorem dX11_goes_140 : decode cX11_goes 140 = .ok (.sipush 136, 3) := by decide +kernel
theorem dX11_goes_143 : decode cX11_goes 143 = .ok (.iload 6, 2) := by decide +kernel
theorem dX11_goes_145 : decode cX11_goes 145 = .ok (.iadd, 1) := by decide +kernel
theorem dX11_goes_146 : decode cX11_goes 146 = .ok (.iaload, 1) := by decide +kernel
theorem dX11_goes_147 : decode cX11_goes 147 = .ok (.bipush 10, 2) := by decide +kernel
theorem dX11_goes_149 : decode cX11_goes 149 = .ok (.if_icmp .lt 18, 3) := by decide +kernel
theorem dX11_goes_152 : decode cX11_goes 152 = .ok (.iload 6, 2) := by decide +kernel
theorem dX11_goes_154 : decode cX11_goes 154 = .ok (.iconst 1, 1) := by decide +kernel
theorem dX11_goes_155 : decode cX11_goes 155 = .ok (.iadd, 1) := by decide +kernel
theorem dX11_goes_156 : decode cX11_goes 156 = .ok (.iload_n 3, 1) := by decide +kernel
theorem dX11_goes_157 : decode cX11_goes 157 = .ok (.if_icmp .gt 10, 3) := by decide +kernel
theorem dX11_goes_160 : decode cX11_goes 160 = .ok (.iload 6, 2) := by decide +kernel
theorem dX11_goes_162 : decode cX11_goes 162 = .ok (.iconst 1, 1) := by decide +kernel
theorem dX11_goes_163 : decode cX11_goes 163 = .ok (.iadd, 1) := by decide +kernel
theorem dX11_goes_164 : decode cX11_goes 164 = .ok (.goto 5, 3) := by decide +kernel
theorem dX11_goes_167 : decode cX11_goes 167 = .ok (.iload 5, 2) := by decide +kernel
theorem dX11_goes_169 : decode cX11_goes 169 = .ok (.istore 5, 2) := by decide +kernel
theorem dX11_goes_171 : decode cX11_goes 171 = .ok (.iinc 6 1, 3) := by decide +kernel
theorem dX11_goes_174 : decode cX11_goes 174 = .ok (.goto (-51), 3) := by decide +kernel
theorem dX11_goes_177 : decode cX11_goes 177 = .ok (.iload 5, 2) := by decide +kernel
theorem dX11_goes_179 : decode cX11_goes 179 = .ok (.ireturn, 1) := by decide +kernel
theorem dX11_loss_0 : decode cX11_loss 0 = .ok (.lload_n 1, 1) := by decide +kernel
theorem dX11_loss_1 : decode cX11_loss 1 = .ok (.lconst 0, 1) := by decide +kernel
theorem dX11_loss_2 : decode cX11_loss 2 = .ok (.ldc2_w 187, 3) := by decide +kernel
theorem dX11_loss_5 : decode cX11_loss 5 = .ok (.invokestatic 72, 3) := by decide +kernel
theorem dX11_loss_8 : decode cX11_loss 8 = .ok (.ifCond .ne 5, 3) := by decide +kernel
theorem dX11_loss_11 : decode cX11_loss 11 = .ok (.iconst (-1), 1) := by decide +kernel
theorem dX11_loss_12 : decode cX11_loss 12 = .ok (.ireturn, 1) := by decide +kernel
theorem dX11_loss_13 : decode cX11_loss 13 = .ok (.aload_n 0, 1) := by decide +kernel
theorem dX11_loss_14 : decode cX11_loss 14 = .ok (.getfield 7, 3) := by decide +kernel
theorem dX11_loss_17 : decode cX11_loss 17 = .ok (.sipush 132, 3) := by decide +kernel
theorem dX11_loss_20 : decode cX11_loss 20 = .ok (.iaload, 1) := by decide +kernel
theorem dX11_loss_21 : decode cX11_loss 21 = .ok (.bipush 8, 2) := by decide +kernel
theorem dX11_loss_23 : decode cX11_loss 23 = .ok (.if_icmp .ne 6, 3) := by decide +kernel
theorem dX11_loss_26 : decode cX11_loss 26 = .ok (.bipush (-3), 2) := by decide +kernel
theorem dX11_loss_28 : decode cX11_loss 28 = .ok (.ireturn, 1) := by decide +kernel
theorem dX11_loss_29 : decode cX11_loss 29 = .ok (.aload_n 0, 1) := by decide +kernel
theorem dX11_loss_30 : decode cX11_loss 30 = .ok (.getfield 13, 3) := by decide +kernel
theorem dX11_loss_33 : decode cX11_loss 33 = .ok (.aload_n 0, 1) := by decide +kernel
theorem dX11_loss_34 : decode cX11_loss 34 = .ok (.getfield 7, 3) := by decide +kernel
theorem dX11_loss_37 : decode cX11_loss 37 = .ok (.sipush 132, 3) := by decide +kernel
theorem dX11_loss_40 : decode cX11_loss 40 = .ok (.iaload, 1) := by decide +kernel
theorem dX11_loss_41 : decode cX11_loss 41 = .ok (.lload_n 1, 1) := by decide +kernel
theorem dX11_loss_42 : decode cX11_loss 42 = .ok (.lastore, 1) := by decide +kernel
theorem dX11_loss_43 : decode cX11_loss 43 = .ok (.aload_n 0, 1) := by decide +kernel
theorem dX11_loss_44 : decode cX11_loss 44 = .ok (.getfield 7, 3) := by decide +kernel
theorem dX11_loss_47 : decode cX11_loss 47 = .ok (.sipush 132, 3) := by decide +kernel
theorem dX11_loss_50 : decode cX11_loss 50 = .ok (.dup2, 1) := by decide +kernel
theorem dX11_loss_51 : decode cX11_loss 51 = .ok (.iaload, 1) := by decide +kernel
theorem dX11_loss_52 : decode cX11_loss 52 = .ok (.iconst 1, 1) := by decide +kernel
theorem dX11_loss_53 : decode cX11_loss 53 = .ok (.iadd, 1) := by decide +kernel
theorem dX11_loss_54 : decode cX11_loss 54 = .ok (.iastore, 1) := by decide +kernel
theorem dX11_loss_55 : decode cX11_loss 55 = .ok (.aload_n 0, 1) := by decide +kernel
theorem dX11_loss_56 : decode cX11_loss 56 = .ok (.getfield 7, 3) := by decide +kernel
theorem dX11_loss_59 : decode cX11_loss 59 = .ok (.sipush 132, 3) := by decide +kernel
theorem dX11_loss_62 : decode cX11_loss 62 = .ok (.iaload, 1) := by decide +kernel
theorem dX11_loss_63 : decode cX11_loss 63 = .ok (.iconst 1, 1) := by decide +kernel
theorem dX11_loss_64 : decode cX11_loss 64 = .ok (.isub, 1) := by decide +kernel
theorem dX11_loss_65 : decode cX11_loss 65 = .ok (.ireturn, 1) := by decide +kernel
theorem dX11_lostBy_0 : decode cX11_lostBy 0 = .ok (.iconst 0, 1) := by decide +kernel
theorem dX11_lostBy_1 : decode cX11_lostBy 1 = .ok (.istore_n 3, 1) := by decide +kernel
theorem dX11_lostBy_2 : decode cX11_lostBy 2 = .ok (.iconst 0, 1) := by decide +kernel
theorem dX11_lostBy_3 : decode cX11_lostBy 3 = .ok (.istore 4, 2) := by decide +kernel
theorem dX11_lostBy_5 : decode cX11_lostBy 5 = .ok (.iload 4, 2) := by decide +kernel
theorem dX11_lostBy_7 : decode cX11_lostBy 7 = .ok (.bipush 24, 2) := by decide +kernel
theorem dX11_lostBy_9 : decode cX11_lostBy 9 = .ok (.if_icmp .ge 148, 3) := by decide +kernel
theorem dX11_lostBy_12 : decode cX11_lostBy 12 = .ok (.iconst 0, 1) := by decide +kernel
theorem dX11_lostBy_13 : decode cX11_lostBy 13 = .ok (.istore 5, 2) := by decide +kernel
theorem dX11_lostBy_15 : decode cX11_lostBy 15 = .ok (.iconst 0, 1) := by decide +kernel
theorem dX11_lostBy_16 : decode cX11_lostBy 16 = .ok (.istore 6, 2) := by decide +kernel
theorem dX11_lostBy_18 : decode cX11_lostBy 18 = .ok (.iload 4, 2) := by decide +kernel
theorem dX11_lostBy_20 : decode cX11_lostBy 20 = .ok (.istore 7, 2) := by decide +kernel
theorem dX11_lostBy_22 : decode cX11_lostBy 22 = .ok (.iload 7, 2) := by decide +kernel
theorem dX11_lostBy_24 : decode cX11_lostBy 24 = .ok (.iload 4, 2) := by decide +kernel
theorem dX11_lostBy_26 : decode cX11_lostBy 26 = .ok (.iload_n 2, 1) := by decide +kernel
theorem dX11_lostBy_27 : decode cX11_lostBy 27 = .ok (.iadd, 1) := by decide +kernel
theorem dX11_lostBy_28 : decode cX11_lostBy 28 = .ok (.if_icmp .ge 72, 3) := by decide +kernel
theorem dX11_lostBy_31 : decode cX11_lostBy 31 = .ok (.iload 7, 2) := by decide +kernel
theorem dX11_lostBy_33 : decode cX11_lostBy 33 = .ok (.bipush 24, 2) := by decide +kernel
theorem dX11_lostBy_35 : decode cX11_lostBy 35 = .ok (.if_icmp .ge 65, 3) := by decide +kernel
theorem dX11_lostBy_38 : decode cX11_lostBy 38 = .ok (.aload_n 0, 1) := by decide +kernel
theorem dX11_lostBy_39 : decode cX11_lostBy 39 = .ok (.getfield 13, 3) := by decide +kernel
theorem dX11_lostBy_42 : decode cX11_lostBy 42 = .ok (.iload_n 1, 1) := by decide +kernel
theorem dX11_lostBy_43 : decode cX11_lostBy 43 = .ok (.laload, 1) := by decide +kernel
theorem dX11_lostBy_44 : decode cX11_lostBy 44 = .ok (.iload 7, 2) := by decide +kernel
theorem dX11_lostBy_46 : decode cX11_lostBy 46 = .ok (.lshr, 1) := by decide +kernel
theorem dX11_lostBy_47 : decode cX11_lostBy 47 = .ok (.lconst 1, 1) := by decide +kernel
theorem dX11_lostBy_48 : decode cX11_lostBy 48 = .ok (.land, 1) := by decide +kernel
theorem dX11_lostBy_49 : decode cX11_lostBy 49 = .ok (.lconst 1, 1) := by decide +kernel
theorem dX11_lostBy_50 : decode cX11_lostBy 50 = .ok (.lcmp, 1) := by decide +kernel
theorem dX11_lostBy_51 : decode cX11_lostBy 51 = .ok (.ifCond .ne 7, 3) := by decide +kernel
theorem dX11_lostBy_54 : decode cX11_lostBy 54 = .ok (.iconst 1, 1) := by decide +kernel
theorem dX11_lostBy_55 : decode cX11_lostBy 55 = .ok (.goto 4, 3) := by decide +kernel
theorem dX11_lostBy_58 : decode cX11_lostBy 58 = .ok (.iconst 0, 1) := by decide +kernel
theorem dX11_lostBy_59 : decode cX11_lostBy 59 = .ok (.istore 8, 2) := by decide +kernel
theorem dX11_lostBy_61 : decode cX11_lostBy 61 = .ok (.iload 5, 2) := by decide +kernel
theorem dX11_lostBy_63 : decode cX11_lostBy 63 = .ok (.iload 8, 2) := by decide +kernel
theorem dX11_lostBy_65 : decode cX11_lostBy 65 = .ok (.ifCond .eq 10, 3) := by decide +kernel
theorem dX11_lostBy_68 : decode cX11_lostBy 68 = .ok (.iconst 1, 1) := by decide +kernel
theorem dX11_lostBy_69 : decode cX11_lostBy 69 = .ok (.iload 7, 2) := by decide +kernel
theorem dX11_lostBy_71 : decode cX11_lostBy 71 = .ok (.ishl, 1) := by decide +kernel
theorem dX11_lostBy_72 : decode cX11_lostBy 72 = .ok (.goto 4, 3) := by decide +kernel
theorem dX11_lostBy_75 : decode cX11_lostBy 75 = .ok (.iconst 0, 1) := by decide +kernel
theorem dX11_lostBy_76 : decode cX11_lostBy 76 = .ok (.ior, 1) := by decide +kernel
theorem dX11_lostBy_77 : decode cX11_lostBy 77 = .ok (.istore 5, 2) := by decide +kernel
theorem dX11_lostBy_79 : decode cX11_lostBy 79 = .ok (.iload 6, 2) := by decide +kernel
theorem dX11_lostBy_81 : decode cX11_lostBy 81 = .ok (.iload 8, 2) := by decide +kernel
theorem dX11_lostBy_83 : decode cX11_lostBy 83 = .ok (.ifCond .eq 7, 3) := by decide +kernel
theorem dX11_lostBy_86 : decode cX11_lostBy 86 = .ok (.iconst 1, 1) := by decide +kernel
theorem dX11_lostBy_87 : decode cX11_lostBy 87 = .ok (.goto 4, 3) := by decide +kernel
theorem dX11_lostBy_90 : decode cX11_lostBy 90 = .ok (.iconst 0, 1) := by decide +kernel
theorem dX11_lostBy_91 : decode cX11_lostBy 91 = .ok (.iadd, 1) := by decide +kernel
theorem dX11_lostBy_92 : decode cX11_lostBy 92 = .ok (.istore 6, 2) := by decide +kernel
theorem dX11_lostBy_94 : decode cX11_lostBy 94 = .ok (.iinc 7 1, 3) := by decide +kernel
theorem dX11_lostBy_97 : decode cX11_lostBy 97 = .ok (.goto (-75), 3) := by decide +kernel
theorem dX11_lostBy_100 : decode cX11_lostBy 100 = .ok (.aload_n 0, 1) := by decide +kernel
theorem dX11_lostBy_101 : decode cX11_lostBy 101 = .ok (.getfield 13, 3) := by decide +kernel
theorem dX11_lostBy_104 : decode cX11_lostBy 104 = .ok (.iload_n 1, 1) := by decide +kernel
theorem dX11_lostBy_105 : decode cX11_lostBy 105 = .ok (.laload, 1) := by decide +kernel
theorem dX11_lostBy_106 : decode cX11_lostBy 106 = .ok (.bipush 24, 2) := by decide +kernel
theorem dX11_lostBy_108 : decode cX11_lostBy 108 = .ok (.iload 4, 2) := by decide +kernel
theorem dX11_lostBy_110 : decode cX11_lostBy 110 = .ok (.iload_n 2, 1) := by decide +kernel
theorem dX11_lostBy_111 : decode cX11_lostBy 111 = .ok (.idiv, 1) := by decide +kernel
theorem dX11_lostBy_112 : decode cX11_lostBy 112 = .ok (.iadd, 1) := by decide +kernel
theorem dX11_lostBy_113 : decode cX11_lostBy 113 = .ok (.lshr, 1) := by decide +kernel
theorem dX11_lostBy_114 : decode cX11_lostBy 114 = .ok (.lconst 1, 1) := by decide +kernel
theorem dX11_lostBy_115 : decode cX11_lostBy 115 = .ok (.land, 1) := by decide +kernel
theorem dX11_lostBy_116 : decode cX11_lostBy 116 = .ok (.lconst 1, 1) := by decide +kernel
theorem dX11_lostBy_117 : decode cX11_lostBy 117 = .ok (.lcmp, 1) := by decide +kernel
theorem dX11_lostBy_118 : decode cX11_lostBy 118 = .ok (.ifCond .ne 7, 3) := by decide +kernel
theorem dX11_lostBy_121 : decode cX11_lostBy 121 = .ok (.iconst 1, 1) := by decide +kernel
theorem dX11_lostBy_122 : decode cX11_lostBy 122 = .ok (.goto 4, 3) := by decide +kernel
theorem dX11_lostBy_125 : decode cX11_lostBy 125 = .ok (.iconst 0, 1) := by decide +kernel
theorem dX11_lostBy_126 : decode cX11_lostBy 126 = .ok (.istore 7, 2) := by decide +kernel
theorem dX11_lostBy_128 : decode cX11_lostBy 128 = .ok (.iload_n 3, 1) := by decide +kernel
theorem dX11_lostBy_129 : decode cX11_lostBy 129 = .ok (.iload 6, 2) := by decide +kernel
theorem dX11_lostBy_131 : decode cX11_lostBy 131 = .ok (.iconst 1, 1) := by decide +kernel
theorem dX11_lostBy_132 : decode cX11_lostBy 132 = .ok (.if_icmp .ne 12, 3) := by decide +kernel
theorem dX11_lostBy_135 : decode cX11_lostBy 135 = .ok (.iload 7, 2) := by decide +kernel
theorem dX11_lostBy_137 : decode cX11_lostBy 137 = .ok (.ifCond .ne 7, 3) := by decide +kernel
theorem dX11_lostBy_140 : decode cX11_lostBy 140 = .ok (.iconst 0, 1) := by decide +kernel
theorem dX11_lostBy_141 : decode cX11_lostBy 141 = .ok (.goto 5, 3) := by decide +kernel
theorem dX11_lostBy_144 : decode cX11_lostBy 144 = .ok (.iload 5, 2) := by decide +kernel
theorem dX11_lostBy_146 : decode cX11_lostBy 146 = .ok (.ior, 1) := by decide +kernel
theorem dX11_lostBy_147 : decode cX11_lostBy 147 = .ok (.istore_n 3, 1) := by decide +kernel
theorem dX11_lostBy_148 : decode cX11_lostBy 148 = .ok (.iload 4, 2) := by decide +kernel
theorem dX11_lostBy_150 : decode cX11_lostBy 150 = .ok (.iload_n 2, 1) := by decide +kernel
theorem dX11_lostBy_151 : decode cX11_lostBy 151 = .ok (.iadd, 1) := by decide +kernel
theorem dX11_lostBy_152 : decode cX11_lostBy 152 = .ok (.istore 4, 2) := by decide +kernel
theorem dX11_lostBy_154 : decode cX11_lostBy 154 = .ok (.goto (-149), 3) := by decide +kernel
theorem dX11_lostBy_157 : decode cX11_lostBy 157 = .ok (.iload_n 3, 1) := by decide +kernel
theorem dX11_lostBy_158 : decode cX11_lostBy 158 = .ok (.ireturn, 1) := by decide +kernel
theorem dX11_lost_0 : decode cX11_lost 0 = .ok (.iload_n 1, 1) := by decide +kernel
theorem dX11_lost_1 : decode cX11_lost 1 = .ok (.i2l, 1) := by decide +kernel
theorem dX11_lost_2 : decode cX11_lost 2 = .ok (.lconst 0, 1) := by decide +kernel
theorem dX11_lost_3 : decode cX11_lost 3 = .ok (.aload_n 0, 1) := by decide +kernel
theorem dX11_lost_4 : decode cX11_lost 4 = .ok (.getfield 7, 3) := by decide +kernel
theorem dX11_lost_7 : decode cX11_lost 7 = .ok (.sipush 132, 3) := by decide +kernel
theorem dX11_lost_10 : decode cX11_lost 10 = .ok (.iaload, 1) := by decide +kernel
theorem dX11_lost_11 : decode cX11_lost 11 = .ok (.iconst 1, 1) := by decide +kernel
theorem dX11_lost_12 : decode cX11_lost 12 = .ok (.isub, 1) := by decide +kernel
theorem dX11_lost_13 : decode cX11_lost 13 = .ok (.i2l, 1) := by decide +kernel
theorem dX11_lost_14 : decode cX11_lost 14 = .ok (.invokestatic 72, 3) := by decide +kernel
theorem dX11_lost_17 : decode cX11_lost 17 = .ok (.ifCond .eq 24, 3) := by decide +kernel
theorem dX11_lost_20 : decode cX11_lost 20 = .ok (.iload_n 2, 1) := by decide +kernel
theorem dX11_lost_21 : decode cX11_lost 21 = .ok (.i2l, 1) := by decide +kernel
theorem dX11_lost_22 : decode cX11_lost 22 = .ok (.lconst 1, 1) := by decide +kernel
theorem dX11_lost_23 : decode cX11_lost 23 = .ok (.ldc2_w 189, 3) := by decide +kernel
theorem dX11_lost_26 : decode cX11_lost 26 = .ok (.invokestatic 72, 3) := by decide +kernel
theorem dX11_lost_29 : decode cX11_lost 29 = .ok (.ifCond .eq 12, 3) := by decide +kernel
theorem dX11_lost_32 : decode cX11_lost 32 = .ok (.aload_n 0, 1) := by decide +kernel
theorem dX11_lost_33 : decode cX11_lost 33 = .ok (.iload_n 1, 1) := by decide +kernel
theorem dX11_lost_34 : decode cX11_lost 34 = .ok (.iload_n 2, 1) := by decide +kernel
theorem dX11_lost_35 : decode cX11_lost 35 = .ok (.invokevirtual 191, 3) := by decide +kernel
theorem dX11_lost_38 : decode cX11_lost 38 = .ok (.goto 4, 3) := by decide +kernel
theorem dX11_lost_41 : decode cX11_lost 41 = .ok (.iconst (-1), 1) := by decide +kernel
theorem dX11_lost_42 : decode cX11_lost 42 = .ok (.ireturn, 1) := by decide +kernel
theorem dX11_group_0 : decode cX11_group 0 = .ok (.bipush 12, 2) := by decide +kernel
theorem dX11_group_2 : decode cX11_group 2 = .ok (.istore_n 1, 1) := by decide +kernel
theorem dX11_group_3 : decode cX11_group 3 = .ok (.iload_n 1, 1) := by decide +kernel
theorem dX11_group_4 : decode cX11_group 4 = .ok (.ifCond .le 56, 3) := by decide +kernel
theorem dX11_group_7 : decode cX11_group 7 = .ok (.iconst 1, 1) := by decide +kernel
theorem dX11_group_8 : decode cX11_group 8 = .ok (.istore_n 2, 1) := by decide +kernel
theorem dX11_group_9 : decode cX11_group 9 = .ok (.iconst 0, 1) := by decide +kernel
theorem dX11_group_10 : decode cX11_group 10 = .ok (.istore_n 3, 1) := by decide +kernel
theorem dX11_group_11 : decode cX11_group 11 = .ok (.iload_n 3, 1) := by decide +kernel
theorem dX11_group_12 : decode cX11_group 12 = .ok (.aload_n 0, 1) := by decide +kernel
theorem dX11_group_13 : decode cX11_group 13 = .ok (.getfield 7, 3) := by decide +kernel
theorem dX11_group_16 : decode cX11_group 16 = .ok (.sipush 132, 3) := by decide +kernel
theorem dX11_group_19 : decode cX11_group 19 = .ok (.iaload, 1) := by decide +kernel
theorem dX11_group_20 : decode cX11_group 20 = .ok (.if_icmp .ge 28, 3) := by decide +kernel
theorem dX11_group_23 : decode cX11_group 23 = .ok (.iload_n 2, 1) := by decide +kernel
theorem dX11_group_24 : decode cX11_group 24 = .ok (.ifCond .eq 16, 3) := by decide +kernel
theorem dX11_group_27 : decode cX11_group 27 = .ok (.aload_n 0, 1) := by decide +kernel
theorem dX11_group_28 : decode cX11_group 28 = .ok (.iload_n 3, 1) := by decide +kernel
theorem dX11_group_29 : decode cX11_group 29 = .ok (.iload_n 1, 1) := by decide +kernel
theorem dX11_group_30 : decode cX11_group 30 = .ok (.invokevirtual 191, 3) := by decide +kernel
theorem dX11_group_33 : decode cX11_group 33 = .ok (.ifCond .ne 7, 3) := by decide +kernel
theorem dX11_group_36 : decode cX11_group 36 = .ok (.iconst 1, 1) := by decide +kernel
theorem dX11_group_37 : decode cX11_group 37 = .ok (.goto 4, 3) := by decide +kernel
theorem dX11_group_40 : decode cX11_group 40 = .ok (.iconst 0, 1) := by decide +kernel
theorem dX11_group_41 : decode cX11_group 41 = .ok (.istore_n 2, 1) := by decide +kernel
theorem dX11_group_42 : decode cX11_group 42 = .ok (.iinc 3 1, 3) := by decide +kernel
theorem dX11_group_45 : decode cX11_group 45 = .ok (.goto (-34), 3) := by decide +kernel
theorem dX11_group_48 : decode cX11_group 48 = .ok (.iload_n 2, 1) := by decide +kernel
theorem dX11_group_49 : decode cX11_group 49 = .ok (.ifCond .eq 5, 3) := by decide +kernel
theorem dX11_group_52 : decode cX11_group 52 = .ok (.iload_n 1, 1) := by decide +kernel
theorem dX11_group_53 : decode cX11_group 53 = .ok (.ireturn, 1) := by decide +kernel
theorem dX11_group_54 : decode cX11_group 54 = .ok (.iinc 1 (-1), 3) := by decide +kernel
theorem dX11_group_57 : decode cX11_group 57 = .ok (.goto (-54), 3) := by decide +kernel
theorem dX11_group_60 : decode cX11_group 60 = .ok (.bipush (-4), 2) := by decide +kernel
theorem dX11_group_62 : decode cX11_group 62 = .ok (.ireturn, 1) := by decide +kernel
theorem dX11_clear_0 : decode cX11_clear 0 = .ok (.aload_n 0, 1) := by decide +kernel
theorem dX11_clear_1 : decode cX11_clear 1 = .ok (.getfield 7, 3) := by decide +kernel
theorem dX11_clear_4 : decode cX11_clear 4 = .ok (.sipush 132, 3) := by decide +kernel
theorem dX11_clear_7 : decode cX11_clear 7 = .ok (.iaload, 1) := by decide +kernel
theorem dX11_clear_8 : decode cX11_clear 8 = .ok (.istore_n 1, 1) := by decide +kernel
theorem dX11_clear_9 : decode cX11_clear 9 = .ok (.aload_n 0, 1) := by decide +kernel
theorem dX11_clear_10 : decode cX11_clear 10 = .ok (.getfield 7, 3) := by decide +kernel
theorem dX11_clear_13 : decode cX11_clear 13 = .ok (.sipush 132, 3) := by decide +kernel
theorem dX11_clear_16 : decode cX11_clear 16 = .ok (.iconst 0, 1) := by decide +kernel
theorem dX11_clear_17 : decode cX11_clear 17 = .ok (.iastore, 1) := by decide +kernel
theorem dX11_clear_18 : decode cX11_clear 18 = .ok (.iload_n 1, 1) := by decide +kernel
theorem dX11_clear_19 : decode cX11_clear 19 = .ok (.ireturn, 1) := by decide +kernel
theorem dX11_most_0 : decode cX11_most 0 = .ok (.iload_n 1, 1) := by decide +kernel
theorem dX11_most_1 : decode cX11_most 1 = .ok (.i2l, 1) := by decide +kernel
theorem dX11_most_2 : decode cX11_most 2 = .ok (.lconst 1, 1) := by decide +kernel
theorem dX11_most_3 : decode cX11_most 3 = .ok (.ldc2_w 181, 3) := by decide +kernel
theorem dX11_most_6 : decode cX11_most 6 = .ok (.invokestatic 72, 3) := by decide +kernel
theorem dX11_most_9 : decode cX11_most 9 = .ok (.ifCond .ne 5, 3) := by decide +kernel
theorem dX11_most_12 : decode cX11_most 12 = .ok (.iconst (-1), 1) := by decide +kernel
theorem dX11_most_13 : decode cX11_most 13 = .ok (.ireturn, 1) := by decide +kernel
theorem dX11_most_14 : decode cX11_most 14 = .ok (.aload_n 0, 1) := by decide +kernel
theorem dX11_most_15 : decode cX11_most 15 = .ok (.getfield 7, 3) := by decide +kernel
theorem dX11_most_18 : decode cX11_most 18 = .ok (.sipush 131, 3) := by decide +kernel
theorem dX11_most_21 : decode cX11_most 21 = .ok (.iaload, 1) := by decide +kernel
theorem dX11_most_22 : decode cX11_most 22 = .ok (.istore_n 2, 1) := by decide +kernel
theorem dX11_most_23 : decode cX11_most 23 = .ok (.aload_n 0, 1) := by decide +kernel
theorem dX11_most_24 : decode cX11_most 24 = .ok (.getfield 7, 3) := by decide +kernel
theorem dX11_most_27 : decode cX11_most 27 = .ok (.sipush 131, 3) := by decide +kernel
theorem dX11_most_30 : decode cX11_most 30 = .ok (.iload_n 1, 1) := by decide +kernel
theorem dX11_most_31 : decode cX11_most 31 = .ok (.iastore, 1) := by decide +kernel
theorem dX11_most_32 : decode cX11_most 32 = .ok (.iload_n 2, 1) := by decide +kernel
theorem dX11_most_33 : decode cX11_most 33 = .ok (.ireturn, 1) := by decide +kernel
theorem dX11_parts_0 : decode cX11_parts 0 = .ok (.iconst 0, 1) := by decide +kernel
theorem dX11_parts_1 : decode cX11_parts 1 = .ok (.istore_n 2, 1) := by decide +kernel
theorem dX11_parts_2 : decode cX11_parts 2 = .ok (.iload_n 2, 1) := by decide +kernel
theorem dX11_parts_3 : decode cX11_parts 3 = .ok (.iload_n 1, 1) := by decide +kernel
theorem dX11_parts_4 : decode cX11_parts 4 = .ok (.if_icmp .ge 16, 3) := by decide +kernel
theorem dX11_parts_7 : decode cX11_parts 7 = .ok (.aload_n 0, 1) := by decide +kernel
theorem dX11_parts_8 : decode cX11_parts 8 = .ok (.getfield 41, 3) := by decide +kernel
theorem dX11_parts_11 : decode cX11_parts 11 = .ok (.iload_n 2, 1) := by decide +kernel
theorem dX11_parts_12 : decode cX11_parts 12 = .ok (.iconst 1, 1) := by decide +kernel
theorem dX11_parts_13 : decode cX11_parts 13 = .ok (.iastore, 1) := by decide +kernel
theorem dX11_parts_14 : decode cX11_parts 14 = .ok (.iinc 2 1, 3) := by decide +kernel
theorem dX11_parts_17 : decode cX11_parts 17 = .ok (.goto (-15), 3) := by decide +kernel
theorem dX11_parts_20 : decode cX11_parts 20 = .ok (.iconst 0, 1) := by decide +kernel
theorem dX11_parts_21 : decode cX11_parts 21 = .ok (.istore_n 2, 1) := by decide +kernel
theorem dX11_parts_22 : decode cX11_parts 22 = .ok (.iload_n 2, 1) := by decide +kernel
theorem dX11_parts_23 : decode cX11_parts 23 = .ok (.iload_n 1, 1) := by decide +kernel
theorem dX11_parts_24 : decode cX11_parts 24 = .ok (.iconst 2, 1) := by decide +kernel
theorem dX11_parts_25 : decode cX11_parts 25 = .ok (.isub, 1) := by decide +kernel
theorem dX11_parts_26 : decode cX11_parts 26 = .ok (.if_icmp .ge 24, 3) := by decide +kernel
theorem dX11_parts_29 : decode cX11_parts 29 = .ok (.aload_n 0, 1) := by decide +kernel
theorem dX11_parts_30 : decode cX11_parts 30 = .ok (.getfield 41, 3) := by decide +kernel
theorem dX11_parts_33 : decode cX11_parts 33 = .ok (.aload_n 0, 1) := by decide +kernel
theorem dX11_parts_34 : decode cX11_parts 34 = .ok (.getfield 38, 3) := by decide +kernel
theorem dX11_parts_37 : decode cX11_parts 37 = .ok (.iload_n 2, 1) := by decide +kernel
theorem dX11_parts_38 : decode cX11_parts 38 = .ok (.iaload, 1) := by decide +kernel
theorem dX11_parts_39 : decode cX11_parts 39 = .ok (.dup2, 1) := by decide +kernel
theorem dX11_parts_40 : decode cX11_parts 40 = .ok (.iaload, 1) := by decide +kernel
theorem dX11_parts_41 : decode cX11_parts 41 = .ok (.iconst 1, 1) := by decide +kernel
theorem dX11_parts_42 : decode cX11_parts 42 = .ok (.iadd, 1) := by decide +kernel
theorem dX11_parts_43 : decode cX11_parts 43 = .ok (.iastore, 1) := by decide +kernel
theorem dX11_parts_44 : decode cX11_parts 44 = .ok (.iinc 2 1, 3) := by decide +kernel
theorem dX11_parts_47 : decode cX11_parts 47 = .ok (.goto (-25), 3) := by decide +kernel
theorem dX11_parts_50 : decode cX11_parts 50 = .ok (.iconst 1, 1) := by decide +kernel
theorem dX11_parts_51 : decode cX11_parts 51 = .ok (.istore_n 2, 1) := by decide +kernel
theorem dX11_parts_52 : decode cX11_parts 52 = .ok (.iconst 0, 1) := by decide +kernel
theorem dX11_parts_53 : decode cX11_parts 53 = .ok (.istore_n 3, 1) := by decide +kernel
theorem dX11_parts_54 : decode cX11_parts 54 = .ok (.iload_n 3, 1) := by decide +kernel
theorem dX11_parts_55 : decode cX11_parts 55 = .ok (.iload_n 1, 1) := by decide +kernel
theorem dX11_parts_56 : decode cX11_parts 56 = .ok (.if_icmp .ge 36, 3) := by decide +kernel
theorem dX11_parts_59 : decode cX11_parts 59 = .ok (.iload_n 2, 1) := by decide +kernel
theorem dX11_parts_60 : decode cX11_parts 60 = .ok (.ifCond .eq 24, 3) := by decide +kernel
theorem dX11_parts_63 : decode cX11_parts 63 = .ok (.aload_n 0, 1) := by decide +kernel
theorem dX11_parts_64 : decode cX11_parts 64 = .ok (.getfield 41, 3) := by decide +kernel
theorem dX11_parts_67 : decode cX11_parts 67 = .ok (.iload_n 3, 1) := by decide +kernel
theorem dX11_parts_68 : decode cX11_parts 68 = .ok (.iaload, 1) := by decide +kernel
theorem dX11_parts_69 : decode cX11_parts 69 = .ok (.aload_n 0, 1) := by decide +kernel
theorem dX11_parts_70 : decode cX11_parts 70 = .ok (.getfield 7, 3) := by decide +kernel
theorem dX11_parts_73 : decode cX11_parts 73 = .ok (.sipush 131, 3) := by decide +kernel
theorem dX11_parts_76 : decode cX11_parts 76 = .ok (.iaload, 1) := by decide +kernel
theorem dX11_parts_77 : decode cX11_parts 77 = .ok (.if_icmp .gt 7, 3) := by decide +kernel
theorem dX11_parts_80 : decode cX11_parts 80 = .ok (.iconst 1, 1) := by decide +kernel
theorem dX11_parts_81 : decode cX11_parts 81 = .ok (.goto 4, 3) := by decide +kernel
theorem dX11_parts_84 : decode cX11_parts 84 = .ok (.iconst 0, 1) := by decide +kernel
theorem dX11_parts_85 : decode cX11_parts 85 = .ok (.istore_n 2, 1) := by decide +kernel
theorem dX11_parts_86 : decode cX11_parts 86 = .ok (.iinc 3 1, 3) := by decide +kernel
theorem dX11_parts_89 : decode cX11_parts 89 = .ok (.goto (-35), 3) := by decide +kernel
theorem dX11_parts_92 : decode cX11_parts 92 = .ok (.iconst 0, 1) := by decide +kernel
theorem dX11_parts_93 : decode cX11_parts 93 = .ok (.istore_n 3, 1) := by decide +kernel
theorem dX11_parts_94 : decode cX11_parts 94 = .ok (.iconst 0, 1) := by decide +kernel
theorem dX11_parts_95 : decode cX11_parts 95 = .ok (.istore 4, 2) := by decide +kernel
theorem dX11_parts_97 : decode cX11_parts 97 = .ok (.iload 4, 2) := by decide +kernel
theorem dX11_parts_99 : decode cX11_parts 99 = .ok (.iload_n 1, 1) := by decide +kernel
theorem dX11_parts_100 : decode cX11_parts 100 = .ok (.iconst 2, 1) := by decide +kernel
theorem dX11_parts_101 : decode cX11_parts 101 = .ok (.isub, 1) := by decide +kernel
theorem dX11_parts_102 : decode cX11_parts 102 = .ok (.if_icmp .ge 83, 3) := by decide +kernel
theorem dX11_parts_105 : decode cX11_parts 105 = .ok (.iconst 0, 1) := by decide +kernel
theorem dX11_parts_106 : decode cX11_parts 106 = .ok (.istore 5, 2) := by decide +kernel
theorem dX11_parts_108 : decode cX11_parts 108 = .ok (.aload_n 0, 1) := by decide +kernel
theorem dX11_parts_109 : decode cX11_parts 109 = .ok (.getfield 41, 3) := by decide +kernel
theorem dX11_parts_112 : decode cX11_parts 112 = .ok (.iload 5, 2) := by decide +kernel
theorem dX11_parts_114 : decode cX11_parts 114 = .ok (.iaload, 1) := by decide +kernel
theorem dX11_parts_115 : decode cX11_parts 115 = .ok (.iconst 1, 1) := by decide +kernel
theorem dX11_parts_116 : decode cX11_parts 116 = .ok (.if_icmp .eq 9, 3) := by decide +kernel
theorem dX11_parts_119 : decode cX11_parts 119 = .ok (.iinc 5 1, 3) := by decide +kernel
theorem dX11_parts_122 : decode cX11_parts 122 = .ok (.goto (-14), 3) := by decide +kernel
theorem dX11_parts_125 : decode cX11_parts 125 = .ok (.aload_n 0, 1) := by decide +kernel
theorem dX11_parts_126 : decode cX11_parts 126 = .ok (.getfield 44, 3) := by decide +kernel
theorem dX11_parts_129 : decode cX11_parts 129 = .ok (.iconst 2, 1) := by decide +kernel
theorem dX11_parts_130 : decode cX11_parts 130 = .ok (.iload_n 3, 1) := by decide +kernel
theorem dX11_parts_131 : decode cX11_parts 131 = .ok (.imul, 1) := by decide +kernel
theorem dX11_parts_132 : decode cX11_parts 132 = .ok (.iload 5, 2) := by decide +kernel
theorem dX11_parts_134 : decode cX11_parts 134 = .ok (.iastore, 1) := by decide +kernel
theorem dX11_parts_135 : decode cX11_parts 135 = .ok (.aload_n 0, 1) := by decide +kernel
theorem dX11_parts_136 : decode cX11_parts 136 = .ok (.getfield 44, 3) := by decide +kernel
theorem dX11_parts_139 : decode cX11_parts 139 = .ok (.iconst 2, 1) := by decide +kernel
theorem dX11_parts_140 : decode cX11_parts 140 = .ok (.iload_n 3, 1) := by decide +kernel
theorem dX11_parts_141 : decode cX11_parts 141 = .ok (.imul, 1) := by decide +kernel
theorem dX11_parts_142 : decode cX11_parts 142 = .ok (.iconst 1, 1) := by decide +kernel
theorem dX11_parts_143 : decode cX11_parts 143 = .ok (.iadd, 1) := by decide +kernel
theorem dX11_parts_144 : decode cX11_parts 144 = .ok (.aload_n 0, 1) := by decide +kernel
theorem dX11_parts_145 : decode cX11_parts 145 = .ok (.getfield 38, 3) := by decide +kernel
theorem dX11_parts_148 : decode cX11_parts 148 = .ok (.iload 4, 2) := by decide +kernel
theorem dX11_parts_150 : decode cX11_parts 150 = .ok (.iaload, 1) := by decide +kernel
theorem dX11_parts_151 : decode cX11_parts 151 = .ok (.iastore, 1) := by decide +kernel
theorem dX11_parts_152 : decode cX11_parts 152 = .ok (.iinc 3 1, 3) := by decide +kernel
theorem dX11_parts_155 : decode cX11_parts 155 = .ok (.aload_n 0, 1) := by decide +kernel
theorem dX11_parts_156 : decode cX11_parts 156 = .ok (.getfield 41, 3) := by decide +kernel
theorem dX11_parts_159 : decode cX11_parts 159 = .ok (.iload 5, 2) := by decide +kernel
theorem dX11_parts_161 : decode cX11_parts 161 = .ok (.iconst 0, 1) := by decide +kernel
theorem dX11_parts_162 : decode cX11_parts 162 = .ok (.iastore, 1) := by decide +kernel
theorem dX11_parts_163 : decode cX11_parts 163 = .ok (.aload_n 0, 1) := by decide +kernel
theorem dX11_parts_164 : decode cX11_parts 164 = .ok (.getfield 41, 3) := by decide +kernel
theorem dX11_parts_167 : decode cX11_parts 167 = .ok (.aload_n 0, 1) := by decide +kernel
theorem dX11_parts_168 : decode cX11_parts 168 = .ok (.getfield 38, 3) := by decide +kernel
theorem dX11_parts_171 : decode cX11_parts 171 = .ok (.iload 4, 2) := by decide +kernel
theorem dX11_parts_173 : decode cX11_parts 173 = .ok (.iaload, 1) := by decide +kernel
theorem dX11_parts_174 : decode cX11_parts 174 = .ok (.dup2, 1) := by decide +kernel
theorem dX11_parts_175 : decode cX11_parts 175 = .ok (.iaload, 1) := by decide +kernel
theorem dX11_parts_176 : decode cX11_parts 176 = .ok (.iconst 1, 1) := by decide +kernel
theorem dX11_parts_177 : decode cX11_parts 177 = .ok (.isub, 1) := by decide +kernel
theorem dX11_parts_178 : decode cX11_parts 178 = .ok (.iastore, 1) := by decide +kernel
theorem dX11_parts_179 : decode cX11_parts 179 = .ok (.iinc 4 1, 3) := by decide +kernel
theorem dX11_parts_182 : decode cX11_parts 182 = .ok (.goto (-85), 3) := by decide +kernel
theorem dX11_parts_185 : decode cX11_parts 185 = .ok (.iconst 0, 1) := by decide +kernel
theorem dX11_parts_186 : decode cX11_parts 186 = .ok (.istore 4, 2) := by decide +kernel
theorem dX11_parts_188 : decode cX11_parts 188 = .ok (.aload_n 0, 1) := by decide +kernel
theorem dX11_parts_189 : decode cX11_parts 189 = .ok (.getfield 41, 3) := by decide +kernel
theorem dX11_parts_192 : decode cX11_parts 192 = .ok (.iload 4, 2) := by decide +kernel
theorem dX11_parts_194 : decode cX11_parts 194 = .ok (.iaload, 1) := by decide +kernel
theorem dX11_parts_195 : decode cX11_parts 195 = .ok (.iconst 1, 1) := by decide +kernel
theorem dX11_parts_196 : decode cX11_parts 196 = .ok (.if_icmp .eq 9, 3) := by decide +kernel
theorem dX11_parts_199 : decode cX11_parts 199 = .ok (.iinc 4 1, 3) := by decide +kernel
theorem dX11_parts_202 : decode cX11_parts 202 = .ok (.goto (-14), 3) := by decide +kernel
theorem dX11_parts_205 : decode cX11_parts 205 = .ok (.iload 4, 2) := by decide +kernel
theorem dX11_parts_207 : decode cX11_parts 207 = .ok (.iconst 1, 1) := by decide +kernel
theorem dX11_parts_208 : decode cX11_parts 208 = .ok (.iadd, 1) := by decide +kernel
theorem dX11_parts_209 : decode cX11_parts 209 = .ok (.istore 5, 2) := by decide +kernel
theorem dX11_parts_211 : decode cX11_parts 211 = .ok (.aload_n 0, 1) := by decide +kernel
theorem dX11_parts_212 : decode cX11_parts 212 = .ok (.getfield 41, 3) := by decide +kernel
theorem dX11_parts_215 : decode cX11_parts 215 = .ok (.iload 5, 2) := by decide +kernel
theorem dX11_parts_217 : decode cX11_parts 217 = .ok (.iaload, 1) := by decide +kernel
theorem dX11_parts_218 : decode cX11_parts 218 = .ok (.iconst 1, 1) := by decide +kernel
theorem dX11_parts_219 : decode cX11_parts 219 = .ok (.if_icmp .eq 9, 3) := by decide +kernel
theorem dX11_parts_222 : decode cX11_parts 222 = .ok (.iinc 5 1, 3) := by decide +kernel
theorem dX11_parts_225 : decode cX11_parts 225 = .ok (.goto (-14), 3) := by decide +kernel
theorem dX11_parts_228 : decode cX11_parts 228 = .ok (.aload_n 0, 1) := by decide +kernel
theorem dX11_parts_229 : decode cX11_parts 229 = .ok (.getfield 44, 3) := by decide +kernel
theorem dX11_parts_232 : decode cX11_parts 232 = .ok (.iconst 2, 1) := by decide +kernel
theorem dX11_parts_233 : decode cX11_parts 233 = .ok (.iload_n 3, 1) := by decide +kernel
theorem dX11_parts_234 : decode cX11_parts 234 = .ok (.imul, 1) := by decide +kernel
theorem dX11_parts_235 : decode cX11_parts 235 = .ok (.iload 4, 2) := by decide +kernel
theorem dX11_parts_237 : decode cX11_parts 237 = .ok (.iastore, 1) := by decide +kernel
theorem dX11_parts_238 : decode cX11_parts 238 = .ok (.aload_n 0, 1) := by decide +kernel
theorem dX11_parts_239 : decode cX11_parts 239 = .ok (.getfield 44, 3) := by decide +kernel
theorem dX11_parts_242 : decode cX11_parts 242 = .ok (.iconst 2, 1) := by decide +kernel
theorem dX11_parts_243 : decode cX11_parts 243 = .ok (.iload_n 3, 1) := by decide +kernel
theorem dX11_parts_244 : decode cX11_parts 244 = .ok (.imul, 1) := by decide +kernel
theorem dX11_parts_245 : decode cX11_parts 245 = .ok (.iconst 1, 1) := by decide +kernel
theorem dX11_parts_246 : decode cX11_parts 246 = .ok (.iadd, 1) := by decide +kernel
theorem dX11_parts_247 : decode cX11_parts 247 = .ok (.iload 5, 2) := by decide +kernel
theorem dX11_parts_249 : decode cX11_parts 249 = .ok (.iastore, 1) := by decide +kernel
theorem dX11_parts_250 : decode cX11_parts 250 = .ok (.iload_n 2, 1) := by decide +kernel
theorem dX11_parts_251 : decode cX11_parts 251 = .ok (.ireturn, 1) := by decide +kernel
theorem dX11_waitOf_0 : decode cX11_waitOf 0 = .ok (.iconst 0, 1) := by decide +kernel
theorem dX11_waitOf_1 : decode cX11_waitOf 1 = .ok (.istore_n 2, 1) := by decide +kernel
theorem dX11_waitOf_2 : decode cX11_waitOf 2 = .ok (.iload_n 2, 1) := by decide +kernel
theorem dX11_waitOf_3 : decode cX11_waitOf 3 = .ok (.bipush 36, 2) := by decide +kernel
theorem dX11_waitOf_5 : decode cX11_waitOf 5 = .ok (.if_icmp .ge 27, 3) := by decide +kernel
theorem dX11_waitOf_8 : decode cX11_waitOf 8 = .ok (.aload_n 0, 1) := by decide +kernel
theorem dX11_waitOf_9 : decode cX11_waitOf 9 = .ok (.getfield 47, 3) := by decide +kernel
theorem dX11_waitOf_12 : decode cX11_waitOf 12 = .ok (.iload_n 2, 1) := by decide +kernel
theorem dX11_waitOf_13 : decode cX11_waitOf 13 = .ok (.iload_n 2, 1) := by decide +kernel
theorem dX11_waitOf_14 : decode cX11_waitOf 14 = .ok (.bipush 7, 2) := by decide +kernel
theorem dX11_waitOf_16 : decode cX11_waitOf 16 = .ok (.irem, 1) := by decide +kernel
theorem dX11_waitOf_17 : decode cX11_waitOf 17 = .ok (.ifCond .ne 7, 3) := by decide +kernel
theorem dX11_waitOf_20 : decode cX11_waitOf 20 = .ok (.iconst 0, 1) := by decide +kernel
theorem dX11_waitOf_21 : decode cX11_waitOf 21 = .ok (.goto 4, 3) := by decide +kernel
theorem dX11_waitOf_24 : decode cX11_waitOf 24 = .ok (.iconst (-1), 1) := by decide +kernel
theorem dX11_waitOf_25 : decode cX11_waitOf 25 = .ok (.iastore, 1) := by decide +kernel
theorem dX11_waitOf_26 : decode cX11_waitOf 26 = .ok (.iinc 2 1, 3) := by decide +kernel
theorem dX11_waitOf_29 : decode cX11_waitOf 29 = .ok (.goto (-27), 3) := by decide +kernel
theorem dX11_waitOf_32 : decode cX11_waitOf 32 = .ok (.iload_n 1, 1) := by decide +kernel
theorem dX11_waitOf_33 : decode cX11_waitOf 33 = .ok (.iconst 2, 1) := by decide +kernel
theorem dX11_waitOf_34 : decode cX11_waitOf 34 = .ok (.isub, 1) := by decide +kernel
theorem dX11_waitOf_35 : decode cX11_waitOf 35 = .ok (.istore_n 2, 1) := by decide +kernel
theorem dX11_waitOf_36 : decode cX11_waitOf 36 = .ok (.iload_n 2, 1) := by decide +kernel
theorem dX11_waitOf_37 : decode cX11_waitOf 37 = .ok (.ifCond .lt 174, 3) := by decide +kernel
theorem dX11_waitOf_40 : decode cX11_waitOf 40 = .ok (.aload_n 0, 1) := by decide +kernel
theorem dX11_waitOf_41 : decode cX11_waitOf 41 = .ok (.getfield 44, 3) := by decide +kernel
theorem dX11_waitOf_44 : decode cX11_waitOf 44 = .ok (.iconst 2, 1) := by decide +kernel
theorem dX11_waitOf_45 : decode cX11_waitOf 45 = .ok (.iload_n 2, 1) := by decide +kernel
theorem dX11_waitOf_46 : decode cX11_waitOf 46 = .ok (.imul, 1) := by decide +kernel
theorem dX11_waitOf_47 : decode cX11_waitOf 47 = .ok (.iaload, 1) := by decide +kernel
theorem dX11_waitOf_48 : decode cX11_waitOf 48 = .ok (.istore_n 3, 1) := by decide +kernel
theorem dX11_waitOf_49 : decode cX11_waitOf 49 = .ok (.aload_n 0, 1) := by decide +kernel
theorem dX11_waitOf_50 : decode cX11_waitOf 50 = .ok (.getfield 44, 3) := by decide +kernel
theorem dX11_waitOf_53 : decode cX11_waitOf 53 = .ok (.iconst 2, 1) := by decide +kernel
theorem dX11_waitOf_54 : decode cX11_waitOf 54 = .ok (.iload_n 2, 1) := by decide +kernel
theorem dX11_waitOf_55 : decode cX11_waitOf 55 = .ok (.imul, 1) := by decide +kernel
theorem dX11_waitOf_56 : decode cX11_waitOf 56 = .ok (.iconst 1, 1) := by decide +kernel
theorem dX11_waitOf_57 : decode cX11_waitOf 57 = .ok (.iadd, 1) := by decide +kernel
theorem dX11_waitOf_58 : decode cX11_waitOf 58 = .ok (.iaload, 1) := by decide +kernel
theorem dX11_waitOf_59 : decode cX11_waitOf 59 = .ok (.istore 4, 2) := by decide +kernel
theorem dX11_waitOf_61 : decode cX11_waitOf 61 = .ok (.aload_n 0, 1) := by decide +kernel
theorem dX11_waitOf_62 : decode cX11_waitOf 62 = .ok (.aload_n 0, 1) := by decide +kernel
theorem dX11_waitOf_63 : decode cX11_waitOf 63 = .ok (.getfield 35, 3) := by decide +kernel
theorem dX11_waitOf_66 : decode cX11_waitOf 66 = .ok (.iload_n 3, 1) := by decide +kernel
theorem dX11_waitOf_67 : decode cX11_waitOf 67 = .ok (.iaload, 1) := by decide +kernel
theorem dX11_waitOf_68 : decode cX11_waitOf 68 = .ok (.aload_n 0, 1) := by decide +kernel
theorem dX11_waitOf_69 : decode cX11_waitOf 69 = .ok (.getfield 35, 3) := by decide +kernel
theorem dX11_waitOf_72 : decode cX11_waitOf 72 = .ok (.iload 4, 2) := by decide +kernel
theorem dX11_waitOf_74 : decode cX11_waitOf 74 = .ok (.iaload, 1) := by decide +kernel
theorem dX11_waitOf_75 : decode cX11_waitOf 75 = .ok (.invokevirtual 96, 3) := by decide +kernel
theorem dX11_waitOf_78 : decode cX11_waitOf 78 = .ok (.istore 5, 2) := by decide +kernel
theorem dX11_waitOf_80 : decode cX11_waitOf 80 = .ok (.aload_n 0, 1) := by decide +kernel
theorem dX11_waitOf_81 : decode cX11_waitOf 81 = .ok (.aload_n 0, 1) := by decide +kernel
theorem dX11_waitOf_82 : decode cX11_waitOf 82 = .ok (.getfield 35, 3) := by decide +kernel
theorem dX11_waitOf_85 : decode cX11_waitOf 85 = .ok (.iload 4, 2) := by decide +kernel
theorem dX11_waitOf_87 : decode cX11_waitOf 87 = .ok (.iaload, 1) := by decide +kernel
theorem dX11_waitOf_88 : decode cX11_waitOf 88 = .ok (.aload_n 0, 1) := by decide +kernel
theorem dX11_waitOf_89 : decode cX11_waitOf 89 = .ok (.getfield 35, 3) := by decide +kernel
theorem dX11_waitOf_92 : decode cX11_waitOf 92 = .ok (.iload_n 3, 1) := by decide +kernel
theorem dX11_waitOf_93 : decode cX11_waitOf 93 = .ok (.iaload, 1) := by decide +kernel
theorem dX11_waitOf_94 : decode cX11_waitOf 94 = .ok (.invokevirtual 96, 3) := by decide +kernel
theorem dX11_waitOf_97 : decode cX11_waitOf 97 = .ok (.istore 6, 2) := by decide +kernel
theorem dX11_waitOf_99 : decode cX11_waitOf 99 = .ok (.iload 5, 2) := by decide +kernel
theorem dX11_waitOf_101 : decode cX11_waitOf 101 = .ok (.ifCond .eq 8, 3) := by decide +kernel
theorem dX11_waitOf_104 : decode cX11_waitOf 104 = .ok (.iload 6, 2) := by decide +kernel
theorem dX11_waitOf_106 : decode cX11_waitOf 106 = .ok (.ifCond .ne 6, 3) := by decide +kernel
theorem dX11_waitOf_109 : decode cX11_waitOf 109 = .ok (.bipush (-4), 2) := by decide +kernel
theorem dX11_waitOf_111 : decode cX11_waitOf 111 = .ok (.ireturn, 1) := by decide +kernel
theorem dX11_waitOf_112 : decode cX11_waitOf 112 = .ok (.iconst 0, 1) := by decide +kernel
theorem dX11_waitOf_113 : decode cX11_waitOf 113 = .ok (.istore 7, 2) := by decide +kernel
theorem dX11_waitOf_115 : decode cX11_waitOf 115 = .ok (.iload 7, 2) := by decide +kernel
theorem dX11_waitOf_117 : decode cX11_waitOf 117 = .ok (.iload_n 1, 1) := by decide +kernel
theorem dX11_waitOf_118 : decode cX11_waitOf 118 = .ok (.if_icmp .ge 87, 3) := by decide +kernel
theorem dX11_waitOf_121 : decode cX11_waitOf 121 = .ok (.iload 7, 2) := by decide +kernel
theorem dX11_waitOf_123 : decode cX11_waitOf 123 = .ok (.iload_n 3, 1) := by decide +kernel
theorem dX11_waitOf_124 : decode cX11_waitOf 124 = .ok (.if_icmp .eq 75, 3) := by decide +kernel
theorem dX11_waitOf_127 : decode cX11_waitOf 127 = .ok (.aload_n 0, 1) := by decide +kernel
theorem dX11_waitOf_128 : decode cX11_waitOf 128 = .ok (.getfield 47, 3) := by decide +kernel
theorem dX11_waitOf_131 : decode cX11_waitOf 131 = .ok (.bipush 6, 2) := by decide +kernel
theorem dX11_waitOf_133 : decode cX11_waitOf 133 = .ok (.iload 4, 2) := by decide +kernel
theorem dX11_waitOf_135 : decode cX11_waitOf 135 = .ok (.imul, 1) := by decide +kernel
theorem dX11_waitOf_136 : decode cX11_waitOf 136 = .ok (.iload 7, 2) := by decide +kernel
theorem dX11_waitOf_138 : decode cX11_waitOf 138 = .ok (.iadd, 1) := by decide +kernel
theorem dX11_waitOf_139 : decode cX11_waitOf 139 = .ok (.iaload, 1) := by decide +kernel
theorem dX11_waitOf_140 : decode cX11_waitOf 140 = .ok (.ifCond .lt 59, 3) := by decide +kernel
theorem dX11_waitOf_143 : decode cX11_waitOf 143 = .ok (.aload_n 0, 1) := by decide +kernel
theorem dX11_waitOf_144 : decode cX11_waitOf 144 = .ok (.getfield 47, 3) := by decide +kernel
theorem dX11_waitOf_147 : decode cX11_waitOf 147 = .ok (.bipush 6, 2) := by decide +kernel
theorem dX11_waitOf_149 : decode cX11_waitOf 149 = .ok (.iload_n 3, 1) := by decide +kernel
theorem dX11_waitOf_150 : decode cX11_waitOf 150 = .ok (.imul, 1) := by decide +kernel
theorem dX11_waitOf_151 : decode cX11_waitOf 151 = .ok (.iload 7, 2) := by decide +kernel
theorem dX11_waitOf_153 : decode cX11_waitOf 153 = .ok (.iadd, 1) := by decide +kernel
theorem dX11_waitOf_154 : decode cX11_waitOf 154 = .ok (.iload 5, 2) := by decide +kernel
theorem dX11_waitOf_156 : decode cX11_waitOf 156 = .ok (.aload_n 0, 1) := by decide +kernel
theorem dX11_waitOf_157 : decode cX11_waitOf 157 = .ok (.getfield 47, 3) := by decide +kernel
theorem dX11_waitOf_160 : decode cX11_waitOf 160 = .ok (.bipush 6, 2) := by decide +kernel
theorem dX11_waitOf_162 : decode cX11_waitOf 162 = .ok (.iload 4, 2) := by decide +kernel
theorem dX11_waitOf_164 : decode cX11_waitOf 164 = .ok (.imul, 1) := by decide +kernel
theorem dX11_waitOf_165 : decode cX11_waitOf 165 = .ok (.iload 7, 2) := by decide +kernel
theorem dX11_waitOf_167 : decode cX11_waitOf 167 = .ok (.iadd, 1) := by decide +kernel
theorem dX11_waitOf_168 : decode cX11_waitOf 168 = .ok (.iaload, 1) := by decide +kernel
theorem dX11_waitOf_169 : decode cX11_waitOf 169 = .ok (.iadd, 1) := by decide +kernel
theorem dX11_waitOf_170 : decode cX11_waitOf 170 = .ok (.iastore, 1) := by decide +kernel
theorem dX11_waitOf_171 : decode cX11_waitOf 171 = .ok (.aload_n 0, 1) := by decide +kernel
theorem dX11_waitOf_172 : decode cX11_waitOf 172 = .ok (.getfield 47, 3) := by decide +kernel
theorem dX11_waitOf_175 : decode cX11_waitOf 175 = .ok (.bipush 6, 2) := by decide +kernel
theorem dX11_waitOf_177 : decode cX11_waitOf 177 = .ok (.iload 7, 2) := by decide +kernel
theorem dX11_waitOf_179 : decode cX11_waitOf 179 = .ok (.imul, 1) := by decide +kernel
theorem dX11_waitOf_180 : decode cX11_waitOf 180 = .ok (.iload_n 3, 1) := by decide +kernel
theorem dX11_waitOf_181 : decode cX11_waitOf 181 = .ok (.iadd, 1) := by decide +kernel
theorem dX11_waitOf_182 : decode cX11_waitOf 182 = .ok (.aload_n 0, 1) := by decide +kernel
theorem dX11_waitOf_183 : decode cX11_waitOf 183 = .ok (.getfield 47, 3) := by decide +kernel
theorem dX11_waitOf_186 : decode cX11_waitOf 186 = .ok (.bipush 6, 2) := by decide +kernel
theorem dX11_waitOf_188 : decode cX11_waitOf 188 = .ok (.iload 7, 2) := by decide +kernel
theorem dX11_waitOf_190 : decode cX11_waitOf 190 = .ok (.imul, 1) := by decide +kernel
theorem dX11_waitOf_191 : decode cX11_waitOf 191 = .ok (.iload 4, 2) := by decide +kernel
theorem dX11_waitOf_193 : decode cX11_waitOf 193 = .ok (.iadd, 1) := by decide +kernel
theorem dX11_waitOf_194 : decode cX11_waitOf 194 = .ok (.iaload, 1) := by decide +kernel
theorem dX11_waitOf_195 : decode cX11_waitOf 195 = .ok (.iload 6, 2) := by decide +kernel
theorem dX11_waitOf_197 : decode cX11_waitOf 197 = .ok (.iadd, 1) := by decide +kernel
theorem dX11_waitOf_198 : decode cX11_waitOf 198 = .ok (.iastore, 1) := by decide +kernel
theorem dX11_waitOf_199 : decode cX11_waitOf 199 = .ok (.iinc 7 1, 3) := by decide +kernel
theorem dX11_waitOf_202 : decode cX11_waitOf 202 = .ok (.goto (-87), 3) := by decide +kernel
theorem dX11_waitOf_205 : decode cX11_waitOf 205 = .ok (.iinc 2 (-1), 3) := by decide +kernel
theorem dX11_waitOf_208 : decode cX11_waitOf 208 = .ok (.goto (-172), 3) := by decide +kernel
theorem dX11_waitOf_211 : decode cX11_waitOf 211 = .ok (.iconst 0, 1) := by decide +kernel
theorem dX11_waitOf_212 : decode cX11_waitOf 212 = .ok (.istore_n 2, 1) := by decide +kernel
theorem dX11_waitOf_213 : decode cX11_waitOf 213 = .ok (.iconst 0, 1) := by decide +kernel
theorem dX11_waitOf_214 : decode cX11_waitOf 214 = .ok (.istore_n 3, 1) := by decide +kernel
theorem dX11_waitOf_215 : decode cX11_waitOf 215 = .ok (.iload_n 3, 1) := by decide +kernel
theorem dX11_waitOf_216 : decode cX11_waitOf 216 = .ok (.iload_n 1, 1) := by decide +kernel
theorem dX11_waitOf_217 : decode cX11_waitOf 217 = .ok (.if_icmp .ge 57, 3) := by decide +kernel
theorem dX11_waitOf_220 : decode cX11_waitOf 220 = .ok (.iconst 0, 1) := by decide +kernel
theorem dX11_waitOf_221 : decode cX11_waitOf 221 = .ok (.istore 4, 2) := by decide +kernel
theorem dX11_waitOf_223 : decode cX11_waitOf 223 = .ok (.iload 4, 2) := by decide +kernel
theorem dX11_waitOf_225 : decode cX11_waitOf 225 = .ok (.iload_n 1, 1) := by decide +kernel
theorem dX11_waitOf_226 : decode cX11_waitOf 226 = .ok (.if_icmp .ge 42, 3) := by decide +kernel
theorem dX11_waitOf_229 : decode cX11_waitOf 229 = .ok (.aload_n 0, 1) := by decide +kernel
theorem dX11_waitOf_230 : decode cX11_waitOf 230 = .ok (.getfield 47, 3) := by decide +kernel
theorem dX11_waitOf_233 : decode cX11_waitOf 233 = .ok (.bipush 6, 2) := by decide +kernel
theorem dX11_waitOf_235 : decode cX11_waitOf 235 = .ok (.iload_n 3, 1) := by decide +kernel
theorem dX11_waitOf_236 : decode cX11_waitOf 236 = .ok (.imul, 1) := by decide +kernel
theorem dX11_waitOf_237 : decode cX11_waitOf 237 = .ok (.iload 4, 2) := by decide +kernel
theorem dX11_waitOf_239 : decode cX11_waitOf 239 = .ok (.iadd, 1) := by decide +kernel
theorem dX11_waitOf_240 : decode cX11_waitOf 240 = .ok (.iaload, 1) := by decide +kernel
theorem dX11_waitOf_241 : decode cX11_waitOf 241 = .ok (.iload_n 2, 1) := by decide +kernel
theorem dX11_waitOf_242 : decode cX11_waitOf 242 = .ok (.if_icmp .le 18, 3) := by decide +kernel
theorem dX11_waitOf_245 : decode cX11_waitOf 245 = .ok (.aload_n 0, 1) := by decide +kernel
theorem dX11_waitOf_246 : decode cX11_waitOf 246 = .ok (.getfield 47, 3) := by decide +kernel
theorem dX11_waitOf_249 : decode cX11_waitOf 249 = .ok (.bipush 6, 2) := by decide +kernel
theorem dX11_waitOf_251 : decode cX11_waitOf 251 = .ok (.iload_n 3, 1) := by decide +kernel
theorem dX11_waitOf_252 : decode cX11_waitOf 252 = .ok (.imul, 1) := by decide +kernel
theorem dX11_waitOf_253 : decode cX11_waitOf 253 = .ok (.iload 4, 2) := by decide +kernel
theorem dX11_waitOf_255 : decode cX11_waitOf 255 = .ok (.iadd, 1) := by decide +kernel
theorem dX11_waitOf_256 : decode cX11_waitOf 256 = .ok (.iaload, 1) := by decide +kernel
theorem dX11_waitOf_257 : decode cX11_waitOf 257 = .ok (.goto 4, 3) := by decide +kernel
theorem dX11_waitOf_260 : decode cX11_waitOf 260 = .ok (.iload_n 2, 1) := by decide +kernel
theorem dX11_waitOf_261 : decode cX11_waitOf 261 = .ok (.istore_n 2, 1) := by decide +kernel
theorem dX11_waitOf_262 : decode cX11_waitOf 262 = .ok (.iinc 4 1, 3) := by decide +kernel
theorem dX11_waitOf_265 : decode cX11_waitOf 265 = .ok (.goto (-42), 3) := by decide +kernel
theorem dX11_waitOf_268 : decode cX11_waitOf 268 = .ok (.iinc 3 1, 3) := by decide +kernel
theorem dX11_waitOf_271 : decode cX11_waitOf 271 = .ok (.goto (-56), 3) := by decide +kernel
theorem dX11_waitOf_274 : decode cX11_waitOf 274 = .ok (.iload_n 2, 1) := by decide +kernel
theorem dX11_waitOf_275 : decode cX11_waitOf 275 = .ok (.ireturn, 1) := by decide +kernel
theorem dX11_net_0 : decode cX11_net 0 = .ok (.iconst 0, 1) := by decide +kernel
theorem dX11_net_1 : decode cX11_net 1 = .ok (.istore_n 1, 1) := by decide +kernel
theorem dX11_net_2 : decode cX11_net 2 = .ok (.iconst 0, 1) := by decide +kernel
theorem dX11_net_3 : decode cX11_net 3 = .ok (.istore_n 2, 1) := by decide +kernel
theorem dX11_net_4 : decode cX11_net 4 = .ok (.iconst 0, 1) := by decide +kernel
theorem dX11_net_5 : decode cX11_net 5 = .ok (.istore_n 3, 1) := by decide +kernel
theorem dX11_net_6 : decode cX11_net 6 = .ok (.iload_n 3, 1) := by decide +kernel
theorem dX11_net_7 : decode cX11_net 7 = .ok (.aload_n 0, 1) := by decide +kernel
theorem dX11_net_8 : decode cX11_net 8 = .ok (.invokevirtual 82, 3) := by decide +kernel
theorem dX11_net_11 : decode cX11_net 11 = .ok (.if_icmp .ge 25, 3) := by decide +kernel
theorem dX11_net_14 : decode cX11_net 14 = .ok (.iload_n 2, 1) := by decide +kernel
theorem dX11_net_15 : decode cX11_net 15 = .ok (.aload_n 0, 1) := by decide +kernel
theorem dX11_net_16 : decode cX11_net 16 = .ok (.iload_n 3, 1) := by decide +kernel
theorem dX11_net_17 : decode cX11_net 17 = .ok (.invokevirtual 137, 3) := by decide +kernel
theorem dX11_net_20 : decode cX11_net 20 = .ok (.ifCond .eq 7, 3) := by decide +kernel
theorem dX11_net_23 : decode cX11_net 23 = .ok (.iconst 1, 1) := by decide +kernel
theorem dX11_net_24 : decode cX11_net 24 = .ok (.goto 4, 3) := by decide +kernel
theorem dX11_net_27 : decode cX11_net 27 = .ok (.iconst 0, 1) := by decide +kernel
theorem dX11_net_28 : decode cX11_net 28 = .ok (.iadd, 1) := by decide +kernel
theorem dX11_net_29 : decode cX11_net 29 = .ok (.istore_n 2, 1) := by decide +kernel
theorem dX11_net_30 : decode cX11_net 30 = .ok (.iinc 3 1, 3) := by decide +kernel
theorem dX11_net_33 : decode cX11_net 33 = .ok (.goto (-27), 3) := by decide +kernel
theorem dX11_net_36 : decode cX11_net 36 = .ok (.aload_n 0, 1) := by decide +kernel
theorem dX11_net_37 : decode cX11_net 37 = .ok (.invokevirtual 82, 3) := by decide +kernel
theorem dX11_net_40 : decode cX11_net 40 = .ok (.iload_n 2, 1) := by decide +kernel
theorem dX11_net_41 : decode cX11_net 41 = .ok (.isub, 1) := by decide +kernel
theorem dX11_net_42 : decode cX11_net 42 = .ok (.i2l, 1) := by decide +kernel
theorem dX11_net_43 : decode cX11_net 43 = .ok (.ldc2_w 194, 3) := by decide +kernel
theorem dX11_net_46 : decode cX11_net 46 = .ok (.ldc2_w 196, 3) := by decide +kernel
theorem dX11_net_49 : decode cX11_net 49 = .ok (.invokestatic 72, 3) := by decide +kernel
theorem dX11_net_52 : decode cX11_net 52 = .ok (.ifCond .ne 6, 3) := by decide +kernel
theorem dX11_net_55 : decode cX11_net 55 = .ok (.bipush (-2), 2) := by decide +kernel
theorem dX11_net_57 : decode cX11_net 57 = .ok (.ireturn, 1) := by decide +kernel
theorem dX11_net_58 : decode cX11_net 58 = .ok (.iconst 0, 1) := by decide +kernel
theorem dX11_net_59 : decode cX11_net 59 = .ok (.istore_n 3, 1) := by decide +kernel
theorem dX11_net_60 : decode cX11_net 60 = .ok (.iload_n 3, 1) := by decide +kernel
theorem dX11_net_61 : decode cX11_net 61 = .ok (.aload_n 0, 1) := by decide +kernel
theorem dX11_net_62 : decode cX11_net 62 = .ok (.invokevirtual 82, 3) := by decide +kernel
theorem dX11_net_65 : decode cX11_net 65 = .ok (.if_icmp .ge 27, 3) := by decide +kernel
theorem dX11_net_68 : decode cX11_net 68 = .ok (.aload_n 0, 1) := by decide +kernel
theorem dX11_net_69 : decode cX11_net 69 = .ok (.iload_n 3, 1) := by decide +kernel
theorem dX11_net_70 : decode cX11_net 70 = .ok (.invokevirtual 137, 3) := by decide +kernel
theorem dX11_net_73 : decode cX11_net 73 = .ok (.ifCond .ne 13, 3) := by decide +kernel
theorem dX11_net_76 : decode cX11_net 76 = .ok (.aload_n 0, 1) := by decide +kernel
theorem dX11_net_77 : decode cX11_net 77 = .ok (.getfield 35, 3) := by decide +kernel
theorem dX11_net_80 : decode cX11_net 80 = .ok (.iload_n 1, 1) := by decide +kernel
theorem dX11_net_81 : decode cX11_net 81 = .ok (.iload_n 3, 1) := by decide +kernel
theorem dX11_net_82 : decode cX11_net 82 = .ok (.iastore, 1) := by decide +kernel
theorem dX11_net_83 : decode cX11_net 83 = .ok (.iinc 1 1, 3) := by decide +kernel
theorem dX11_net_86 : decode cX11_net 86 = .ok (.iinc 3 1, 3) := by decide +kernel
theorem dX11_net_89 : decode cX11_net 89 = .ok (.goto (-29), 3) := by decide +kernel
theorem dX11_net_92 : decode cX11_net 92 = .ok (.iconst 1, 1) := by decide +kernel
theorem dX11_net_93 : decode cX11_net 93 = .ok (.istore_n 3, 1) := by decide +kernel
theorem dX11_net_94 : decode cX11_net 94 = .ok (.iconst 0, 1) := by decide +kernel
theorem dX11_net_95 : decode cX11_net 95 = .ok (.istore 4, 2) := by decide +kernel
theorem dX11_net_97 : decode cX11_net 97 = .ok (.iload 4, 2) := by decide +kernel
theorem dX11_net_99 : decode cX11_net 99 = .ok (.iload_n 1, 1) := by decide +kernel
theorem dX11_net_100 : decode cX11_net 100 = .ok (.iconst 2, 1) := by decide +kernel
theorem dX11_net_101 : decode cX11_net 101 = .ok (.isub, 1) := by decide +kernel
theorem dX11_net_102 : decode cX11_net 102 = .ok (.if_icmp .ge 13, 3) := by decide +kernel
theorem dX11_net_105 : decode cX11_net 105 = .ok (.iload_n 3, 1) := by decide +kernel
theorem dX11_net_106 : decode cX11_net 106 = .ok (.iload_n 1, 1) := by decide +kernel
theorem dX11_net_107 : decode cX11_net 107 = .ok (.imul, 1) := by decide +kernel
theorem dX11_net_108 : decode cX11_net 108 = .ok (.istore_n 3, 1) := by decide +kernel
theorem dX11_net_109 : decode cX11_net 109 = .ok (.iinc 4 1, 3) := by decide +kernel
theorem dX11_net_112 : decode cX11_net 112 = .ok (.goto (-15), 3) := by decide +kernel
theorem dX11_net_115 : decode cX11_net 115 = .ok (.bipush (-4), 2) := by decide +kernel
theorem dX11_net_117 : decode cX11_net 117 = .ok (.istore 4, 2) := by decide +kernel
theorem dX11_net_119 : decode cX11_net 119 = .ok (.iconst 0, 1) := by decide +kernel
theorem dX11_net_120 : decode cX11_net 120 = .ok (.istore 5, 2) := by decide +kernel
theorem dX11_net_122 : decode cX11_net 122 = .ok (.iload 5, 2) := by decide +kernel
theorem dX11_net_124 : decode cX11_net 124 = .ok (.iload_n 3, 1) := by decide +kernel
theorem dX11_net_125 : decode cX11_net 125 = .ok (.if_icmp .ge 97, 3) := by decide +kernel
theorem dX11_net_128 : decode cX11_net 128 = .ok (.iload 5, 2) := by decide +kernel
theorem dX11_net_130 : decode cX11_net 130 = .ok (.istore 6, 2) := by decide +kernel
theorem dX11_net_132 : decode cX11_net 132 = .ok (.iconst 0, 1) := by decide +kernel
theorem dX11_net_133 : decode cX11_net 133 = .ok (.istore 7, 2) := by decide +kernel
theorem dX11_net_135 : decode cX11_net 135 = .ok (.iload 7, 2) := by decide +kernel
theorem dX11_net_137 : decode cX11_net 137 = .ok (.iload_n 1, 1) := by decide +kernel
theorem dX11_net_138 : decode cX11_net 138 = .ok (.iconst 2, 1) := by decide +kernel
theorem dX11_net_139 : decode cX11_net 139 = .ok (.isub, 1) := by decide +kernel
theorem dX11_net_140 : decode cX11_net 140 = .ok (.if_icmp .ge 26, 3) := by decide +kernel
theorem dX11_net_143 : decode cX11_net 143 = .ok (.aload_n 0, 1) := by decide +kernel
theorem dX11_net_144 : decode cX11_net 144 = .ok (.getfield 38, 3) := by decide +kernel
theorem dX11_net_147 : decode cX11_net 147 = .ok (.iload 7, 2) := by decide +kernel
theorem dX11_net_149 : decode cX11_net 149 = .ok (.iload 6, 2) := by decide +kernel
theorem dX11_net_151 : decode cX11_net 151 = .ok (.iload_n 1, 1) := by decide +kernel
theorem dX11_net_152 : decode cX11_net 152 = .ok (.irem, 1) := by decide +kernel
theorem dX11_net_153 : decode cX11_net 153 = .ok (.iastore, 1) := by decide +kernel
theorem dX11_net_154 : decode cX11_net 154 = .ok (.iload 6, 2) := by decide +kernel
theorem dX11_net_156 : decode cX11_net 156 = .ok (.iload_n 1, 1) := by decide +kernel
theorem dX11_net_157 : decode cX11_net 157 = .ok (.idiv, 1) := by decide +kernel
theorem dX11_net_158 : decode cX11_net 158 = .ok (.istore 6, 2) := by decide +kernel
theorem dX11_net_160 : decode cX11_net 160 = .ok (.iinc 7 1, 3) := by decide +kernel
theorem dX11_net_163 : decode cX11_net 163 = .ok (.goto (-28), 3) := by decide +kernel
theorem dX11_net_166 : decode cX11_net 166 = .ok (.aload_n 0, 1) := by decide +kernel
theorem dX11_net_167 : decode cX11_net 167 = .ok (.iload_n 1, 1) := by decide +kernel
theorem dX11_net_168 : decode cX11_net 168 = .ok (.invokevirtual 198, 3) := by decide +kernel
theorem dX11_net_171 : decode cX11_net 171 = .ok (.istore 7, 2) := by decide +kernel
theorem dX11_net_173 : decode cX11_net 173 = .ok (.iload 7, 2) := by decide +kernel
theorem dX11_net_175 : decode cX11_net 175 = .ok (.ifCond .eq 11, 3) := by decide +kernel
theorem dX11_net_178 : decode cX11_net 178 = .ok (.aload_n 0, 1) := by decide +kernel
theorem dX11_net_179 : decode cX11_net 179 = .ok (.iload_n 1, 1) := by decide +kernel
theorem dX11_net_180 : decode cX11_net 180 = .ok (.invokevirtual 201, 3) := by decide +kernel
theorem dX11_net_183 : decode cX11_net 183 = .ok (.goto 5, 3) := by decide +kernel
theorem dX11_net_186 : decode cX11_net 186 = .ok (.bipush (-4), 2) := by decide +kernel
theorem dX11_net_188 : decode cX11_net 188 = .ok (.istore 8, 2) := by decide +kernel
theorem dX11_net_190 : decode cX11_net 190 = .ok (.iload 8, 2) := by decide +kernel
theorem dX11_net_192 : decode cX11_net 192 = .ok (.ifCond .lt 20, 3) := by decide +kernel
theorem dX11_net_195 : decode cX11_net 195 = .ok (.iload 4, 2) := by decide +kernel
theorem dX11_net_197 : decode cX11_net 197 = .ok (.ifCond .lt 10, 3) := by decide +kernel
theorem dX11_net_200 : decode cX11_net 200 = .ok (.iload 8, 2) := by decide +kernel
theorem dX11_net_202 : decode cX11_net 202 = .ok (.iload 4, 2) := by decide +kernel
theorem dX11_net_204 : decode cX11_net 204 = .ok (.if_icmp .ge 8, 3) := by decide +kernel
theorem dX11_net_207 : decode cX11_net 207 = .ok (.iload 8, 2) := by decide +kernel
theorem dX11_net_209 : decode cX11_net 209 = .ok (.goto 5, 3) := by decide +kernel
theorem dX11_net_212 : decode cX11_net 212 = .ok (.iload 4, 2) := by decide +kernel
theorem dX11_net_214 : decode cX11_net 214 = .ok (.istore 4, 2) := by decide +kernel
theorem dX11_net_216 : decode cX11_net 216 = .ok (.iinc 5 1, 3) := by decide +kernel
theorem dX11_net_219 : decode cX11_net 219 = .ok (.goto (-97), 3) := by decide +kernel
theorem dX11_net_222 : decode cX11_net 222 = .ok (.iload 4, 2) := by decide +kernel
theorem dX11_net_224 : decode cX11_net 224 = .ok (.ireturn, 1) := by decide +kernel
theorem dX11_image_0 : decode cX11_image 0 = .ok (.iload_n 1, 1) := by decide +kernel
theorem dX11_image_1 : decode cX11_image 1 = .ok (.i2l, 1) := by decide +kernel
theorem dX11_image_2 : decode cX11_image 2 = .ok (.lconst 0, 1) := by decide +kernel
theorem dX11_image_3 : decode cX11_image 3 = .ok (.lconst 1, 1) := by decide +kernel
theorem dX11_image_4 : decode cX11_image 4 = .ok (.invokestatic 72, 3) := by decide +kernel
theorem dX11_image_7 : decode cX11_image 7 = .ok (.ifCond .ne 5, 3) := by decide +kernel
theorem dX11_image_10 : decode cX11_image 10 = .ok (.iconst (-1), 1) := by decide +kernel
theorem dX11_image_11 : decode cX11_image 11 = .ok (.ireturn, 1) := by decide +kernel
theorem dX11_image_12 : decode cX11_image 12 = .ok (.iconst 0, 1) := by decide +kernel
theorem dX11_image_13 : decode cX11_image 13 = .ok (.istore_n 2, 1) := by decide +kernel
theorem dX11_image_14 : decode cX11_image 14 = .ok (.iload_n 2, 1) := by decide +kernel
theorem dX11_image_15 : decode cX11_image 15 = .ok (.sipush 648, 3) := by decide +kernel
theorem dX11_image_18 : decode cX11_image 18 = .ok (.if_icmp .ge 27, 3) := by decide +kernel
theorem dX11_image_21 : decode cX11_image 21 = .ok (.aload_n 0, 1) := by decide +kernel
theorem dX11_image_22 : decode cX11_image 22 = .ok (.getfield 50, 3) := by decide +kernel
theorem dX11_image_25 : decode cX11_image 25 = .ok (.sipush 648, 3) := by decide +kernel
theorem dX11_image_28 : decode cX11_image 28 = .ok (.iload_n 1, 1) := by decide +kernel
theorem dX11_image_29 : decode cX11_image 29 = .ok (.imul, 1) := by decide +kernel
theorem dX11_image_30 : decode cX11_image 30 = .ok (.iload_n 2, 1) := by decide +kernel
theorem dX11_image_31 : decode cX11_image 31 = .ok (.iadd, 1) := by decide +kernel
theorem dX11_image_32 : decode cX11_image 32 = .ok (.aload_n 0, 1) := by decide +kernel
theorem dX11_image_33 : decode cX11_image 33 = .ok (.getfield 7, 3) := by decide +kernel
theorem dX11_image_36 : decode cX11_image 36 = .ok (.iload_n 2, 1) := by decide +kernel
theorem dX11_image_37 : decode cX11_image 37 = .ok (.iaload, 1) := by decide +kernel
theorem dX11_image_38 : decode cX11_image 38 = .ok (.iastore, 1) := by decide +kernel
theorem dX11_image_39 : decode cX11_image 39 = .ok (.iinc 2 1, 3) := by decide +kernel
theorem dX11_image_42 : decode cX11_image 42 = .ok (.goto (-28), 3) := by decide +kernel
theorem dX11_image_45 : decode cX11_image 45 = .ok (.iconst 0, 1) := by decide +kernel
theorem dX11_image_46 : decode cX11_image 46 = .ok (.istore_n 2, 1) := by decide +kernel
theorem dX11_image_47 : decode cX11_image 47 = .ok (.iload_n 2, 1) := by decide +kernel
theorem dX11_image_48 : decode cX11_image 48 = .ok (.bipush 8, 2) := by decide +kernel
theorem dX11_image_50 : decode cX11_image 50 = .ok (.if_icmp .ge 26, 3) := by decide +kernel
theorem dX11_image_53 : decode cX11_image 53 = .ok (.aload_n 0, 1) := by decide +kernel
theorem dX11_image_54 : decode cX11_image 54 = .ok (.getfield 53, 3) := by decide +kernel
theorem dX11_image_57 : decode cX11_image 57 = .ok (.bipush 8, 2) := by decide +kernel
theorem dX11_image_59 : decode cX11_image 59 = .ok (.iload_n 1, 1) := by decide +kernel
theorem dX11_image_60 : decode cX11_image 60 = .ok (.imul, 1) := by decide +kernel
theorem dX11_image_61 : decode cX11_image 61 = .ok (.iload_n 2, 1) := by decide +kernel
theorem dX11_image_62 : decode cX11_image 62 = .ok (.iadd, 1) := by decide +kernel
theorem dX11_image_63 : decode cX11_image 63 = .ok (.aload_n 0, 1) := by decide +kernel
theorem dX11_image_64 : decode cX11_image 64 = .ok (.getfield 13, 3) := by decide +kernel
theorem dX11_image_67 : decode cX11_image 67 = .ok (.iload_n 2, 1) := by decide +kernel
theorem dX11_image_68 : decode cX11_image 68 = .ok (.laload, 1) := by decide +kernel
theorem dX11_image_69 : decode cX11_image 69 = .ok (.lastore, 1) := by decide +kernel
theorem dX11_image_70 : decode cX11_image 70 = .ok (.iinc 2 1, 3) := by decide +kernel
theorem dX11_image_73 : decode cX11_image 73 = .ok (.goto (-26), 3) := by decide +kernel
theorem dX11_image_76 : decode cX11_image 76 = .ok (.aload_n 0, 1) := by decide +kernel
theorem dX11_image_77 : decode cX11_image 77 = .ok (.getfield 56, 3) := by decide +kernel
theorem dX11_image_80 : decode cX11_image 80 = .ok (.iload_n 1, 1) := by decide +kernel
theorem dX11_image_81 : decode cX11_image 81 = .ok (.iconst 1, 1) := by decide +kernel
theorem dX11_image_82 : decode cX11_image 82 = .ok (.bastore, 1) := by decide +kernel
theorem dX11_image_83 : decode cX11_image 83 = .ok (.iconst 1, 1) := by decide +kernel
theorem dX11_image_84 : decode cX11_image 84 = .ok (.ireturn, 1) := by decide +kernel
theorem dX11_restore_0 : decode cX11_restore 0 = .ok (.iload_n 1, 1) := by decide +kernel
theorem dX11_restore_1 : decode cX11_restore 1 = .ok (.i2l, 1) := by decide +kernel
theorem dX11_restore_2 : decode cX11_restore 2 = .ok (.lconst 0, 1) := by decide +kernel
theorem dX11_restore_3 : decode cX11_restore 3 = .ok (.lconst 1, 1) := by decide +kernel
theorem dX11_restore_4 : decode cX11_restore 4 = .ok (.invokestatic 72, 3) := by decide +kernel
theorem dX11_restore_7 : decode cX11_restore 7 = .ok (.ifCond .ne 5, 3) := by decide +kernel
theorem dX11_restore_10 : decode cX11_restore 10 = .ok (.iconst (-1), 1) := by decide +kernel
theorem dX11_restore_11 : decode cX11_restore 11 = .ok (.ireturn, 1) := by decide +kernel
theorem dX11_restore_12 : decode cX11_restore 12 = .ok (.aload_n 0, 1) := by decide +kernel
theorem dX11_restore_13 : decode cX11_restore 13 = .ok (.getfield 56, 3) := by decide +kernel
theorem dX11_restore_16 : decode cX11_restore 16 = .ok (.iload_n 1, 1) := by decide +kernel
theorem dX11_restore_17 : decode cX11_restore 17 = .ok (.baload, 1) := by decide +kernel
theorem dX11_restore_18 : decode cX11_restore 18 = .ok (.ifCond .ne 6, 3) := by decide +kernel
theorem dX11_restore_21 : decode cX11_restore 21 = .ok (.bipush (-4), 2) := by decide +kernel
theorem dX11_restore_23 : decode cX11_restore 23 = .ok (.ireturn, 1) := by decide +kernel
theorem dX11_restore_24 : decode cX11_restore 24 = .ok (.iconst 0, 1) := by decide +kernel
theorem dX11_restore_25 : decode cX11_restore 25 = .ok (.istore_n 2, 1) := by decide +kernel
theorem dX11_restore_26 : decode cX11_restore 26 = .ok (.iload_n 2, 1) := by decide +kernel
theorem dX11_restore_27 : decode cX11_restore 27 = .ok (.sipush 648, 3) := by decide +kernel
theorem dX11_restore_30 : decode cX11_restore 30 = .ok (.if_icmp .ge 27, 3) := by decide +kernel
theorem dX11_restore_33 : decode cX11_restore 33 = .ok (.aload_n 0, 1) := by decide +kernel
theorem dX11_restore_34 : decode cX11_restore 34 = .ok (.getfield 7, 3) := by decide +kernel
theorem dX11_restore_37 : decode cX11_restore 37 = .ok (.iload_n 2, 1) := by decide +kernel
theorem dX11_restore_38 : decode cX11_restore 38 = .ok (.aload_n 0, 1) := by decide +kernel
theorem dX11_restore_39 : decode cX11_restore 39 = .ok (.getfield 50, 3) := by decide +kernel
theorem dX11_restore_42 : decode cX11_restore 42 = .ok (.sipush 648, 3) := by decide +kernel
theorem dX11_restore_45 : decode cX11_restore 45 = .ok (.iload_n 1, 1) := by decide +kernel
theorem dX11_restore_46 : decode cX11_restore 46 = .ok (.imul, 1) := by decide +kernel
theorem dX11_restore_47 : decode cX11_restore 47 = .ok (.iload_n 2, 1) := by decide +kernel
theorem dX11_restore_48 : decode cX11_restore 48 = .ok (.iadd, 1) := by decide +kernel
theorem dX11_restore_49 : decode cX11_restore 49 = .ok (.iaload, 1) := by decide +kernel
theorem dX11_restore_50 : decode cX11_restore 50 = .ok (.iastore, 1) := by decide +kernel
theorem dX11_restore_51 : decode cX11_restore 51 = .ok (.iinc 2 1, 3) := by decide +kernel
theorem dX11_restore_54 : decode cX11_restore 54 = .ok (.goto (-28), 3) := by decide +kernel
theorem dX11_restore_57 : decode cX11_restore 57 = .ok (.iconst 0, 1) := by decide +kernel
theorem dX11_restore_58 : decode cX11_restore 58 = .ok (.istore_n 2, 1) := by decide +kernel
theorem dX11_restore_59 : decode cX11_restore 59 = .ok (.iload_n 2, 1) := by decide +kernel
theorem dX11_restore_60 : decode cX11_restore 60 = .ok (.bipush 8, 2) := by decide +kernel
theorem dX11_restore_62 : decode cX11_restore 62 = .ok (.if_icmp .ge 26, 3) := by decide +kernel
theorem dX11_restore_65 : decode cX11_restore 65 = .ok (.aload_n 0, 1) := by decide +kernel
theorem dX11_restore_66 : decode cX11_restore 66 = .ok (.getfield 13, 3) := by decide +kernel
theorem dX11_restore_69 : decode cX11_restore 69 = .ok (.iload_n 2, 1) := by decide +kernel
theorem dX11_restore_70 : decode cX11_restore 70 = .ok (.aload_n 0, 1) := by decide +kernel
theorem dX11_restore_71 : decode cX11_restore 71 = .ok (.getfield 53, 3) := by decide +kernel
theorem dX11_restore_74 : decode cX11_restore 74 = .ok (.bipush 8, 2) := by decide +kernel
theorem dX11_restore_76 : decode cX11_restore 76 = .ok (.iload_n 1, 1) := by decide +kernel
theorem dX11_restore_77 : decode cX11_restore 77 = .ok (.imul, 1) := by decide +kernel
theorem dX11_restore_78 : decode cX11_restore 78 = .ok (.iload_n 2, 1) := by decide +kernel
theorem dX11_restore_79 : decode cX11_restore 79 = .ok (.iadd, 1) := by decide +kernel
theorem dX11_restore_80 : decode cX11_restore 80 = .ok (.laload, 1) := by decide +kernel
theorem dX11_restore_81 : decode cX11_restore 81 = .ok (.lastore, 1) := by decide +kernel
theorem dX11_restore_82 : decode cX11_restore 82 = .ok (.iinc 2 1, 3) := by decide +kernel
theorem dX11_restore_85 : decode cX11_restore 85 = .ok (.goto (-26), 3) := by decide +kernel
theorem dX11_restore_88 : decode cX11_restore 88 = .ok (.iconst 1, 1) := by decide +kernel
theorem dX11_restore_89 : decode cX11_restore 89 = .ok (.ireturn, 1) := by decide +kernel
theorem dX11_isSheet_0 : decode cX11_isSheet 0 = .ok (.iload_n 0, 1) := by decide +kernel
theorem dX11_isSheet_1 : decode cX11_isSheet 1 = .ok (.i2l, 1) := by decide +kernel
theorem dX11_isSheet_2 : decode cX11_isSheet 2 = .ok (.lconst 0, 1) := by decide +kernel
theorem dX11_isSheet_3 : decode cX11_isSheet 3 = .ok (.ldc2_w 204, 3) := by decide +kernel
theorem dX11_isSheet_6 : decode cX11_isSheet 6 = .ok (.invokestatic 72, 3) := by decide +kernel
theorem dX11_isSheet_9 : decode cX11_isSheet 9 = .ok (.ireturn, 1) := by decide +kernel
theorem dX11_isLane_0 : decode cX11_isLane 0 = .ok (.iload_n 0, 1) := by decide +kernel
theorem dX11_isLane_1 : decode cX11_isLane 1 = .ok (.i2l, 1) := by decide +kernel
theorem dX11_isLane_2 : decode cX11_isLane 2 = .ok (.lconst 0, 1) := by decide +kernel
theorem dX11_isLane_3 : decode cX11_isLane 3 = .ok (.ldc2_w 194, 3) := by decide +kernel
theorem dX11_isLane_6 : decode cX11_isLane 6 = .ok (.invokestatic 72, 3) := by decide +kernel
theorem dX11_isLane_9 : decode cX11_isLane 9 = .ok (.ireturn, 1) := by decide +kernel
theorem dX11_finds_0 : decode cX11_finds 0 = .ok (.aload_n 0, 1) := by decide +kernel
theorem dX11_finds_1 : decode cX11_finds 1 = .ok (.getfield 60, 3) := by decide +kernel
theorem dX11_finds_4 : decode cX11_finds 4 = .ok (.iload_n 1, 1) := by decide +kernel
theorem dX11_finds_5 : decode cX11_finds 5 = .ok (.iaload, 1) := by decide +kernel
theorem dX11_finds_6 : decode cX11_finds 6 = .ok (.ifCond .ge 6, 3) := by decide +kernel
theorem dX11_finds_9 : decode cX11_finds 9 = .ok (.bipush (-11), 2) := by decide +kernel
theorem dX11_finds_11 : decode cX11_finds 11 = .ok (.ireturn, 1) := by decide +kernel
theorem dX11_finds_12 : decode cX11_finds 12 = .ok (.aload_n 0, 1) := by decide +kernel
theorem dX11_finds_13 : decode cX11_finds 13 = .ok (.getfield 60, 3) := by decide +kernel
theorem dX11_finds_16 : decode cX11_finds 16 = .ok (.iload_n 1, 1) := by decide +kernel
theorem dX11_finds_17 : decode cX11_finds 17 = .ok (.iaload, 1) := by decide +kernel
theorem dX11_finds_18 : decode cX11_finds 18 = .ok (.iload_n 2, 1) := by decide +kernel
theorem dX11_finds_19 : decode cX11_finds 19 = .ok (.if_icmp .eq 6, 3) := by decide +kernel
theorem dX11_finds_22 : decode cX11_finds 22 = .ok (.bipush (-12), 2) := by decide +kernel
theorem dX11_finds_24 : decode cX11_finds 24 = .ok (.ireturn, 1) := by decide +kernel
theorem dX11_finds_25 : decode cX11_finds 25 = .ok (.iload_n 3, 1) := by decide +kernel
theorem dX11_finds_26 : decode cX11_finds 26 = .ok (.ifCond .lt 20, 3) := by decide +kernel
theorem dX11_finds_29 : decode cX11_finds 29 = .ok (.iload_n 3, 1) := by decide +kernel
theorem dX11_finds_30 : decode cX11_finds 30 = .ok (.i2l, 1) := by decide +kernel
theorem dX11_finds_31 : decode cX11_finds 31 = .ok (.iload 4, 2) := by decide +kernel
theorem dX11_finds_33 : decode cX11_finds 33 = .ok (.i2l, 1) := by decide +kernel
theorem dX11_finds_34 : decode cX11_finds 34 = .ok (.ladd, 1) := by decide +kernel
theorem dX11_finds_35 : decode cX11_finds 35 = .ok (.aload_n 0, 1) := by decide +kernel
theorem dX11_finds_36 : decode cX11_finds 36 = .ok (.getfield 63, 3) := by decide +kernel
theorem dX11_finds_39 : decode cX11_finds 39 = .ok (.iload_n 1, 1) := by decide +kernel
theorem dX11_finds_40 : decode cX11_finds 40 = .ok (.iaload, 1) := by decide +kernel
theorem dX11_finds_41 : decode cX11_finds 41 = .ok (.i2l, 1) := by decide +kernel
theorem dX11_finds_42 : decode cX11_finds 42 = .ok (.lcmp, 1) := by decide +kernel
theorem dX11_finds_43 : decode cX11_finds 43 = .ok (.ifCond .le 8, 3) := by decide +kernel
theorem dX11_finds_46 : decode cX11_finds 46 = .ok (.bipush (-13), 2) := by decide +kernel
theorem dX11_finds_48 : decode cX11_finds 48 = .ok (.goto 4, 3) := by decide +kernel
theorem dX11_finds_51 : decode cX11_finds 51 = .ok (.iconst 0, 1) := by decide +kernel
theorem dX11_finds_52 : decode cX11_finds 52 = .ok (.ireturn, 1) := by decide +kernel
theorem dX11_sheet_0 : decode cX11_sheet 0 = .ok (.iload_n 1, 1) := by decide +kernel
theorem dX11_sheet_1 : decode cX11_sheet 1 = .ok (.invokestatic 99, 3) := by decide +kernel
theorem dX11_sheet_4 : decode cX11_sheet 4 = .ok (.ifCond .eq 16, 3) := by decide +kernel
theorem dX11_sheet_7 : decode cX11_sheet 7 = .ok (.iload_n 2, 1) := by decide +kernel
theorem dX11_sheet_8 : decode cX11_sheet 8 = .ok (.invokestatic 102, 3) := by decide +kernel
theorem dX11_sheet_11 : decode cX11_sheet 11 = .ok (.ifCond .eq 9, 3) := by decide +kernel
theorem dX11_sheet_14 : decode cX11_sheet 14 = .ok (.iload_n 3, 1) := by decide +kernel
theorem dX11_sheet_15 : decode cX11_sheet 15 = .ok (.bipush 40, 2) := by decide +kernel
theorem dX11_sheet_17 : decode cX11_sheet 17 = .ok (.if_icmp .le 5, 3) := by decide +kernel
theorem dX11_sheet_20 : decode cX11_sheet 20 = .ok (.iconst (-1), 1) := by decide +kernel
theorem dX11_sheet_21 : decode cX11_sheet 21 = .ok (.ireturn, 1) := by decide +kernel
theorem dX11_sheet_22 : decode cX11_sheet 22 = .ok (.iload_n 3, 1) := by decide +kernel
theorem dX11_sheet_23 : decode cX11_sheet 23 = .ok (.ifCond .ge 6, 3) := by decide +kernel
theorem dX11_sheet_26 : decode cX11_sheet 26 = .ok (.bipush (-14), 2) := by decide +kernel
theorem dX11_sheet_28 : decode cX11_sheet 28 = .ok (.ireturn, 1) := by decide +kernel
theorem dX11_sheet_29 : decode cX11_sheet 29 = .ok (.aload_n 0, 1) := by decide +kernel
theorem dX11_sheet_30 : decode cX11_sheet 30 = .ok (.getfield 60, 3) := by decide +kernel
theorem dX11_sheet_33 : decode cX11_sheet 33 = .ok (.iload_n 1, 1) := by decide +kernel
theorem dX11_sheet_34 : decode cX11_sheet 34 = .ok (.iload_n 2, 1) := by decide +kernel
theorem dX11_sheet_35 : decode cX11_sheet 35 = .ok (.iastore, 1) := by decide +kernel
theorem dX11_sheet_36 : decode cX11_sheet 36 = .ok (.aload_n 0, 1) := by decide +kernel
theorem dX11_sheet_37 : decode cX11_sheet 37 = .ok (.getfield 63, 3) := by decide +kernel
theorem dX11_sheet_40 : decode cX11_sheet 40 = .ok (.iload_n 1, 1) := by decide +kernel
theorem dX11_sheet_41 : decode cX11_sheet 41 = .ok (.iload_n 3, 1) := by decide +kernel
theorem dX11_sheet_42 : decode cX11_sheet 42 = .ok (.iastore, 1) := by decide +kernel
theorem dX11_sheet_43 : decode cX11_sheet 43 = .ok (.iconst 0, 1) := by decide +kernel
theorem dX11_sheet_44 : decode cX11_sheet 44 = .ok (.istore 4, 2) := by decide +kernel
theorem dX11_sheet_46 : decode cX11_sheet 46 = .ok (.iload 4, 2) := by decide +kernel
theorem dX11_sheet_48 : decode cX11_sheet 48 = .ok (.bipush 40, 2) := by decide +kernel
theorem dX11_sheet_50 : decode cX11_sheet 50 = .ok (.if_icmp .ge 22, 3) := by decide +kernel
theorem dX11_sheet_53 : decode cX11_sheet 53 = .ok (.aload_n 0, 1) := by decide +kernel
theorem dX11_sheet_54 : decode cX11_sheet 54 = .ok (.getfield 66, 3) := by decide +kernel
theorem dX11_sheet_57 : decode cX11_sheet 57 = .ok (.bipush 40, 2) := by decide +kernel
theorem dX11_sheet_59 : decode cX11_sheet 59 = .ok (.iload_n 1, 1) := by decide +kernel
theorem dX11_sheet_60 : decode cX11_sheet 60 = .ok (.imul, 1) := by decide +kernel
theorem dX11_sheet_61 : decode cX11_sheet 61 = .ok (.iload 4, 2) := by decide +kernel
theorem dX11_sheet_63 : decode cX11_sheet 63 = .ok (.iadd, 1) := by decide +kernel
theorem dX11_sheet_64 : decode cX11_sheet 64 = .ok (.iconst 0, 1) := by decide +kernel
theorem dX11_sheet_65 : decode cX11_sheet 65 = .ok (.iastore, 1) := by decide +kernel
theorem dX11_sheet_66 : decode cX11_sheet 66 = .ok (.iinc 4 1, 3) := by decide +kernel
theorem dX11_sheet_69 : decode cX11_sheet 69 = .ok (.goto (-23), 3) := by decide +kernel
theorem dX11_sheet_72 : decode cX11_sheet 72 = .ok (.iload_n 3, 1) := by decide +kernel
theorem dX11_sheet_73 : decode cX11_sheet 73 = .ok (.ireturn, 1) := by decide +kernel
theorem dX11_drop_0 : decode cX11_drop 0 = .ok (.iload_n 1, 1) := by decide +kernel
theorem dX11_drop_1 : decode cX11_drop 1 = .ok (.invokestatic 99, 3) := by decide +kernel
theorem dX11_drop_4 : decode cX11_drop 4 = .ok (.ifCond .ne 5, 3) := by decide +kernel
theorem dX11_drop_7 : decode cX11_drop 7 = .ok (.iconst (-1), 1) := by decide +kernel
theorem dX11_drop_8 : decode cX11_drop 8 = .ok (.ireturn, 1) := by decide +kernel
theorem dX11_drop_9 : decode cX11_drop 9 = .ok (.aload_n 0, 1) := by decide +kernel
theorem dX11_drop_10 : decode cX11_drop 10 = .ok (.getfield 60, 3) := by decide +kernel
theorem dX11_drop_13 : decode cX11_drop 13 = .ok (.iload_n 1, 1) := by decide +kernel
theorem dX11_drop_14 : decode cX11_drop 14 = .ok (.iaload, 1) := by decide +kernel
theorem dX11_drop_15 : decode cX11_drop 15 = .ok (.ifCond .ge 6, 3) := by decide +kernel
theorem dX11_drop_18 : decode cX11_drop 18 = .ok (.bipush (-11), 2) := by decide +kernel
theorem dX11_drop_20 : decode cX11_drop 20 = .ok (.ireturn, 1) := by decide +kernel
theorem dX11_drop_21 : decode cX11_drop 21 = .ok (.aload_n 0, 1) := by decide +kernel
theorem dX11_drop_22 : decode cX11_drop 22 = .ok (.getfield 60, 3) := by decide +kernel
theorem dX11_drop_25 : decode cX11_drop 25 = .ok (.iload_n 1, 1) := by decide +kernel
theorem dX11_drop_26 : decode cX11_drop 26 = .ok (.iconst (-1), 1) := by decide +kernel
theorem dX11_drop_27 : decode cX11_drop 27 = .ok (.iastore, 1) := by decide +kernel
theorem dX11_drop_28 : decode cX11_drop 28 = .ok (.aload_n 0, 1) := by decide +kernel
theorem dX11_drop_29 : decode cX11_drop 29 = .ok (.getfield 63, 3) := by decide +kernel
theorem dX11_drop_32 : decode cX11_drop 32 = .ok (.iload_n 1, 1) := by decide +kernel
theorem dX11_drop_33 : decode cX11_drop 33 = .ok (.iaload, 1) := by decide +kernel
theorem dX11_drop_34 : decode cX11_drop 34 = .ok (.ireturn, 1) := by decide +kernel
theorem dX11_item_0 : decode cX11_item 0 = .ok (.iload_n 1, 1) := by decide +kernel
theorem dX11_item_1 : decode cX11_item 1 = .ok (.invokestatic 99, 3) := by decide +kernel
theorem dX11_item_4 : decode cX11_item 4 = .ok (.ifCond .eq 10, 3) := by decide +kernel
theorem dX11_item_7 : decode cX11_item 7 = .ok (.iload_n 2, 1) := by decide +kernel
theorem dX11_item_8 : decode cX11_item 8 = .ok (.invokestatic 102, 3) := by decide +kernel
theorem dX11_item_11 : decode cX11_item 11 = .ok (.ifCond .ne 5, 3) := by decide +kernel
theorem dX11_item_14 : decode cX11_item 14 = .ok (.iconst (-1), 1) := by decide +kernel
theorem dX11_item_15 : decode cX11_item 15 = .ok (.ireturn, 1) := by decide +kernel
theorem dX11_item_16 : decode cX11_item 16 = .ok (.aload_n 0, 1) := by decide +kernel
theorem dX11_item_17 : decode cX11_item 17 = .ok (.iload_n 1, 1) := by decide +kernel
theorem dX11_item_18 : decode cX11_item 18 = .ok (.iload_n 2, 1) := by decide +kernel
theorem dX11_item_19 : decode cX11_item 19 = .ok (.iload_n 3, 1) := by decide +kernel
theorem dX11_item_20 : decode cX11_item 20 = .ok (.iconst 1, 1) := by decide +kernel
theorem dX11_item_21 : decode cX11_item 21 = .ok (.invokevirtual 105, 3) := by decide +kernel
theorem dX11_item_24 : decode cX11_item 24 = .ok (.istore 5, 2) := by decide +kernel
theorem dX11_item_26 : decode cX11_item 26 = .ok (.iload 5, 2) := by decide +kernel
theorem dX11_item_28 : decode cX11_item 28 = .ok (.ifCond .ge 6, 3) := by decide +kernel
theorem dX11_item_31 : decode cX11_item 31 = .ok (.iload 5, 2) := by decide +kernel
theorem dX11_item_33 : decode cX11_item 33 = .ok (.ireturn, 1) := by decide +kernel
theorem dX11_item_34 : decode cX11_item 34 = .ok (.aload_n 0, 1) := by decide +kernel
theorem dX11_item_35 : decode cX11_item 35 = .ok (.getfield 66, 3) := by decide +kernel
theorem dX11_item_38 : decode cX11_item 38 = .ok (.bipush 40, 2) := by decide +kernel
theorem dX11_item_40 : decode cX11_item 40 = .ok (.iload_n 1, 1) := by decide +kernel
theorem dX11_item_41 : decode cX11_item 41 = .ok (.imul, 1) := by decide +kernel
theorem dX11_item_42 : decode cX11_item 42 = .ok (.iload_n 3, 1) := by decide +kernel
theorem dX11_item_43 : decode cX11_item 43 = .ok (.iadd, 1) := by decide +kernel
theorem dX11_item_44 : decode cX11_item 44 = .ok (.iload_n 2, 1) := by decide +kernel
theorem dX11_item_45 : decode cX11_item 45 = .ok (.ifCond .ne 9, 3) := by decide +kernel
theorem dX11_item_48 : decode cX11_item 48 = .ok (.iload 4, 2) := by decide +kernel
theorem dX11_item_50 : decode cX11_item 50 = .ok (.i2b, 1) := by decide +kernel
theorem dX11_item_51 : decode cX11_item 51 = .ok (.goto 16, 3) := by decide +kernel
theorem dX11_item_54 : decode cX11_item 54 = .ok (.iload_n 2, 1) := by decide +kernel
theorem dX11_item_55 : decode cX11_item 55 = .ok (.iconst 1, 1) := by decide +kernel
theorem dX11_item_56 : decode cX11_item 56 = .ok (.if_icmp .ne 9, 3) := by decide +kernel
theorem dX11_item_59 : decode cX11_item 59 = .ok (.iload 4, 2) := by decide +kernel
theorem dX11_item_61 : decode cX11_item 61 = .ok (.i2s, 1) := by decide +kernel
theorem dX11_item_62 : decode cX11_item 62 = .ok (.goto 5, 3) := by decide +kernel
theorem dX11_item_65 : decode cX11_item 65 = .ok (.iload 4, 2) := by decide +kernel
theorem dX11_item_67 : decode cX11_item 67 = .ok (.iastore, 1) := by decide +kernel
theorem dX11_item_68 : decode cX11_item 68 = .ok (.iconst 1, 1) := by decide +kernel
theorem dX11_item_69 : decode cX11_item 69 = .ok (.ireturn, 1) := by decide +kernel
theorem dX11_copy_0 : decode cX11_copy 0 = .ok (.iload_n 1, 1) := by decide +kernel
theorem dX11_copy_1 : decode cX11_copy 1 = .ok (.invokestatic 99, 3) := by decide +kernel
theorem dX11_copy_4 : decode cX11_copy 4 = .ok (.ifCond .eq 10, 3) := by decide +kernel
theorem dX11_copy_7 : decode cX11_copy 7 = .ok (.iload_n 3, 1) := by decide +kernel
theorem dX11_copy_8 : decode cX11_copy 8 = .ok (.invokestatic 99, 3) := by decide +kernel
theorem dX11_copy_11 : decode cX11_copy 11 = .ok (.ifCond .ne 5, 3) := by decide +kernel
theorem dX11_copy_14 : decode cX11_copy 14 = .ok (.iconst (-1), 1) := by decide +kernel
theorem dX11_copy_15 : decode cX11_copy 15 = .ok (.ireturn, 1) := by decide +kernel
theorem dX11_copy_16 : decode cX11_copy 16 = .ok (.aload_n 0, 1) := by decide +kernel
theorem dX11_copy_17 : decode cX11_copy 17 = .ok (.getfield 60, 3) := by decide +kernel
theorem dX11_copy_20 : decode cX11_copy 20 = .ok (.iload_n 1, 1) := by decide +kernel
theorem dX11_copy_21 : decode cX11_copy 21 = .ok (.iaload, 1) := by decide +kernel
theorem dX11_copy_22 : decode cX11_copy 22 = .ok (.ifCond .lt 12, 3) := by decide +kernel
theorem dX11_copy_25 : decode cX11_copy 25 = .ok (.aload_n 0, 1) := by decide +kernel
theorem dX11_copy_26 : decode cX11_copy 26 = .ok (.getfield 60, 3) := by decide +kernel
theorem dX11_copy_29 : decode cX11_copy 29 = .ok (.iload_n 3, 1) := by decide +kernel
theorem dX11_copy_30 : decode cX11_copy 30 = .ok (.iaload, 1) := by decide +kernel
theorem dX11_copy_31 : decode cX11_copy 31 = .ok (.ifCond .ge 6, 3) := by decide +kernel
theorem dX11_copy_34 : decode cX11_copy 34 = .ok (.bipush (-11), 2) := by decide +kernel
theorem dX11_copy_36 : decode cX11_copy 36 = .ok (.ireturn, 1) := by decide +kernel
theorem dX11_copy_37 : decode cX11_copy 37 = .ok (.aload_n 0, 1) := by decide +kernel
theorem dX11_copy_38 : decode cX11_copy 38 = .ok (.getfield 60, 3) := by decide +kernel
theorem dX11_copy_41 : decode cX11_copy 41 = .ok (.iload_n 1, 1) := by decide +kernel
theorem dX11_copy_42 : decode cX11_copy 42 = .ok (.iaload, 1) := by decide +kernel
theorem dX11_copy_43 : decode cX11_copy 43 = .ok (.aload_n 0, 1) := by decide +kernel
theorem dX11_copy_44 : decode cX11_copy 44 = .ok (.getfield 60, 3) := by decide +kernel
theorem dX11_copy_47 : decode cX11_copy 47 = .ok (.iload_n 3, 1) := by decide +kernel
theorem dX11_copy_48 : decode cX11_copy 48 = .ok (.iaload, 1) := by decide +kernel
theorem dX11_copy_49 : decode cX11_copy 49 = .ok (.if_icmp .eq 6, 3) := by decide +kernel
theorem dX11_copy_52 : decode cX11_copy 52 = .ok (.bipush (-12), 2) := by decide +kernel
theorem dX11_copy_54 : decode cX11_copy 54 = .ok (.ireturn, 1) := by decide +kernel
theorem dX11_copy_55 : decode cX11_copy 55 = .ok (.iload 5, 2) := by decide +kernel
theorem dX11_copy_57 : decode cX11_copy 57 = .ok (.ifCond .lt 38, 3) := by decide +kernel
theorem dX11_copy_60 : decode cX11_copy 60 = .ok (.aload_n 0, 1) := by decide +kernel
theorem dX11_copy_61 : decode cX11_copy 61 = .ok (.iload_n 1, 1) := by decide +kernel
theorem dX11_copy_62 : decode cX11_copy 62 = .ok (.aload_n 0, 1) := by decide +kernel
theorem dX11_copy_63 : decode cX11_copy 63 = .ok (.getfield 60, 3) := by decide +kernel
theorem dX11_copy_66 : decode cX11_copy 66 = .ok (.iload_n 1, 1) := by decide +kernel
theorem dX11_copy_67 : decode cX11_copy 67 = .ok (.iaload, 1) := by decide +kernel
theorem dX11_copy_68 : decode cX11_copy 68 = .ok (.iload_n 2, 1) := by decide +kernel
theorem dX11_copy_69 : decode cX11_copy 69 = .ok (.iload 5, 2) := by decide +kernel
theorem dX11_copy_71 : decode cX11_copy 71 = .ok (.invokevirtual 105, 3) := by decide +kernel
theorem dX11_copy_74 : decode cX11_copy 74 = .ok (.ifCond .lt 21, 3) := by decide +kernel
theorem dX11_copy_77 : decode cX11_copy 77 = .ok (.aload_n 0, 1) := by decide +kernel
theorem dX11_copy_78 : decode cX11_copy 78 = .ok (.iload_n 3, 1) := by decide +kernel
theorem dX11_copy_79 : decode cX11_copy 79 = .ok (.aload_n 0, 1) := by decide +kernel
theorem dX11_copy_80 : decode cX11_copy 80 = .ok (.getfield 60, 3) := by decide +kernel
theorem dX11_copy_83 : decode cX11_copy 83 = .ok (.iload_n 3, 1) := by decide +kernel
theorem dX11_copy_84 : decode cX11_copy 84 = .ok (.iaload, 1) := by decide +kernel
theorem dX11_copy_85 : decode cX11_copy 85 = .ok (.iload 4, 2) := by decide +kernel
theorem dX11_copy_87 : decode cX11_copy 87 = .ok (.iload 5, 2) := by decide +kernel
theorem dX11_copy_89 : decode cX11_copy 89 = .ok (.invokevirtual 105, 3) := by decide +kernel
theorem dX11_copy_92 : decode cX11_copy 92 = .ok (.ifCond .ge 6, 3) := by decide +kernel
theorem dX11_copy_95 : decode cX11_copy 95 = .ok (.bipush (-13), 2) := by decide +kernel
theorem dX11_copy_97 : decode cX11_copy 97 = .ok (.ireturn, 1) := by decide +kernel
theorem dX11_copy_98 : decode cX11_copy 98 = .ok (.iconst 0, 1) := by decide +kernel
theorem dX11_copy_99 : decode cX11_copy 99 = .ok (.istore 6, 2) := by decide +kernel
theorem dX11_copy_101 : decode cX11_copy 101 = .ok (.iload 6, 2) := by decide +kernel
theorem dX11_copy_103 : decode cX11_copy 103 = .ok (.iload 5, 2) := by decide +kernel
theorem dX11_copy_105 : decode cX11_copy 105 = .ok (.if_icmp .ge 30, 3) := by decide +kernel
theorem dX11_copy_108 : decode cX11_copy 108 = .ok (.aload_n 0, 1) := by decide +kernel
theorem dX11_copy_109 : decode cX11_copy 109 = .ok (.getfield 69, 3) := by decide +kernel
theorem dX11_copy_112 : decode cX11_copy 112 = .ok (.iload 6, 2) := by decide +kernel
theorem dX11_copy_114 : decode cX11_copy 114 = .ok (.aload_n 0, 1) := by decide +kernel
theorem dX11_copy_115 : decode cX11_copy 115 = .ok (.getfield 66, 3) := by decide +kernel
theorem dX11_copy_118 : decode cX11_copy 118 = .ok (.bipush 40, 2) := by decide +kernel
theorem dX11_copy_120 : decode cX11_copy 120 = .ok (.iload_n 1, 1) := by decide +kernel
theorem dX11_copy_121 : decode cX11_copy 121 = .ok (.imul, 1) := by decide +kernel
theorem dX11_copy_122 : decode cX11_copy 122 = .ok (.iload_n 2, 1) := by decide +kernel
theorem dX11_copy_123 : decode cX11_copy 123 = .ok (.iadd, 1) := by decide +kernel
theorem dX11_copy_124 : decode cX11_copy 124 = .ok (.iload 6, 2) := by decide +kernel
theorem dX11_copy_126 : decode cX11_copy 126 = .ok (.iadd, 1) := by decide +kernel
theorem dX11_copy_127 : decode cX11_copy 127 = .ok (.iaload, 1) := by decide +kernel
theorem dX11_copy_128 : decode cX11_copy 128 = .ok (.iastore, 1) := by decide +kernel
theorem dX11_copy_129 : decode cX11_copy 129 = .ok (.iinc 6 1, 3) := by decide +kernel
theorem dX11_copy_132 : decode cX11_copy 132 = .ok (.goto (-31), 3) := by decide +kernel
theorem dX11_copy_135 : decode cX11_copy 135 = .ok (.iconst 0, 1) := by decide +kernel
theorem dX11_copy_136 : decode cX11_copy 136 = .ok (.istore 6, 2) := by decide +kernel
theorem dX11_copy_138 : decode cX11_copy 138 = .ok (.iload 6, 2) := by decide +kernel
theorem dX11_copy_140 : decode cX11_copy 140 = .ok (.iload 5, 2) := by decide +kernel
theorem dX11_copy_142 : decode cX11_copy 142 = .ok (.if_icmp .ge 31, 3) := by decide +kernel
theorem dX11_copy_145 : decode cX11_copy 145 = .ok (.aload_n 0, 1) := by decide +kernel
theorem dX11_copy_146 : decode cX11_copy 146 = .ok (.getfield 66, 3) := by decide +kernel
theorem dX11_copy_149 : decode cX11_copy 149 = .ok (.bipush 40, 2) := by decide +kernel
theorem dX11_copy_151 : decode cX11_copy 151 = .ok (.iload_n 3, 1) := by decide +kernel
theorem dX11_copy_152 : decode cX11_copy 152 = .ok (.imul, 1) := by decide +kernel
theorem dX11_copy_153 : decode cX11_copy 153 = .ok (.iload 4, 2) := by decide +kernel
theorem dX11_copy_155 : decode cX11_copy 155 = .ok (.iadd, 1) := by decide +kernel
theorem dX11_copy_156 : decode cX11_copy 156 = .ok (.iload 6, 2) := by decide +kernel
theorem dX11_copy_158 : decode cX11_copy 158 = .ok (.iadd, 1) := by decide +kernel
theorem dX11_copy_159 : decode cX11_copy 159 = .ok (.aload_n 0, 1) := by decide +kernel
theorem dX11_copy_160 : decode cX11_copy 160 = .ok (.getfield 69, 3) := by decide +kernel
theorem dX11_copy_163 : decode cX11_copy 163 = .ok (.iload 6, 2) := by decide +kernel
theorem dX11_copy_165 : decode cX11_copy 165 = .ok (.iaload, 1) := by decide +kernel
theorem dX11_copy_166 : decode cX11_copy 166 = .ok (.iastore, 1) := by decide +kernel
theorem dX11_copy_167 : decode cX11_copy 167 = .ok (.iinc 6 1, 3) := by decide +kernel
theorem dX11_copy_170 : decode cX11_copy 170 = .ok (.goto (-32), 3) := by decide +kernel
theorem dX11_copy_173 : decode cX11_copy 173 = .ok (.iload 5, 2) := by decide +kernel
theorem dX11_copy_175 : decode cX11_copy 175 = .ok (.ireturn, 1) := by decide +kernel
