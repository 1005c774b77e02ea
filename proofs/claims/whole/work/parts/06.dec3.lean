theorem dX10_in_0 : decode cX10_in 0 = .ok (.lload_n 0, 1) := by decide +kernel
theorem dX10_in_1 : decode cX10_in 1 = .ok (.lload_n 2, 1) := by decide +kernel
theorem dX10_in_2 : decode cX10_in 2 = .ok (.lcmp, 1) := by decide +kernel
theorem dX10_in_3 : decode cX10_in 3 = .ok (.ifCond .lt 14, 3) := by decide +kernel
theorem dX10_in_6 : decode cX10_in 6 = .ok (.lload_n 0, 1) := by decide +kernel
theorem dX10_in_7 : decode cX10_in 7 = .ok (.lload 4, 2) := by decide +kernel
theorem dX10_in_9 : decode cX10_in 9 = .ok (.lcmp, 1) := by decide +kernel
theorem dX10_in_10 : decode cX10_in 10 = .ok (.ifCond .gt 7, 3) := by decide +kernel
theorem dX10_in_13 : decode cX10_in 13 = .ok (.iconst 1, 1) := by decide +kernel
theorem dX10_in_14 : decode cX10_in 14 = .ok (.goto 4, 3) := by decide +kernel
theorem dX10_in_17 : decode cX10_in 17 = .ok (.iconst 0, 1) := by decide +kernel
theorem dX10_in_18 : decode cX10_in 18 = .ok (.ireturn, 1) := by decide +kernel
theorem dX10_init_0 : decode cX10_init 0 = .ok (.aload_n 0, 1) := by decide +kernel
theorem dX10_init_1 : decode cX10_init 1 = .ok (.invokespecial 1, 3) := by decide +kernel
theorem dX10_init_4 : decode cX10_init 4 = .ok (.aload_n 0, 1) := by decide +kernel
theorem dX10_init_5 : decode cX10_init 5 = .ok (.bipush 100, 2) := by decide +kernel
theorem dX10_init_7 : decode cX10_init 7 = .ok (.newarray .int, 2) := by decide +kernel
theorem dX10_init_9 : decode cX10_init 9 = .ok (.putfield 7, 3) := by decide +kernel
theorem dX10_init_12 : decode cX10_init 12 = .ok (.aload_n 0, 1) := by decide +kernel
theorem dX10_init_13 : decode cX10_init 13 = .ok (.bipush 72, 2) := by decide +kernel
theorem dX10_init_15 : decode cX10_init 15 = .ok (.newarray .int, 2) := by decide +kernel
theorem dX10_init_17 : decode cX10_init 17 = .ok (.putfield 13, 3) := by decide +kernel
theorem dX10_init_20 : decode cX10_init 20 = .ok (.aload_n 0, 1) := by decide +kernel
theorem dX10_init_21 : decode cX10_init 21 = .ok (.bipush 80, 2) := by decide +kernel
theorem dX10_init_23 : decode cX10_init 23 = .ok (.newarray .int, 2) := by decide +kernel
theorem dX10_init_25 : decode cX10_init 25 = .ok (.putfield 16, 3) := by decide +kernel
theorem dX10_init_28 : decode cX10_init 28 = .ok (.aload_n 0, 1) := by decide +kernel
theorem dX10_init_29 : decode cX10_init 29 = .ok (.bipush 24, 2) := by decide +kernel
theorem dX10_init_31 : decode cX10_init 31 = .ok (.newarray .int, 2) := by decide +kernel
theorem dX10_init_33 : decode cX10_init 33 = .ok (.putfield 19, 3) := by decide +kernel
theorem dX10_init_36 : decode cX10_init 36 = .ok (.aload_n 0, 1) := by decide +kernel
theorem dX10_init_37 : decode cX10_init 37 = .ok (.bipush 24, 2) := by decide +kernel
theorem dX10_init_39 : decode cX10_init 39 = .ok (.newarray .int, 2) := by decide +kernel
theorem dX10_init_41 : decode cX10_init 41 = .ok (.putfield 22, 3) := by decide +kernel
theorem dX10_init_44 : decode cX10_init 44 = .ok (.aload_n 0, 1) := by decide +kernel
theorem dX10_init_45 : decode cX10_init 45 = .ok (.sipush 4800, 3) := by decide +kernel
theorem dX10_init_48 : decode cX10_init 48 = .ok (.newarray .int, 2) := by decide +kernel
theorem dX10_init_50 : decode cX10_init 50 = .ok (.putfield 25, 3) := by decide +kernel
theorem dX10_init_53 : decode cX10_init 53 = .ok (.aload_n 0, 1) := by decide +kernel
theorem dX10_init_54 : decode cX10_init 54 = .ok (.iconst 3, 1) := by decide +kernel
theorem dX10_init_55 : decode cX10_init 55 = .ok (.newarray .int, 2) := by decide +kernel
theorem dX10_init_57 : decode cX10_init 57 = .ok (.putfield 28, 3) := by decide +kernel
theorem dX10_init_60 : decode cX10_init 60 = .ok (.aload_n 0, 1) := by decide +kernel
theorem dX10_init_61 : decode cX10_init 61 = .ok (.iconst 3, 1) := by decide +kernel
theorem dX10_init_62 : decode cX10_init 62 = .ok (.newarray .int, 2) := by decide +kernel
theorem dX10_init_64 : decode cX10_init 64 = .ok (.putfield 31, 3) := by decide +kernel
theorem dX10_init_67 : decode cX10_init 67 = .ok (.aload_n 0, 1) := by decide +kernel
theorem dX10_init_68 : decode cX10_init 68 = .ok (.bipush 25, 2) := by decide +kernel
theorem dX10_init_70 : decode cX10_init 70 = .ok (.newarray .int, 2) := by decide +kernel
theorem dX10_init_72 : decode cX10_init 72 = .ok (.putfield 34, 3) := by decide +kernel
theorem dX10_init_75 : decode cX10_init 75 = .ok (.aload_n 0, 1) := by decide +kernel
theorem dX10_init_76 : decode cX10_init 76 = .ok (.iconst 3, 1) := by decide +kernel
theorem dX10_init_77 : decode cX10_init 77 = .ok (.newarray .int, 2) := by decide +kernel
theorem dX10_init_79 : decode cX10_init 79 = .ok (.putfield 37, 3) := by decide +kernel
theorem dX10_init_82 : decode cX10_init 82 = .ok (.aload_n 0, 1) := by decide +kernel
theorem dX10_init_83 : decode cX10_init 83 = .ok (.iconst 3, 1) := by decide +kernel
theorem dX10_init_84 : decode cX10_init 84 = .ok (.newarray .int, 2) := by decide +kernel
theorem dX10_init_86 : decode cX10_init 86 = .ok (.putfield 40, 3) := by decide +kernel
theorem dX10_init_89 : decode cX10_init 89 = .ok (.aload_n 0, 1) := by decide +kernel
theorem dX10_init_90 : decode cX10_init 90 = .ok (.iconst 5, 1) := by decide +kernel
theorem dX10_init_91 : decode cX10_init 91 = .ok (.newarray .int, 2) := by decide +kernel
theorem dX10_init_93 : decode cX10_init 93 = .ok (.putfield 43, 3) := by decide +kernel
theorem dX10_init_96 : decode cX10_init 96 = .ok (.aload_n 0, 1) := by decide +kernel
theorem dX10_init_97 : decode cX10_init 97 = .ok (.iconst 5, 1) := by decide +kernel
theorem dX10_init_98 : decode cX10_init 98 = .ok (.newarray .int, 2) := by decide +kernel
theorem dX10_init_100 : decode cX10_init 100 = .ok (.putfield 46, 3) := by decide +kernel
theorem dX10_init_103 : decode cX10_init 103 = .ok (.aload_n 0, 1) := by decide +kernel
theorem dX10_init_104 : decode cX10_init 104 = .ok (.iconst 5, 1) := by decide +kernel
theorem dX10_init_105 : decode cX10_init 105 = .ok (.newarray .int, 2) := by decide +kernel
theorem dX10_init_107 : decode cX10_init 107 = .ok (.putfield 49, 3) := by decide +kernel
theorem dX10_init_110 : decode cX10_init 110 = .ok (.aload_n 0, 1) := by decide +kernel
theorem dX10_init_111 : decode cX10_init 111 = .ok (.iconst 5, 1) := by decide +kernel
theorem dX10_init_112 : decode cX10_init 112 = .ok (.newarray .int, 2) := by decide +kernel
theorem dX10_init_114 : decode cX10_init 114 = .ok (.putfield 52, 3) := by decide +kernel
theorem dX10_init_117 : decode cX10_init 117 = .ok (.aload_n 0, 1) := by decide +kernel
theorem dX10_init_118 : decode cX10_init 118 = .ok (.iconst 5, 1) := by decide +kernel
theorem dX10_init_119 : decode cX10_init 119 = .ok (.newarray .int, 2) := by decide +kernel
theorem dX10_init_121 : decode cX10_init 121 = .ok (.putfield 55, 3) := by decide +kernel
theorem dX10_init_124 : decode cX10_init 124 = .ok (.aload_n 0, 1) := by decide +kernel
theorem dX10_init_125 : decode cX10_init 125 = .ok (.iconst 5, 1) := by decide +kernel
theorem dX10_init_126 : decode cX10_init 126 = .ok (.newarray .int, 2) := by decide +kernel
theorem dX10_init_128 : decode cX10_init 128 = .ok (.putfield 58, 3) := by decide +kernel
theorem dX10_init_131 : decode cX10_init 131 = .ok (.aload_n 0, 1) := by decide +kernel
theorem dX10_init_132 : decode cX10_init 132 = .ok (.iconst 5, 1) := by decide +kernel
theorem dX10_init_133 : decode cX10_init 133 = .ok (.newarray .int, 2) := by decide +kernel
theorem dX10_init_135 : decode cX10_init 135 = .ok (.putfield 61, 3) := by decide +kernel
theorem dX10_init_138 : decode cX10_init 138 = .ok (.aload_n 0, 1) := by decide +kernel
theorem dX10_init_139 : decode cX10_init 139 = .ok (.bipush 48, 2) := by decide +kernel
theorem dX10_init_141 : decode cX10_init 141 = .ok (.newarray .int, 2) := by decide +kernel
theorem dX10_init_143 : decode cX10_init 143 = .ok (.putfield 64, 3) := by decide +kernel
theorem dX10_init_146 : decode cX10_init 146 = .ok (.aload_n 0, 1) := by decide +kernel
theorem dX10_init_147 : decode cX10_init 147 = .ok (.bipush (-4), 2) := by decide +kernel
theorem dX10_init_149 : decode cX10_init 149 = .ok (.putfield 67, 3) := by decide +kernel
theorem dX10_init_152 : decode cX10_init 152 = .ok (.aload_n 0, 1) := by decide +kernel
theorem dX10_init_153 : decode cX10_init 153 = .ok (.bipush 24, 2) := by decide +kernel
theorem dX10_init_155 : decode cX10_init 155 = .ok (.newarray .int, 2) := by decide +kernel
theorem dX10_init_157 : decode cX10_init 157 = .ok (.putfield 71, 3) := by decide +kernel
theorem dX10_init_160 : decode cX10_init 160 = .ok (.aload_n 0, 1) := by decide +kernel
theorem dX10_init_161 : decode cX10_init 161 = .ok (.bipush 24, 2) := by decide +kernel
theorem dX10_init_163 : decode cX10_init 163 = .ok (.newarray .int, 2) := by decide +kernel
theorem dX10_init_165 : decode cX10_init 165 = .ok (.putfield 74, 3) := by decide +kernel
theorem dX10_init_168 : decode cX10_init 168 = .ok (.aload_n 0, 1) := by decide +kernel
theorem dX10_init_169 : decode cX10_init 169 = .ok (.bipush 120, 2) := by decide +kernel
theorem dX10_init_171 : decode cX10_init 171 = .ok (.newarray .int, 2) := by decide +kernel
theorem dX10_init_173 : decode cX10_init 173 = .ok (.putfield 77, 3) := by decide +kernel
theorem dX10_init_176 : decode cX10_init 176 = .ok (.aload_n 0, 1) := by decide +kernel
theorem dX10_init_177 : decode cX10_init 177 = .ok (.sipush 320, 3) := by decide +kernel
theorem dX10_init_180 : decode cX10_init 180 = .ok (.newarray .int, 2) := by decide +kernel
theorem dX10_init_182 : decode cX10_init 182 = .ok (.putfield 80, 3) := by decide +kernel
theorem dX10_init_185 : decode cX10_init 185 = .ok (.aload_n 0, 1) := by decide +kernel
theorem dX10_init_186 : decode cX10_init 186 = .ok (.iconst 4, 1) := by decide +kernel
theorem dX10_init_187 : decode cX10_init 187 = .ok (.newarray .int, 2) := by decide +kernel
theorem dX10_init_189 : decode cX10_init 189 = .ok (.putfield 83, 3) := by decide +kernel
theorem dX10_init_192 : decode cX10_init 192 = .ok (.aload_n 0, 1) := by decide +kernel
theorem dX10_init_193 : decode cX10_init 193 = .ok (.iconst 4, 1) := by decide +kernel
theorem dX10_init_194 : decode cX10_init 194 = .ok (.newarray .int, 2) := by decide +kernel
theorem dX10_init_196 : decode cX10_init 196 = .ok (.putfield 86, 3) := by decide +kernel
theorem dX10_init_199 : decode cX10_init 199 = .ok (.aload_n 0, 1) := by decide +kernel
theorem dX10_init_200 : decode cX10_init 200 = .ok (.bipush 96, 2) := by decide +kernel
theorem dX10_init_202 : decode cX10_init 202 = .ok (.newarray .int, 2) := by decide +kernel
theorem dX10_init_204 : decode cX10_init 204 = .ok (.putfield 89, 3) := by decide +kernel
theorem dX10_init_207 : decode cX10_init 207 = .ok (.aload_n 0, 1) := by decide +kernel
theorem dX10_init_208 : decode cX10_init 208 = .ok (.bipush 24, 2) := by decide +kernel
theorem dX10_init_210 : decode cX10_init 210 = .ok (.newarray .int, 2) := by decide +kernel
theorem dX10_init_212 : decode cX10_init 212 = .ok (.putfield 92, 3) := by decide +kernel
theorem dX10_init_215 : decode cX10_init 215 = .ok (.iconst 0, 1) := by decide +kernel
theorem dX10_init_216 : decode cX10_init 216 = .ok (.istore_n 1, 1) := by decide +kernel
theorem dX10_init_217 : decode cX10_init 217 = .ok (.iload_n 1, 1) := by decide +kernel
theorem dX10_init_218 : decode cX10_init 218 = .ok (.iconst 4, 1) := by decide +kernel
theorem dX10_init_219 : decode cX10_init 219 = .ok (.if_icmp .ge 16, 3) := by decide +kernel
theorem dX10_init_222 : decode cX10_init 222 = .ok (.aload_n 0, 1) := by decide +kernel
theorem dX10_init_223 : decode cX10_init 223 = .ok (.getfield 83, 3) := by decide +kernel
theorem dX10_init_226 : decode cX10_init 226 = .ok (.iload_n 1, 1) := by decide +kernel
theorem dX10_init_227 : decode cX10_init 227 = .ok (.iconst (-1), 1) := by decide +kernel
theorem dX10_init_228 : decode cX10_init 228 = .ok (.iastore, 1) := by decide +kernel
theorem dX10_init_229 : decode cX10_init 229 = .ok (.iinc 1 1, 3) := by decide +kernel
theorem dX10_init_232 : decode cX10_init 232 = .ok (.goto (-15), 3) := by decide +kernel
theorem dX10_init_235 : decode cX10_init 235 = .ok (.iconst 0, 1) := by decide +kernel
theorem dX10_init_236 : decode cX10_init 236 = .ok (.istore_n 1, 1) := by decide +kernel
theorem dX10_init_237 : decode cX10_init 237 = .ok (.iload_n 1, 1) := by decide +kernel
theorem dX10_init_238 : decode cX10_init 238 = .ok (.bipush 100, 2) := by decide +kernel
theorem dX10_init_240 : decode cX10_init 240 = .ok (.if_icmp .ge 17, 3) := by decide +kernel
theorem dX10_init_243 : decode cX10_init 243 = .ok (.aload_n 0, 1) := by decide +kernel
theorem dX10_init_244 : decode cX10_init 244 = .ok (.getfield 7, 3) := by decide +kernel
theorem dX10_init_247 : decode cX10_init 247 = .ok (.iload_n 1, 1) := by decide +kernel
theorem dX10_init_248 : decode cX10_init 248 = .ok (.bipush (-4), 2) := by decide +kernel
theorem dX10_init_250 : decode cX10_init 250 = .ok (.iastore, 1) := by decide +kernel
theorem dX10_init_251 : decode cX10_init 251 = .ok (.iinc 1 1, 3) := by decide +kernel
theorem dX10_init_254 : decode cX10_init 254 = .ok (.goto (-17), 3) := by decide +kernel
theorem dX10_init_257 : decode cX10_init 257 = .ok (.return_, 1) := by decide +kernel
theorem dX10_isRoom_0 : decode cX10_isRoom 0 = .ok (.iload_n 1, 1) := by decide +kernel
theorem dX10_isRoom_1 : decode cX10_isRoom 1 = .ok (.i2l, 1) := by decide +kernel
theorem dX10_isRoom_2 : decode cX10_isRoom 2 = .ok (.lconst 0, 1) := by decide +kernel
theorem dX10_isRoom_3 : decode cX10_isRoom 3 = .ok (.aload_n 0, 1) := by decide +kernel
theorem dX10_isRoom_4 : decode cX10_isRoom 4 = .ok (.getfield 95, 3) := by decide +kernel
theorem dX10_isRoom_7 : decode cX10_isRoom 7 = .ok (.iconst 1, 1) := by decide +kernel
theorem dX10_isRoom_8 : decode cX10_isRoom 8 = .ok (.isub, 1) := by decide +kernel
theorem dX10_isRoom_9 : decode cX10_isRoom 9 = .ok (.i2l, 1) := by decide +kernel
theorem dX10_isRoom_10 : decode cX10_isRoom 10 = .ok (.invokestatic 98, 3) := by decide +kernel
theorem dX10_isRoom_13 : decode cX10_isRoom 13 = .ok (.ireturn, 1) := by decide +kernel
theorem dX10_isTick_0 : decode cX10_isTick 0 = .ok (.iload_n 0, 1) := by decide +kernel
theorem dX10_isTick_1 : decode cX10_isTick 1 = .ok (.i2l, 1) := by decide +kernel
theorem dX10_isTick_2 : decode cX10_isTick 2 = .ok (.lconst 0, 1) := by decide +kernel
theorem dX10_isTick_3 : decode cX10_isTick 3 = .ok (.ldc2_w 102, 3) := by decide +kernel
theorem dX10_isTick_6 : decode cX10_isTick 6 = .ok (.invokestatic 98, 3) := by decide +kernel
theorem dX10_isTick_9 : decode cX10_isTick 9 = .ok (.ireturn, 1) := by decide +kernel
theorem dX10_room_0 : decode cX10_room 0 = .ok (.aload_n 0, 1) := by decide +kernel
theorem dX10_room_1 : decode cX10_room 1 = .ok (.getfield 95, 3) := by decide +kernel
theorem dX10_room_4 : decode cX10_room 4 = .ok (.bipush 10, 2) := by decide +kernel
theorem dX10_room_6 : decode cX10_room 6 = .ok (.if_icmp .ne 6, 3) := by decide +kernel
theorem dX10_room_9 : decode cX10_room 9 = .ok (.bipush (-3), 2) := by decide +kernel
theorem dX10_room_11 : decode cX10_room 11 = .ok (.ireturn, 1) := by decide +kernel
theorem dX10_room_12 : decode cX10_room 12 = .ok (.aload_n 0, 1) := by decide +kernel
theorem dX10_room_13 : decode cX10_room 13 = .ok (.dup, 1) := by decide +kernel
theorem dX10_room_14 : decode cX10_room 14 = .ok (.getfield 95, 3) := by decide +kernel
theorem dX10_room_17 : decode cX10_room 17 = .ok (.iconst 1, 1) := by decide +kernel
theorem dX10_room_18 : decode cX10_room 18 = .ok (.iadd, 1) := by decide +kernel
theorem dX10_room_19 : decode cX10_room 19 = .ok (.putfield 95, 3) := by decide +kernel
theorem dX10_room_22 : decode cX10_room 22 = .ok (.aload_n 0, 1) := by decide +kernel
theorem dX10_room_23 : decode cX10_room 23 = .ok (.iconst 0, 1) := by decide +kernel
theorem dX10_room_24 : decode cX10_room 24 = .ok (.putfield 104, 3) := by decide +kernel
theorem dX10_room_27 : decode cX10_room 27 = .ok (.aload_n 0, 1) := by decide +kernel
theorem dX10_room_28 : decode cX10_room 28 = .ok (.getfield 95, 3) := by decide +kernel
theorem dX10_room_31 : decode cX10_room 31 = .ok (.iconst 1, 1) := by decide +kernel
theorem dX10_room_32 : decode cX10_room 32 = .ok (.isub, 1) := by decide +kernel
theorem dX10_room_33 : decode cX10_room 33 = .ok (.ireturn, 1) := by decide +kernel
theorem dX10_doorIs_0 : decode cX10_doorIs 0 = .ok (.aload_n 0, 1) := by decide +kernel
theorem dX10_doorIs_1 : decode cX10_doorIs 1 = .ok (.getfield 7, 3) := by decide +kernel
theorem dX10_doorIs_4 : decode cX10_doorIs 4 = .ok (.bipush 10, 2) := by decide +kernel
theorem dX10_doorIs_6 : decode cX10_doorIs 6 = .ok (.iload_n 1, 1) := by decide +kernel
theorem dX10_doorIs_7 : decode cX10_doorIs 7 = .ok (.imul, 1) := by decide +kernel
theorem dX10_doorIs_8 : decode cX10_doorIs 8 = .ok (.iload_n 2, 1) := by decide +kernel
theorem dX10_doorIs_9 : decode cX10_doorIs 9 = .ok (.iadd, 1) := by decide +kernel
theorem dX10_doorIs_10 : decode cX10_doorIs 10 = .ok (.iload_n 3, 1) := by decide +kernel
theorem dX10_doorIs_11 : decode cX10_doorIs 11 = .ok (.iastore, 1) := by decide +kernel
theorem dX10_doorIs_12 : decode cX10_doorIs 12 = .ok (.aload_n 0, 1) := by decide +kernel
theorem dX10_doorIs_13 : decode cX10_doorIs 13 = .ok (.getfield 7, 3) := by decide +kernel
theorem dX10_doorIs_16 : decode cX10_doorIs 16 = .ok (.bipush 10, 2) := by decide +kernel
theorem dX10_doorIs_18 : decode cX10_doorIs 18 = .ok (.iload_n 2, 1) := by decide +kernel
theorem dX10_doorIs_19 : decode cX10_doorIs 19 = .ok (.imul, 1) := by decide +kernel
theorem dX10_doorIs_20 : decode cX10_doorIs 20 = .ok (.iload_n 1, 1) := by decide +kernel
theorem dX10_doorIs_21 : decode cX10_doorIs 21 = .ok (.iadd, 1) := by decide +kernel
theorem dX10_doorIs_22 : decode cX10_doorIs 22 = .ok (.iload_n 3, 1) := by decide +kernel
theorem dX10_doorIs_23 : decode cX10_doorIs 23 = .ok (.iastore, 1) := by decide +kernel
theorem dX10_doorIs_24 : decode cX10_doorIs 24 = .ok (.aload_n 0, 1) := by decide +kernel
theorem dX10_doorIs_25 : decode cX10_doorIs 25 = .ok (.iconst 0, 1) := by decide +kernel
theorem dX10_doorIs_26 : decode cX10_doorIs 26 = .ok (.putfield 104, 3) := by decide +kernel
theorem dX10_doorIs_29 : decode cX10_doorIs 29 = .ok (.return_, 1) := by decide +kernel
theorem dX10_door_0 : decode cX10_door 0 = .ok (.aload_n 0, 1) := by decide +kernel
theorem dX10_door_1 : decode cX10_door 1 = .ok (.iload_n 1, 1) := by decide +kernel
theorem dX10_door_2 : decode cX10_door 2 = .ok (.invokevirtual 108, 3) := by decide +kernel
theorem dX10_door_5 : decode cX10_door 5 = .ok (.ifCond .eq 26, 3) := by decide +kernel
theorem dX10_door_8 : decode cX10_door 8 = .ok (.aload_n 0, 1) := by decide +kernel
theorem dX10_door_9 : decode cX10_door 9 = .ok (.iload_n 2, 1) := by decide +kernel
theorem dX10_door_10 : decode cX10_door 10 = .ok (.invokevirtual 108, 3) := by decide +kernel
theorem dX10_door_13 : decode cX10_door 13 = .ok (.ifCond .eq 18, 3) := by decide +kernel
theorem dX10_door_16 : decode cX10_door 16 = .ok (.iload_n 1, 1) := by decide +kernel
theorem dX10_door_17 : decode cX10_door 17 = .ok (.iload_n 2, 1) := by decide +kernel
theorem dX10_door_18 : decode cX10_door 18 = .ok (.if_icmp .eq 13, 3) := by decide +kernel
theorem dX10_door_21 : decode cX10_door 21 = .ok (.iload_n 3, 1) := by decide +kernel
theorem dX10_door_22 : decode cX10_door 22 = .ok (.i2l, 1) := by decide +kernel
theorem dX10_door_23 : decode cX10_door 23 = .ok (.lconst 0, 1) := by decide +kernel
theorem dX10_door_24 : decode cX10_door 24 = .ok (.lconst 1, 1) := by decide +kernel
theorem dX10_door_25 : decode cX10_door 25 = .ok (.invokestatic 98, 3) := by decide +kernel
theorem dX10_door_28 : decode cX10_door 28 = .ok (.ifCond .ne 5, 3) := by decide +kernel
theorem dX10_door_31 : decode cX10_door 31 = .ok (.iconst (-1), 1) := by decide +kernel
theorem dX10_door_32 : decode cX10_door 32 = .ok (.ireturn, 1) := by decide +kernel
theorem dX10_door_33 : decode cX10_door 33 = .ok (.aload_n 0, 1) := by decide +kernel
theorem dX10_door_34 : decode cX10_door 34 = .ok (.getfield 7, 3) := by decide +kernel
theorem dX10_door_37 : decode cX10_door 37 = .ok (.bipush 10, 2) := by decide +kernel
theorem dX10_door_39 : decode cX10_door 39 = .ok (.iload_n 1, 1) := by decide +kernel
theorem dX10_door_40 : decode cX10_door 40 = .ok (.imul, 1) := by decide +kernel
theorem dX10_door_41 : decode cX10_door 41 = .ok (.iload_n 2, 1) := by decide +kernel
theorem dX10_door_42 : decode cX10_door 42 = .ok (.iadd, 1) := by decide +kernel
theorem dX10_door_43 : decode cX10_door 43 = .ok (.iaload, 1) := by decide +kernel
theorem dX10_door_44 : decode cX10_door 44 = .ok (.ifCond .lt 6, 3) := by decide +kernel
theorem dX10_door_47 : decode cX10_door 47 = .ok (.bipush (-2), 2) := by decide +kernel
theorem dX10_door_49 : decode cX10_door 49 = .ok (.ireturn, 1) := by decide +kernel
theorem dX10_door_50 : decode cX10_door 50 = .ok (.aload_n 0, 1) := by decide +kernel
theorem dX10_door_51 : decode cX10_door 51 = .ok (.getfield 112, 3) := by decide +kernel
theorem dX10_door_54 : decode cX10_door 54 = .ok (.bipush 16, 2) := by decide +kernel
theorem dX10_door_56 : decode cX10_door 56 = .ok (.if_icmp .ne 6, 3) := by decide +kernel
theorem dX10_door_59 : decode cX10_door 59 = .ok (.bipush (-3), 2) := by decide +kernel
theorem dX10_door_61 : decode cX10_door 61 = .ok (.ireturn, 1) := by decide +kernel
theorem dX10_door_62 : decode cX10_door 62 = .ok (.aload_n 0, 1) := by decide +kernel
theorem dX10_door_63 : decode cX10_door 63 = .ok (.iload_n 1, 1) := by decide +kernel
theorem dX10_door_64 : decode cX10_door 64 = .ok (.iload_n 2, 1) := by decide +kernel
theorem dX10_door_65 : decode cX10_door 65 = .ok (.iload_n 3, 1) := by decide +kernel
theorem dX10_door_66 : decode cX10_door 66 = .ok (.invokevirtual 115, 3) := by decide +kernel
theorem dX10_door_69 : decode cX10_door 69 = .ok (.aload_n 0, 1) := by decide +kernel
theorem dX10_door_70 : decode cX10_door 70 = .ok (.dup, 1) := by decide +kernel
theorem dX10_door_71 : decode cX10_door 71 = .ok (.getfield 112, 3) := by decide +kernel
theorem dX10_door_74 : decode cX10_door 74 = .ok (.iconst 1, 1) := by decide +kernel
theorem dX10_door_75 : decode cX10_door 75 = .ok (.iadd, 1) := by decide +kernel
theorem dX10_door_76 : decode cX10_door 76 = .ok (.putfield 112, 3) := by decide +kernel
theorem dX10_door_79 : decode cX10_door 79 = .ok (.aload_n 0, 1) := by decide +kernel
theorem dX10_door_80 : decode cX10_door 80 = .ok (.getfield 112, 3) := by decide +kernel
theorem dX10_door_83 : decode cX10_door 83 = .ok (.ireturn, 1) := by decide +kernel
theorem dX10_isWalked_0 : decode cX10_isWalked 0 = .ok (.iconst 0, 1) := by decide +kernel
theorem dX10_isWalked_1 : decode cX10_isWalked 1 = .ok (.istore_n 3, 1) := by decide +kernel
theorem dX10_isWalked_2 : decode cX10_isWalked 2 = .ok (.iconst 0, 1) := by decide +kernel
theorem dX10_isWalked_3 : decode cX10_isWalked 3 = .ok (.istore 4, 2) := by decide +kernel
theorem dX10_isWalked_5 : decode cX10_isWalked 5 = .ok (.iload 4, 2) := by decide +kernel
theorem dX10_isWalked_7 : decode cX10_isWalked 7 = .ok (.aload_n 0, 1) := by decide +kernel
theorem dX10_isWalked_8 : decode cX10_isWalked 8 = .ok (.getfield 119, 3) := by decide +kernel
theorem dX10_isWalked_11 : decode cX10_isWalked 11 = .ok (.if_icmp .ge 91, 3) := by decide +kernel
theorem dX10_isWalked_14 : decode cX10_isWalked 14 = .ok (.iconst 0, 1) := by decide +kernel
theorem dX10_isWalked_15 : decode cX10_isWalked 15 = .ok (.istore 5, 2) := by decide +kernel
theorem dX10_isWalked_17 : decode cX10_isWalked 17 = .ok (.iload 5, 2) := by decide +kernel
theorem dX10_isWalked_19 : decode cX10_isWalked 19 = .ok (.bipush 23, 2) := by decide +kernel
theorem dX10_isWalked_21 : decode cX10_isWalked 21 = .ok (.if_icmp .ge 75, 3) := by decide +kernel
theorem dX10_isWalked_24 : decode cX10_isWalked 24 = .ok (.aload_n 0, 1) := by decide +kernel
theorem dX10_isWalked_25 : decode cX10_isWalked 25 = .ok (.getfield 13, 3) := by decide +kernel
theorem dX10_isWalked_28 : decode cX10_isWalked 28 = .ok (.bipush 24, 2) := by decide +kernel
theorem dX10_isWalked_30 : decode cX10_isWalked 30 = .ok (.iload 4, 2) := by decide +kernel
theorem dX10_isWalked_32 : decode cX10_isWalked 32 = .ok (.imul, 1) := by decide +kernel
theorem dX10_isWalked_33 : decode cX10_isWalked 33 = .ok (.iload 5, 2) := by decide +kernel
theorem dX10_isWalked_35 : decode cX10_isWalked 35 = .ok (.iadd, 1) := by decide +kernel
theorem dX10_isWalked_36 : decode cX10_isWalked 36 = .ok (.iaload, 1) := by decide +kernel
theorem dX10_isWalked_37 : decode cX10_isWalked 37 = .ok (.istore 6, 2) := by decide +kernel
theorem dX10_isWalked_39 : decode cX10_isWalked 39 = .ok (.aload_n 0, 1) := by decide +kernel
theorem dX10_isWalked_40 : decode cX10_isWalked 40 = .ok (.getfield 13, 3) := by decide +kernel
theorem dX10_isWalked_43 : decode cX10_isWalked 43 = .ok (.bipush 24, 2) := by decide +kernel
theorem dX10_isWalked_45 : decode cX10_isWalked 45 = .ok (.iload 4, 2) := by decide +kernel
theorem dX10_isWalked_47 : decode cX10_isWalked 47 = .ok (.imul, 1) := by decide +kernel
theorem dX10_isWalked_48 : decode cX10_isWalked 48 = .ok (.iload 5, 2) := by decide +kernel
theorem dX10_isWalked_50 : decode cX10_isWalked 50 = .ok (.iadd, 1) := by decide +kernel
theorem dX10_isWalked_51 : decode cX10_isWalked 51 = .ok (.iconst 1, 1) := by decide +kernel
theorem dX10_isWalked_52 : decode cX10_isWalked 52 = .ok (.iadd, 1) := by decide +kernel
theorem dX10_isWalked_53 : decode cX10_isWalked 53 = .ok (.iaload, 1) := by decide +kernel
theorem dX10_isWalked_54 : decode cX10_isWalked 54 = .ok (.istore 7, 2) := by decide +kernel
theorem dX10_isWalked_56 : decode cX10_isWalked 56 = .ok (.iload_n 3, 1) := by decide +kernel
theorem dX10_isWalked_57 : decode cX10_isWalked 57 = .ok (.ifCond .ne 27, 3) := by decide +kernel
theorem dX10_isWalked_60 : decode cX10_isWalked 60 = .ok (.iload 6, 2) := by decide +kernel
theorem dX10_isWalked_62 : decode cX10_isWalked 62 = .ok (.iload_n 1, 1) := by decide +kernel
theorem dX10_isWalked_63 : decode cX10_isWalked 63 = .ok (.if_icmp .ne 9, 3) := by decide +kernel
theorem dX10_isWalked_66 : decode cX10_isWalked 66 = .ok (.iload 7, 2) := by decide +kernel
theorem dX10_isWalked_68 : decode cX10_isWalked 68 = .ok (.iload_n 2, 1) := by decide +kernel
theorem dX10_isWalked_69 : decode cX10_isWalked 69 = .ok (.if_icmp .eq 15, 3) := by decide +kernel
theorem dX10_isWalked_72 : decode cX10_isWalked 72 = .ok (.iload 6, 2) := by decide +kernel
theorem dX10_isWalked_74 : decode cX10_isWalked 74 = .ok (.iload_n 2, 1) := by decide +kernel
theorem dX10_isWalked_75 : decode cX10_isWalked 75 = .ok (.if_icmp .ne 13, 3) := by decide +kernel
theorem dX10_isWalked_78 : decode cX10_isWalked 78 = .ok (.iload 7, 2) := by decide +kernel
theorem dX10_isWalked_80 : decode cX10_isWalked 80 = .ok (.iload_n 1, 1) := by decide +kernel
theorem dX10_isWalked_81 : decode cX10_isWalked 81 = .ok (.if_icmp .ne 7, 3) := by decide +kernel
theorem dX10_isWalked_84 : decode cX10_isWalked 84 = .ok (.iconst 1, 1) := by decide +kernel
theorem dX10_isWalked_85 : decode cX10_isWalked 85 = .ok (.goto 4, 3) := by decide +kernel
theorem dX10_isWalked_88 : decode cX10_isWalked 88 = .ok (.iconst 0, 1) := by decide +kernel
theorem dX10_isWalked_89 : decode cX10_isWalked 89 = .ok (.istore_n 3, 1) := by decide +kernel
theorem dX10_isWalked_90 : decode cX10_isWalked 90 = .ok (.iinc 5 1, 3) := by decide +kernel
theorem dX10_isWalked_93 : decode cX10_isWalked 93 = .ok (.goto (-76), 3) := by decide +kernel
theorem dX10_isWalked_96 : decode cX10_isWalked 96 = .ok (.iinc 4 1, 3) := by decide +kernel
theorem dX10_isWalked_99 : decode cX10_isWalked 99 = .ok (.goto (-94), 3) := by decide +kernel
theorem dX10_isWalked_102 : decode cX10_isWalked 102 = .ok (.iload_n 3, 1) := by decide +kernel
theorem dX10_isWalked_103 : decode cX10_isWalked 103 = .ok (.ireturn, 1) := by decide +kernel
theorem dX10_wall_0 : decode cX10_wall 0 = .ok (.aload_n 0, 1) := by decide +kernel
theorem dX10_wall_1 : decode cX10_wall 1 = .ok (.iload_n 1, 1) := by decide +kernel
theorem dX10_wall_2 : decode cX10_wall 2 = .ok (.invokevirtual 108, 3) := by decide +kernel
theorem dX10_wall_5 : decode cX10_wall 5 = .ok (.ifCond .eq 16, 3) := by decide +kernel
theorem dX10_wall_8 : decode cX10_wall 8 = .ok (.aload_n 0, 1) := by decide +kernel
theorem dX10_wall_9 : decode cX10_wall 9 = .ok (.iload_n 2, 1) := by decide +kernel
theorem dX10_wall_10 : decode cX10_wall 10 = .ok (.invokevirtual 108, 3) := by decide +kernel
theorem dX10_wall_13 : decode cX10_wall 13 = .ok (.ifCond .eq 8, 3) := by decide +kernel
theorem dX10_wall_16 : decode cX10_wall 16 = .ok (.iload_n 1, 1) := by decide +kernel
theorem dX10_wall_17 : decode cX10_wall 17 = .ok (.iload_n 2, 1) := by decide +kernel
theorem dX10_wall_18 : decode cX10_wall 18 = .ok (.if_icmp .ne 5, 3) := by decide +kernel
theorem dX10_wall_21 : decode cX10_wall 21 = .ok (.iconst (-1), 1) := by decide +kernel
theorem dX10_wall_22 : decode cX10_wall 22 = .ok (.ireturn, 1) := by decide +kernel
theorem dX10_wall_23 : decode cX10_wall 23 = .ok (.aload_n 0, 1) := by decide +kernel
theorem dX10_wall_24 : decode cX10_wall 24 = .ok (.getfield 7, 3) := by decide +kernel
theorem dX10_wall_27 : decode cX10_wall 27 = .ok (.bipush 10, 2) := by decide +kernel
theorem dX10_wall_29 : decode cX10_wall 29 = .ok (.iload_n 1, 1) := by decide +kernel
theorem dX10_wall_30 : decode cX10_wall 30 = .ok (.imul, 1) := by decide +kernel
theorem dX10_wall_31 : decode cX10_wall 31 = .ok (.iload_n 2, 1) := by decide +kernel
theorem dX10_wall_32 : decode cX10_wall 32 = .ok (.iadd, 1) := by decide +kernel
theorem dX10_wall_33 : decode cX10_wall 33 = .ok (.iaload, 1) := by decide +kernel
theorem dX10_wall_34 : decode cX10_wall 34 = .ok (.istore_n 3, 1) := by decide +kernel
theorem dX10_wall_35 : decode cX10_wall 35 = .ok (.iload_n 3, 1) := by decide +kernel
theorem dX10_wall_36 : decode cX10_wall 36 = .ok (.ifCond .ge 6, 3) := by decide +kernel
theorem dX10_wall_39 : decode cX10_wall 39 = .ok (.bipush (-4), 2) := by decide +kernel
theorem dX10_wall_41 : decode cX10_wall 41 = .ok (.ireturn, 1) := by decide +kernel
theorem dX10_wall_42 : decode cX10_wall 42 = .ok (.aload_n 0, 1) := by decide +kernel
theorem dX10_wall_43 : decode cX10_wall 43 = .ok (.iload_n 1, 1) := by decide +kernel
theorem dX10_wall_44 : decode cX10_wall 44 = .ok (.iload_n 2, 1) := by decide +kernel
theorem dX10_wall_45 : decode cX10_wall 45 = .ok (.invokevirtual 122, 3) := by decide +kernel
theorem dX10_wall_48 : decode cX10_wall 48 = .ok (.ifCond .eq 6, 3) := by decide +kernel
theorem dX10_wall_51 : decode cX10_wall 51 = .ok (.bipush (-2), 2) := by decide +kernel
theorem dX10_wall_53 : decode cX10_wall 53 = .ok (.ireturn, 1) := by decide +kernel
theorem dX10_wall_54 : decode cX10_wall 54 = .ok (.aload_n 0, 1) := by decide +kernel
theorem dX10_wall_55 : decode cX10_wall 55 = .ok (.iload_n 1, 1) := by decide +kernel
theorem dX10_wall_56 : decode cX10_wall 56 = .ok (.iload_n 2, 1) := by decide +kernel
theorem dX10_wall_57 : decode cX10_wall 57 = .ok (.bipush (-4), 2) := by decide +kernel
theorem dX10_wall_59 : decode cX10_wall 59 = .ok (.invokevirtual 115, 3) := by decide +kernel
theorem dX10_wall_62 : decode cX10_wall 62 = .ok (.aload_n 0, 1) := by decide +kernel
theorem dX10_wall_63 : decode cX10_wall 63 = .ok (.dup, 1) := by decide +kernel
theorem dX10_wall_64 : decode cX10_wall 64 = .ok (.getfield 112, 3) := by decide +kernel
theorem dX10_wall_67 : decode cX10_wall 67 = .ok (.iconst 1, 1) := by decide +kernel
theorem dX10_wall_68 : decode cX10_wall 68 = .ok (.isub, 1) := by decide +kernel
theorem dX10_wall_69 : decode cX10_wall 69 = .ok (.putfield 112, 3) := by decide +kernel
theorem dX10_wall_72 : decode cX10_wall 72 = .ok (.iload_n 3, 1) := by decide +kernel
theorem dX10_wall_73 : decode cX10_wall 73 = .ok (.ireturn, 1) := by decide +kernel
theorem dX10_type_0 : decode cX10_type 0 = .ok (.iload_n 3, 1) := by decide +kernel
theorem dX10_type_1 : decode cX10_type 1 = .ok (.i2l, 1) := by decide +kernel
theorem dX10_type_2 : decode cX10_type 2 = .ok (.lconst 1, 1) := by decide +kernel
theorem dX10_type_3 : decode cX10_type 3 = .ok (.ldc2_w 126, 3) := by decide +kernel
theorem dX10_type_6 : decode cX10_type 6 = .ok (.invokestatic 98, 3) := by decide +kernel
theorem dX10_type_9 : decode cX10_type 9 = .ok (.ifCond .ne 5, 3) := by decide +kernel
theorem dX10_type_12 : decode cX10_type 12 = .ok (.iconst (-1), 1) := by decide +kernel
theorem dX10_type_13 : decode cX10_type 13 = .ok (.ireturn, 1) := by decide +kernel
theorem dX10_type_14 : decode cX10_type 14 = .ok (.iconst 0, 1) := by decide +kernel
theorem dX10_type_15 : decode cX10_type 15 = .ok (.istore 4, 2) := by decide +kernel
theorem dX10_type_17 : decode cX10_type 17 = .ok (.iload 4, 2) := by decide +kernel
theorem dX10_type_19 : decode cX10_type 19 = .ok (.iload_n 3, 1) := by decide +kernel
theorem dX10_type_20 : decode cX10_type 20 = .ok (.if_icmp .ge 34, 3) := by decide +kernel
theorem dX10_type_23 : decode cX10_type 23 = .ok (.lload_n 1, 1) := by decide +kernel
theorem dX10_type_24 : decode cX10_type 24 = .ok (.bipush 8, 2) := by decide +kernel
theorem dX10_type_26 : decode cX10_type 26 = .ok (.iload 4, 2) := by decide +kernel
theorem dX10_type_28 : decode cX10_type 28 = .ok (.imul, 1) := by decide +kernel
theorem dX10_type_29 : decode cX10_type 29 = .ok (.lshr, 1) := by decide +kernel
theorem dX10_type_30 : decode cX10_type 30 = .ok (.ldc2_w 128, 3) := by decide +kernel
theorem dX10_type_33 : decode cX10_type 33 = .ok (.land, 1) := by decide +kernel
theorem dX10_type_34 : decode cX10_type 34 = .ok (.ldc2_w 130, 3) := by decide +kernel
theorem dX10_type_37 : decode cX10_type 37 = .ok (.ldc2_w 132, 3) := by decide +kernel
theorem dX10_type_40 : decode cX10_type 40 = .ok (.invokestatic 98, 3) := by decide +kernel
theorem dX10_type_43 : decode cX10_type 43 = .ok (.ifCond .ne 5, 3) := by decide +kernel
theorem dX10_type_46 : decode cX10_type 46 = .ok (.iconst (-1), 1) := by decide +kernel
theorem dX10_type_47 : decode cX10_type 47 = .ok (.ireturn, 1) := by decide +kernel
theorem dX10_type_48 : decode cX10_type 48 = .ok (.iinc 4 1, 3) := by decide +kernel
theorem dX10_type_51 : decode cX10_type 51 = .ok (.goto (-34), 3) := by decide +kernel
theorem dX10_type_54 : decode cX10_type 54 = .ok (.aload_n 0, 1) := by decide +kernel
theorem dX10_type_55 : decode cX10_type 55 = .ok (.getfield 134, 3) := by decide +kernel
theorem dX10_type_58 : decode cX10_type 58 = .ok (.iload_n 3, 1) := by decide +kernel
theorem dX10_type_59 : decode cX10_type 59 = .ok (.iadd, 1) := by decide +kernel
theorem dX10_type_60 : decode cX10_type 60 = .ok (.bipush 80, 2) := by decide +kernel
theorem dX10_type_62 : decode cX10_type 62 = .ok (.if_icmp .le 6, 3) := by decide +kernel
theorem dX10_type_65 : decode cX10_type 65 = .ok (.bipush (-3), 2) := by decide +kernel
theorem dX10_type_67 : decode cX10_type 67 = .ok (.ireturn, 1) := by decide +kernel
theorem dX10_type_68 : decode cX10_type 68 = .ok (.iload_n 3, 1) := by decide +kernel
theorem dX10_type_69 : decode cX10_type 69 = .ok (.iconst 1, 1) := by decide +kernel
theorem dX10_type_70 : decode cX10_type 70 = .ok (.isub, 1) := by decide +kernel
theorem dX10_type_71 : decode cX10_type 71 = .ok (.istore 4, 2) := by decide +kernel
theorem dX10_type_73 : decode cX10_type 73 = .ok (.iload 4, 2) := by decide +kernel
theorem dX10_type_75 : decode cX10_type 75 = .ok (.ifCond .lt 40, 3) := by decide +kernel
theorem dX10_type_78 : decode cX10_type 78 = .ok (.aload_n 0, 1) := by decide +kernel
theorem dX10_type_79 : decode cX10_type 79 = .ok (.getfield 16, 3) := by decide +kernel
theorem dX10_type_82 : decode cX10_type 82 = .ok (.aload_n 0, 1) := by decide +kernel
theorem dX10_type_83 : decode cX10_type 83 = .ok (.getfield 134, 3) := by decide +kernel
theorem dX10_type_86 : decode cX10_type 86 = .ok (.lload_n 1, 1) := by decide +kernel
theorem dX10_type_87 : decode cX10_type 87 = .ok (.bipush 8, 2) := by decide +kernel
theorem dX10_type_89 : decode cX10_type 89 = .ok (.iload 4, 2) := by decide +kernel
theorem dX10_type_91 : decode cX10_type 91 = .ok (.imul, 1) := by decide +kernel
theorem dX10_type_92 : decode cX10_type 92 = .ok (.lshr, 1) := by decide +kernel
theorem dX10_type_93 : decode cX10_type 93 = .ok (.ldc2_w 128, 3) := by decide +kernel
theorem dX10_type_96 : decode cX10_type 96 = .ok (.land, 1) := by decide +kernel
theorem dX10_type_97 : decode cX10_type 97 = .ok (.l2i, 1) := by decide +kernel
theorem dX10_type_98 : decode cX10_type 98 = .ok (.iastore, 1) := by decide +kernel
theorem dX10_type_99 : decode cX10_type 99 = .ok (.aload_n 0, 1) := by decide +kernel
theorem dX10_type_100 : decode cX10_type 100 = .ok (.dup, 1) := by decide +kernel
theorem dX10_type_101 : decode cX10_type 101 = .ok (.getfield 134, 3) := by decide +kernel
theorem dX10_type_104 : decode cX10_type 104 = .ok (.iconst 1, 1) := by decide +kernel
theorem dX10_type_105 : decode cX10_type 105 = .ok (.iadd, 1) := by decide +kernel
theorem dX10_type_106 : decode cX10_type 106 = .ok (.putfield 134, 3) := by decide +kernel
theorem dX10_type_109 : decode cX10_type 109 = .ok (.iinc 4 (-1), 3) := by decide +kernel
theorem dX10_type_112 : decode cX10_type 112 = .ok (.goto (-39), 3) := by decide +kernel
theorem dX10_type_115 : decode cX10_type 115 = .ok (.aload_n 0, 1) := by decide +kernel
theorem dX10_type_116 : decode cX10_type 116 = .ok (.getfield 134, 3) := by decide +kernel
theorem dX10_type_119 : decode cX10_type 119 = .ok (.ireturn, 1) := by decide +kernel
theorem dX10_here_0 : decode cX10_here 0 = .ok (.aload_n 0, 1) := by decide +kernel
theorem dX10_here_1 : decode cX10_here 1 = .ok (.getfield 137, 3) := by decide +kernel
theorem dX10_here_4 : decode cX10_here 4 = .ok (.aload_n 0, 1) := by decide +kernel
theorem dX10_here_5 : decode cX10_here 5 = .ok (.getfield 134, 3) := by decide +kernel
theorem dX10_here_8 : decode cX10_here 8 = .ok (.if_icmp .ge 30, 3) := by decide +kernel
theorem dX10_here_11 : decode cX10_here 11 = .ok (.aload_n 0, 1) := by decide +kernel
theorem dX10_here_12 : decode cX10_here 12 = .ok (.getfield 16, 3) := by decide +kernel
theorem dX10_here_15 : decode cX10_here 15 = .ok (.aload_n 0, 1) := by decide +kernel
theorem dX10_here_16 : decode cX10_here 16 = .ok (.getfield 137, 3) := by decide +kernel
theorem dX10_here_19 : decode cX10_here 19 = .ok (.iaload, 1) := by decide +kernel
theorem dX10_here_20 : decode cX10_here 20 = .ok (.bipush 32, 2) := by decide +kernel
theorem dX10_here_22 : decode cX10_here 22 = .ok (.if_icmp .ne 16, 3) := by decide +kernel
theorem dX10_here_25 : decode cX10_here 25 = .ok (.aload_n 0, 1) := by decide +kernel
theorem dX10_here_26 : decode cX10_here 26 = .ok (.dup, 1) := by decide +kernel
theorem dX10_here_27 : decode cX10_here 27 = .ok (.getfield 137, 3) := by decide +kernel
theorem dX10_here_30 : decode cX10_here 30 = .ok (.iconst 1, 1) := by decide +kernel
theorem dX10_here_31 : decode cX10_here 31 = .ok (.iadd, 1) := by decide +kernel
theorem dX10_here_32 : decode cX10_here 32 = .ok (.putfield 137, 3) := by decide +kernel
theorem dX10_here_35 : decode cX10_here 35 = .ok (.goto (-35), 3) := by decide +kernel
theorem dX10_here_38 : decode cX10_here 38 = .ok (.aload_n 0, 1) := by decide +kernel
theorem dX10_here_39 : decode cX10_here 39 = .ok (.getfield 137, 3) := by decide +kernel
theorem dX10_here_42 : decode cX10_here 42 = .ok (.aload_n 0, 1) := by decide +kernel
theorem dX10_here_43 : decode cX10_here 43 = .ok (.getfield 134, 3) := by decide +kernel
theorem dX10_here_46 : decode cX10_here 46 = .ok (.if_icmp .ge 15, 3) := by decide +kernel
theorem dX10_here_49 : decode cX10_here 49 = .ok (.aload_n 0, 1) := by decide +kernel
theorem dX10_here_50 : decode cX10_here 50 = .ok (.getfield 16, 3) := by decide +kernel
theorem dX10_here_53 : decode cX10_here 53 = .ok (.aload_n 0, 1) := by decide +kernel
theorem dX10_here_54 : decode cX10_here 54 = .ok (.getfield 137, 3) := by decide +kernel
theorem dX10_here_57 : decode cX10_here 57 = .ok (.iaload, 1) := by decide +kernel
theorem dX10_here_58 : decode cX10_here 58 = .ok (.goto 4, 3) := by decide +kernel
theorem dX10_here_61 : decode cX10_here 61 = .ok (.iconst 0, 1) := by decide +kernel
theorem dX10_here_62 : decode cX10_here 62 = .ok (.ireturn, 1) := by decide +kernel
theorem dX10_letter_0 : decode cX10_letter 0 = .ok (.aload_n 0, 1) := by decide +kernel
theorem dX10_letter_1 : decode cX10_letter 1 = .ok (.aload_n 0, 1) := by decide +kernel
theorem dX10_letter_2 : decode cX10_letter 2 = .ok (.getfield 140, 3) := by decide +kernel
theorem dX10_letter_5 : decode cX10_letter 5 = .ok (.ifCond .ne 22, 3) := by decide +kernel
theorem dX10_letter_8 : decode cX10_letter 8 = .ok (.aload_n 0, 1) := by decide +kernel
theorem dX10_letter_9 : decode cX10_letter 9 = .ok (.invokevirtual 143, 3) := by decide +kernel
theorem dX10_letter_12 : decode cX10_letter 12 = .ok (.i2l, 1) := by decide +kernel
theorem dX10_letter_13 : decode cX10_letter 13 = .ok (.ldc2_w 147, 3) := by decide +kernel
theorem dX10_letter_16 : decode cX10_letter 16 = .ok (.bipush 96, 2) := by decide +kernel
theorem dX10_letter_18 : decode cX10_letter 18 = .ok (.iload_n 1, 1) := by decide +kernel
theorem dX10_letter_19 : decode cX10_letter 19 = .ok (.iadd, 1) := by decide +kernel
theorem dX10_letter_20 : decode cX10_letter 20 = .ok (.i2l, 1) := by decide +kernel
theorem dX10_letter_21 : decode cX10_letter 21 = .ok (.invokestatic 98, 3) := by decide +kernel
theorem dX10_letter_24 : decode cX10_letter 24 = .ok (.ifCond .ne 7, 3) := by decide +kernel
theorem dX10_letter_27 : decode cX10_letter 27 = .ok (.iconst 1, 1) := by decide +kernel
theorem dX10_letter_28 : decode cX10_letter 28 = .ok (.goto 4, 3) := by decide +kernel
theorem dX10_letter_31 : decode cX10_letter 31 = .ok (.iconst 0, 1) := by decide +kernel
theorem dX10_letter_32 : decode cX10_letter 32 = .ok (.putfield 140, 3) := by decide +kernel
theorem dX10_letter_35 : decode cX10_letter 35 = .ok (.aload_n 0, 1) := by decide +kernel
theorem dX10_letter_36 : decode cX10_letter 36 = .ok (.getfield 140, 3) := by decide +kernel
theorem dX10_letter_39 : decode cX10_letter 39 = .ok (.ifCond .eq 7, 3) := by decide +kernel
theorem dX10_letter_42 : decode cX10_letter 42 = .ok (.iconst 0, 1) := by decide +kernel
theorem dX10_letter_43 : decode cX10_letter 43 = .ok (.goto 10, 3) := by decide +kernel
theorem dX10_letter_46 : decode cX10_letter 46 = .ok (.aload_n 0, 1) := by decide +kernel
theorem dX10_letter_47 : decode cX10_letter 47 = .ok (.invokevirtual 143, 3) := by decide +kernel
theorem dX10_letter_50 : decode cX10_letter 50 = .ok (.bipush 97, 2) := by decide +kernel
theorem dX10_letter_52 : decode cX10_letter 52 = .ok (.isub, 1) := by decide +kernel
theorem dX10_letter_53 : decode cX10_letter 53 = .ok (.istore_n 2, 1) := by decide +kernel
theorem dX10_letter_54 : decode cX10_letter 54 = .ok (.aload_n 0, 1) := by decide +kernel
theorem dX10_letter_55 : decode cX10_letter 55 = .ok (.dup, 1) := by decide +kernel
theorem dX10_letter_56 : decode cX10_letter 56 = .ok (.getfield 137, 3) := by decide +kernel
theorem dX10_letter_59 : decode cX10_letter 59 = .ok (.aload_n 0, 1) := by decide +kernel
theorem dX10_letter_60 : decode cX10_letter 60 = .ok (.getfield 140, 3) := by decide +kernel
theorem dX10_letter_63 : decode cX10_letter 63 = .ok (.ifCond .eq 7, 3) := by decide +kernel
theorem dX10_letter_66 : decode cX10_letter 66 = .ok (.iconst 0, 1) := by decide +kernel
theorem dX10_letter_67 : decode cX10_letter 67 = .ok (.goto 4, 3) := by decide +kernel
theorem dX10_letter_70 : decode cX10_letter 70 = .ok (.iconst 1, 1) := by decide +kernel
theorem dX10_letter_71 : decode cX10_letter 71 = .ok (.iadd, 1) := by decide +kernel
theorem dX10_letter_72 : decode cX10_letter 72 = .ok (.putfield 137, 3) := by decide +kernel
theorem dX10_letter_75 : decode cX10_letter 75 = .ok (.iload_n 2, 1) := by decide +kernel
theorem dX10_letter_76 : decode cX10_letter 76 = .ok (.ireturn, 1) := by decide +kernel
theorem dX10_number_0 : decode cX10_number 0 = .ok (.aload_n 0, 1) := by decide +kernel
theorem dX10_number_1 : decode cX10_number 1 = .ok (.getfield 140, 3) := by decide +kernel
theorem dX10_number_4 : decode cX10_number 4 = .ok (.ifCond .ne 20, 3) := by decide +kernel
theorem dX10_number_7 : decode cX10_number 7 = .ok (.aload_n 0, 1) := by decide +kernel
theorem dX10_number_8 : decode cX10_number 8 = .ok (.invokevirtual 143, 3) := by decide +kernel
theorem dX10_number_11 : decode cX10_number 11 = .ok (.i2l, 1) := by decide +kernel
theorem dX10_number_12 : decode cX10_number 12 = .ok (.ldc2_w 149, 3) := by decide +kernel
theorem dX10_number_15 : decode cX10_number 15 = .ok (.ldc2_w 151, 3) := by decide +kernel
theorem dX10_number_18 : decode cX10_number 18 = .ok (.invokestatic 98, 3) := by decide +kernel
theorem dX10_number_21 : decode cX10_number 21 = .ok (.ifCond .ne 10, 3) := by decide +kernel
theorem dX10_number_24 : decode cX10_number 24 = .ok (.aload_n 0, 1) := by decide +kernel
theorem dX10_number_25 : decode cX10_number 25 = .ok (.iconst 1, 1) := by decide +kernel
theorem dX10_number_26 : decode cX10_number 26 = .ok (.putfield 140, 3) := by decide +kernel
theorem dX10_number_29 : decode cX10_number 29 = .ok (.iconst 0, 1) := by decide +kernel
theorem dX10_number_30 : decode cX10_number 30 = .ok (.ireturn, 1) := by decide +kernel
theorem dX10_number_31 : decode cX10_number 31 = .ok (.aload_n 0, 1) := by decide +kernel
theorem dX10_number_32 : decode cX10_number 32 = .ok (.getfield 137, 3) := by decide +kernel
theorem dX10_number_35 : decode cX10_number 35 = .ok (.istore_n 3, 1) := by decide +kernel
theorem dX10_number_36 : decode cX10_number 36 = .ok (.iconst 0, 1) := by decide +kernel
theorem dX10_number_37 : decode cX10_number 37 = .ok (.istore 4, 2) := by decide +kernel
theorem dX10_number_39 : decode cX10_number 39 = .ok (.aload_n 0, 1) := by decide +kernel
theorem dX10_number_40 : decode cX10_number 40 = .ok (.getfield 137, 3) := by decide +kernel
theorem dX10_number_43 : decode cX10_number 43 = .ok (.aload_n 0, 1) := by decide +kernel
theorem dX10_number_44 : decode cX10_number 44 = .ok (.getfield 134, 3) := by decide +kernel
theorem dX10_number_47 : decode cX10_number 47 = .ok (.if_icmp .ge 71, 3) := by decide +kernel
theorem dX10_number_50 : decode cX10_number 50 = .ok (.aload_n 0, 1) := by decide +kernel
theorem dX10_number_51 : decode cX10_number 51 = .ok (.getfield 16, 3) := by decide +kernel
theorem dX10_number_54 : decode cX10_number 54 = .ok (.aload_n 0, 1) := by decide +kernel
theorem dX10_number_55 : decode cX10_number 55 = .ok (.getfield 137, 3) := by decide +kernel
theorem dX10_number_58 : decode cX10_number 58 = .ok (.iaload, 1) := by decide +kernel
theorem dX10_number_59 : decode cX10_number 59 = .ok (.i2l, 1) := by decide +kernel
theorem dX10_number_60 : decode cX10_number 60 = .ok (.ldc2_w 149, 3) := by decide +kernel
theorem dX10_number_63 : decode cX10_number 63 = .ok (.ldc2_w 151, 3) := by decide +kernel
theorem dX10_number_66 : decode cX10_number 66 = .ok (.invokestatic 98, 3) := by decide +kernel
theorem dX10_number_69 : decode cX10_number 69 = .ok (.ifCond .eq 49, 3) := by decide +kernel
theorem dX10_number_72 : decode cX10_number 72 = .ok (.iload 4, 2) := by decide +kernel
theorem dX10_number_74 : decode cX10_number 74 = .ok (.sipush 999, 3) := by decide +kernel
theorem dX10_number_77 : decode cX10_number 77 = .ok (.if_icmp .le 8, 3) := by decide +kernel
theorem dX10_number_80 : decode cX10_number 80 = .ok (.iload 4, 2) := by decide +kernel
theorem dX10_number_82 : decode cX10_number 82 = .ok (.goto 21, 3) := by decide +kernel
theorem dX10_number_85 : decode cX10_number 85 = .ok (.bipush 10, 2) := by decide +kernel
theorem dX10_number_87 : decode cX10_number 87 = .ok (.iload 4, 2) := by decide +kernel
theorem dX10_number_89 : decode cX10_number 89 = .ok (.imul, 1) := by decide +kernel
theorem dX10_number_90 : decode cX10_number 90 = .ok (.aload_n 0, 1) := by decide +kernel
theorem dX10_number_91 : decode cX10_number 91 = .ok (.getfield 16, 3) := by decide +kernel
theorem dX10_number_94 : decode cX10_number 94 = .ok (.aload_n 0, 1) := by decide +kernel
theorem dX10_number_95 : decode cX10_number 95 = .ok (.getfield 137, 3) := by decide +kernel
theorem dX10_number_98 : decode cX10_number 98 = .ok (.iaload, 1) := by decide +kernel
theorem dX10_number_99 : decode cX10_number 99 = .ok (.iadd, 1) := by decide +kernel
theorem dX10_number_100 : decode cX10_number 100 = .ok (.bipush 48, 2) := by decide +kernel
theorem dX10_number_102 : decode cX10_number 102 = .ok (.isub, 1) := by decide +kernel
theorem dX10_number_103 : decode cX10_number 103 = .ok (.istore 4, 2) := by decide +kernel
theorem dX10_number_105 : decode cX10_number 105 = .ok (.aload_n 0, 1) := by decide +kernel
theorem dX10_number_106 : decode cX10_number 106 = .ok (.dup, 1) := by decide +kernel
theorem dX10_number_107 : decode cX10_number 107 = .ok (.getfield 137, 3) := by decide +kernel
theorem dX10_number_110 : decode cX10_number 110 = .ok (.iconst 1, 1) := by decide +kernel
theorem dX10_number_111 : decode cX10_number 111 = .ok (.iadd, 1) := by decide +kernel
theorem dX10_number_112 : decode cX10_number 112 = .ok (.putfield 137, 3) := by decide +kernel
theorem dX10_number_115 : decode cX10_number 115 = .ok (.goto (-76), 3) := by decide +kernel
theorem dX10_number_118 : decode cX10_number 118 = .ok (.aload_n 0, 1) := by decide +kernel
theorem dX10_number_119 : decode cX10_number 119 = .ok (.iload 4, 2) := by decide +kernel
theorem dX10_number_121 : decode cX10_number 121 = .ok (.i2l, 1) := by decide +kernel
theorem dX10_number_122 : decode cX10_number 122 = .ok (.iload_n 1, 1) := by decide +kernel
theorem dX10_number_123 : decode cX10_number 123 = .ok (.i2l, 1) := by decide +kernel
theorem dX10_number_124 : decode cX10_number 124 = .ok (.iload_n 2, 1) := by decide +kernel
theorem dX10_number_125 : decode cX10_number 125 = .ok (.i2l, 1) := by decide +kernel
theorem dX10_number_126 : decode cX10_number 126 = .ok (.invokestatic 98, 3) := by decide +kernel
theorem dX10_number_129 : decode cX10_number 129 = .ok (.ifCond .ne 7, 3) := by decide +kernel
theorem dX10_number_132 : decode cX10_number 132 = .ok (.iconst 1, 1) := by decide +kernel
theorem dX10_number_133 : decode cX10_number 133 = .ok (.goto 4, 3) := by decide +kernel
theorem dX10_number_136 : decode cX10_number 136 = .ok (.iconst 0, 1) := by decide +kernel
theorem dX10_number_137 : decode cX10_number 137 = .ok (.putfield 140, 3) := by decide +kernel
theorem dX10_number_140 : decode cX10_number 140 = .ok (.aload_n 0, 1) := by decide +kernel
theorem dX10_number_141 : decode cX10_number 141 = .ok (.aload_n 0, 1) := by decide +kernel
theorem dX10_number_142 : decode cX10_number 142 = .ok (.getfield 140, 3) := by decide +kernel
theorem dX10_number_145 : decode cX10_number 145 = .ok (.ifCond .eq 7, 3) := by decide +kernel
theorem dX10_number_148 : decode cX10_number 148 = .ok (.iload_n 3, 1) := by decide +kernel
theorem dX10_number_149 : decode cX10_number 149 = .ok (.goto 7, 3) := by decide +kernel
theorem dX10_number_152 : decode cX10_number 152 = .ok (.aload_n 0, 1) := by decide +kernel
theorem dX10_number_153 : decode cX10_number 153 = .ok (.getfield 137, 3) := by decide +kernel
theorem dX10_number_156 : decode cX10_number 156 = .ok (.putfield 137, 3) := by decide +kernel
theorem dX10_number_159 : decode cX10_number 159 = .ok (.iload 4, 2) := by decide +kernel
theorem dX10_number_161 : decode cX10_number 161 = .ok (.ireturn, 1) := by decide +kernel
theorem dX10_walks_0 : decode cX10_walks 0 = .ok (.aload_n 0, 1) := by decide +kernel
theorem dX10_walks_1 : decode cX10_walks 1 = .ok (.iconst 0, 1) := by decide +kernel
theorem dX10_walks_2 : decode cX10_walks 2 = .ok (.putfield 137, 3) := by decide +kernel
theorem dX10_walks_5 : decode cX10_walks 5 = .ok (.aload_n 0, 1) := by decide +kernel
theorem dX10_walks_6 : decode cX10_walks 6 = .ok (.iconst 0, 1) := by decide +kernel
theorem dX10_walks_7 : decode cX10_walks 7 = .ok (.putfield 140, 3) := by decide +kernel
theorem dX10_walks_10 : decode cX10_walks 10 = .ok (.iconst 0, 1) := by decide +kernel
theorem dX10_walks_11 : decode cX10_walks 11 = .ok (.istore_n 1, 1) := by decide +kernel
theorem dX10_walks_12 : decode cX10_walks 12 = .ok (.bipush (-4), 2) := by decide +kernel
theorem dX10_walks_14 : decode cX10_walks 14 = .ok (.istore_n 2, 1) := by decide +kernel
theorem dX10_walks_15 : decode cX10_walks 15 = .ok (.iconst 0, 1) := by decide +kernel
theorem dX10_walks_16 : decode cX10_walks 16 = .ok (.istore_n 3, 1) := by decide +kernel
theorem dX10_walks_17 : decode cX10_walks 17 = .ok (.iload_n 3, 1) := by decide +kernel
theorem dX10_walks_18 : decode cX10_walks 18 = .ok (.ifCond .eq 17, 3) := by decide +kernel
theorem dX10_walks_21 : decode cX10_walks 21 = .ok (.aload_n 0, 1) := by decide +kernel
theorem dX10_walks_22 : decode cX10_walks 22 = .ok (.getfield 140, 3) := by decide +kernel
theorem dX10_walks_25 : decode cX10_walks 25 = .ok (.ifCond .ne 144, 3) := by decide +kernel
theorem dX10_walks_28 : decode cX10_walks 28 = .ok (.aload_n 0, 1) := by decide +kernel
theorem dX10_walks_29 : decode cX10_walks 29 = .ok (.invokevirtual 143, 3) := by decide +kernel
theorem dX10_walks_32 : decode cX10_walks 32 = .ok (.ifCond .eq 137, 3) := by decide +kernel
theorem dX10_walks_35 : decode cX10_walks 35 = .ok (.aload_n 0, 1) := by decide +kernel
theorem dX10_walks_36 : decode cX10_walks 36 = .ok (.invokevirtual 143, 3) := by decide +kernel
theorem dX10_walks_39 : decode cX10_walks 39 = .ok (.pop, 1) := by decide +kernel
theorem dX10_walks_40 : decode cX10_walks 40 = .ok (.aload_n 0, 1) := by decide +kernel
theorem dX10_walks_41 : decode cX10_walks 41 = .ok (.getfield 137, 3) := by decide +kernel
theorem dX10_walks_44 : decode cX10_walks 44 = .ok (.istore 4, 2) := by decide +kernel
theorem dX10_walks_46 : decode cX10_walks 46 = .ok (.aload_n 0, 1) := by decide +kernel
theorem dX10_walks_47 : decode cX10_walks 47 = .ok (.aload_n 0, 1) := by decide +kernel
theorem dX10_walks_48 : decode cX10_walks 48 = .ok (.getfield 140, 3) := by decide +kernel
theorem dX10_walks_51 : decode cX10_walks 51 = .ok (.ifCond .ne 9, 3) := by decide +kernel
theorem dX10_walks_54 : decode cX10_walks 54 = .ok (.iload_n 3, 1) := by decide +kernel
theorem dX10_walks_55 : decode cX10_walks 55 = .ok (.bipush 8, 2) := by decide +kernel
theorem dX10_walks_57 : decode cX10_walks 57 = .ok (.if_icmp .ne 7, 3) := by decide +kernel
theorem dX10_walks_60 : decode cX10_walks 60 = .ok (.iconst 1, 1) := by decide +kernel
theorem dX10_walks_61 : decode cX10_walks 61 = .ok (.goto 4, 3) := by decide +kernel
theorem dX10_walks_64 : decode cX10_walks 64 = .ok (.iconst 0, 1) := by decide +kernel
theorem dX10_walks_65 : decode cX10_walks 65 = .ok (.putfield 140, 3) := by decide +kernel
theorem dX10_walks_68 : decode cX10_walks 68 = .ok (.aload_n 0, 1) := by decide +kernel
theorem dX10_walks_69 : decode cX10_walks 69 = .ok (.aload_n 0, 1) := by decide +kernel
theorem dX10_walks_70 : decode cX10_walks 70 = .ok (.getfield 95, 3) := by decide +kernel
theorem dX10_walks_73 : decode cX10_walks 73 = .ok (.invokevirtual 153, 3) := by decide +kernel
theorem dX10_walks_76 : decode cX10_walks 76 = .ok (.istore 5, 2) := by decide +kernel
theorem dX10_walks_78 : decode cX10_walks 78 = .ok (.aload_n 0, 1) := by decide +kernel
theorem dX10_walks_79 : decode cX10_walks 79 = .ok (.getfield 140, 3) := by decide +kernel
theorem dX10_walks_82 : decode cX10_walks 82 = .ok (.ifCond .ne 33, 3) := by decide +kernel
theorem dX10_walks_85 : decode cX10_walks 85 = .ok (.iload_n 2, 1) := by decide +kernel
theorem dX10_walks_86 : decode cX10_walks 86 = .ok (.ifCond .lt 29, 3) := by decide +kernel
theorem dX10_walks_89 : decode cX10_walks 89 = .ok (.aload_n 0, 1) := by decide +kernel
theorem dX10_walks_90 : decode cX10_walks 90 = .ok (.getfield 7, 3) := by decide +kernel
theorem dX10_walks_93 : decode cX10_walks 93 = .ok (.bipush 10, 2) := by decide +kernel
theorem dX10_walks_95 : decode cX10_walks 95 = .ok (.iload_n 2, 1) := by decide +kernel
theorem dX10_walks_96 : decode cX10_walks 96 = .ok (.imul, 1) := by decide +kernel
theorem dX10_walks_97 : decode cX10_walks 97 = .ok (.iload 5, 2) := by decide +kernel
theorem dX10_walks_99 : decode cX10_walks 99 = .ok (.iadd, 1) := by decide +kernel
theorem dX10_walks_100 : decode cX10_walks 100 = .ok (.iaload, 1) := by decide +kernel
theorem dX10_walks_101 : decode cX10_walks 101 = .ok (.ifCond .eq 14, 3) := by decide +kernel
theorem dX10_walks_104 : decode cX10_walks 104 = .ok (.aload_n 0, 1) := by decide +kernel
theorem dX10_walks_105 : decode cX10_walks 105 = .ok (.iconst 1, 1) := by decide +kernel
theorem dX10_walks_106 : decode cX10_walks 106 = .ok (.putfield 140, 3) := by decide +kernel
theorem dX10_walks_109 : decode cX10_walks 109 = .ok (.aload_n 0, 1) := by decide +kernel
theorem dX10_walks_110 : decode cX10_walks 110 = .ok (.iload 4, 2) := by decide +kernel
theorem dX10_walks_112 : decode cX10_walks 112 = .ok (.putfield 137, 3) := by decide +kernel
theorem dX10_walks_115 : decode cX10_walks 115 = .ok (.aload_n 0, 1) := by decide +kernel
theorem dX10_walks_116 : decode cX10_walks 116 = .ok (.iconst 1, 1) := by decide +kernel
theorem dX10_walks_117 : decode cX10_walks 117 = .ok (.bipush 24, 2) := by decide +kernel
theorem dX10_walks_119 : decode cX10_walks 119 = .ok (.iload_n 1, 1) := by decide +kernel
theorem dX10_walks_120 : decode cX10_walks 120 = .ok (.isub, 1) := by decide +kernel
theorem dX10_walks_121 : decode cX10_walks 121 = .ok (.invokevirtual 157, 3) := by decide +kernel
theorem dX10_walks_124 : decode cX10_walks 124 = .ok (.istore 6, 2) := by decide +kernel
theorem dX10_walks_126 : decode cX10_walks 126 = .ok (.iconst 0, 1) := by decide +kernel
theorem dX10_walks_127 : decode cX10_walks 127 = .ok (.istore 7, 2) := by decide +kernel
theorem dX10_walks_129 : decode cX10_walks 129 = .ok (.iload 7, 2) := by decide +kernel
theorem dX10_walks_131 : decode cX10_walks 131 = .ok (.iload 6, 2) := by decide +kernel
theorem dX10_walks_133 : decode cX10_walks 133 = .ok (.if_icmp .ge 27, 3) := by decide +kernel
theorem dX10_walks_136 : decode cX10_walks 136 = .ok (.aload_n 0, 1) := by decide +kernel
theorem dX10_walks_137 : decode cX10_walks 137 = .ok (.getfield 140, 3) := by decide +kernel
theorem dX10_walks_140 : decode cX10_walks 140 = .ok (.ifCond .ne 20, 3) := by decide +kernel
theorem dX10_walks_143 : decode cX10_walks 143 = .ok (.aload_n 0, 1) := by decide +kernel
theorem dX10_walks_144 : decode cX10_walks 144 = .ok (.getfield 19, 3) := by decide +kernel
theorem dX10_walks_147 : decode cX10_walks 147 = .ok (.iload_n 1, 1) := by decide +kernel
theorem dX10_walks_148 : decode cX10_walks 148 = .ok (.iload 5, 2) := by decide +kernel
theorem dX10_walks_150 : decode cX10_walks 150 = .ok (.iastore, 1) := by decide +kernel
theorem dX10_walks_151 : decode cX10_walks 151 = .ok (.iinc 1 1, 3) := by decide +kernel
theorem dX10_walks_154 : decode cX10_walks 154 = .ok (.iinc 7 1, 3) := by decide +kernel
theorem dX10_walks_157 : decode cX10_walks 157 = .ok (.goto (-28), 3) := by decide +kernel
theorem dX10_walks_160 : decode cX10_walks 160 = .ok (.iload 5, 2) := by decide +kernel
theorem dX10_walks_162 : decode cX10_walks 162 = .ok (.istore_n 2, 1) := by decide +kernel
theorem dX10_walks_163 : decode cX10_walks 163 = .ok (.iinc 3 1, 3) := by decide +kernel
theorem dX10_walks_166 : decode cX10_walks 166 = .ok (.goto (-149), 3) := by decide +kernel
theorem dX10_walks_169 : decode cX10_walks 169 = .ok (.iload_n 1, 1) := by decide +kernel
theorem dX10_walks_170 : decode cX10_walks 170 = .ok (.istore_n 3, 1) := by decide +kernel
theorem dX10_walks_171 : decode cX10_walks 171 = .ok (.iload_n 3, 1) := by decide +kernel
theorem dX10_walks_172 : decode cX10_walks 172 = .ok (.bipush 24, 2) := by decide +kernel
theorem dX10_walks_174 : decode cX10_walks 174 = .ok (.if_icmp .ge 23, 3) := by decide +kernel
theorem dX10_walks_177 : decode cX10_walks 177 = .ok (.aload_n 0, 1) := by decide +kernel
theorem dX10_walks_178 : decode cX10_walks 178 = .ok (.getfield 140, 3) := by decide +kernel
theorem dX10_walks_181 : decode cX10_walks 181 = .ok (.ifCond .ne 16, 3) := by decide +kernel
theorem dX10_walks_184 : decode cX10_walks 184 = .ok (.aload_n 0, 1) := by decide +kernel
theorem dX10_walks_185 : decode cX10_walks 185 = .ok (.getfield 19, 3) := by decide +kernel
theorem dX10_walks_188 : decode cX10_walks 188 = .ok (.iload_n 3, 1) := by decide +kernel
theorem dX10_walks_189 : decode cX10_walks 189 = .ok (.iload_n 2, 1) := by decide +kernel
theorem dX10_walks_190 : decode cX10_walks 190 = .ok (.iastore, 1) := by decide +kernel
theorem dX10_walks_191 : decode cX10_walks 191 = .ok (.iinc 3 1, 3) := by decide +kernel
theorem dX10_walks_194 : decode cX10_walks 194 = .ok (.goto (-23), 3) := by decide +kernel
theorem dX10_walks_197 : decode cX10_walks 197 = .ok (.return_, 1) := by decide +kernel
theorem dX10_walk_0 : decode cX10_walk 0 = .ok (.aload_n 0, 1) := by decide +kernel
theorem dX10_walk_1 : decode cX10_walk 1 = .ok (.invokevirtual 161, 3) := by decide +kernel
theorem dX10_walk_4 : decode cX10_walk 4 = .ok (.aload_n 0, 1) := by decide +kernel
theorem dX10_walk_5 : decode cX10_walk 5 = .ok (.iconst 0, 1) := by decide +kernel
theorem dX10_walk_6 : decode cX10_walk 6 = .ok (.putfield 134, 3) := by decide +kernel
theorem dX10_walk_9 : decode cX10_walk 9 = .ok (.aload_n 0, 1) := by decide +kernel
theorem dX10_walk_10 : decode cX10_walk 10 = .ok (.getfield 140, 3) := by decide +kernel
theorem dX10_walk_13 : decode cX10_walk 13 = .ok (.ifCond .eq 11, 3) := by decide +kernel
theorem dX10_walk_16 : decode cX10_walk 16 = .ok (.bipush (-20), 2) := by decide +kernel
theorem dX10_walk_18 : decode cX10_walk 18 = .ok (.aload_n 0, 1) := by decide +kernel
theorem dX10_walk_19 : decode cX10_walk 19 = .ok (.getfield 137, 3) := by decide +kernel
theorem dX10_walk_22 : decode cX10_walk 22 = .ok (.isub, 1) := by decide +kernel
theorem dX10_walk_23 : decode cX10_walk 23 = .ok (.ireturn, 1) := by decide +kernel
theorem dX10_walk_24 : decode cX10_walk 24 = .ok (.aload_n 0, 1) := by decide +kernel
theorem dX10_walk_25 : decode cX10_walk 25 = .ok (.getfield 119, 3) := by decide +kernel
theorem dX10_walk_28 : decode cX10_walk 28 = .ok (.iconst 3, 1) := by decide +kernel
theorem dX10_walk_29 : decode cX10_walk 29 = .ok (.if_icmp .ne 6, 3) := by decide +kernel
theorem dX10_walk_32 : decode cX10_walk 32 = .ok (.bipush (-3), 2) := by decide +kernel
theorem dX10_walk_34 : decode cX10_walk 34 = .ok (.ireturn, 1) := by decide +kernel
theorem dX10_walk_35 : decode cX10_walk 35 = .ok (.iconst 0, 1) := by decide +kernel
theorem dX10_walk_36 : decode cX10_walk 36 = .ok (.istore_n 1, 1) := by decide +kernel
theorem dX10_walk_37 : decode cX10_walk 37 = .ok (.iload_n 1, 1) := by decide +kernel
theorem dX10_walk_38 : decode cX10_walk 38 = .ok (.bipush 24, 2) := by decide +kernel
theorem dX10_walk_40 : decode cX10_walk 40 = .ok (.if_icmp .ge 29, 3) := by decide +kernel
theorem dX10_walk_43 : decode cX10_walk 43 = .ok (.aload_n 0, 1) := by decide +kernel
theorem dX10_walk_44 : decode cX10_walk 44 = .ok (.getfield 13, 3) := by decide +kernel
theorem dX10_walk_47 : decode cX10_walk 47 = .ok (.bipush 24, 2) := by decide +kernel
theorem dX10_walk_49 : decode cX10_walk 49 = .ok (.aload_n 0, 1) := by decide +kernel
theorem dX10_walk_50 : decode cX10_walk 50 = .ok (.getfield 119, 3) := by decide +kernel
theorem dX10_walk_53 : decode cX10_walk 53 = .ok (.imul, 1) := by decide +kernel
theorem dX10_walk_54 : decode cX10_walk 54 = .ok (.iload_n 1, 1) := by decide +kernel
theorem dX10_walk_55 : decode cX10_walk 55 = .ok (.iadd, 1) := by decide +kernel
theorem dX10_walk_56 : decode cX10_walk 56 = .ok (.aload_n 0, 1) := by decide +kernel
theorem dX10_walk_57 : decode cX10_walk 57 = .ok (.getfield 19, 3) := by decide +kernel
theorem dX10_walk_60 : decode cX10_walk 60 = .ok (.iload_n 1, 1) := by decide +kernel
theorem dX10_walk_61 : decode cX10_walk 61 = .ok (.iaload, 1) := by decide +kernel
theorem dX10_walk_62 : decode cX10_walk 62 = .ok (.iastore, 1) := by decide +kernel
theorem dX10_walk_63 : decode cX10_walk 63 = .ok (.iinc 1 1, 3) := by decide +kernel
theorem dX10_walk_66 : decode cX10_walk 66 = .ok (.goto (-29), 3) := by decide +kernel
theorem dX10_walk_69 : decode cX10_walk 69 = .ok (.aload_n 0, 1) := by decide +kernel
theorem dX10_walk_70 : decode cX10_walk 70 = .ok (.dup, 1) := by decide +kernel
theorem dX10_walk_71 : decode cX10_walk 71 = .ok (.getfield 119, 3) := by decide +kernel
theorem dX10_walk_74 : decode cX10_walk 74 = .ok (.iconst 1, 1) := by decide +kernel
theorem dX10_walk_75 : decode cX10_walk 75 = .ok (.iadd, 1) := by decide +kernel
theorem dX10_walk_76 : decode cX10_walk 76 = .ok (.putfield 119, 3) := by decide +kernel
theorem dX10_walk_79 : decode cX10_walk 79 = .ok (.aload_n 0, 1) := by decide +kernel
theorem dX10_walk_80 : decode cX10_walk 80 = .ok (.iconst 0, 1) := by decide +kernel
theorem dX10_walk_81 : decode cX10_walk 81 = .ok (.putfield 104, 3) := by decide +kernel
theorem dX10_walk_84 : decode cX10_walk 84 = .ok (.aload_n 0, 1) := by decide +kernel
theorem dX10_walk_85 : decode cX10_walk 85 = .ok (.getfield 119, 3) := by decide +kernel
theorem dX10_walk_88 : decode cX10_walk 88 = .ok (.iconst 1, 1) := by decide +kernel
theorem dX10_walk_89 : decode cX10_walk 89 = .ok (.isub, 1) := by decide +kernel
theorem dX10_walk_90 : decode cX10_walk 90 = .ok (.ireturn, 1) := by decide +kernel
theorem dX10_guest_0 : decode cX10_guest 0 = .ok (.iload_n 1, 1) := by decide +kernel
theorem dX10_guest_1 : decode cX10_guest 1 = .ok (.i2l, 1) := by decide +kernel
theorem dX10_guest_2 : decode cX10_guest 2 = .ok (.lconst 0, 1) := by decide +kernel
theorem dX10_guest_3 : decode cX10_guest 3 = .ok (.aload_n 0, 1) := by decide +kernel
theorem dX10_guest_4 : decode cX10_guest 4 = .ok (.getfield 119, 3) := by decide +kernel
theorem dX10_guest_7 : decode cX10_guest 7 = .ok (.iconst 1, 1) := by decide +kernel
theorem dX10_guest_8 : decode cX10_guest 8 = .ok (.isub, 1) := by decide +kernel
theorem dX10_guest_9 : decode cX10_guest 9 = .ok (.i2l, 1) := by decide +kernel
theorem dX10_guest_10 : decode cX10_guest 10 = .ok (.invokestatic 98, 3) := by decide +kernel
theorem dX10_guest_13 : decode cX10_guest 13 = .ok (.ifCond .eq 24, 3) := by decide +kernel
theorem dX10_guest_16 : decode cX10_guest 16 = .ok (.iload_n 2, 1) := by decide +kernel
theorem dX10_guest_17 : decode cX10_guest 17 = .ok (.invokestatic 164, 3) := by decide +kernel
theorem dX10_guest_20 : decode cX10_guest 20 = .ok (.ifCond .eq 17, 3) := by decide +kernel
theorem dX10_guest_23 : decode cX10_guest 23 = .ok (.aload_n 0, 1) := by decide +kernel
theorem dX10_guest_24 : decode cX10_guest 24 = .ok (.getfield 13, 3) := by decide +kernel
theorem dX10_guest_27 : decode cX10_guest 27 = .ok (.bipush 24, 2) := by decide +kernel
theorem dX10_guest_29 : decode cX10_guest 29 = .ok (.iload_n 1, 1) := by decide +kernel
theorem dX10_guest_30 : decode cX10_guest 30 = .ok (.imul, 1) := by decide +kernel
theorem dX10_guest_31 : decode cX10_guest 31 = .ok (.iload_n 2, 1) := by decide +kernel
theorem dX10_guest_32 : decode cX10_guest 32 = .ok (.iadd, 1) := by decide +kernel
theorem dX10_guest_33 : decode cX10_guest 33 = .ok (.iaload, 1) := by decide +kernel
theorem dX10_guest_34 : decode cX10_guest 34 = .ok (.goto 4, 3) := by decide +kernel
theorem dX10_guest_37 : decode cX10_guest 37 = .ok (.iconst (-1), 1) := by decide +kernel
theorem dX10_guest_38 : decode cX10_guest 38 = .ok (.ireturn, 1) := by decide +kernel
theorem dX10_isMet_0 : decode cX10_isMet 0 = .ok (.iconst 0, 1) := by decide +kernel
theorem dX10_isMet_1 : decode cX10_isMet 1 = .ok (.istore_n 3, 1) := by decide +kernel
theorem dX10_isMet_2 : decode cX10_isMet 2 = .ok (.iconst 0, 1) := by decide +kernel
theorem dX10_isMet_3 : decode cX10_isMet 3 = .ok (.istore 4, 2) := by decide +kernel
theorem dX10_isMet_5 : decode cX10_isMet 5 = .ok (.iload 4, 2) := by decide +kernel
theorem dX10_isMet_7 : decode cX10_isMet 7 = .ok (.aload_n 0, 1) := by decide +kernel
theorem dX10_isMet_8 : decode cX10_isMet 8 = .ok (.getfield 119, 3) := by decide +kernel
theorem dX10_isMet_11 : decode cX10_isMet 11 = .ok (.if_icmp .ge 35, 3) := by decide +kernel
theorem dX10_isMet_14 : decode cX10_isMet 14 = .ok (.iload_n 3, 1) := by decide +kernel
theorem dX10_isMet_15 : decode cX10_isMet 15 = .ok (.ifCond .ne 19, 3) := by decide +kernel
theorem dX10_isMet_18 : decode cX10_isMet 18 = .ok (.aload_n 0, 1) := by decide +kernel
theorem dX10_isMet_19 : decode cX10_isMet 19 = .ok (.getfield 13, 3) := by decide +kernel
theorem dX10_isMet_22 : decode cX10_isMet 22 = .ok (.bipush 24, 2) := by decide +kernel
theorem dX10_isMet_24 : decode cX10_isMet 24 = .ok (.iload 4, 2) := by decide +kernel
theorem dX10_isMet_26 : decode cX10_isMet 26 = .ok (.imul, 1) := by decide +kernel
theorem dX10_isMet_27 : decode cX10_isMet 27 = .ok (.iload_n 2, 1) := by decide +kernel
theorem dX10_isMet_28 : decode cX10_isMet 28 = .ok (.iadd, 1) := by decide +kernel
theorem dX10_isMet_29 : decode cX10_isMet 29 = .ok (.iaload, 1) := by decide +kernel
theorem dX10_isMet_30 : decode cX10_isMet 30 = .ok (.iload_n 1, 1) := by decide +kernel
theorem dX10_isMet_31 : decode cX10_isMet 31 = .ok (.if_icmp .ne 7, 3) := by decide +kernel
theorem dX10_isMet_34 : decode cX10_isMet 34 = .ok (.iconst 1, 1) := by decide +kernel
theorem dX10_isMet_35 : decode cX10_isMet 35 = .ok (.goto 4, 3) := by decide +kernel
theorem dX10_isMet_38 : decode cX10_isMet 38 = .ok (.iconst 0, 1) := by decide +kernel
theorem dX10_isMet_39 : decode cX10_isMet 39 = .ok (.istore_n 3, 1) := by decide +kernel
theorem dX10_isMet_40 : decode cX10_isMet 40 = .ok (.iinc 4 1, 3) := by decide +kernel
theorem dX10_isMet_43 : decode cX10_isMet 43 = .ok (.goto (-38), 3) := by decide +kernel
theorem dX10_isMet_46 : decode cX10_isMet 46 = .ok (.iload_n 3, 1) := by decide +kernel
theorem dX10_isMet_47 : decode cX10_isMet 47 = .ok (.ireturn, 1) := by decide +kernel
theorem dX10_may_0 : decode cX10_may 0 = .ok (.iload_n 1, 1) := by decide +kernel
theorem dX10_may_1 : decode cX10_may 1 = .ok (.iload_n 3, 1) := by decide +kernel
theorem dX10_may_2 : decode cX10_may 2 = .ok (.if_icmp .eq 17, 3) := by decide +kernel
theorem dX10_may_5 : decode cX10_may 5 = .ok (.aload_n 0, 1) := by decide +kernel
theorem dX10_may_6 : decode cX10_may 6 = .ok (.getfield 7, 3) := by decide +kernel
theorem dX10_may_9 : decode cX10_may 9 = .ok (.bipush 10, 2) := by decide +kernel
theorem dX10_may_11 : decode cX10_may 11 = .ok (.iload_n 1, 1) := by decide +kernel
theorem dX10_may_12 : decode cX10_may 12 = .ok (.imul, 1) := by decide +kernel
theorem dX10_may_13 : decode cX10_may 13 = .ok (.iload_n 3, 1) := by decide +kernel
theorem dX10_may_14 : decode cX10_may 14 = .ok (.iadd, 1) := by decide +kernel
theorem dX10_may_15 : decode cX10_may 15 = .ok (.iaload, 1) := by decide +kernel
theorem dX10_may_16 : decode cX10_may 16 = .ok (.ifCond .lt 7, 3) := by decide +kernel
theorem dX10_may_19 : decode cX10_may 19 = .ok (.iconst 1, 1) := by decide +kernel
theorem dX10_may_20 : decode cX10_may 20 = .ok (.goto 4, 3) := by decide +kernel
theorem dX10_may_23 : decode cX10_may 23 = .ok (.iconst 0, 1) := by decide +kernel
theorem dX10_may_24 : decode cX10_may 24 = .ok (.istore 5, 2) := by decide +kernel
theorem dX10_may_26 : decode cX10_may 26 = .ok (.iload 5, 2) := by decide +kernel
theorem dX10_may_28 : decode cX10_may 28 = .ok (.ifCond .eq 23, 3) := by decide +kernel
theorem dX10_may_31 : decode cX10_may 31 = .ok (.iload 4, 2) := by decide +kernel
theorem dX10_may_33 : decode cX10_may 33 = .ok (.ifCond .eq 14, 3) := by decide +kernel
theorem dX10_may_36 : decode cX10_may 36 = .ok (.aload_n 0, 1) := by decide +kernel
theorem dX10_may_37 : decode cX10_may 37 = .ok (.iload_n 3, 1) := by decide +kernel
theorem dX10_may_38 : decode cX10_may 38 = .ok (.iload_n 2, 1) := by decide +kernel
theorem dX10_may_39 : decode cX10_may 39 = .ok (.iconst 1, 1) := by decide +kernel
theorem dX10_may_40 : decode cX10_may 40 = .ok (.iadd, 1) := by decide +kernel
theorem dX10_may_41 : decode cX10_may 41 = .ok (.invokevirtual 167, 3) := by decide +kernel
theorem dX10_may_44 : decode cX10_may 44 = .ok (.ifCond .ne 7, 3) := by decide +kernel
theorem dX10_may_47 : decode cX10_may 47 = .ok (.iconst 1, 1) := by decide +kernel
theorem dX10_may_48 : decode cX10_may 48 = .ok (.goto 4, 3) := by decide +kernel
theorem dX10_may_51 : decode cX10_may 51 = .ok (.iconst 0, 1) := by decide +kernel
theorem dX10_may_52 : decode cX10_may 52 = .ok (.istore 5, 2) := by decide +kernel
theorem dX10_may_54 : decode cX10_may 54 = .ok (.iconst 0, 1) := by decide +kernel
theorem dX10_may_55 : decode cX10_may 55 = .ok (.istore 6, 2) := by decide +kernel
theorem dX10_may_57 : decode cX10_may 57 = .ok (.iload 6, 2) := by decide +kernel
theorem dX10_may_59 : decode cX10_may 59 = .ok (.aload_n 0, 1) := by decide +kernel
theorem dX10_may_60 : decode cX10_may 60 = .ok (.getfield 119, 3) := by decide +kernel
theorem dX10_may_63 : decode cX10_may 63 = .ok (.if_icmp .ge 65, 3) := by decide +kernel
theorem dX10_may_66 : decode cX10_may 66 = .ok (.iload 5, 2) := by decide +kernel
theorem dX10_may_68 : decode cX10_may 68 = .ok (.ifCond .eq 60, 3) := by decide +kernel
theorem dX10_may_71 : decode cX10_may 71 = .ok (.iload 4, 2) := by decide +kernel
theorem dX10_may_73 : decode cX10_may 73 = .ok (.ifCond .eq 55, 3) := by decide +kernel
theorem dX10_may_76 : decode cX10_may 76 = .ok (.iload_n 1, 1) := by decide +kernel
theorem dX10_may_77 : decode cX10_may 77 = .ok (.iload_n 3, 1) := by decide +kernel
theorem dX10_may_78 : decode cX10_may 78 = .ok (.if_icmp .eq 50, 3) := by decide +kernel
theorem dX10_may_81 : decode cX10_may 81 = .ok (.aload_n 0, 1) := by decide +kernel
theorem dX10_may_82 : decode cX10_may 82 = .ok (.getfield 13, 3) := by decide +kernel
theorem dX10_may_85 : decode cX10_may 85 = .ok (.bipush 24, 2) := by decide +kernel
theorem dX10_may_87 : decode cX10_may 87 = .ok (.iload 6, 2) := by decide +kernel
theorem dX10_may_89 : decode cX10_may 89 = .ok (.imul, 1) := by decide +kernel
theorem dX10_may_90 : decode cX10_may 90 = .ok (.iload_n 2, 1) := by decide +kernel
theorem dX10_may_91 : decode cX10_may 91 = .ok (.iadd, 1) := by decide +kernel
theorem dX10_may_92 : decode cX10_may 92 = .ok (.iaload, 1) := by decide +kernel
theorem dX10_may_93 : decode cX10_may 93 = .ok (.iload_n 3, 1) := by decide +kernel
theorem dX10_may_94 : decode cX10_may 94 = .ok (.if_icmp .ne 21, 3) := by decide +kernel
theorem dX10_may_97 : decode cX10_may 97 = .ok (.aload_n 0, 1) := by decide +kernel
theorem dX10_may_98 : decode cX10_may 98 = .ok (.getfield 13, 3) := by decide +kernel
theorem dX10_may_101 : decode cX10_may 101 = .ok (.bipush 24, 2) := by decide +kernel
theorem dX10_may_103 : decode cX10_may 103 = .ok (.iload 6, 2) := by decide +kernel
theorem dX10_may_105 : decode cX10_may 105 = .ok (.imul, 1) := by decide +kernel
theorem dX10_may_106 : decode cX10_may 106 = .ok (.iload_n 2, 1) := by decide +kernel
theorem dX10_may_107 : decode cX10_may 107 = .ok (.iadd, 1) := by decide +kernel
theorem dX10_may_108 : decode cX10_may 108 = .ok (.iconst 1, 1) := by decide +kernel
theorem dX10_may_109 : decode cX10_may 109 = .ok (.iadd, 1) := by decide +kernel
theorem dX10_may_110 : decode cX10_may 110 = .ok (.iaload, 1) := by decide +kernel
theorem dX10_may_111 : decode cX10_may 111 = .ok (.iload_n 1, 1) := by decide +kernel
theorem dX10_may_112 : decode cX10_may 112 = .ok (.if_icmp .eq 7, 3) := by decide +kernel
theorem dX10_may_115 : decode cX10_may 115 = .ok (.iconst 1, 1) := by decide +kernel
theorem dX10_may_116 : decode cX10_may 116 = .ok (.goto 4, 3) := by decide +kernel
theorem dX10_may_119 : decode cX10_may 119 = .ok (.iconst 0, 1) := by decide +kernel
theorem dX10_may_120 : decode cX10_may 120 = .ok (.istore 5, 2) := by decide +kernel
theorem dX10_may_122 : decode cX10_may 122 = .ok (.iinc 6 1, 3) := by decide +kernel
theorem dX10_may_125 : decode cX10_may 125 = .ok (.goto (-68), 3) := by decide +kernel
theorem dX10_may_128 : decode cX10_may 128 = .ok (.iload 5, 2) := by decide +kernel
theorem dX10_may_130 : decode cX10_may 130 = .ok (.ireturn, 1) := by decide +kernel
theorem dX10_reaches_0 : decode cX10_reaches 0 = .ok (.aload_n 0, 1) := by decide +kernel
theorem dX10_reaches_1 : decode cX10_reaches 1 = .ok (.getfield 22, 3) := by decide +kernel
theorem dX10_reaches_4 : decode cX10_reaches 4 = .ok (.iload_n 2, 1) := by decide +kernel
theorem dX10_reaches_5 : decode cX10_reaches 5 = .ok (.iload_n 3, 1) := by decide +kernel
theorem dX10_reaches_6 : decode cX10_reaches 6 = .ok (.ifCond .eq 16, 3) := by decide +kernel
theorem dX10_reaches_9 : decode cX10_reaches 9 = .ok (.aload_n 0, 1) := by decide +kernel
theorem dX10_reaches_10 : decode cX10_reaches 10 = .ok (.iload_n 1, 1) := by decide +kernel
theorem dX10_reaches_11 : decode cX10_reaches 11 = .ok (.iload_n 2, 1) := by decide +kernel
theorem dX10_reaches_12 : decode cX10_reaches 12 = .ok (.invokevirtual 167, 3) := by decide +kernel
theorem dX10_reaches_15 : decode cX10_reaches 15 = .ok (.ifCond .eq 7, 3) := by decide +kernel
theorem dX10_reaches_18 : decode cX10_reaches 18 = .ok (.iconst 0, 1) := by decide +kernel
theorem dX10_reaches_19 : decode cX10_reaches 19 = .ok (.goto 6, 3) := by decide +kernel
theorem dX10_reaches_22 : decode cX10_reaches 22 = .ok (.iconst 1, 1) := by decide +kernel
theorem dX10_reaches_23 : decode cX10_reaches 23 = .ok (.iload_n 1, 1) := by decide +kernel
theorem dX10_reaches_24 : decode cX10_reaches 24 = .ok (.ishl, 1) := by decide +kernel
theorem dX10_reaches_25 : decode cX10_reaches 25 = .ok (.iastore, 1) := by decide +kernel
theorem dX10_reaches_26 : decode cX10_reaches 26 = .ok (.iload_n 2, 1) := by decide +kernel
theorem dX10_reaches_27 : decode cX10_reaches 27 = .ok (.istore 4, 2) := by decide +kernel
theorem dX10_reaches_29 : decode cX10_reaches 29 = .ok (.iload 4, 2) := by decide +kernel
theorem dX10_reaches_31 : decode cX10_reaches 31 = .ok (.bipush 23, 2) := by decide +kernel
theorem dX10_reaches_33 : decode cX10_reaches 33 = .ok (.if_icmp .ge 105, 3) := by decide +kernel
theorem dX10_reaches_36 : decode cX10_reaches 36 = .ok (.aload_n 0, 1) := by decide +kernel
theorem dX10_reaches_37 : decode cX10_reaches 37 = .ok (.getfield 22, 3) := by decide +kernel
theorem dX10_reaches_40 : decode cX10_reaches 40 = .ok (.iload 4, 2) := by decide +kernel
theorem dX10_reaches_42 : decode cX10_reaches 42 = .ok (.iconst 1, 1) := by decide +kernel
theorem dX10_reaches_43 : decode cX10_reaches 43 = .ok (.iadd, 1) := by decide +kernel
theorem dX10_reaches_44 : decode cX10_reaches 44 = .ok (.iconst 0, 1) := by decide +kernel
theorem dX10_reaches_45 : decode cX10_reaches 45 = .ok (.iastore, 1) := by decide +kernel
theorem dX10_reaches_46 : decode cX10_reaches 46 = .ok (.iconst 0, 1) := by decide +kernel
theorem dX10_reaches_47 : decode cX10_reaches 47 = .ok (.istore 5, 2) := by decide +kernel
theorem dX10_reaches_49 : decode cX10_reaches 49 = .ok (.iload 5, 2) := by decide +kernel
theorem dX10_reaches_51 : decode cX10_reaches 51 = .ok (.aload_n 0, 1) := by decide +kernel
theorem dX10_reaches_52 : decode cX10_reaches 52 = .ok (.getfield 95, 3) := by decide +kernel
theorem dX10_reaches_55 : decode cX10_reaches 55 = .ok (.if_icmp .ge 77, 3) := by decide +kernel
theorem dX10_reaches_58 : decode cX10_reaches 58 = .ok (.iconst 0, 1) := by decide +kernel
theorem dX10_reaches_59 : decode cX10_reaches 59 = .ok (.istore 6, 2) := by decide +kernel
theorem dX10_reaches_61 : decode cX10_reaches 61 = .ok (.iload 6, 2) := by decide +kernel
theorem dX10_reaches_63 : decode cX10_reaches 63 = .ok (.aload_n 0, 1) := by decide +kernel
theorem dX10_reaches_64 : decode cX10_reaches 64 = .ok (.getfield 95, 3) := by decide +kernel
theorem dX10_reaches_67 : decode cX10_reaches 67 = .ok (.if_icmp .ge 59, 3) := by decide +kernel
theorem dX10_reaches_70 : decode cX10_reaches 70 = .ok (.aload_n 0, 1) := by decide +kernel
theorem dX10_reaches_71 : decode cX10_reaches 71 = .ok (.getfield 22, 3) := by decide +kernel
theorem dX10_reaches_74 : decode cX10_reaches 74 = .ok (.iload 4, 2) := by decide +kernel
theorem dX10_reaches_76 : decode cX10_reaches 76 = .ok (.iaload, 1) := by decide +kernel
theorem dX10_reaches_77 : decode cX10_reaches 77 = .ok (.iload 5, 2) := by decide +kernel
theorem dX10_reaches_79 : decode cX10_reaches 79 = .ok (.ishr, 1) := by decide +kernel
theorem dX10_reaches_80 : decode cX10_reaches 80 = .ok (.iconst 1, 1) := by decide +kernel
theorem dX10_reaches_81 : decode cX10_reaches 81 = .ok (.iand, 1) := by decide +kernel
theorem dX10_reaches_82 : decode cX10_reaches 82 = .ok (.iconst 1, 1) := by decide +kernel
theorem dX10_reaches_83 : decode cX10_reaches 83 = .ok (.if_icmp .ne 43, 3) := by decide +kernel
theorem dX10_reaches_86 : decode cX10_reaches 86 = .ok (.aload_n 0, 1) := by decide +kernel
theorem dX10_reaches_87 : decode cX10_reaches 87 = .ok (.getfield 22, 3) := by decide +kernel
theorem dX10_reaches_90 : decode cX10_reaches 90 = .ok (.iload 4, 2) := by decide +kernel
theorem dX10_reaches_92 : decode cX10_reaches 92 = .ok (.iconst 1, 1) := by decide +kernel
theorem dX10_reaches_93 : decode cX10_reaches 93 = .ok (.iadd, 1) := by decide +kernel
theorem dX10_reaches_94 : decode cX10_reaches 94 = .ok (.dup2, 1) := by decide +kernel
theorem dX10_reaches_95 : decode cX10_reaches 95 = .ok (.iaload, 1) := by decide +kernel
theorem dX10_reaches_96 : decode cX10_reaches 96 = .ok (.aload_n 0, 1) := by decide +kernel
theorem dX10_reaches_97 : decode cX10_reaches 97 = .ok (.iload 5, 2) := by decide +kernel
theorem dX10_reaches_99 : decode cX10_reaches 99 = .ok (.iload 4, 2) := by decide +kernel
theorem dX10_reaches_101 : decode cX10_reaches 101 = .ok (.iload 6, 2) := by decide +kernel
theorem dX10_reaches_103 : decode cX10_reaches 103 = .ok (.iload_n 3, 1) := by decide +kernel
theorem dX10_reaches_104 : decode cX10_reaches 104 = .ok (.invokevirtual 170, 3) := by decide +kernel
theorem dX10_reaches_107 : decode cX10_reaches 107 = .ok (.ifCond .eq 10, 3) := by decide +kernel
theorem dX10_reaches_110 : decode cX10_reaches 110 = .ok (.iconst 1, 1) := by decide +kernel
theorem dX10_reaches_111 : decode cX10_reaches 111 = .ok (.iload 6, 2) := by decide +kernel
theorem dX10_reaches_113 : decode cX10_reaches 113 = .ok (.ishl, 1) := by decide +kernel
theorem dX10_reaches_114 : decode cX10_reaches 114 = .ok (.goto 4, 3) := by decide +kernel
theorem dX10_reaches_117 : decode cX10_reaches 117 = .ok (.iconst 0, 1) := by decide +kernel
theorem dX10_reaches_118 : decode cX10_reaches 118 = .ok (.ior, 1) := by decide +kernel
theorem dX10_reaches_119 : decode cX10_reaches 119 = .ok (.iastore, 1) := by decide +kernel
theorem dX10_reaches_120 : decode cX10_reaches 120 = .ok (.iinc 6 1, 3) := by decide +kernel
theorem dX10_reaches_123 : decode cX10_reaches 123 = .ok (.goto (-62), 3) := by decide +kernel
theorem dX10_reaches_126 : decode cX10_reaches 126 = .ok (.iinc 5 1, 3) := by decide +kernel
theorem dX10_reaches_129 : decode cX10_reaches 129 = .ok (.goto (-80), 3) := by decide +kernel
theorem dX10_reaches_132 : decode cX10_reaches 132 = .ok (.iinc 4 1, 3) := by decide +kernel
theorem dX10_reaches_135 : decode cX10_reaches 135 = .ok (.goto (-106), 3) := by decide +kernel
theorem dX10_reaches_138 : decode cX10_reaches 138 = .ok (.return_, 1) := by decide +kernel
theorem dX10_lays_0 : decode cX10_lays 0 = .ok (.iconst 0, 1) := by decide +kernel
theorem dX10_lays_1 : decode cX10_lays 1 = .ok (.istore_n 1, 1) := by decide +kernel
theorem dX10_lays_2 : decode cX10_lays 2 = .ok (.iload_n 1, 1) := by decide +kernel
theorem dX10_lays_3 : decode cX10_lays 3 = .ok (.sipush 480, 3) := by decide +kernel
theorem dX10_lays_6 : decode cX10_lays 6 = .ok (.if_icmp .ge 168, 3) := by decide +kernel
theorem dX10_lays_9 : decode cX10_lays 9 = .ok (.aload_n 0, 1) := by decide +kernel
theorem dX10_lays_10 : decode cX10_lays 10 = .ok (.getfield 104, 3) := by decide +kernel
theorem dX10_lays_13 : decode cX10_lays 13 = .ok (.ifCond .ne 161, 3) := by decide +kernel
theorem dX10_lays_16 : decode cX10_lays 16 = .ok (.iload_n 1, 1) := by decide +kernel
theorem dX10_lays_17 : decode cX10_lays 17 = .ok (.bipush 10, 2) := by decide +kernel
theorem dX10_lays_19 : decode cX10_lays 19 = .ok (.irem, 1) := by decide +kernel
theorem dX10_lays_20 : decode cX10_lays 20 = .ok (.istore_n 2, 1) := by decide +kernel
theorem dX10_lays_21 : decode cX10_lays 21 = .ok (.iload_n 1, 1) := by decide +kernel
theorem dX10_lays_22 : decode cX10_lays 22 = .ok (.bipush 10, 2) := by decide +kernel
theorem dX10_lays_24 : decode cX10_lays 24 = .ok (.idiv, 1) := by decide +kernel
theorem dX10_lays_25 : decode cX10_lays 25 = .ok (.bipush 24, 2) := by decide +kernel
theorem dX10_lays_27 : decode cX10_lays 27 = .ok (.irem, 1) := by decide +kernel
theorem dX10_lays_28 : decode cX10_lays 28 = .ok (.istore_n 3, 1) := by decide +kernel
theorem dX10_lays_29 : decode cX10_lays 29 = .ok (.iload_n 1, 1) := by decide +kernel
theorem dX10_lays_30 : decode cX10_lays 30 = .ok (.sipush 240, 3) := by decide +kernel
theorem dX10_lays_33 : decode cX10_lays 33 = .ok (.if_icmp .lt 7, 3) := by decide +kernel
theorem dX10_lays_36 : decode cX10_lays 36 = .ok (.iconst 1, 1) := by decide +kernel
theorem dX10_lays_37 : decode cX10_lays 37 = .ok (.goto 4, 3) := by decide +kernel
theorem dX10_lays_40 : decode cX10_lays 40 = .ok (.iconst 0, 1) := by decide +kernel
theorem dX10_lays_41 : decode cX10_lays 41 = .ok (.istore 4, 2) := by decide +kernel
theorem dX10_lays_43 : decode cX10_lays 43 = .ok (.iconst 0, 1) := by decide +kernel
theorem dX10_lays_44 : decode cX10_lays 44 = .ok (.istore 5, 2) := by decide +kernel
theorem dX10_lays_46 : decode cX10_lays 46 = .ok (.iload 5, 2) := by decide +kernel
theorem dX10_lays_48 : decode cX10_lays 48 = .ok (.bipush 10, 2) := by decide +kernel
theorem dX10_lays_50 : decode cX10_lays 50 = .ok (.if_icmp .ge 23, 3) := by decide +kernel
theorem dX10_lays_53 : decode cX10_lays 53 = .ok (.aload_n 0, 1) := by decide +kernel
theorem dX10_lays_54 : decode cX10_lays 54 = .ok (.getfield 25, 3) := by decide +kernel
theorem dX10_lays_57 : decode cX10_lays 57 = .ok (.bipush 10, 2) := by decide +kernel
theorem dX10_lays_59 : decode cX10_lays 59 = .ok (.iload_n 1, 1) := by decide +kernel
theorem dX10_lays_60 : decode cX10_lays 60 = .ok (.imul, 1) := by decide +kernel
theorem dX10_lays_61 : decode cX10_lays 61 = .ok (.iload 5, 2) := by decide +kernel
theorem dX10_lays_63 : decode cX10_lays 63 = .ok (.iadd, 1) := by decide +kernel
theorem dX10_lays_64 : decode cX10_lays 64 = .ok (.bipush (-4), 2) := by decide +kernel
theorem dX10_lays_66 : decode cX10_lays 66 = .ok (.iastore, 1) := by decide +kernel
theorem dX10_lays_67 : decode cX10_lays 67 = .ok (.iinc 5 1, 3) := by decide +kernel
theorem dX10_lays_70 : decode cX10_lays 70 = .ok (.goto (-24), 3) := by decide +kernel
theorem dX10_lays_73 : decode cX10_lays 73 = .ok (.iload_n 2, 1) := by decide +kernel
theorem dX10_lays_74 : decode cX10_lays 74 = .ok (.aload_n 0, 1) := by decide +kernel
theorem dX10_lays_75 : decode cX10_lays 75 = .ok (.getfield 95, 3) := by decide +kernel
theorem dX10_lays_78 : decode cX10_lays 78 = .ok (.if_icmp .ge 90, 3) := by decide +kernel
theorem dX10_lays_81 : decode cX10_lays 81 = .ok (.aload_n 0, 1) := by decide +kernel
theorem dX10_lays_82 : decode cX10_lays 82 = .ok (.iload_n 2, 1) := by decide +kernel
theorem dX10_lays_83 : decode cX10_lays 83 = .ok (.iload_n 3, 1) := by decide +kernel
theorem dX10_lays_84 : decode cX10_lays 84 = .ok (.iload 4, 2) := by decide +kernel
theorem dX10_lays_86 : decode cX10_lays 86 = .ok (.invokevirtual 174, 3) := by decide +kernel
theorem dX10_lays_89 : decode cX10_lays 89 = .ok (.bipush 23, 2) := by decide +kernel
theorem dX10_lays_91 : decode cX10_lays 91 = .ok (.istore 5, 2) := by decide +kernel
theorem dX10_lays_93 : decode cX10_lays 93 = .ok (.iload 5, 2) := by decide +kernel
theorem dX10_lays_95 : decode cX10_lays 95 = .ok (.iload_n 3, 1) := by decide +kernel
theorem dX10_lays_96 : decode cX10_lays 96 = .ok (.if_icmp .lt 72, 3) := by decide +kernel
theorem dX10_lays_99 : decode cX10_lays 99 = .ok (.iconst 0, 1) := by decide +kernel
theorem dX10_lays_100 : decode cX10_lays 100 = .ok (.istore 6, 2) := by decide +kernel
theorem dX10_lays_102 : decode cX10_lays 102 = .ok (.iload 6, 2) := by decide +kernel
theorem dX10_lays_104 : decode cX10_lays 104 = .ok (.aload_n 0, 1) := by decide +kernel
theorem dX10_lays_105 : decode cX10_lays 105 = .ok (.getfield 95, 3) := by decide +kernel
theorem dX10_lays_108 : decode cX10_lays 108 = .ok (.if_icmp .ge 54, 3) := by decide +kernel
theorem dX10_lays_111 : decode cX10_lays 111 = .ok (.aload_n 0, 1) := by decide +kernel
theorem dX10_lays_112 : decode cX10_lays 112 = .ok (.getfield 25, 3) := by decide +kernel
theorem dX10_lays_115 : decode cX10_lays 115 = .ok (.bipush 10, 2) := by decide +kernel
theorem dX10_lays_117 : decode cX10_lays 117 = .ok (.iload_n 1, 1) := by decide +kernel
theorem dX10_lays_118 : decode cX10_lays 118 = .ok (.imul, 1) := by decide +kernel
theorem dX10_lays_119 : decode cX10_lays 119 = .ok (.iload 6, 2) := by decide +kernel
theorem dX10_lays_121 : decode cX10_lays 121 = .ok (.iadd, 1) := by decide +kernel
theorem dX10_lays_122 : decode cX10_lays 122 = .ok (.aload_n 0, 1) := by decide +kernel
theorem dX10_lays_123 : decode cX10_lays 123 = .ok (.getfield 22, 3) := by decide +kernel
theorem dX10_lays_126 : decode cX10_lays 126 = .ok (.iload 5, 2) := by decide +kernel
theorem dX10_lays_128 : decode cX10_lays 128 = .ok (.iaload, 1) := by decide +kernel
theorem dX10_lays_129 : decode cX10_lays 129 = .ok (.iload 6, 2) := by decide +kernel
theorem dX10_lays_131 : decode cX10_lays 131 = .ok (.ishr, 1) := by decide +kernel
theorem dX10_lays_132 : decode cX10_lays 132 = .ok (.iconst 1, 1) := by decide +kernel
theorem dX10_lays_133 : decode cX10_lays 133 = .ok (.iand, 1) := by decide +kernel
theorem dX10_lays_134 : decode cX10_lays 134 = .ok (.iconst 1, 1) := by decide +kernel
theorem dX10_lays_135 : decode cX10_lays 135 = .ok (.if_icmp .ne 8, 3) := by decide +kernel
theorem dX10_lays_138 : decode cX10_lays 138 = .ok (.iload 5, 2) := by decide +kernel
theorem dX10_lays_140 : decode cX10_lays 140 = .ok (.goto 15, 3) := by decide +kernel
theorem dX10_lays_143 : decode cX10_lays 143 = .ok (.aload_n 0, 1) := by decide +kernel
theorem dX10_lays_144 : decode cX10_lays 144 = .ok (.getfield 25, 3) := by decide +kernel
theorem dX10_lays_147 : decode cX10_lays 147 = .ok (.bipush 10, 2) := by decide +kernel
theorem dX10_lays_149 : decode cX10_lays 149 = .ok (.iload_n 1, 1) := by decide +kernel
theorem dX10_lays_150 : decode cX10_lays 150 = .ok (.imul, 1) := by decide +kernel
theorem dX10_lays_151 : decode cX10_lays 151 = .ok (.iload 6, 2) := by decide +kernel
theorem dX10_lays_153 : decode cX10_lays 153 = .ok (.iadd, 1) := by decide +kernel
theorem dX10_lays_154 : decode cX10_lays 154 = .ok (.iaload, 1) := by decide +kernel
theorem dX10_lays_155 : decode cX10_lays 155 = .ok (.iastore, 1) := by decide +kernel
theorem dX10_lays_156 : decode cX10_lays 156 = .ok (.iinc 6 1, 3) := by decide +kernel
theorem dX10_lays_159 : decode cX10_lays 159 = .ok (.goto (-57), 3) := by decide +kernel
theorem dX10_lays_162 : decode cX10_lays 162 = .ok (.iinc 5 (-1), 3) := by decide +kernel
theorem dX10_lays_165 : decode cX10_lays 165 = .ok (.goto (-72), 3) := by decide +kernel
theorem dX10_lays_168 : decode cX10_lays 168 = .ok (.iinc 1 1, 3) := by decide +kernel
theorem dX10_lays_171 : decode cX10_lays 171 = .ok (.goto (-169), 3) := by decide +kernel
theorem dX10_lays_174 : decode cX10_lays 174 = .ok (.aload_n 0, 1) := by decide +kernel
theorem dX10_lays_175 : decode cX10_lays 175 = .ok (.iconst 1, 1) := by decide +kernel
theorem dX10_lays_176 : decode cX10_lays 176 = .ok (.putfield 104, 3) := by decide +kernel
theorem dX10_lays_179 : decode cX10_lays 179 = .ok (.return_, 1) := by decide +kernel
theorem dX10_endOf_0 : decode cX10_endOf 0 = .ok (.aload_n 0, 1) := by decide +kernel
theorem dX10_endOf_1 : decode cX10_endOf 1 = .ok (.getfield 25, 3) := by decide +kernel
theorem dX10_endOf_4 : decode cX10_endOf 4 = .ok (.bipush 10, 2) := by decide +kernel
theorem dX10_endOf_6 : decode cX10_endOf 6 = .ok (.iload 4, 2) := by decide +kernel
theorem dX10_endOf_8 : decode cX10_endOf 8 = .ok (.ifCond .eq 9, 3) := by decide +kernel
theorem dX10_endOf_11 : decode cX10_endOf 11 = .ok (.sipush 240, 3) := by decide +kernel
theorem dX10_endOf_14 : decode cX10_endOf 14 = .ok (.goto 4, 3) := by decide +kernel
theorem dX10_endOf_17 : decode cX10_endOf 17 = .ok (.iconst 0, 1) := by decide +kernel
theorem dX10_endOf_18 : decode cX10_endOf 18 = .ok (.bipush 10, 2) := by decide +kernel
theorem dX10_endOf_20 : decode cX10_endOf 20 = .ok (.iload_n 2, 1) := by decide +kernel
theorem dX10_endOf_21 : decode cX10_endOf 21 = .ok (.imul, 1) := by decide +kernel
theorem dX10_endOf_22 : decode cX10_endOf 22 = .ok (.iadd, 1) := by decide +kernel
theorem dX10_endOf_23 : decode cX10_endOf 23 = .ok (.iload_n 1, 1) := by decide +kernel
theorem dX10_endOf_24 : decode cX10_endOf 24 = .ok (.iadd, 1) := by decide +kernel
theorem dX10_endOf_25 : decode cX10_endOf 25 = .ok (.imul, 1) := by decide +kernel
theorem dX10_endOf_26 : decode cX10_endOf 26 = .ok (.iload_n 3, 1) := by decide +kernel
theorem dX10_endOf_27 : decode cX10_endOf 27 = .ok (.iadd, 1) := by decide +kernel
theorem dX10_endOf_28 : decode cX10_endOf 28 = .ok (.iaload, 1) := by decide +kernel
theorem dX10_endOf_29 : decode cX10_endOf 29 = .ok (.ireturn, 1) := by decide +kernel
theorem dX10_trip_0 : decode cX10_trip 0 = .ok (.aload_n 0, 1) := by decide +kernel
theorem dX10_trip_1 : decode cX10_trip 1 = .ok (.iload_n 1, 1) := by decide +kernel
theorem dX10_trip_2 : decode cX10_trip 2 = .ok (.invokevirtual 108, 3) := by decide +kernel
theorem dX10_trip_5 : decode cX10_trip 5 = .ok (.ifCond .eq 33, 3) := by decide +kernel
theorem dX10_trip_8 : decode cX10_trip 8 = .ok (.iload_n 2, 1) := by decide +kernel
theorem dX10_trip_9 : decode cX10_trip 9 = .ok (.invokestatic 164, 3) := by decide +kernel
theorem dX10_trip_12 : decode cX10_trip 12 = .ok (.ifCond .eq 26, 3) := by decide +kernel
theorem dX10_trip_15 : decode cX10_trip 15 = .ok (.aload_n 0, 1) := by decide +kernel
theorem dX10_trip_16 : decode cX10_trip 16 = .ok (.iload_n 3, 1) := by decide +kernel
theorem dX10_trip_17 : decode cX10_trip 17 = .ok (.invokevirtual 108, 3) := by decide +kernel
theorem dX10_trip_20 : decode cX10_trip 20 = .ok (.ifCond .eq 18, 3) := by decide +kernel
theorem dX10_trip_23 : decode cX10_trip 23 = .ok (.iload 5, 2) := by decide +kernel
theorem dX10_trip_25 : decode cX10_trip 25 = .ok (.i2l, 1) := by decide +kernel
theorem dX10_trip_26 : decode cX10_trip 26 = .ok (.ldc2_w 178, 3) := by decide +kernel
theorem dX10_trip_29 : decode cX10_trip 29 = .ok (.ldc2_w 102, 3) := by decide +kernel
theorem dX10_trip_32 : decode cX10_trip 32 = .ok (.invokestatic 98, 3) := by decide +kernel
theorem dX10_trip_35 : decode cX10_trip 35 = .ok (.ifCond .ne 5, 3) := by decide +kernel
theorem dX10_trip_38 : decode cX10_trip 38 = .ok (.iconst (-1), 1) := by decide +kernel
theorem dX10_trip_39 : decode cX10_trip 39 = .ok (.ireturn, 1) := by decide +kernel
theorem dX10_trip_40 : decode cX10_trip 40 = .ok (.aload_n 0, 1) := by decide +kernel
theorem dX10_trip_41 : decode cX10_trip 41 = .ok (.invokevirtual 180, 3) := by decide +kernel
theorem dX10_trip_44 : decode cX10_trip 44 = .ok (.aload_n 0, 1) := by decide +kernel
theorem dX10_trip_45 : decode cX10_trip 45 = .ok (.iload_n 1, 1) := by decide +kernel
theorem dX10_trip_46 : decode cX10_trip 46 = .ok (.iload_n 2, 1) := by decide +kernel
theorem dX10_trip_47 : decode cX10_trip 47 = .ok (.iload_n 3, 1) := by decide +kernel
theorem dX10_trip_48 : decode cX10_trip 48 = .ok (.iload 4, 2) := by decide +kernel
theorem dX10_trip_50 : decode cX10_trip 50 = .ok (.invokevirtual 183, 3) := by decide +kernel
theorem dX10_trip_53 : decode cX10_trip 53 = .ok (.istore 6, 2) := by decide +kernel
theorem dX10_trip_55 : decode cX10_trip 55 = .ok (.iload 5, 2) := by decide +kernel
theorem dX10_trip_57 : decode cX10_trip 57 = .ok (.ifCond .lt 8, 3) := by decide +kernel
theorem dX10_trip_60 : decode cX10_trip 60 = .ok (.iload 6, 2) := by decide +kernel
theorem dX10_trip_62 : decode cX10_trip 62 = .ok (.ifCond .ge 6, 3) := by decide +kernel
theorem dX10_trip_65 : decode cX10_trip 65 = .ok (.iload 6, 2) := by decide +kernel
theorem dX10_trip_67 : decode cX10_trip 67 = .ok (.ireturn, 1) := by decide +kernel
theorem dX10_trip_68 : decode cX10_trip 68 = .ok (.iload 5, 2) := by decide +kernel
theorem dX10_trip_70 : decode cX10_trip 70 = .ok (.i2l, 1) := by decide +kernel
theorem dX10_trip_71 : decode cX10_trip 71 = .ok (.iload_n 2, 1) := by decide +kernel
theorem dX10_trip_72 : decode cX10_trip 72 = .ok (.i2l, 1) := by decide +kernel
theorem dX10_trip_73 : decode cX10_trip 73 = .ok (.iload 6, 2) := by decide +kernel
theorem dX10_trip_75 : decode cX10_trip 75 = .ok (.i2l, 1) := by decide +kernel
theorem dX10_trip_76 : decode cX10_trip 76 = .ok (.invokestatic 98, 3) := by decide +kernel
theorem dX10_trip_79 : decode cX10_trip 79 = .ok (.ifCond .ne 6, 3) := by decide +kernel
theorem dX10_trip_82 : decode cX10_trip 82 = .ok (.bipush (-4), 2) := by decide +kernel
theorem dX10_trip_84 : decode cX10_trip 84 = .ok (.ireturn, 1) := by decide +kernel
theorem dX10_trip_85 : decode cX10_trip 85 = .ok (.aload_n 0, 1) := by decide +kernel
theorem dX10_trip_86 : decode cX10_trip 86 = .ok (.iload_n 1, 1) := by decide +kernel
theorem dX10_trip_87 : decode cX10_trip 87 = .ok (.iload_n 2, 1) := by decide +kernel
theorem dX10_trip_88 : decode cX10_trip 88 = .ok (.iload 4, 2) := by decide +kernel
theorem dX10_trip_90 : decode cX10_trip 90 = .ok (.invokevirtual 174, 3) := by decide +kernel
theorem dX10_trip_93 : decode cX10_trip 93 = .ok (.aload_n 0, 1) := by decide +kernel
theorem dX10_trip_94 : decode cX10_trip 94 = .ok (.getfield 22, 3) := by decide +kernel
theorem dX10_trip_97 : decode cX10_trip 97 = .ok (.iload 6, 2) := by decide +kernel
theorem dX10_trip_99 : decode cX10_trip 99 = .ok (.iconst 1, 1) := by decide +kernel
theorem dX10_trip_100 : decode cX10_trip 100 = .ok (.iload_n 3, 1) := by decide +kernel
theorem dX10_trip_101 : decode cX10_trip 101 = .ok (.ishl, 1) := by decide +kernel
theorem dX10_trip_102 : decode cX10_trip 102 = .ok (.iastore, 1) := by decide +kernel
theorem dX10_trip_103 : decode cX10_trip 103 = .ok (.iload 6, 2) := by decide +kernel
theorem dX10_trip_105 : decode cX10_trip 105 = .ok (.iconst 1, 1) := by decide +kernel
theorem dX10_trip_106 : decode cX10_trip 106 = .ok (.isub, 1) := by decide +kernel
theorem dX10_trip_107 : decode cX10_trip 107 = .ok (.istore 7, 2) := by decide +kernel
theorem dX10_trip_109 : decode cX10_trip 109 = .ok (.iload 7, 2) := by decide +kernel
theorem dX10_trip_111 : decode cX10_trip 111 = .ok (.iload_n 2, 1) := by decide +kernel
theorem dX10_trip_112 : decode cX10_trip 112 = .ok (.if_icmp .lt 119, 3) := by decide +kernel
theorem dX10_trip_115 : decode cX10_trip 115 = .ok (.iconst 0, 1) := by decide +kernel
theorem dX10_trip_116 : decode cX10_trip 116 = .ok (.istore 8, 2) := by decide +kernel
theorem dX10_trip_118 : decode cX10_trip 118 = .ok (.iconst 0, 1) := by decide +kernel
theorem dX10_trip_119 : decode cX10_trip 119 = .ok (.istore 9, 2) := by decide +kernel
theorem dX10_trip_121 : decode cX10_trip 121 = .ok (.iload 9, 2) := by decide +kernel
theorem dX10_trip_123 : decode cX10_trip 123 = .ok (.aload_n 0, 1) := by decide +kernel
theorem dX10_trip_124 : decode cX10_trip 124 = .ok (.getfield 95, 3) := by decide +kernel
theorem dX10_trip_127 : decode cX10_trip 127 = .ok (.if_icmp .ge 89, 3) := by decide +kernel
theorem dX10_trip_130 : decode cX10_trip 130 = .ok (.iconst 0, 1) := by decide +kernel
theorem dX10_trip_131 : decode cX10_trip 131 = .ok (.istore 10, 2) := by decide +kernel
theorem dX10_trip_133 : decode cX10_trip 133 = .ok (.iload 10, 2) := by decide +kernel
theorem dX10_trip_135 : decode cX10_trip 135 = .ok (.aload_n 0, 1) := by decide +kernel
theorem dX10_trip_136 : decode cX10_trip 136 = .ok (.getfield 95, 3) := by decide +kernel
theorem dX10_trip_139 : decode cX10_trip 139 = .ok (.if_icmp .ge 71, 3) := by decide +kernel
theorem dX10_trip_142 : decode cX10_trip 142 = .ok (.aload_n 0, 1) := by decide +kernel
theorem dX10_trip_143 : decode cX10_trip 143 = .ok (.getfield 22, 3) := by decide +kernel
theorem dX10_trip_146 : decode cX10_trip 146 = .ok (.iload 7, 2) := by decide +kernel
theorem dX10_trip_148 : decode cX10_trip 148 = .ok (.iaload, 1) := by decide +kernel
theorem dX10_trip_149 : decode cX10_trip 149 = .ok (.iload 9, 2) := by decide +kernel
theorem dX10_trip_151 : decode cX10_trip 151 = .ok (.ishr, 1) := by decide +kernel
theorem dX10_trip_152 : decode cX10_trip 152 = .ok (.iconst 1, 1) := by decide +kernel
theorem dX10_trip_153 : decode cX10_trip 153 = .ok (.iand, 1) := by decide +kernel
theorem dX10_trip_154 : decode cX10_trip 154 = .ok (.iconst 1, 1) := by decide +kernel
theorem dX10_trip_155 : decode cX10_trip 155 = .ok (.if_icmp .ne 55, 3) := by decide +kernel
theorem dX10_trip_158 : decode cX10_trip 158 = .ok (.iload 8, 2) := by decide +kernel
theorem dX10_trip_160 : decode cX10_trip 160 = .ok (.aload_n 0, 1) := by decide +kernel
theorem dX10_trip_161 : decode cX10_trip 161 = .ok (.getfield 22, 3) := by decide +kernel
theorem dX10_trip_164 : decode cX10_trip 164 = .ok (.iload 7, 2) := by decide +kernel
theorem dX10_trip_166 : decode cX10_trip 166 = .ok (.iconst 1, 1) := by decide +kernel
theorem dX10_trip_167 : decode cX10_trip 167 = .ok (.iadd, 1) := by decide +kernel
theorem dX10_trip_168 : decode cX10_trip 168 = .ok (.iaload, 1) := by decide +kernel
theorem dX10_trip_169 : decode cX10_trip 169 = .ok (.iload 10, 2) := by decide +kernel
theorem dX10_trip_171 : decode cX10_trip 171 = .ok (.ishr, 1) := by decide +kernel
theorem dX10_trip_172 : decode cX10_trip 172 = .ok (.iconst 1, 1) := by decide +kernel
theorem dX10_trip_173 : decode cX10_trip 173 = .ok (.iand, 1) := by decide +kernel
theorem dX10_trip_174 : decode cX10_trip 174 = .ok (.iconst 1, 1) := by decide +kernel
theorem dX10_trip_175 : decode cX10_trip 175 = .ok (.if_icmp .ne 25, 3) := by decide +kernel
theorem dX10_trip_178 : decode cX10_trip 178 = .ok (.aload_n 0, 1) := by decide +kernel
theorem dX10_trip_179 : decode cX10_trip 179 = .ok (.iload 9, 2) := by decide +kernel
theorem dX10_trip_181 : decode cX10_trip 181 = .ok (.iload 7, 2) := by decide +kernel
theorem dX10_trip_183 : decode cX10_trip 183 = .ok (.iload 10, 2) := by decide +kernel
theorem dX10_trip_185 : decode cX10_trip 185 = .ok (.iload 4, 2) := by decide +kernel
theorem dX10_trip_187 : decode cX10_trip 187 = .ok (.invokevirtual 170, 3) := by decide +kernel
theorem dX10_trip_190 : decode cX10_trip 190 = .ok (.ifCond .eq 10, 3) := by decide +kernel
theorem dX10_trip_193 : decode cX10_trip 193 = .ok (.iconst 1, 1) := by decide +kernel
theorem dX10_trip_194 : decode cX10_trip 194 = .ok (.iload 9, 2) := by decide +kernel
theorem dX10_trip_196 : decode cX10_trip 196 = .ok (.ishl, 1) := by decide +kernel
theorem dX10_trip_197 : decode cX10_trip 197 = .ok (.goto 4, 3) := by decide +kernel
theorem dX10_trip_200 : decode cX10_trip 200 = .ok (.iconst 0, 1) := by decide +kernel
theorem dX10_trip_201 : decode cX10_trip 201 = .ok (.ior, 1) := by decide +kernel
theorem dX10_trip_202 : decode cX10_trip 202 = .ok (.istore 8, 2) := by decide +kernel
theorem dX10_trip_204 : decode cX10_trip 204 = .ok (.iinc 10 1, 3) := by decide +kernel
theorem dX10_trip_207 : decode cX10_trip 207 = .ok (.goto (-74), 3) := by decide +kernel
theorem dX10_trip_210 : decode cX10_trip 210 = .ok (.iinc 9 1, 3) := by decide +kernel
theorem dX10_trip_213 : decode cX10_trip 213 = .ok (.goto (-92), 3) := by decide +kernel
theorem dX10_trip_216 : decode cX10_trip 216 = .ok (.aload_n 0, 1) := by decide +kernel
theorem dX10_trip_217 : decode cX10_trip 217 = .ok (.getfield 22, 3) := by decide +kernel
theorem dX10_trip_220 : decode cX10_trip 220 = .ok (.iload 7, 2) := by decide +kernel
theorem dX10_trip_222 : decode cX10_trip 222 = .ok (.iload 8, 2) := by decide +kernel
theorem dX10_trip_224 : decode cX10_trip 224 = .ok (.iastore, 1) := by decide +kernel
theorem dX10_trip_225 : decode cX10_trip 225 = .ok (.iinc 7 (-1), 3) := by decide +kernel
theorem dX10_trip_228 : decode cX10_trip 228 = .ok (.goto (-119), 3) := by decide +kernel
theorem dX10_trip_231 : decode cX10_trip 231 = .ok (.iload_n 1, 1) := by decide +kernel
theorem dX10_trip_232 : decode cX10_trip 232 = .ok (.istore 7, 2) := by decide +kernel
theorem dX10_trip_234 : decode cX10_trip 234 = .ok (.iload_n 2, 1) := by decide +kernel
theorem dX10_trip_235 : decode cX10_trip 235 = .ok (.istore 8, 2) := by decide +kernel
theorem dX10_trip_237 : decode cX10_trip 237 = .ok (.iload 8, 2) := by decide +kernel
theorem dX10_trip_239 : decode cX10_trip 239 = .ok (.iload 5, 2) := by decide +kernel
theorem dX10_trip_241 : decode cX10_trip 241 = .ok (.if_icmp .ge 78, 3) := by decide +kernel
theorem dX10_trip_244 : decode cX10_trip 244 = .ok (.bipush (-4), 2) := by decide +kernel
theorem dX10_trip_246 : decode cX10_trip 246 = .ok (.istore 9, 2) := by decide +kernel
theorem dX10_trip_248 : decode cX10_trip 248 = .ok (.aload_n 0, 1) := by decide +kernel
theorem dX10_trip_249 : decode cX10_trip 249 = .ok (.getfield 95, 3) := by decide +kernel
theorem dX10_trip_252 : decode cX10_trip 252 = .ok (.iconst 1, 1) := by decide +kernel
theorem dX10_trip_253 : decode cX10_trip 253 = .ok (.isub, 1) := by decide +kernel
theorem dX10_trip_254 : decode cX10_trip 254 = .ok (.istore 10, 2) := by decide +kernel
theorem dX10_trip_256 : decode cX10_trip 256 = .ok (.iload 10, 2) := by decide +kernel
theorem dX10_trip_258 : decode cX10_trip 258 = .ok (.ifCond .lt 51, 3) := by decide +kernel
theorem dX10_trip_261 : decode cX10_trip 261 = .ok (.aload_n 0, 1) := by decide +kernel
theorem dX10_trip_262 : decode cX10_trip 262 = .ok (.getfield 22, 3) := by decide +kernel
theorem dX10_trip_265 : decode cX10_trip 265 = .ok (.iload 8, 2) := by decide +kernel
theorem dX10_trip_267 : decode cX10_trip 267 = .ok (.iconst 1, 1) := by decide +kernel
theorem dX10_trip_268 : decode cX10_trip 268 = .ok (.iadd, 1) := by decide +kernel
theorem dX10_trip_269 : decode cX10_trip 269 = .ok (.iaload, 1) := by decide +kernel
theorem dX10_trip_270 : decode cX10_trip 270 = .ok (.iload 10, 2) := by decide +kernel
theorem dX10_trip_272 : decode cX10_trip 272 = .ok (.ishr, 1) := by decide +kernel
theorem dX10_trip_273 : decode cX10_trip 273 = .ok (.iconst 1, 1) := by decide +kernel
theorem dX10_trip_274 : decode cX10_trip 274 = .ok (.iand, 1) := by decide +kernel
theorem dX10_trip_275 : decode cX10_trip 275 = .ok (.iconst 1, 1) := by decide +kernel
theorem dX10_trip_276 : decode cX10_trip 276 = .ok (.if_icmp .ne 23, 3) := by decide +kernel
theorem dX10_trip_279 : decode cX10_trip 279 = .ok (.aload_n 0, 1) := by decide +kernel
theorem dX10_trip_280 : decode cX10_trip 280 = .ok (.iload 7, 2) := by decide +kernel
theorem dX10_trip_282 : decode cX10_trip 282 = .ok (.iload 8, 2) := by decide +kernel
theorem dX10_trip_284 : decode cX10_trip 284 = .ok (.iload 10, 2) := by decide +kernel
theorem dX10_trip_286 : decode cX10_trip 286 = .ok (.iload 4, 2) := by decide +kernel
theorem dX10_trip_288 : decode cX10_trip 288 = .ok (.invokevirtual 170, 3) := by decide +kernel
theorem dX10_trip_291 : decode cX10_trip 291 = .ok (.ifCond .eq 8, 3) := by decide +kernel
theorem dX10_trip_294 : decode cX10_trip 294 = .ok (.iload 10, 2) := by decide +kernel
theorem dX10_trip_296 : decode cX10_trip 296 = .ok (.goto 5, 3) := by decide +kernel
theorem dX10_trip_299 : decode cX10_trip 299 = .ok (.iload 9, 2) := by decide +kernel
theorem dX10_trip_301 : decode cX10_trip 301 = .ok (.istore 9, 2) := by decide +kernel
theorem dX10_trip_303 : decode cX10_trip 303 = .ok (.iinc 10 (-1), 3) := by decide +kernel
theorem dX10_trip_306 : decode cX10_trip 306 = .ok (.goto (-50), 3) := by decide +kernel
theorem dX10_trip_309 : decode cX10_trip 309 = .ok (.iload 9, 2) := by decide +kernel
theorem dX10_trip_311 : decode cX10_trip 311 = .ok (.istore 7, 2) := by decide +kernel
theorem dX10_trip_313 : decode cX10_trip 313 = .ok (.iinc 8 1, 3) := by decide +kernel
theorem dX10_trip_316 : decode cX10_trip 316 = .ok (.goto (-79), 3) := by decide +kernel
theorem dX10_trip_319 : decode cX10_trip 319 = .ok (.iload 7, 2) := by decide +kernel
theorem dX10_trip_321 : decode cX10_trip 321 = .ok (.ireturn, 1) := by decide +kernel
theorem dX10_servant_0 : decode cX10_servant 0 = .ok (.aload_n 0, 1) := by decide +kernel
theorem dX10_servant_1 : decode cX10_servant 1 = .ok (.iload_n 1, 1) := by decide +kernel
theorem dX10_servant_2 : decode cX10_servant 2 = .ok (.invokevirtual 108, 3) := by decide +kernel
theorem dX10_servant_5 : decode cX10_servant 5 = .ok (.ifCond .ne 5, 3) := by decide +kernel
theorem dX10_servant_8 : decode cX10_servant 8 = .ok (.iconst (-1), 1) := by decide +kernel
theorem dX10_servant_9 : decode cX10_servant 9 = .ok (.ireturn, 1) := by decide +kernel
theorem dX10_servant_10 : decode cX10_servant 10 = .ok (.aload_n 0, 1) := by decide +kernel
theorem dX10_servant_11 : decode cX10_servant 11 = .ok (.getfield 187, 3) := by decide +kernel
theorem dX10_servant_14 : decode cX10_servant 14 = .ok (.iconst 3, 1) := by decide +kernel
theorem dX10_servant_15 : decode cX10_servant 15 = .ok (.if_icmp .ne 6, 3) := by decide +kernel
theorem dX10_servant_18 : decode cX10_servant 18 = .ok (.bipush (-3), 2) := by decide +kernel
theorem dX10_servant_20 : decode cX10_servant 20 = .ok (.ireturn, 1) := by decide +kernel
theorem dX10_servant_21 : decode cX10_servant 21 = .ok (.aload_n 0, 1) := by decide +kernel
theorem dX10_servant_22 : decode cX10_servant 22 = .ok (.getfield 28, 3) := by decide +kernel
theorem dX10_servant_25 : decode cX10_servant 25 = .ok (.aload_n 0, 1) := by decide +kernel
theorem dX10_servant_26 : decode cX10_servant 26 = .ok (.getfield 187, 3) := by decide +kernel
theorem dX10_servant_29 : decode cX10_servant 29 = .ok (.iload_n 1, 1) := by decide +kernel
theorem dX10_servant_30 : decode cX10_servant 30 = .ok (.iastore, 1) := by decide +kernel
theorem dX10_servant_31 : decode cX10_servant 31 = .ok (.aload_n 0, 1) := by decide +kernel
theorem dX10_servant_32 : decode cX10_servant 32 = .ok (.getfield 31, 3) := by decide +kernel
theorem dX10_servant_35 : decode cX10_servant 35 = .ok (.aload_n 0, 1) := by decide +kernel
theorem dX10_servant_36 : decode cX10_servant 36 = .ok (.getfield 187, 3) := by decide +kernel
theorem dX10_servant_39 : decode cX10_servant 39 = .ok (.iconst 0, 1) := by decide +kernel
theorem dX10_servant_40 : decode cX10_servant 40 = .ok (.iastore, 1) := by decide +kernel
theorem dX10_servant_41 : decode cX10_servant 41 = .ok (.aload_n 0, 1) := by decide +kernel
theorem dX10_servant_42 : decode cX10_servant 42 = .ok (.dup, 1) := by decide +kernel
theorem dX10_servant_43 : decode cX10_servant 43 = .ok (.getfield 187, 3) := by decide +kernel
theorem dX10_servant_46 : decode cX10_servant 46 = .ok (.iconst 1, 1) := by decide +kernel
theorem dX10_servant_47 : decode cX10_servant 47 = .ok (.iadd, 1) := by decide +kernel
theorem dX10_servant_48 : decode cX10_servant 48 = .ok (.putfield 187, 3) := by decide +kernel
theorem dX10_servant_51 : decode cX10_servant 51 = .ok (.aload_n 0, 1) := by decide +kernel
theorem dX10_servant_52 : decode cX10_servant 52 = .ok (.getfield 187, 3) := by decide +kernel
theorem dX10_servant_55 : decode cX10_servant 55 = .ok (.iconst 1, 1) := by decide +kernel
theorem dX10_servant_56 : decode cX10_servant 56 = .ok (.isub, 1) := by decide +kernel
theorem dX10_servant_57 : decode cX10_servant 57 = .ok (.ireturn, 1) := by decide +kernel
theorem dX10_ill_0 : decode cX10_ill 0 = .ok (.iload_n 1, 1) := by decide +kernel
theorem dX10_ill_1 : decode cX10_ill 1 = .ok (.i2l, 1) := by decide +kernel
theorem dX10_ill_2 : decode cX10_ill 2 = .ok (.lconst 0, 1) := by decide +kernel
theorem dX10_ill_3 : decode cX10_ill 3 = .ok (.aload_n 0, 1) := by decide +kernel
theorem dX10_ill_4 : decode cX10_ill 4 = .ok (.getfield 187, 3) := by decide +kernel
theorem dX10_ill_7 : decode cX10_ill 7 = .ok (.iconst 1, 1) := by decide +kernel
theorem dX10_ill_8 : decode cX10_ill 8 = .ok (.isub, 1) := by decide +kernel
theorem dX10_ill_9 : decode cX10_ill 9 = .ok (.i2l, 1) := by decide +kernel
theorem dX10_ill_10 : decode cX10_ill 10 = .ok (.invokestatic 98, 3) := by decide +kernel
theorem dX10_ill_13 : decode cX10_ill 13 = .ok (.ifCond .ne 5, 3) := by decide +kernel
theorem dX10_ill_16 : decode cX10_ill 16 = .ok (.iconst (-1), 1) := by decide +kernel
theorem dX10_ill_17 : decode cX10_ill 17 = .ok (.ireturn, 1) := by decide +kernel
theorem dX10_ill_18 : decode cX10_ill 18 = .ok (.aload_n 0, 1) := by decide +kernel
theorem dX10_ill_19 : decode cX10_ill 19 = .ok (.getfield 31, 3) := by decide +kernel
theorem dX10_ill_22 : decode cX10_ill 22 = .ok (.iload_n 1, 1) := by decide +kernel
theorem dX10_ill_23 : decode cX10_ill 23 = .ok (.iaload, 1) := by decide +kernel
theorem dX10_ill_24 : decode cX10_ill 24 = .ok (.istore_n 3, 1) := by decide +kernel
theorem dX10_ill_25 : decode cX10_ill 25 = .ok (.aload_n 0, 1) := by decide +kernel
theorem dX10_ill_26 : decode cX10_ill 26 = .ok (.getfield 31, 3) := by decide +kernel
theorem dX10_ill_29 : decode cX10_ill 29 = .ok (.iload_n 1, 1) := by decide +kernel
theorem dX10_ill_30 : decode cX10_ill 30 = .ok (.iload_n 2, 1) := by decide +kernel
theorem dX10_ill_31 : decode cX10_ill 31 = .ok (.ifCond .eq 7, 3) := by decide +kernel
theorem dX10_ill_34 : decode cX10_ill 34 = .ok (.iconst 1, 1) := by decide +kernel
theorem dX10_ill_35 : decode cX10_ill 35 = .ok (.goto 4, 3) := by decide +kernel
theorem dX10_ill_38 : decode cX10_ill 38 = .ok (.iconst 0, 1) := by decide +kernel
theorem dX10_ill_39 : decode cX10_ill 39 = .ok (.iastore, 1) := by decide +kernel
theorem dX10_ill_40 : decode cX10_ill 40 = .ok (.iload_n 3, 1) := by decide +kernel
theorem dX10_ill_41 : decode cX10_ill 41 = .ok (.ireturn, 1) := by decide +kernel
theorem dX10_cellar_0 : decode cX10_cellar 0 = .ok (.aload_n 0, 1) := by decide +kernel
theorem dX10_cellar_1 : decode cX10_cellar 1 = .ok (.iload_n 1, 1) := by decide +kernel
theorem dX10_cellar_2 : decode cX10_cellar 2 = .ok (.invokevirtual 108, 3) := by decide +kernel
theorem dX10_cellar_5 : decode cX10_cellar 5 = .ok (.ifCond .ne 5, 3) := by decide +kernel
theorem dX10_cellar_8 : decode cX10_cellar 8 = .ok (.iconst (-1), 1) := by decide +kernel
theorem dX10_cellar_9 : decode cX10_cellar 9 = .ok (.ireturn, 1) := by decide +kernel
theorem dX10_cellar_10 : decode cX10_cellar 10 = .ok (.aload_n 0, 1) := by decide +kernel
theorem dX10_cellar_11 : decode cX10_cellar 11 = .ok (.getfield 190, 3) := by decide +kernel
theorem dX10_cellar_14 : decode cX10_cellar 14 = .ok (.istore_n 2, 1) := by decide +kernel
theorem dX10_cellar_15 : decode cX10_cellar 15 = .ok (.aload_n 0, 1) := by decide +kernel
theorem dX10_cellar_16 : decode cX10_cellar 16 = .ok (.iload_n 1, 1) := by decide +kernel
theorem dX10_cellar_17 : decode cX10_cellar 17 = .ok (.putfield 190, 3) := by decide +kernel
theorem dX10_cellar_20 : decode cX10_cellar 20 = .ok (.iload_n 2, 1) := by decide +kernel
theorem dX10_cellar_21 : decode cX10_cellar 21 = .ok (.ireturn, 1) := by decide +kernel
theorem dX10_isErrand_0 : decode cX10_isErrand 0 = .ok (.iload_n 1, 1) := by decide +kernel
theorem dX10_isErrand_1 : decode cX10_isErrand 1 = .ok (.i2l, 1) := by decide +kernel
theorem dX10_isErrand_2 : decode cX10_isErrand 2 = .ok (.lconst 0, 1) := by decide +kernel
theorem dX10_isErrand_3 : decode cX10_isErrand 3 = .ok (.lconst 1, 1) := by decide +kernel
theorem dX10_isErrand_4 : decode cX10_isErrand 4 = .ok (.invokestatic 98, 3) := by decide +kernel
theorem dX10_isErrand_7 : decode cX10_isErrand 7 = .ok (.ifCond .eq 50, 3) := by decide +kernel
theorem dX10_isErrand_10 : decode cX10_isErrand 10 = .ok (.aload_n 0, 1) := by decide +kernel
theorem dX10_isErrand_11 : decode cX10_isErrand 11 = .ok (.iload_n 2, 1) := by decide +kernel
theorem dX10_isErrand_12 : decode cX10_isErrand 12 = .ok (.invokevirtual 108, 3) := by decide +kernel
theorem dX10_isErrand_15 : decode cX10_isErrand 15 = .ok (.ifCond .eq 42, 3) := by decide +kernel
theorem dX10_isErrand_18 : decode cX10_isErrand 18 = .ok (.iload_n 3, 1) := by decide +kernel
theorem dX10_isErrand_19 : decode cX10_isErrand 19 = .ok (.i2l, 1) := by decide +kernel
theorem dX10_isErrand_20 : decode cX10_isErrand 20 = .ok (.lconst 1, 1) := by decide +kernel
theorem dX10_isErrand_21 : decode cX10_isErrand 21 = .ok (.ldc2_w 193, 3) := by decide +kernel
theorem dX10_isErrand_24 : decode cX10_isErrand 24 = .ok (.invokestatic 98, 3) := by decide +kernel
theorem dX10_isErrand_27 : decode cX10_isErrand 27 = .ok (.ifCond .eq 30, 3) := by decide +kernel
theorem dX10_isErrand_30 : decode cX10_isErrand 30 = .ok (.iload 4, 2) := by decide +kernel
theorem dX10_isErrand_32 : decode cX10_isErrand 32 = .ok (.invokestatic 164, 3) := by decide +kernel
theorem dX10_isErrand_35 : decode cX10_isErrand 35 = .ok (.ifCond .eq 22, 3) := by decide +kernel
theorem dX10_isErrand_38 : decode cX10_isErrand 38 = .ok (.iload 5, 2) := by decide +kernel
theorem dX10_isErrand_40 : decode cX10_isErrand 40 = .ok (.i2l, 1) := by decide +kernel
theorem dX10_isErrand_41 : decode cX10_isErrand 41 = .ok (.iload 4, 2) := by decide +kernel
theorem dX10_isErrand_43 : decode cX10_isErrand 43 = .ok (.i2l, 1) := by decide +kernel
theorem dX10_isErrand_44 : decode cX10_isErrand 44 = .ok (.ldc2_w 102, 3) := by decide +kernel
theorem dX10_isErrand_47 : decode cX10_isErrand 47 = .ok (.invokestatic 98, 3) := by decide +kernel
theorem dX10_isErrand_50 : decode cX10_isErrand 50 = .ok (.ifCond .eq 7, 3) := by decide +kernel
theorem dX10_isErrand_53 : decode cX10_isErrand 53 = .ok (.iconst 1, 1) := by decide +kernel
theorem dX10_isErrand_54 : decode cX10_isErrand 54 = .ok (.goto 4, 3) := by decide +kernel
theorem dX10_isErrand_57 : decode cX10_isErrand 57 = .ok (.iconst 0, 1) := by decide +kernel
theorem dX10_isErrand_58 : decode cX10_isErrand 58 = .ok (.ireturn, 1) := by decide +kernel
theorem dX10_puts_0 : decode cX10_puts 0 = .ok (.iconst 5, 1) := by decide +kernel
theorem dX10_puts_1 : decode cX10_puts 1 = .ok (.aload_n 0, 1) := by decide +kernel
theorem dX10_puts_2 : decode cX10_puts 2 = .ok (.getfield 195, 3) := by decide +kernel
theorem dX10_puts_5 : decode cX10_puts 5 = .ok (.imul, 1) := by decide +kernel
theorem dX10_puts_6 : decode cX10_puts 6 = .ok (.istore 6, 2) := by decide +kernel
theorem dX10_puts_8 : decode cX10_puts 8 = .ok (.aload_n 0, 1) := by decide +kernel
theorem dX10_puts_9 : decode cX10_puts 9 = .ok (.getfield 34, 3) := by decide +kernel
theorem dX10_puts_12 : decode cX10_puts 12 = .ok (.iload 6, 2) := by decide +kernel
theorem dX10_puts_14 : decode cX10_puts 14 = .ok (.iload_n 1, 1) := by decide +kernel
theorem dX10_puts_15 : decode cX10_puts 15 = .ok (.iastore, 1) := by decide +kernel
theorem dX10_puts_16 : decode cX10_puts 16 = .ok (.aload_n 0, 1) := by decide +kernel
theorem dX10_puts_17 : decode cX10_puts 17 = .ok (.getfield 34, 3) := by decide +kernel
theorem dX10_puts_20 : decode cX10_puts 20 = .ok (.iload 6, 2) := by decide +kernel
theorem dX10_puts_22 : decode cX10_puts 22 = .ok (.iconst 1, 1) := by decide +kernel
theorem dX10_puts_23 : decode cX10_puts 23 = .ok (.iadd, 1) := by decide +kernel
theorem dX10_puts_24 : decode cX10_puts 24 = .ok (.iload_n 2, 1) := by decide +kernel
theorem dX10_puts_25 : decode cX10_puts 25 = .ok (.iastore, 1) := by decide +kernel
theorem dX10_puts_26 : decode cX10_puts 26 = .ok (.aload_n 0, 1) := by decide +kernel
theorem dX10_puts_27 : decode cX10_puts 27 = .ok (.getfield 34, 3) := by decide +kernel
theorem dX10_puts_30 : decode cX10_puts 30 = .ok (.iload 6, 2) := by decide +kernel
theorem dX10_puts_32 : decode cX10_puts 32 = .ok (.iconst 2, 1) := by decide +kernel
theorem dX10_puts_33 : decode cX10_puts 33 = .ok (.iadd, 1) := by decide +kernel
theorem dX10_puts_34 : decode cX10_puts 34 = .ok (.iload_n 3, 1) := by decide +kernel
theorem dX10_puts_35 : decode cX10_puts 35 = .ok (.iastore, 1) := by decide +kernel
theorem dX10_puts_36 : decode cX10_puts 36 = .ok (.aload_n 0, 1) := by decide +kernel
theorem dX10_puts_37 : decode cX10_puts 37 = .ok (.getfield 34, 3) := by decide +kernel
theorem dX10_puts_40 : decode cX10_puts 40 = .ok (.iload 6, 2) := by decide +kernel
theorem dX10_puts_42 : decode cX10_puts 42 = .ok (.iconst 3, 1) := by decide +kernel
theorem dX10_puts_43 : decode cX10_puts 43 = .ok (.iadd, 1) := by decide +kernel
theorem dX10_puts_44 : decode cX10_puts 44 = .ok (.iload 4, 2) := by decide +kernel
theorem dX10_puts_46 : decode cX10_puts 46 = .ok (.iastore, 1) := by decide +kernel
theorem dX10_puts_47 : decode cX10_puts 47 = .ok (.aload_n 0, 1) := by decide +kernel
theorem dX10_puts_48 : decode cX10_puts 48 = .ok (.getfield 34, 3) := by decide +kernel
theorem dX10_puts_51 : decode cX10_puts 51 = .ok (.iload 6, 2) := by decide +kernel
theorem dX10_puts_53 : decode cX10_puts 53 = .ok (.iconst 4, 1) := by decide +kernel
theorem dX10_puts_54 : decode cX10_puts 54 = .ok (.iadd, 1) := by decide +kernel
theorem dX10_puts_55 : decode cX10_puts 55 = .ok (.iload 5, 2) := by decide +kernel
theorem dX10_puts_57 : decode cX10_puts 57 = .ok (.iastore, 1) := by decide +kernel
theorem dX10_puts_58 : decode cX10_puts 58 = .ok (.aload_n 0, 1) := by decide +kernel
theorem dX10_puts_59 : decode cX10_puts 59 = .ok (.dup, 1) := by decide +kernel
theorem dX10_puts_60 : decode cX10_puts 60 = .ok (.getfield 195, 3) := by decide +kernel
theorem dX10_puts_63 : decode cX10_puts 63 = .ok (.iconst 1, 1) := by decide +kernel
theorem dX10_puts_64 : decode cX10_puts 64 = .ok (.iadd, 1) := by decide +kernel
theorem dX10_puts_65 : decode cX10_puts 65 = .ok (.putfield 195, 3) := by decide +kernel
theorem dX10_puts_68 : decode cX10_puts 68 = .ok (.return_, 1) := by decide +kernel
theorem dX10_errand_0 : decode cX10_errand 0 = .ok (.aload_n 0, 1) := by decide +kernel
theorem dX10_errand_1 : decode cX10_errand 1 = .ok (.iload_n 1, 1) := by decide +kernel
theorem dX10_errand_2 : decode cX10_errand 2 = .ok (.iload_n 2, 1) := by decide +kernel
theorem dX10_errand_3 : decode cX10_errand 3 = .ok (.iload_n 3, 1) := by decide +kernel
theorem dX10_errand_4 : decode cX10_errand 4 = .ok (.iload 4, 2) := by decide +kernel
theorem dX10_errand_6 : decode cX10_errand 6 = .ok (.iload 5, 2) := by decide +kernel
theorem dX10_errand_8 : decode cX10_errand 8 = .ok (.invokevirtual 198, 3) := by decide +kernel
theorem dX10_errand_11 : decode cX10_errand 11 = .ok (.ifCond .ne 5, 3) := by decide +kernel
theorem dX10_errand_14 : decode cX10_errand 14 = .ok (.iconst (-1), 1) := by decide +kernel
theorem dX10_errand_15 : decode cX10_errand 15 = .ok (.ireturn, 1) := by decide +kernel
theorem dX10_errand_16 : decode cX10_errand 16 = .ok (.aload_n 0, 1) := by decide +kernel
theorem dX10_errand_17 : decode cX10_errand 17 = .ok (.getfield 195, 3) := by decide +kernel
theorem dX10_errand_20 : decode cX10_errand 20 = .ok (.iconst 5, 1) := by decide +kernel
theorem dX10_errand_21 : decode cX10_errand 21 = .ok (.if_icmp .ne 6, 3) := by decide +kernel
theorem dX10_errand_24 : decode cX10_errand 24 = .ok (.bipush (-3), 2) := by decide +kernel
theorem dX10_errand_26 : decode cX10_errand 26 = .ok (.ireturn, 1) := by decide +kernel
theorem dX10_errand_27 : decode cX10_errand 27 = .ok (.aload_n 0, 1) := by decide +kernel
theorem dX10_errand_28 : decode cX10_errand 28 = .ok (.iload_n 1, 1) := by decide +kernel
theorem dX10_errand_29 : decode cX10_errand 29 = .ok (.iload_n 2, 1) := by decide +kernel
theorem dX10_errand_30 : decode cX10_errand 30 = .ok (.iload_n 3, 1) := by decide +kernel
theorem dX10_errand_31 : decode cX10_errand 31 = .ok (.iload 4, 2) := by decide +kernel
theorem dX10_errand_33 : decode cX10_errand 33 = .ok (.iload 5, 2) := by decide +kernel
theorem dX10_errand_35 : decode cX10_errand 35 = .ok (.invokevirtual 202, 3) := by decide +kernel
theorem dX10_errand_38 : decode cX10_errand 38 = .ok (.aload_n 0, 1) := by decide +kernel
theorem dX10_errand_39 : decode cX10_errand 39 = .ok (.getfield 195, 3) := by decide +kernel
theorem dX10_errand_42 : decode cX10_errand 42 = .ok (.iconst 1, 1) := by decide +kernel
theorem dX10_errand_43 : decode cX10_errand 43 = .ok (.isub, 1) := by decide +kernel
theorem dX10_errand_44 : decode cX10_errand 44 = .ok (.ireturn, 1) := by decide +kernel
theorem dX10_errands_0 : decode cX10_errands 0 = .ok (.iload_n 1, 1) := by decide +kernel
theorem dX10_errands_1 : decode cX10_errands 1 = .ok (.invokestatic 206, 3) := by decide +kernel
theorem dX10_errands_4 : decode cX10_errands 4 = .ok (.ifCond .eq 23, 3) := by decide +kernel
theorem dX10_errands_7 : decode cX10_errands 7 = .ok (.iload_n 2, 1) := by decide +kernel
theorem dX10_errands_8 : decode cX10_errands 8 = .ok (.invokestatic 209, 3) := by decide +kernel
theorem dX10_errands_11 : decode cX10_errands 11 = .ok (.ifCond .eq 16, 3) := by decide +kernel
theorem dX10_errands_14 : decode cX10_errands 14 = .ok (.iload 4, 2) := by decide +kernel
theorem dX10_errands_16 : decode cX10_errands 16 = .ok (.i2l, 1) := by decide +kernel
theorem dX10_errands_17 : decode cX10_errands 17 = .ok (.lconst 1, 1) := by decide +kernel
theorem dX10_errands_18 : decode cX10_errands 18 = .ok (.ldc2_w 212, 3) := by decide +kernel
theorem dX10_errands_21 : decode cX10_errands 21 = .ok (.invokestatic 98, 3) := by decide +kernel
theorem dX10_errands_24 : decode cX10_errands 24 = .ok (.ifCond .ne 5, 3) := by decide +kernel
theorem dX10_errands_27 : decode cX10_errands 27 = .ok (.iconst (-1), 1) := by decide +kernel
theorem dX10_errands_28 : decode cX10_errands 28 = .ok (.ireturn, 1) := by decide +kernel
theorem dX10_errands_29 : decode cX10_errands 29 = .ok (.aload_n 0, 1) := by decide +kernel
theorem dX10_errands_30 : decode cX10_errands 30 = .ok (.iload_n 1, 1) := by decide +kernel
theorem dX10_errands_31 : decode cX10_errands 31 = .ok (.iload_n 2, 1) := by decide +kernel
theorem dX10_errands_32 : decode cX10_errands 32 = .ok (.iload_n 3, 1) := by decide +kernel
theorem dX10_errands_33 : decode cX10_errands 33 = .ok (.iconst 5, 1) := by decide +kernel
theorem dX10_errands_34 : decode cX10_errands 34 = .ok (.iload 4, 2) := by decide +kernel
theorem dX10_errands_36 : decode cX10_errands 36 = .ok (.imul, 1) := by decide +kernel
theorem dX10_errands_37 : decode cX10_errands 37 = .ok (.invokevirtual 214, 3) := by decide +kernel
theorem dX10_errands_40 : decode cX10_errands 40 = .ok (.istore 5, 2) := by decide +kernel
theorem dX10_errands_42 : decode cX10_errands 42 = .ok (.iload 5, 2) := by decide +kernel
theorem dX10_errands_44 : decode cX10_errands 44 = .ok (.ifCond .ge 6, 3) := by decide +kernel
theorem dX10_errands_47 : decode cX10_errands 47 = .ok (.iload 5, 2) := by decide +kernel
theorem dX10_errands_49 : decode cX10_errands 49 = .ok (.ireturn, 1) := by decide +kernel
theorem dX10_errands_50 : decode cX10_errands 50 = .ok (.bipush 24, 2) := by decide +kernel
theorem dX10_errands_52 : decode cX10_errands 52 = .ok (.iload_n 1, 1) := by decide +kernel
theorem dX10_errands_53 : decode cX10_errands 53 = .ok (.imul, 1) := by decide +kernel
theorem dX10_errands_54 : decode cX10_errands 54 = .ok (.iload_n 3, 1) := by decide +kernel
theorem dX10_errands_55 : decode cX10_errands 55 = .ok (.iadd, 1) := by decide +kernel
theorem dX10_errands_56 : decode cX10_errands 56 = .ok (.istore 6, 2) := by decide +kernel
theorem dX10_errands_58 : decode cX10_errands 58 = .ok (.iload 6, 2) := by decide +kernel
theorem dX10_errands_60 : decode cX10_errands 60 = .ok (.istore 7, 2) := by decide +kernel
theorem dX10_errands_62 : decode cX10_errands 62 = .ok (.iload 7, 2) := by decide +kernel
theorem dX10_errands_64 : decode cX10_errands 64 = .ok (.iload 6, 2) := by decide +kernel
theorem dX10_errands_66 : decode cX10_errands 66 = .ok (.iconst 5, 1) := by decide +kernel
theorem dX10_errands_67 : decode cX10_errands 67 = .ok (.iload 4, 2) := by decide +kernel
theorem dX10_errands_69 : decode cX10_errands 69 = .ok (.imul, 1) := by decide +kernel
theorem dX10_errands_70 : decode cX10_errands 70 = .ok (.iadd, 1) := by decide +kernel
theorem dX10_errands_71 : decode cX10_errands 71 = .ok (.if_icmp .ge 62, 3) := by decide +kernel
theorem dX10_errands_74 : decode cX10_errands 74 = .ok (.aload_n 0, 1) := by decide +kernel
theorem dX10_errands_75 : decode cX10_errands 75 = .ok (.aload_n 0, 1) := by decide +kernel
theorem dX10_errands_76 : decode cX10_errands 76 = .ok (.getfield 89, 3) := by decide +kernel
theorem dX10_errands_79 : decode cX10_errands 79 = .ok (.iload 7, 2) := by decide +kernel
theorem dX10_errands_81 : decode cX10_errands 81 = .ok (.iaload, 1) := by decide +kernel
theorem dX10_errands_82 : decode cX10_errands 82 = .ok (.aload_n 0, 1) := by decide +kernel
theorem dX10_errands_83 : decode cX10_errands 83 = .ok (.getfield 89, 3) := by decide +kernel
theorem dX10_errands_86 : decode cX10_errands 86 = .ok (.iload 7, 2) := by decide +kernel
theorem dX10_errands_88 : decode cX10_errands 88 = .ok (.iconst 1, 1) := by decide +kernel
theorem dX10_errands_89 : decode cX10_errands 89 = .ok (.iadd, 1) := by decide +kernel
theorem dX10_errands_90 : decode cX10_errands 90 = .ok (.iaload, 1) := by decide +kernel
theorem dX10_errands_91 : decode cX10_errands 91 = .ok (.aload_n 0, 1) := by decide +kernel
theorem dX10_errands_92 : decode cX10_errands 92 = .ok (.getfield 89, 3) := by decide +kernel
theorem dX10_errands_95 : decode cX10_errands 95 = .ok (.iload 7, 2) := by decide +kernel
theorem dX10_errands_97 : decode cX10_errands 97 = .ok (.iconst 2, 1) := by decide +kernel
theorem dX10_errands_98 : decode cX10_errands 98 = .ok (.iadd, 1) := by decide +kernel
theorem dX10_errands_99 : decode cX10_errands 99 = .ok (.iaload, 1) := by decide +kernel
theorem dX10_errands_100 : decode cX10_errands 100 = .ok (.aload_n 0, 1) := by decide +kernel
theorem dX10_errands_101 : decode cX10_errands 101 = .ok (.getfield 89, 3) := by decide +kernel
theorem dX10_errands_104 : decode cX10_errands 104 = .ok (.iload 7, 2) := by decide +kernel
theorem dX10_errands_106 : decode cX10_errands 106 = .ok (.iconst 3, 1) := by decide +kernel
theorem dX10_errands_107 : decode cX10_errands 107 = .ok (.iadd, 1) := by decide +kernel
theorem dX10_errands_108 : decode cX10_errands 108 = .ok (.iaload, 1) := by decide +kernel
theorem dX10_errands_109 : decode cX10_errands 109 = .ok (.aload_n 0, 1) := by decide +kernel
theorem dX10_errands_110 : decode cX10_errands 110 = .ok (.getfield 89, 3) := by decide +kernel
theorem dX10_errands_113 : decode cX10_errands 113 = .ok (.iload 7, 2) := by decide +kernel
theorem dX10_errands_115 : decode cX10_errands 115 = .ok (.iconst 4, 1) := by decide +kernel
theorem dX10_errands_116 : decode cX10_errands 116 = .ok (.iadd, 1) := by decide +kernel
theorem dX10_errands_117 : decode cX10_errands 117 = .ok (.iaload, 1) := by decide +kernel
theorem dX10_errands_118 : decode cX10_errands 118 = .ok (.invokevirtual 198, 3) := by decide +kernel
theorem dX10_errands_121 : decode cX10_errands 121 = .ok (.ifCond .ne 6, 3) := by decide +kernel
theorem dX10_errands_124 : decode cX10_errands 124 = .ok (.bipush (-2), 2) := by decide +kernel
theorem dX10_errands_126 : decode cX10_errands 126 = .ok (.ireturn, 1) := by decide +kernel
theorem dX10_errands_127 : decode cX10_errands 127 = .ok (.iinc 7 5, 3) := by decide +kernel
theorem dX10_errands_130 : decode cX10_errands 130 = .ok (.goto (-68), 3) := by decide +kernel
theorem dX10_errands_133 : decode cX10_errands 133 = .ok (.aload_n 0, 1) := by decide +kernel
theorem dX10_errands_134 : decode cX10_errands 134 = .ok (.getfield 195, 3) := by decide +kernel
theorem dX10_errands_137 : decode cX10_errands 137 = .ok (.iload 4, 2) := by decide +kernel
theorem dX10_errands_139 : decode cX10_errands 139 = .ok (.iadd, 1) := by decide +kernel
theorem dX10_errands_140 : decode cX10_errands 140 = .ok (.iconst 5, 1) := by decide +kernel
theorem dX10_errands_141 : decode cX10_errands 141 = .ok (.if_icmp .le 6, 3) := by decide +kernel
theorem dX10_errands_144 : decode cX10_errands 144 = .ok (.bipush (-3), 2) := by decide +kernel
theorem dX10_errands_146 : decode cX10_errands 146 = .ok (.ireturn, 1) := by decide +kernel
theorem dX10_errands_147 : decode cX10_errands 147 = .ok (.iload 6, 2) := by decide +kernel
theorem dX10_errands_149 : decode cX10_errands 149 = .ok (.istore 7, 2) := by decide +kernel
theorem dX10_errands_151 : decode cX10_errands 151 = .ok (.iload 7, 2) := by decide +kernel
theorem dX10_errands_153 : decode cX10_errands 153 = .ok (.iload 6, 2) := by decide +kernel
theorem dX10_errands_155 : decode cX10_errands 155 = .ok (.iconst 5, 1) := by decide +kernel
theorem dX10_errands_156 : decode cX10_errands 156 = .ok (.iload 4, 2) := by decide +kernel
theorem dX10_errands_158 : decode cX10_errands 158 = .ok (.imul, 1) := by decide +kernel
theorem dX10_errands_159 : decode cX10_errands 159 = .ok (.iadd, 1) := by decide +kernel
theorem dX10_errands_160 : decode cX10_errands 160 = .ok (.if_icmp .ge 56, 3) := by decide +kernel
theorem dX10_errands_163 : decode cX10_errands 163 = .ok (.aload_n 0, 1) := by decide +kernel
theorem dX10_errands_164 : decode cX10_errands 164 = .ok (.aload_n 0, 1) := by decide +kernel
theorem dX10_errands_165 : decode cX10_errands 165 = .ok (.getfield 89, 3) := by decide +kernel
theorem dX10_errands_168 : decode cX10_errands 168 = .ok (.iload 7, 2) := by decide +kernel
theorem dX10_errands_170 : decode cX10_errands 170 = .ok (.iaload, 1) := by decide +kernel
theorem dX10_errands_171 : decode cX10_errands 171 = .ok (.aload_n 0, 1) := by decide +kernel
theorem dX10_errands_172 : decode cX10_errands 172 = .ok (.getfield 89, 3) := by decide +kernel
theorem dX10_errands_175 : decode cX10_errands 175 = .ok (.iload 7, 2) := by decide +kernel
theorem dX10_errands_177 : decode cX10_errands 177 = .ok (.iconst 1, 1) := by decide +kernel
theorem dX10_errands_178 : decode cX10_errands 178 = .ok (.iadd, 1) := by decide +kernel
theorem dX10_errands_179 : decode cX10_errands 179 = .ok (.iaload, 1) := by decide +kernel
theorem dX10_errands_180 : decode cX10_errands 180 = .ok (.aload_n 0, 1) := by decide +kernel
theorem dX10_errands_181 : decode cX10_errands 181 = .ok (.getfield 89, 3) := by decide +kernel
theorem dX10_errands_184 : decode cX10_errands 184 = .ok (.iload 7, 2) := by decide +kernel
theorem dX10_errands_186 : decode cX10_errands 186 = .ok (.iconst 2, 1) := by decide +kernel
theorem dX10_errands_187 : decode cX10_errands 187 = .ok (.iadd, 1) := by decide +kernel
theorem dX10_errands_188 : decode cX10_errands 188 = .ok (.iaload, 1) := by decide +kernel
theorem dX10_errands_189 : decode cX10_errands 189 = .ok (.aload_n 0, 1) := by decide +kernel
theorem dX10_errands_190 : decode cX10_errands 190 = .ok (.getfield 89, 3) := by decide +kernel
theorem dX10_errands_193 : decode cX10_errands 193 = .ok (.iload 7, 2) := by decide +kernel
theorem dX10_errands_195 : decode cX10_errands 195 = .ok (.iconst 3, 1) := by decide +kernel
theorem dX10_errands_196 : decode cX10_errands 196 = .ok (.iadd, 1) := by decide +kernel
theorem dX10_errands_197 : decode cX10_errands 197 = .ok (.iaload, 1) := by decide +kernel
theorem dX10_errands_198 : decode cX10_errands 198 = .ok (.aload_n 0, 1) := by decide +kernel
theorem dX10_errands_199 : decode cX10_errands 199 = .ok (.getfield 89, 3) := by decide +kernel
theorem dX10_errands_202 : decode cX10_errands 202 = .ok (.iload 7, 2) := by decide +kernel
theorem dX10_errands_204 : decode cX10_errands 204 = .ok (.iconst 4, 1) := by decide +kernel
theorem dX10_errands_205 : decode cX10_errands 205 = .ok (.iadd, 1) := by decide +kernel
theorem dX10_errands_206 : decode cX10_errands 206 = .ok (.iaload, 1) := by decide +kernel
theorem dX10_errands_207 : decode cX10_errands 207 = .ok (.invokevirtual 202, 3) := by decide +kernel
theorem dX10_errands_210 : decode cX10_errands 210 = .ok (.iinc 7 5, 3) := by decide +kernel
theorem dX10_errands_213 : decode cX10_errands 213 = .ok (.goto (-62), 3) := by decide +kernel
theorem dX10_errands_216 : decode cX10_errands 216 = .ok (.aload_n 0, 1) := by decide +kernel
theorem dX10_errands_217 : decode cX10_errands 217 = .ok (.getfield 195, 3) := by decide +kernel
theorem dX10_errands_220 : decode cX10_errands 220 = .ok (.ireturn, 1) := by decide +kernel
theorem dX10_drop_0 : decode cX10_drop 0 = .ok (.iload_n 1, 1) := by decide +kernel
theorem dX10_drop_1 : decode cX10_drop 1 = .ok (.i2l, 1) := by decide +kernel
theorem dX10_drop_2 : decode cX10_drop 2 = .ok (.lconst 0, 1) := by decide +kernel
theorem dX10_drop_3 : decode cX10_drop 3 = .ok (.aload_n 0, 1) := by decide +kernel
theorem dX10_drop_4 : decode cX10_drop 4 = .ok (.getfield 195, 3) := by decide +kernel
theorem dX10_drop_7 : decode cX10_drop 7 = .ok (.iconst 1, 1) := by decide +kernel
theorem dX10_drop_8 : decode cX10_drop 8 = .ok (.isub, 1) := by decide +kernel
theorem dX10_drop_9 : decode cX10_drop 9 = .ok (.i2l, 1) := by decide +kernel
theorem dX10_drop_10 : decode cX10_drop 10 = .ok (.invokestatic 98, 3) := by decide +kernel
theorem dX10_drop_13 : decode cX10_drop 13 = .ok (.ifCond .ne 5, 3) := by decide +kernel
theorem dX10_drop_16 : decode cX10_drop 16 = .ok (.iconst (-1), 1) := by decide +kernel
theorem dX10_drop_17 : decode cX10_drop 17 = .ok (.ireturn, 1) := by decide +kernel
theorem dX10_drop_18 : decode cX10_drop 18 = .ok (.aload_n 0, 1) := by decide +kernel
theorem dX10_drop_19 : decode cX10_drop 19 = .ok (.dup, 1) := by decide +kernel
theorem dX10_drop_20 : decode cX10_drop 20 = .ok (.getfield 195, 3) := by decide +kernel
theorem dX10_drop_23 : decode cX10_drop 23 = .ok (.iconst 1, 1) := by decide +kernel
theorem dX10_drop_24 : decode cX10_drop 24 = .ok (.isub, 1) := by decide +kernel
theorem dX10_drop_25 : decode cX10_drop 25 = .ok (.putfield 195, 3) := by decide +kernel
theorem dX10_drop_28 : decode cX10_drop 28 = .ok (.iconst 5, 1) := by decide +kernel
theorem dX10_drop_29 : decode cX10_drop 29 = .ok (.iload_n 1, 1) := by decide +kernel
theorem dX10_drop_30 : decode cX10_drop 30 = .ok (.imul, 1) := by decide +kernel
theorem dX10_drop_31 : decode cX10_drop 31 = .ok (.istore_n 2, 1) := by decide +kernel
theorem dX10_drop_32 : decode cX10_drop 32 = .ok (.iload_n 2, 1) := by decide +kernel
theorem dX10_drop_33 : decode cX10_drop 33 = .ok (.iconst 5, 1) := by decide +kernel
theorem dX10_drop_34 : decode cX10_drop 34 = .ok (.aload_n 0, 1) := by decide +kernel
theorem dX10_drop_35 : decode cX10_drop 35 = .ok (.getfield 195, 3) := by decide +kernel
theorem dX10_drop_38 : decode cX10_drop 38 = .ok (.imul, 1) := by decide +kernel
theorem dX10_drop_39 : decode cX10_drop 39 = .ok (.if_icmp .ge 23, 3) := by decide +kernel
theorem dX10_drop_42 : decode cX10_drop 42 = .ok (.aload_n 0, 1) := by decide +kernel
theorem dX10_drop_43 : decode cX10_drop 43 = .ok (.getfield 34, 3) := by decide +kernel
theorem dX10_drop_46 : decode cX10_drop 46 = .ok (.iload_n 2, 1) := by decide +kernel
theorem dX10_drop_47 : decode cX10_drop 47 = .ok (.aload_n 0, 1) := by decide +kernel
theorem dX10_drop_48 : decode cX10_drop 48 = .ok (.getfield 34, 3) := by decide +kernel
theorem dX10_drop_51 : decode cX10_drop 51 = .ok (.iload_n 2, 1) := by decide +kernel
theorem dX10_drop_52 : decode cX10_drop 52 = .ok (.iconst 5, 1) := by decide +kernel
theorem dX10_drop_53 : decode cX10_drop 53 = .ok (.iadd, 1) := by decide +kernel
theorem dX10_drop_54 : decode cX10_drop 54 = .ok (.iaload, 1) := by decide +kernel
theorem dX10_drop_55 : decode cX10_drop 55 = .ok (.iastore, 1) := by decide +kernel
theorem dX10_drop_56 : decode cX10_drop 56 = .ok (.iinc 2 1, 3) := by decide +kernel
theorem dX10_drop_59 : decode cX10_drop 59 = .ok (.goto (-27), 3) := by decide +kernel
theorem dX10_drop_62 : decode cX10_drop 62 = .ok (.aload_n 0, 1) := by decide +kernel
theorem dX10_drop_63 : decode cX10_drop 63 = .ok (.getfield 195, 3) := by decide +kernel
theorem dX10_drop_66 : decode cX10_drop 66 = .ok (.ireturn, 1) := by decide +kernel
theorem dX10_wakes_0 : decode cX10_wakes 0 = .ok (.iconst 0, 1) := by decide +kernel
theorem dX10_wakes_1 : decode cX10_wakes 1 = .ok (.istore_n 1, 1) := by decide +kernel
theorem dX10_wakes_2 : decode cX10_wakes 2 = .ok (.iload_n 1, 1) := by decide +kernel
theorem dX10_wakes_3 : decode cX10_wakes 3 = .ok (.aload_n 0, 1) := by decide +kernel
theorem dX10_wakes_4 : decode cX10_wakes 4 = .ok (.getfield 187, 3) := by decide +kernel
theorem dX10_wakes_7 : decode cX10_wakes 7 = .ok (.if_icmp .ge 28, 3) := by decide +kernel
theorem dX10_wakes_10 : decode cX10_wakes 10 = .ok (.aload_n 0, 1) := by decide +kernel
theorem dX10_wakes_11 : decode cX10_wakes 11 = .ok (.getfield 37, 3) := by decide +kernel
theorem dX10_wakes_14 : decode cX10_wakes 14 = .ok (.iload_n 1, 1) := by decide +kernel
theorem dX10_wakes_15 : decode cX10_wakes 15 = .ok (.aload_n 0, 1) := by decide +kernel
theorem dX10_wakes_16 : decode cX10_wakes 16 = .ok (.getfield 28, 3) := by decide +kernel
theorem dX10_wakes_19 : decode cX10_wakes 19 = .ok (.iload_n 1, 1) := by decide +kernel
theorem dX10_wakes_20 : decode cX10_wakes 20 = .ok (.iaload, 1) := by decide +kernel
theorem dX10_wakes_21 : decode cX10_wakes 21 = .ok (.iastore, 1) := by decide +kernel
theorem dX10_wakes_22 : decode cX10_wakes 22 = .ok (.aload_n 0, 1) := by decide +kernel
theorem dX10_wakes_23 : decode cX10_wakes 23 = .ok (.getfield 40, 3) := by decide +kernel
theorem dX10_wakes_26 : decode cX10_wakes 26 = .ok (.iload_n 1, 1) := by decide +kernel
theorem dX10_wakes_27 : decode cX10_wakes 27 = .ok (.iconst 0, 1) := by decide +kernel
theorem dX10_wakes_28 : decode cX10_wakes 28 = .ok (.iastore, 1) := by decide +kernel
theorem dX10_wakes_29 : decode cX10_wakes 29 = .ok (.iinc 1 1, 3) := by decide +kernel
theorem dX10_wakes_32 : decode cX10_wakes 32 = .ok (.goto (-30), 3) := by decide +kernel
theorem dX10_wakes_35 : decode cX10_wakes 35 = .ok (.return_, 1) := by decide +kernel
theorem dX10_wouldBe_0 : decode cX10_wouldBe 0 = .ok (.aload_n 0, 1) := by decide +kernel
theorem dX10_wouldBe_1 : decode cX10_wouldBe 1 = .ok (.bipush (-4), 2) := by decide +kernel
theorem dX10_wouldBe_3 : decode cX10_wouldBe 3 = .ok (.putfield 218, 3) := by decide +kernel
theorem dX10_wouldBe_6 : decode cX10_wouldBe 6 = .ok (.aload_n 0, 1) := by decide +kernel
theorem dX10_wouldBe_7 : decode cX10_wouldBe 7 = .ok (.getfield 40, 3) := by decide +kernel
theorem dX10_wouldBe_10 : decode cX10_wouldBe 10 = .ok (.iload_n 1, 1) := by decide +kernel
theorem dX10_wouldBe_11 : decode cX10_wouldBe 11 = .ok (.iaload, 1) := by decide +kernel
theorem dX10_wouldBe_12 : decode cX10_wouldBe 12 = .ok (.ifCond .ge 6, 3) := by decide +kernel
theorem dX10_wouldBe_15 : decode cX10_wouldBe 15 = .ok (.bipush (-4), 2) := by decide +kernel
theorem dX10_wouldBe_17 : decode cX10_wouldBe 17 = .ok (.ireturn, 1) := by decide +kernel
theorem dX10_wouldBe_18 : decode cX10_wouldBe 18 = .ok (.aload_n 0, 1) := by decide +kernel
theorem dX10_wouldBe_19 : decode cX10_wouldBe 19 = .ok (.getfield 34, 3) := by decide +kernel
theorem dX10_wouldBe_22 : decode cX10_wouldBe 22 = .ok (.iconst 5, 1) := by decide +kernel
theorem dX10_wouldBe_23 : decode cX10_wouldBe 23 = .ok (.iload_n 2, 1) := by decide +kernel
theorem dX10_wouldBe_24 : decode cX10_wouldBe 24 = .ok (.imul, 1) := by decide +kernel
theorem dX10_wouldBe_25 : decode cX10_wouldBe 25 = .ok (.iconst 3, 1) := by decide +kernel
theorem dX10_wouldBe_26 : decode cX10_wouldBe 26 = .ok (.iadd, 1) := by decide +kernel
theorem dX10_wouldBe_27 : decode cX10_wouldBe 27 = .ok (.iaload, 1) := by decide +kernel
theorem dX10_wouldBe_28 : decode cX10_wouldBe 28 = .ok (.aload_n 0, 1) := by decide +kernel
theorem dX10_wouldBe_29 : decode cX10_wouldBe 29 = .ok (.getfield 40, 3) := by decide +kernel
theorem dX10_wouldBe_32 : decode cX10_wouldBe 32 = .ok (.iload_n 1, 1) := by decide +kernel
theorem dX10_wouldBe_33 : decode cX10_wouldBe 33 = .ok (.iaload, 1) := by decide +kernel
theorem dX10_wouldBe_34 : decode cX10_wouldBe 34 = .ok (.if_icmp .le 16, 3) := by decide +kernel
theorem dX10_wouldBe_37 : decode cX10_wouldBe 37 = .ok (.aload_n 0, 1) := by decide +kernel
theorem dX10_wouldBe_38 : decode cX10_wouldBe 38 = .ok (.getfield 34, 3) := by decide +kernel
theorem dX10_wouldBe_41 : decode cX10_wouldBe 41 = .ok (.iconst 5, 1) := by decide +kernel
theorem dX10_wouldBe_42 : decode cX10_wouldBe 42 = .ok (.iload_n 2, 1) := by decide +kernel
theorem dX10_wouldBe_43 : decode cX10_wouldBe 43 = .ok (.imul, 1) := by decide +kernel
theorem dX10_wouldBe_44 : decode cX10_wouldBe 44 = .ok (.iconst 3, 1) := by decide +kernel
theorem dX10_wouldBe_45 : decode cX10_wouldBe 45 = .ok (.iadd, 1) := by decide +kernel
theorem dX10_wouldBe_46 : decode cX10_wouldBe 46 = .ok (.iaload, 1) := by decide +kernel
theorem dX10_wouldBe_47 : decode cX10_wouldBe 47 = .ok (.goto 9, 3) := by decide +kernel
theorem dX10_wouldBe_50 : decode cX10_wouldBe 50 = .ok (.aload_n 0, 1) := by decide +kernel
theorem dX10_wouldBe_51 : decode cX10_wouldBe 51 = .ok (.getfield 40, 3) := by decide +kernel
theorem dX10_wouldBe_54 : decode cX10_wouldBe 54 = .ok (.iload_n 1, 1) := by decide +kernel
theorem dX10_wouldBe_55 : decode cX10_wouldBe 55 = .ok (.iaload, 1) := by decide +kernel
theorem dX10_wouldBe_56 : decode cX10_wouldBe 56 = .ok (.istore_n 3, 1) := by decide +kernel
theorem dX10_wouldBe_57 : decode cX10_wouldBe 57 = .ok (.aload_n 0, 1) := by decide +kernel
theorem dX10_wouldBe_58 : decode cX10_wouldBe 58 = .ok (.getfield 34, 3) := by decide +kernel
theorem dX10_wouldBe_61 : decode cX10_wouldBe 61 = .ok (.iconst 5, 1) := by decide +kernel
theorem dX10_wouldBe_62 : decode cX10_wouldBe 62 = .ok (.iload_n 2, 1) := by decide +kernel
theorem dX10_wouldBe_63 : decode cX10_wouldBe 63 = .ok (.imul, 1) := by decide +kernel
theorem dX10_wouldBe_64 : decode cX10_wouldBe 64 = .ok (.iconst 1, 1) := by decide +kernel
theorem dX10_wouldBe_65 : decode cX10_wouldBe 65 = .ok (.iadd, 1) := by decide +kernel
theorem dX10_wouldBe_66 : decode cX10_wouldBe 66 = .ok (.iaload, 1) := by decide +kernel
theorem dX10_wouldBe_67 : decode cX10_wouldBe 67 = .ok (.istore 4, 2) := by decide +kernel
theorem dX10_wouldBe_69 : decode cX10_wouldBe 69 = .ok (.aload_n 0, 1) := by decide +kernel
theorem dX10_wouldBe_70 : decode cX10_wouldBe 70 = .ok (.getfield 34, 3) := by decide +kernel
theorem dX10_wouldBe_73 : decode cX10_wouldBe 73 = .ok (.iconst 5, 1) := by decide +kernel
theorem dX10_wouldBe_74 : decode cX10_wouldBe 74 = .ok (.iload_n 2, 1) := by decide +kernel
theorem dX10_wouldBe_75 : decode cX10_wouldBe 75 = .ok (.imul, 1) := by decide +kernel
theorem dX10_wouldBe_76 : decode cX10_wouldBe 76 = .ok (.iaload, 1) := by decide +kernel
theorem dX10_wouldBe_77 : decode cX10_wouldBe 77 = .ok (.ifCond .ne 18, 3) := by decide +kernel
theorem dX10_wouldBe_80 : decode cX10_wouldBe 80 = .ok (.aload_n 0, 1) := by decide +kernel
theorem dX10_wouldBe_81 : decode cX10_wouldBe 81 = .ok (.aload_n 0, 1) := by decide +kernel
theorem dX10_wouldBe_82 : decode cX10_wouldBe 82 = .ok (.getfield 37, 3) := by decide +kernel
theorem dX10_wouldBe_85 : decode cX10_wouldBe 85 = .ok (.iload_n 1, 1) := by decide +kernel
theorem dX10_wouldBe_86 : decode cX10_wouldBe 86 = .ok (.iaload, 1) := by decide +kernel
theorem dX10_wouldBe_87 : decode cX10_wouldBe 87 = .ok (.iload_n 3, 1) := by decide +kernel
theorem dX10_wouldBe_88 : decode cX10_wouldBe 88 = .ok (.iload 4, 2) := by decide +kernel
theorem dX10_wouldBe_90 : decode cX10_wouldBe 90 = .ok (.iconst 0, 1) := by decide +kernel
theorem dX10_wouldBe_91 : decode cX10_wouldBe 91 = .ok (.invokevirtual 183, 3) := by decide +kernel
theorem dX10_wouldBe_94 : decode cX10_wouldBe 94 = .ok (.ireturn, 1) := by decide +kernel
theorem dX10_wouldBe_95 : decode cX10_wouldBe 95 = .ok (.aload_n 0, 1) := by decide +kernel
theorem dX10_wouldBe_96 : decode cX10_wouldBe 96 = .ok (.aload_n 0, 1) := by decide +kernel
theorem dX10_wouldBe_97 : decode cX10_wouldBe 97 = .ok (.getfield 37, 3) := by decide +kernel
theorem dX10_wouldBe_100 : decode cX10_wouldBe 100 = .ok (.iload_n 1, 1) := by decide +kernel
theorem dX10_wouldBe_101 : decode cX10_wouldBe 101 = .ok (.iaload, 1) := by decide +kernel
theorem dX10_wouldBe_102 : decode cX10_wouldBe 102 = .ok (.iload_n 3, 1) := by decide +kernel
theorem dX10_wouldBe_103 : decode cX10_wouldBe 103 = .ok (.aload_n 0, 1) := by decide +kernel
theorem dX10_wouldBe_104 : decode cX10_wouldBe 104 = .ok (.getfield 190, 3) := by decide +kernel
theorem dX10_wouldBe_107 : decode cX10_wouldBe 107 = .ok (.iconst 0, 1) := by decide +kernel
theorem dX10_wouldBe_108 : decode cX10_wouldBe 108 = .ok (.invokevirtual 183, 3) := by decide +kernel
theorem dX10_wouldBe_111 : decode cX10_wouldBe 111 = .ok (.istore 5, 2) := by decide +kernel
theorem dX10_wouldBe_113 : decode cX10_wouldBe 113 = .ok (.iload 5, 2) := by decide +kernel
theorem dX10_wouldBe_115 : decode cX10_wouldBe 115 = .ok (.ifCond .ge 6, 3) := by decide +kernel
theorem dX10_wouldBe_118 : decode cX10_wouldBe 118 = .ok (.bipush (-4), 2) := by decide +kernel
theorem dX10_wouldBe_120 : decode cX10_wouldBe 120 = .ok (.ireturn, 1) := by decide +kernel
theorem dX10_wouldBe_121 : decode cX10_wouldBe 121 = .ok (.iload 5, 2) := by decide +kernel
theorem dX10_wouldBe_123 : decode cX10_wouldBe 123 = .ok (.bipush 24, 2) := by decide +kernel
theorem dX10_wouldBe_125 : decode cX10_wouldBe 125 = .ok (.if_icmp .ge 25, 3) := by decide +kernel
theorem dX10_wouldBe_128 : decode cX10_wouldBe 128 = .ok (.aload_n 0, 1) := by decide +kernel
theorem dX10_wouldBe_129 : decode cX10_wouldBe 129 = .ok (.aload_n 0, 1) := by decide +kernel
theorem dX10_wouldBe_130 : decode cX10_wouldBe 130 = .ok (.getfield 190, 3) := by decide +kernel
theorem dX10_wouldBe_133 : decode cX10_wouldBe 133 = .ok (.iload 5, 2) := by decide +kernel
theorem dX10_wouldBe_135 : decode cX10_wouldBe 135 = .ok (.iload 4, 2) := by decide +kernel
theorem dX10_wouldBe_137 : decode cX10_wouldBe 137 = .ok (.iconst 1, 1) := by decide +kernel
theorem dX10_wouldBe_138 : decode cX10_wouldBe 138 = .ok (.invokevirtual 183, 3) := by decide +kernel
theorem dX10_wouldBe_141 : decode cX10_wouldBe 141 = .ok (.ifCond .ge 9, 3) := by decide +kernel
theorem dX10_wouldBe_144 : decode cX10_wouldBe 144 = .ok (.iinc 5 1, 3) := by decide +kernel
theorem dX10_wouldBe_147 : decode cX10_wouldBe 147 = .ok (.goto (-26), 3) := by decide +kernel
theorem dX10_wouldBe_150 : decode cX10_wouldBe 150 = .ok (.aload_n 0, 1) := by decide +kernel
theorem dX10_wouldBe_151 : decode cX10_wouldBe 151 = .ok (.iload 5, 2) := by decide +kernel
theorem dX10_wouldBe_153 : decode cX10_wouldBe 153 = .ok (.bipush 24, 2) := by decide +kernel
theorem dX10_wouldBe_155 : decode cX10_wouldBe 155 = .ok (.if_icmp .ge 8, 3) := by decide +kernel
theorem dX10_wouldBe_158 : decode cX10_wouldBe 158 = .ok (.iload 5, 2) := by decide +kernel
theorem dX10_wouldBe_160 : decode cX10_wouldBe 160 = .ok (.goto 5, 3) := by decide +kernel
theorem dX10_wouldBe_163 : decode cX10_wouldBe 163 = .ok (.bipush (-4), 2) := by decide +kernel
theorem dX10_wouldBe_165 : decode cX10_wouldBe 165 = .ok (.putfield 218, 3) := by decide +kernel
theorem dX10_wouldBe_168 : decode cX10_wouldBe 168 = .ok (.iload 5, 2) := by decide +kernel
theorem dX10_wouldBe_170 : decode cX10_wouldBe 170 = .ok (.bipush 24, 2) := by decide +kernel
theorem dX10_wouldBe_172 : decode cX10_wouldBe 172 = .ok (.if_icmp .ge 19, 3) := by decide +kernel
theorem dX10_wouldBe_175 : decode cX10_wouldBe 175 = .ok (.aload_n 0, 1) := by decide +kernel
theorem dX10_wouldBe_176 : decode cX10_wouldBe 176 = .ok (.aload_n 0, 1) := by decide +kernel
theorem dX10_wouldBe_177 : decode cX10_wouldBe 177 = .ok (.getfield 190, 3) := by decide +kernel
theorem dX10_wouldBe_180 : decode cX10_wouldBe 180 = .ok (.iload 5, 2) := by decide +kernel
theorem dX10_wouldBe_182 : decode cX10_wouldBe 182 = .ok (.iload 4, 2) := by decide +kernel
theorem dX10_wouldBe_184 : decode cX10_wouldBe 184 = .ok (.iconst 1, 1) := by decide +kernel
theorem dX10_wouldBe_185 : decode cX10_wouldBe 185 = .ok (.invokevirtual 183, 3) := by decide +kernel
theorem dX10_wouldBe_188 : decode cX10_wouldBe 188 = .ok (.goto 5, 3) := by decide +kernel
theorem dX10_wouldBe_191 : decode cX10_wouldBe 191 = .ok (.bipush (-4), 2) := by decide +kernel
theorem dX10_wouldBe_193 : decode cX10_wouldBe 193 = .ok (.ireturn, 1) := by decide +kernel
theorem dX10_doIt_0 : decode cX10_doIt 0 = .ok (.aload_n 0, 1) := by decide +kernel
theorem dX10_doIt_1 : decode cX10_doIt 1 = .ok (.getfield 43, 3) := by decide +kernel
theorem dX10_doIt_4 : decode cX10_doIt 4 = .ok (.iload_n 2, 1) := by decide +kernel
theorem dX10_doIt_5 : decode cX10_doIt 5 = .ok (.aload_n 0, 1) := by decide +kernel
theorem dX10_doIt_6 : decode cX10_doIt 6 = .ok (.iload_n 1, 1) := by decide +kernel
theorem dX10_doIt_7 : decode cX10_doIt 7 = .ok (.iload_n 2, 1) := by decide +kernel
theorem dX10_doIt_8 : decode cX10_doIt 8 = .ok (.invokevirtual 221, 3) := by decide +kernel
theorem dX10_doIt_11 : decode cX10_doIt 11 = .ok (.iastore, 1) := by decide +kernel
theorem dX10_doIt_12 : decode cX10_doIt 12 = .ok (.aload_n 0, 1) := by decide +kernel
theorem dX10_doIt_13 : decode cX10_doIt 13 = .ok (.getfield 46, 3) := by decide +kernel
theorem dX10_doIt_16 : decode cX10_doIt 16 = .ok (.iload_n 2, 1) := by decide +kernel
theorem dX10_doIt_17 : decode cX10_doIt 17 = .ok (.aload_n 0, 1) := by decide +kernel
theorem dX10_doIt_18 : decode cX10_doIt 18 = .ok (.getfield 218, 3) := by decide +kernel
theorem dX10_doIt_21 : decode cX10_doIt 21 = .ok (.iastore, 1) := by decide +kernel
theorem dX10_doIt_22 : decode cX10_doIt 22 = .ok (.aload_n 0, 1) := by decide +kernel
theorem dX10_doIt_23 : decode cX10_doIt 23 = .ok (.getfield 37, 3) := by decide +kernel
theorem dX10_doIt_26 : decode cX10_doIt 26 = .ok (.iload_n 1, 1) := by decide +kernel
theorem dX10_doIt_27 : decode cX10_doIt 27 = .ok (.aload_n 0, 1) := by decide +kernel
theorem dX10_doIt_28 : decode cX10_doIt 28 = .ok (.getfield 34, 3) := by decide +kernel
theorem dX10_doIt_31 : decode cX10_doIt 31 = .ok (.iconst 5, 1) := by decide +kernel
theorem dX10_doIt_32 : decode cX10_doIt 32 = .ok (.iload_n 2, 1) := by decide +kernel
theorem dX10_doIt_33 : decode cX10_doIt 33 = .ok (.imul, 1) := by decide +kernel
theorem dX10_doIt_34 : decode cX10_doIt 34 = .ok (.iconst 1, 1) := by decide +kernel
theorem dX10_doIt_35 : decode cX10_doIt 35 = .ok (.iadd, 1) := by decide +kernel
theorem dX10_doIt_36 : decode cX10_doIt 36 = .ok (.iaload, 1) := by decide +kernel
theorem dX10_doIt_37 : decode cX10_doIt 37 = .ok (.iastore, 1) := by decide +kernel
theorem dX10_doIt_38 : decode cX10_doIt 38 = .ok (.aload_n 0, 1) := by decide +kernel
theorem dX10_doIt_39 : decode cX10_doIt 39 = .ok (.getfield 40, 3) := by decide +kernel
theorem dX10_doIt_42 : decode cX10_doIt 42 = .ok (.iload_n 1, 1) := by decide +kernel
theorem dX10_doIt_43 : decode cX10_doIt 43 = .ok (.aload_n 0, 1) := by decide +kernel
theorem dX10_doIt_44 : decode cX10_doIt 44 = .ok (.getfield 43, 3) := by decide +kernel
theorem dX10_doIt_47 : decode cX10_doIt 47 = .ok (.iload_n 2, 1) := by decide +kernel
theorem dX10_doIt_48 : decode cX10_doIt 48 = .ok (.iaload, 1) := by decide +kernel
theorem dX10_doIt_49 : decode cX10_doIt 49 = .ok (.iastore, 1) := by decide +kernel
theorem dX10_doIt_50 : decode cX10_doIt 50 = .ok (.return_, 1) := by decide +kernel
theorem dX10_costOf_0 : decode cX10_costOf 0 = .ok (.aload_n 0, 1) := by decide +kernel
theorem dX10_costOf_1 : decode cX10_costOf 1 = .ok (.getfield 43, 3) := by decide +kernel
theorem dX10_costOf_4 : decode cX10_costOf 4 = .ok (.iload_n 1, 1) := by decide +kernel
theorem dX10_costOf_5 : decode cX10_costOf 5 = .ok (.iaload, 1) := by decide +kernel
theorem dX10_costOf_6 : decode cX10_costOf 6 = .ok (.ifCond .ge 8, 3) := by decide +kernel
theorem dX10_costOf_9 : decode cX10_costOf 9 = .ok (.bipush 24, 2) := by decide +kernel
theorem dX10_costOf_11 : decode cX10_costOf 11 = .ok (.goto 20, 3) := by decide +kernel
theorem dX10_costOf_14 : decode cX10_costOf 14 = .ok (.aload_n 0, 1) := by decide +kernel
theorem dX10_costOf_15 : decode cX10_costOf 15 = .ok (.getfield 43, 3) := by decide +kernel
theorem dX10_costOf_18 : decode cX10_costOf 18 = .ok (.iload_n 1, 1) := by decide +kernel
theorem dX10_costOf_19 : decode cX10_costOf 19 = .ok (.iaload, 1) := by decide +kernel
theorem dX10_costOf_20 : decode cX10_costOf 20 = .ok (.aload_n 0, 1) := by decide +kernel
theorem dX10_costOf_21 : decode cX10_costOf 21 = .ok (.getfield 34, 3) := by decide +kernel
theorem dX10_costOf_24 : decode cX10_costOf 24 = .ok (.iconst 5, 1) := by decide +kernel
theorem dX10_costOf_25 : decode cX10_costOf 25 = .ok (.iload_n 1, 1) := by decide +kernel
theorem dX10_costOf_26 : decode cX10_costOf 26 = .ok (.imul, 1) := by decide +kernel
theorem dX10_costOf_27 : decode cX10_costOf 27 = .ok (.iconst 4, 1) := by decide +kernel
theorem dX10_costOf_28 : decode cX10_costOf 28 = .ok (.iadd, 1) := by decide +kernel
theorem dX10_costOf_29 : decode cX10_costOf 29 = .ok (.iaload, 1) := by decide +kernel
theorem dX10_costOf_30 : decode cX10_costOf 30 = .ok (.isub, 1) := by decide +kernel
theorem dX10_costOf_31 : decode cX10_costOf 31 = .ok (.istore_n 2, 1) := by decide +kernel
theorem dX10_costOf_32 : decode cX10_costOf 32 = .ok (.iload_n 2, 1) := by decide +kernel
theorem dX10_costOf_33 : decode cX10_costOf 33 = .ok (.ifCond .ge 7, 3) := by decide +kernel
theorem dX10_costOf_36 : decode cX10_costOf 36 = .ok (.iconst 0, 1) := by decide +kernel
theorem dX10_costOf_37 : decode cX10_costOf 37 = .ok (.goto 15, 3) := by decide +kernel
theorem dX10_costOf_40 : decode cX10_costOf 40 = .ok (.iload_n 2, 1) := by decide +kernel
theorem dX10_costOf_41 : decode cX10_costOf 41 = .ok (.aload_n 0, 1) := by decide +kernel
theorem dX10_costOf_42 : decode cX10_costOf 42 = .ok (.getfield 34, 3) := by decide +kernel
theorem dX10_costOf_45 : decode cX10_costOf 45 = .ok (.iconst 5, 1) := by decide +kernel
theorem dX10_costOf_46 : decode cX10_costOf 46 = .ok (.iload_n 1, 1) := by decide +kernel
theorem dX10_costOf_47 : decode cX10_costOf 47 = .ok (.imul, 1) := by decide +kernel
theorem dX10_costOf_48 : decode cX10_costOf 48 = .ok (.iconst 2, 1) := by decide +kernel
theorem dX10_costOf_49 : decode cX10_costOf 49 = .ok (.iadd, 1) := by decide +kernel
theorem dX10_costOf_50 : decode cX10_costOf 50 = .ok (.iaload, 1) := by decide +kernel
theorem dX10_costOf_51 : decode cX10_costOf 51 = .ok (.imul, 1) := by decide +kernel
theorem dX10_costOf_52 : decode cX10_costOf 52 = .ok (.ireturn, 1) := by decide +kernel
theorem dX10_well_0 : decode cX10_well 0 = .ok (.iconst 0, 1) := by decide +kernel
theorem dX10_well_1 : decode cX10_well 1 = .ok (.istore_n 1, 1) := by decide +kernel
theorem dX10_well_2 : decode cX10_well 2 = .ok (.iconst 0, 1) := by decide +kernel
theorem dX10_well_3 : decode cX10_well 3 = .ok (.istore_n 2, 1) := by decide +kernel
theorem dX10_well_4 : decode cX10_well 4 = .ok (.iload_n 2, 1) := by decide +kernel
theorem dX10_well_5 : decode cX10_well 5 = .ok (.aload_n 0, 1) := by decide +kernel
theorem dX10_well_6 : decode cX10_well 6 = .ok (.getfield 187, 3) := by decide +kernel
theorem dX10_well_9 : decode cX10_well 9 = .ok (.if_icmp .ge 28, 3) := by decide +kernel
theorem dX10_well_12 : decode cX10_well 12 = .ok (.iload_n 1, 1) := by decide +kernel
theorem dX10_well_13 : decode cX10_well 13 = .ok (.aload_n 0, 1) := by decide +kernel
theorem dX10_well_14 : decode cX10_well 14 = .ok (.getfield 31, 3) := by decide +kernel
theorem dX10_well_17 : decode cX10_well 17 = .ok (.iload_n 2, 1) := by decide +kernel
theorem dX10_well_18 : decode cX10_well 18 = .ok (.iaload, 1) := by decide +kernel
theorem dX10_well_19 : decode cX10_well 19 = .ok (.ifCond .ne 9, 3) := by decide +kernel
theorem dX10_well_22 : decode cX10_well 22 = .ok (.iconst 1, 1) := by decide +kernel
theorem dX10_well_23 : decode cX10_well 23 = .ok (.iload_n 2, 1) := by decide +kernel
theorem dX10_well_24 : decode cX10_well 24 = .ok (.ishl, 1) := by decide +kernel
theorem dX10_well_25 : decode cX10_well 25 = .ok (.goto 4, 3) := by decide +kernel
theorem dX10_well_28 : decode cX10_well 28 = .ok (.iconst 0, 1) := by decide +kernel
theorem dX10_well_29 : decode cX10_well 29 = .ok (.ior, 1) := by decide +kernel
theorem dX10_well_30 : decode cX10_well 30 = .ok (.istore_n 1, 1) := by decide +kernel
theorem dX10_well_31 : decode cX10_well 31 = .ok (.iinc 2 1, 3) := by decide +kernel
theorem dX10_well_34 : decode cX10_well 34 = .ok (.goto (-30), 3) := by decide +kernel
theorem dX10_well_37 : decode cX10_well 37 = .ok (.iload_n 1, 1) := by decide +kernel
theorem dX10_well_38 : decode cX10_well 38 = .ok (.ireturn, 1) := by decide +kernel
theorem dX10_size_0 : decode cX10_size 0 = .ok (.iconst 0, 1) := by decide +kernel
theorem dX10_size_1 : decode cX10_size 1 = .ok (.istore_n 1, 1) := by decide +kernel
theorem dX10_size_2 : decode cX10_size 2 = .ok (.iload_n 0, 1) := by decide +kernel
theorem dX10_size_3 : decode cX10_size 3 = .ok (.istore_n 2, 1) := by decide +kernel
theorem dX10_size_4 : decode cX10_size 4 = .ok (.iload_n 2, 1) := by decide +kernel
theorem dX10_size_5 : decode cX10_size 5 = .ok (.ifCond .eq 15, 3) := by decide +kernel
theorem dX10_size_8 : decode cX10_size 8 = .ok (.iinc 1 1, 3) := by decide +kernel
theorem dX10_size_11 : decode cX10_size 11 = .ok (.iload_n 2, 1) := by decide +kernel
theorem dX10_size_12 : decode cX10_size 12 = .ok (.iload_n 2, 1) := by decide +kernel
theorem dX10_size_13 : decode cX10_size 13 = .ok (.iconst 1, 1) := by decide +kernel
theorem dX10_size_14 : decode cX10_size 14 = .ok (.isub, 1) := by decide +kernel
theorem dX10_size_15 : decode cX10_size 15 = .ok (.iand, 1) := by decide +kernel
theorem dX10_size_16 : decode cX10_size 16 = .ok (.istore_n 2, 1) := by decide +kernel
theorem dX10_size_17 : decode cX10_size 17 = .ok (.goto (-13), 3) := by decide +kernel
theorem dX10_size_20 : decode cX10_size 20 = .ok (.iload_n 1, 1) := by decide +kernel
theorem dX10_size_21 : decode cX10_size 21 = .ok (.ireturn, 1) := by decide +kernel
theorem dX10_sumOf_0 : decode cX10_sumOf 0 = .ok (.iconst 0, 1) := by decide +kernel
theorem dX10_sumOf_1 : decode cX10_sumOf 1 = .ok (.istore_n 1, 1) := by decide +kernel
theorem dX10_sumOf_2 : decode cX10_sumOf 2 = .ok (.aload_n 0, 1) := by decide +kernel
theorem dX10_sumOf_3 : decode cX10_sumOf 3 = .ok (.invokevirtual 224, 3) := by decide +kernel
theorem dX10_sumOf_6 : decode cX10_sumOf 6 = .ok (.iconst 0, 1) := by decide +kernel
theorem dX10_sumOf_7 : decode cX10_sumOf 7 = .ok (.istore_n 2, 1) := by decide +kernel
theorem dX10_sumOf_8 : decode cX10_sumOf 8 = .ok (.iload_n 2, 1) := by decide +kernel
theorem dX10_sumOf_9 : decode cX10_sumOf 9 = .ok (.aload_n 0, 1) := by decide +kernel
theorem dX10_sumOf_10 : decode cX10_sumOf 10 = .ok (.getfield 195, 3) := by decide +kernel
theorem dX10_sumOf_13 : decode cX10_sumOf 13 = .ok (.if_icmp .ge 43, 3) := by decide +kernel
theorem dX10_sumOf_16 : decode cX10_sumOf 16 = .ok (.aload_n 0, 1) := by decide +kernel
theorem dX10_sumOf_17 : decode cX10_sumOf 17 = .ok (.aload_n 0, 1) := by decide +kernel
theorem dX10_sumOf_18 : decode cX10_sumOf 18 = .ok (.getfield 55, 3) := by decide +kernel
theorem dX10_sumOf_21 : decode cX10_sumOf 21 = .ok (.aload_n 0, 1) := by decide +kernel
theorem dX10_sumOf_22 : decode cX10_sumOf 22 = .ok (.getfield 58, 3) := by decide +kernel
theorem dX10_sumOf_25 : decode cX10_sumOf 25 = .ok (.iload_n 2, 1) := by decide +kernel
theorem dX10_sumOf_26 : decode cX10_sumOf 26 = .ok (.iaload, 1) := by decide +kernel
theorem dX10_sumOf_27 : decode cX10_sumOf 27 = .ok (.iaload, 1) := by decide +kernel
theorem dX10_sumOf_28 : decode cX10_sumOf 28 = .ok (.aload_n 0, 1) := by decide +kernel
theorem dX10_sumOf_29 : decode cX10_sumOf 29 = .ok (.getfield 58, 3) := by decide +kernel
theorem dX10_sumOf_32 : decode cX10_sumOf 32 = .ok (.iload_n 2, 1) := by decide +kernel
theorem dX10_sumOf_33 : decode cX10_sumOf 33 = .ok (.iaload, 1) := by decide +kernel
theorem dX10_sumOf_34 : decode cX10_sumOf 34 = .ok (.invokevirtual 227, 3) := by decide +kernel
theorem dX10_sumOf_37 : decode cX10_sumOf 37 = .ok (.iload_n 1, 1) := by decide +kernel
theorem dX10_sumOf_38 : decode cX10_sumOf 38 = .ok (.aload_n 0, 1) := by decide +kernel
theorem dX10_sumOf_39 : decode cX10_sumOf 39 = .ok (.aload_n 0, 1) := by decide +kernel
theorem dX10_sumOf_40 : decode cX10_sumOf 40 = .ok (.getfield 58, 3) := by decide +kernel
theorem dX10_sumOf_43 : decode cX10_sumOf 43 = .ok (.iload_n 2, 1) := by decide +kernel
theorem dX10_sumOf_44 : decode cX10_sumOf 44 = .ok (.iaload, 1) := by decide +kernel
theorem dX10_sumOf_45 : decode cX10_sumOf 45 = .ok (.invokevirtual 231, 3) := by decide +kernel
theorem dX10_sumOf_48 : decode cX10_sumOf 48 = .ok (.iadd, 1) := by decide +kernel
theorem dX10_sumOf_49 : decode cX10_sumOf 49 = .ok (.istore_n 1, 1) := by decide +kernel
theorem dX10_sumOf_50 : decode cX10_sumOf 50 = .ok (.iinc 2 1, 3) := by decide +kernel
theorem dX10_sumOf_53 : decode cX10_sumOf 53 = .ok (.goto (-45), 3) := by decide +kernel
theorem dX10_sumOf_56 : decode cX10_sumOf 56 = .ok (.iload_n 1, 1) := by decide +kernel
theorem dX10_sumOf_57 : decode cX10_sumOf 57 = .ok (.ireturn, 1) := by decide +kernel
theorem dX10_rows_0 : decode cX10_rows 0 = .ok (.iconst 1, 1) := by decide +kernel
theorem dX10_rows_1 : decode cX10_rows 1 = .ok (.aload_n 0, 1) := by decide +kernel
theorem dX10_rows_2 : decode cX10_rows 2 = .ok (.getfield 195, 3) := by decide +kernel
theorem dX10_rows_5 : decode cX10_rows 5 = .ok (.ishl, 1) := by decide +kernel
theorem dX10_rows_6 : decode cX10_rows 6 = .ok (.iconst 1, 1) := by decide +kernel
theorem dX10_rows_7 : decode cX10_rows 7 = .ok (.isub, 1) := by decide +kernel
theorem dX10_rows_8 : decode cX10_rows 8 = .ok (.istore_n 2, 1) := by decide +kernel
theorem dX10_rows_9 : decode cX10_rows 9 = .ok (.iload_n 1, 1) := by decide +kernel
theorem dX10_rows_10 : decode cX10_rows 10 = .ok (.istore_n 3, 1) := by decide +kernel
theorem dX10_rows_11 : decode cX10_rows 11 = .ok (.iconst 0, 1) := by decide +kernel
theorem dX10_rows_12 : decode cX10_rows 12 = .ok (.istore 4, 2) := by decide +kernel
theorem dX10_rows_14 : decode cX10_rows 14 = .ok (.iload 4, 2) := by decide +kernel
theorem dX10_rows_16 : decode cX10_rows 16 = .ok (.aload_n 0, 1) := by decide +kernel
theorem dX10_rows_17 : decode cX10_rows 17 = .ok (.getfield 195, 3) := by decide +kernel
theorem dX10_rows_20 : decode cX10_rows 20 = .ok (.if_icmp .ge 103, 3) := by decide +kernel
theorem dX10_rows_23 : decode cX10_rows 23 = .ok (.iconst 1, 1) := by decide +kernel
theorem dX10_rows_24 : decode cX10_rows 24 = .ok (.istore 5, 2) := by decide +kernel
theorem dX10_rows_26 : decode cX10_rows 26 = .ok (.iconst 2, 1) := by decide +kernel
theorem dX10_rows_27 : decode cX10_rows 27 = .ok (.istore 6, 2) := by decide +kernel
theorem dX10_rows_29 : decode cX10_rows 29 = .ok (.iload 6, 2) := by decide +kernel
theorem dX10_rows_31 : decode cX10_rows 31 = .ok (.aload_n 0, 1) := by decide +kernel
theorem dX10_rows_32 : decode cX10_rows 32 = .ok (.getfield 195, 3) := by decide +kernel
theorem dX10_rows_35 : decode cX10_rows 35 = .ok (.iload 4, 2) := by decide +kernel
theorem dX10_rows_37 : decode cX10_rows 37 = .ok (.isub, 1) := by decide +kernel
theorem dX10_rows_38 : decode cX10_rows 38 = .ok (.if_icmp .ge 16, 3) := by decide +kernel
theorem dX10_rows_41 : decode cX10_rows 41 = .ok (.iload 5, 2) := by decide +kernel
theorem dX10_rows_43 : decode cX10_rows 43 = .ok (.iload 6, 2) := by decide +kernel
theorem dX10_rows_45 : decode cX10_rows 45 = .ok (.imul, 1) := by decide +kernel
theorem dX10_rows_46 : decode cX10_rows 46 = .ok (.istore 5, 2) := by decide +kernel
theorem dX10_rows_48 : decode cX10_rows 48 = .ok (.iinc 6 1, 3) := by decide +kernel
theorem dX10_rows_51 : decode cX10_rows 51 = .ok (.goto (-22), 3) := by decide +kernel
theorem dX10_rows_54 : decode cX10_rows 54 = .ok (.iload_n 3, 1) := by decide +kernel
theorem dX10_rows_55 : decode cX10_rows 55 = .ok (.iload 5, 2) := by decide +kernel
theorem dX10_rows_57 : decode cX10_rows 57 = .ok (.idiv, 1) := by decide +kernel
theorem dX10_rows_58 : decode cX10_rows 58 = .ok (.istore 6, 2) := by decide +kernel
theorem dX10_rows_60 : decode cX10_rows 60 = .ok (.iload_n 3, 1) := by decide +kernel
theorem dX10_rows_61 : decode cX10_rows 61 = .ok (.iload 5, 2) := by decide +kernel
theorem dX10_rows_63 : decode cX10_rows 63 = .ok (.irem, 1) := by decide +kernel
theorem dX10_rows_64 : decode cX10_rows 64 = .ok (.istore_n 3, 1) := by decide +kernel
theorem dX10_rows_65 : decode cX10_rows 65 = .ok (.iconst 0, 1) := by decide +kernel
theorem dX10_rows_66 : decode cX10_rows 66 = .ok (.istore 7, 2) := by decide +kernel
theorem dX10_rows_68 : decode cX10_rows 68 = .ok (.iload_n 2, 1) := by decide +kernel
theorem dX10_rows_69 : decode cX10_rows 69 = .ok (.iload 7, 2) := by decide +kernel
theorem dX10_rows_71 : decode cX10_rows 71 = .ok (.ishr, 1) := by decide +kernel
theorem dX10_rows_72 : decode cX10_rows 72 = .ok (.iconst 1, 1) := by decide +kernel
theorem dX10_rows_73 : decode cX10_rows 73 = .ok (.iand, 1) := by decide +kernel
theorem dX10_rows_74 : decode cX10_rows 74 = .ok (.ifCond .eq 8, 3) := by decide +kernel
theorem dX10_rows_77 : decode cX10_rows 77 = .ok (.iload 6, 2) := by decide +kernel
theorem dX10_rows_79 : decode cX10_rows 79 = .ok (.ifCond .le 20, 3) := by decide +kernel
theorem dX10_rows_82 : decode cX10_rows 82 = .ok (.iload 6, 2) := by decide +kernel
theorem dX10_rows_84 : decode cX10_rows 84 = .ok (.iload_n 2, 1) := by decide +kernel
theorem dX10_rows_85 : decode cX10_rows 85 = .ok (.iload 7, 2) := by decide +kernel
theorem dX10_rows_87 : decode cX10_rows 87 = .ok (.ishr, 1) := by decide +kernel
theorem dX10_rows_88 : decode cX10_rows 88 = .ok (.iconst 1, 1) := by decide +kernel
theorem dX10_rows_89 : decode cX10_rows 89 = .ok (.iand, 1) := by decide +kernel
theorem dX10_rows_90 : decode cX10_rows 90 = .ok (.isub, 1) := by decide +kernel
theorem dX10_rows_91 : decode cX10_rows 91 = .ok (.istore 6, 2) := by decide +kernel
theorem dX10_rows_93 : decode cX10_rows 93 = .ok (.iinc 7 1, 3) := by decide +kernel
theorem dX10_rows_96 : decode cX10_rows 96 = .ok (.goto (-28), 3) := by decide +kernel
theorem dX10_rows_99 : decode cX10_rows 99 = .ok (.aload_n 0, 1) := by decide +kernel
theorem dX10_rows_100 : decode cX10_rows 100 = .ok (.getfield 58, 3) := by decide +kernel
theorem dX10_rows_103 : decode cX10_rows 103 = .ok (.iload 4, 2) := by decide +kernel
theorem dX10_rows_105 : decode cX10_rows 105 = .ok (.iload 7, 2) := by decide +kernel
theorem dX10_rows_107 : decode cX10_rows 107 = .ok (.iastore, 1) := by decide +kernel
theorem dX10_rows_108 : decode cX10_rows 108 = .ok (.iload_n 2, 1) := by decide +kernel
theorem dX10_rows_109 : decode cX10_rows 109 = .ok (.iconst 1, 1) := by decide +kernel
theorem dX10_rows_110 : decode cX10_rows 110 = .ok (.iload 7, 2) := by decide +kernel
theorem dX10_rows_112 : decode cX10_rows 112 = .ok (.ishl, 1) := by decide +kernel
theorem dX10_rows_113 : decode cX10_rows 113 = .ok (.iconst (-1), 1) := by decide +kernel
theorem dX10_rows_114 : decode cX10_rows 114 = .ok (.ixor, 1) := by decide +kernel
theorem dX10_rows_115 : decode cX10_rows 115 = .ok (.iand, 1) := by decide +kernel
theorem dX10_rows_116 : decode cX10_rows 116 = .ok (.istore_n 2, 1) := by decide +kernel
theorem dX10_rows_117 : decode cX10_rows 117 = .ok (.iinc 4 1, 3) := by decide +kernel
theorem dX10_rows_120 : decode cX10_rows 120 = .ok (.goto (-106), 3) := by decide +kernel
theorem dX10_rows_123 : decode cX10_rows 123 = .ok (.return_, 1) := by decide +kernel
theorem dX10_best_0 : decode cX10_best 0 = .ok (.aload_n 0, 1) := by decide +kernel
theorem dX10_best_1 : decode cX10_best 1 = .ok (.invokevirtual 180, 3) := by decide +kernel
theorem dX10_best_4 : decode cX10_best 4 = .ok (.iconst 1, 1) := by decide +kernel
theorem dX10_best_5 : decode cX10_best 5 = .ok (.istore_n 2, 1) := by decide +kernel
theorem dX10_best_6 : decode cX10_best 6 = .ok (.iconst 1, 1) := by decide +kernel
theorem dX10_best_7 : decode cX10_best 7 = .ok (.istore_n 3, 1) := by decide +kernel
theorem dX10_best_8 : decode cX10_best 8 = .ok (.iconst 1, 1) := by decide +kernel
theorem dX10_best_9 : decode cX10_best 9 = .ok (.istore 4, 2) := by decide +kernel
theorem dX10_best_11 : decode cX10_best 11 = .ok (.iload 4, 2) := by decide +kernel
theorem dX10_best_13 : decode cX10_best 13 = .ok (.aload_n 0, 1) := by decide +kernel
theorem dX10_best_14 : decode cX10_best 14 = .ok (.getfield 195, 3) := by decide +kernel
theorem dX10_best_17 : decode cX10_best 17 = .ok (.if_icmp .gt 21, 3) := by decide +kernel
theorem dX10_best_20 : decode cX10_best 20 = .ok (.iload_n 2, 1) := by decide +kernel
theorem dX10_best_21 : decode cX10_best 21 = .ok (.iload 4, 2) := by decide +kernel
theorem dX10_best_23 : decode cX10_best 23 = .ok (.imul, 1) := by decide +kernel
theorem dX10_best_24 : decode cX10_best 24 = .ok (.istore_n 2, 1) := by decide +kernel
theorem dX10_best_25 : decode cX10_best 25 = .ok (.iload_n 3, 1) := by decide +kernel
theorem dX10_best_26 : decode cX10_best 26 = .ok (.aload_n 0, 1) := by decide +kernel
theorem dX10_best_27 : decode cX10_best 27 = .ok (.getfield 187, 3) := by decide +kernel
theorem dX10_best_30 : decode cX10_best 30 = .ok (.imul, 1) := by decide +kernel
theorem dX10_best_31 : decode cX10_best 31 = .ok (.istore_n 3, 1) := by decide +kernel
theorem dX10_best_32 : decode cX10_best 32 = .ok (.iinc 4 1, 3) := by decide +kernel
theorem dX10_best_35 : decode cX10_best 35 = .ok (.goto (-24), 3) := by decide +kernel
theorem dX10_best_38 : decode cX10_best 38 = .ok (.ldc 234, 2) := by decide +kernel
theorem dX10_best_40 : decode cX10_best 40 = .ok (.istore 4, 2) := by decide +kernel
theorem dX10_best_42 : decode cX10_best 42 = .ok (.iconst 0, 1) := by decide +kernel
theorem dX10_best_43 : decode cX10_best 43 = .ok (.istore 5, 2) := by decide +kernel
theorem dX10_best_45 : decode cX10_best 45 = .ok (.iload 5, 2) := by decide +kernel
theorem dX10_best_47 : decode cX10_best 47 = .ok (.iload_n 3, 1) := by decide +kernel
theorem dX10_best_48 : decode cX10_best 48 = .ok (.if_icmp .ge 132, 3) := by decide +kernel
theorem dX10_best_51 : decode cX10_best 51 = .ok (.iload 5, 2) := by decide +kernel
theorem dX10_best_53 : decode cX10_best 53 = .ok (.istore 6, 2) := by decide +kernel
theorem dX10_best_55 : decode cX10_best 55 = .ok (.iconst 1, 1) := by decide +kernel
theorem dX10_best_56 : decode cX10_best 56 = .ok (.istore 7, 2) := by decide +kernel
theorem dX10_best_58 : decode cX10_best 58 = .ok (.aload_n 0, 1) := by decide +kernel
theorem dX10_best_59 : decode cX10_best 59 = .ok (.getfield 195, 3) := by decide +kernel
theorem dX10_best_62 : decode cX10_best 62 = .ok (.iconst 1, 1) := by decide +kernel
theorem dX10_best_63 : decode cX10_best 63 = .ok (.isub, 1) := by decide +kernel
theorem dX10_best_64 : decode cX10_best 64 = .ok (.istore 8, 2) := by decide +kernel
theorem dX10_best_66 : decode cX10_best 66 = .ok (.iload 8, 2) := by decide +kernel
theorem dX10_best_68 : decode cX10_best 68 = .ok (.ifCond .lt 59, 3) := by decide +kernel
theorem dX10_best_71 : decode cX10_best 71 = .ok (.aload_n 0, 1) := by decide +kernel
theorem dX10_best_72 : decode cX10_best 72 = .ok (.getfield 55, 3) := by decide +kernel
theorem dX10_best_75 : decode cX10_best 75 = .ok (.iload 8, 2) := by decide +kernel
theorem dX10_best_77 : decode cX10_best 77 = .ok (.iload 6, 2) := by decide +kernel
theorem dX10_best_79 : decode cX10_best 79 = .ok (.aload_n 0, 1) := by decide +kernel
theorem dX10_best_80 : decode cX10_best 80 = .ok (.getfield 187, 3) := by decide +kernel
theorem dX10_best_83 : decode cX10_best 83 = .ok (.irem, 1) := by decide +kernel
theorem dX10_best_84 : decode cX10_best 84 = .ok (.iastore, 1) := by decide +kernel
theorem dX10_best_85 : decode cX10_best 85 = .ok (.iload 6, 2) := by decide +kernel
theorem dX10_best_87 : decode cX10_best 87 = .ok (.aload_n 0, 1) := by decide +kernel
theorem dX10_best_88 : decode cX10_best 88 = .ok (.getfield 187, 3) := by decide +kernel
theorem dX10_best_91 : decode cX10_best 91 = .ok (.idiv, 1) := by decide +kernel
theorem dX10_best_92 : decode cX10_best 92 = .ok (.istore 6, 2) := by decide +kernel
theorem dX10_best_94 : decode cX10_best 94 = .ok (.iload 7, 2) := by decide +kernel
theorem dX10_best_96 : decode cX10_best 96 = .ok (.ifCond .eq 22, 3) := by decide +kernel
theorem dX10_best_99 : decode cX10_best 99 = .ok (.iload_n 1, 1) := by decide +kernel
theorem dX10_best_100 : decode cX10_best 100 = .ok (.aload_n 0, 1) := by decide +kernel
theorem dX10_best_101 : decode cX10_best 101 = .ok (.getfield 55, 3) := by decide +kernel
theorem dX10_best_104 : decode cX10_best 104 = .ok (.iload 8, 2) := by decide +kernel
theorem dX10_best_106 : decode cX10_best 106 = .ok (.iaload, 1) := by decide +kernel
theorem dX10_best_107 : decode cX10_best 107 = .ok (.ishr, 1) := by decide +kernel
theorem dX10_best_108 : decode cX10_best 108 = .ok (.iconst 1, 1) := by decide +kernel
theorem dX10_best_109 : decode cX10_best 109 = .ok (.iand, 1) := by decide +kernel
theorem dX10_best_110 : decode cX10_best 110 = .ok (.iconst 1, 1) := by decide +kernel
theorem dX10_best_111 : decode cX10_best 111 = .ok (.if_icmp .ne 7, 3) := by decide +kernel
theorem dX10_best_114 : decode cX10_best 114 = .ok (.iconst 1, 1) := by decide +kernel
theorem dX10_best_115 : decode cX10_best 115 = .ok (.goto 4, 3) := by decide +kernel
theorem dX10_best_118 : decode cX10_best 118 = .ok (.iconst 0, 1) := by decide +kernel
theorem dX10_best_119 : decode cX10_best 119 = .ok (.istore 7, 2) := by decide +kernel
theorem dX10_best_121 : decode cX10_best 121 = .ok (.iinc 8 (-1), 3) := by decide +kernel
theorem dX10_best_124 : decode cX10_best 124 = .ok (.goto (-58), 3) := by decide +kernel
theorem dX10_best_127 : decode cX10_best 127 = .ok (.iconst 0, 1) := by decide +kernel
theorem dX10_best_128 : decode cX10_best 128 = .ok (.istore 8, 2) := by decide +kernel
theorem dX10_best_130 : decode cX10_best 130 = .ok (.iload 8, 2) := by decide +kernel
theorem dX10_best_132 : decode cX10_best 132 = .ok (.iload_n 2, 1) := by decide +kernel
theorem dX10_best_133 : decode cX10_best 133 = .ok (.if_icmp .ge 41, 3) := by decide +kernel
theorem dX10_best_136 : decode cX10_best 136 = .ok (.iload 7, 2) := by decide +kernel
theorem dX10_best_138 : decode cX10_best 138 = .ok (.ifCond .eq 36, 3) := by decide +kernel
theorem dX10_best_141 : decode cX10_best 141 = .ok (.aload_n 0, 1) := by decide +kernel
theorem dX10_best_142 : decode cX10_best 142 = .ok (.iload 8, 2) := by decide +kernel
theorem dX10_best_144 : decode cX10_best 144 = .ok (.invokevirtual 235, 3) := by decide +kernel
theorem dX10_best_147 : decode cX10_best 147 = .ok (.aload_n 0, 1) := by decide +kernel
theorem dX10_best_148 : decode cX10_best 148 = .ok (.invokevirtual 239, 3) := by decide +kernel
theorem dX10_best_151 : decode cX10_best 151 = .ok (.istore 9, 2) := by decide +kernel
theorem dX10_best_153 : decode cX10_best 153 = .ok (.iload 9, 2) := by decide +kernel
theorem dX10_best_155 : decode cX10_best 155 = .ok (.iload 4, 2) := by decide +kernel
theorem dX10_best_157 : decode cX10_best 157 = .ok (.if_icmp .ge 11, 3) := by decide +kernel
theorem dX10_best_160 : decode cX10_best 160 = .ok (.iload 9, 2) := by decide +kernel
theorem dX10_best_162 : decode cX10_best 162 = .ok (.istore 4, 2) := by decide +kernel
theorem dX10_best_164 : decode cX10_best 164 = .ok (.aload_n 0, 1) := by decide +kernel
theorem dX10_best_165 : decode cX10_best 165 = .ok (.invokevirtual 242, 3) := by decide +kernel
theorem dX10_best_168 : decode cX10_best 168 = .ok (.iinc 8 1, 3) := by decide +kernel
theorem dX10_best_171 : decode cX10_best 171 = .ok (.goto (-41), 3) := by decide +kernel
theorem dX10_best_174 : decode cX10_best 174 = .ok (.iinc 5 1, 3) := by decide +kernel
theorem dX10_best_177 : decode cX10_best 177 = .ok (.goto (-132), 3) := by decide +kernel
theorem dX10_best_180 : decode cX10_best 180 = .ok (.iload 4, 2) := by decide +kernel
theorem dX10_best_182 : decode cX10_best 182 = .ok (.ireturn, 1) := by decide +kernel
theorem dX10_keeps_0 : decode cX10_keeps 0 = .ok (.iconst 0, 1) := by decide +kernel
theorem dX10_keeps_1 : decode cX10_keeps 1 = .ok (.istore_n 1, 1) := by decide +kernel
theorem dX10_keeps_2 : decode cX10_keeps 2 = .ok (.iload_n 1, 1) := by decide +kernel
theorem dX10_keeps_3 : decode cX10_keeps 3 = .ok (.iconst 5, 1) := by decide +kernel
theorem dX10_keeps_4 : decode cX10_keeps 4 = .ok (.if_icmp .ge 33, 3) := by decide +kernel
theorem dX10_keeps_7 : decode cX10_keeps 7 = .ok (.aload_n 0, 1) := by decide +kernel
theorem dX10_keeps_8 : decode cX10_keeps 8 = .ok (.getfield 49, 3) := by decide +kernel
theorem dX10_keeps_11 : decode cX10_keeps 11 = .ok (.iload_n 1, 1) := by decide +kernel
theorem dX10_keeps_12 : decode cX10_keeps 12 = .ok (.aload_n 0, 1) := by decide +kernel
theorem dX10_keeps_13 : decode cX10_keeps 13 = .ok (.getfield 55, 3) := by decide +kernel
theorem dX10_keeps_16 : decode cX10_keeps 16 = .ok (.iload_n 1, 1) := by decide +kernel
theorem dX10_keeps_17 : decode cX10_keeps 17 = .ok (.iaload, 1) := by decide +kernel
theorem dX10_keeps_18 : decode cX10_keeps 18 = .ok (.iastore, 1) := by decide +kernel
theorem dX10_keeps_19 : decode cX10_keeps 19 = .ok (.aload_n 0, 1) := by decide +kernel
theorem dX10_keeps_20 : decode cX10_keeps 20 = .ok (.getfield 52, 3) := by decide +kernel
theorem dX10_keeps_23 : decode cX10_keeps 23 = .ok (.iload_n 1, 1) := by decide +kernel
theorem dX10_keeps_24 : decode cX10_keeps 24 = .ok (.aload_n 0, 1) := by decide +kernel
theorem dX10_keeps_25 : decode cX10_keeps 25 = .ok (.getfield 58, 3) := by decide +kernel
theorem dX10_keeps_28 : decode cX10_keeps 28 = .ok (.iload_n 1, 1) := by decide +kernel
theorem dX10_keeps_29 : decode cX10_keeps 29 = .ok (.iaload, 1) := by decide +kernel
theorem dX10_keeps_30 : decode cX10_keeps 30 = .ok (.iastore, 1) := by decide +kernel
theorem dX10_keeps_31 : decode cX10_keeps 31 = .ok (.iinc 1 1, 3) := by decide +kernel
theorem dX10_keeps_34 : decode cX10_keeps 34 = .ok (.goto (-32), 3) := by decide +kernel
theorem dX10_keeps_37 : decode cX10_keeps 37 = .ok (.return_, 1) := by decide +kernel
theorem dX10_ruled_0 : decode cX10_ruled 0 = .ok (.aload_n 0, 1) := by decide +kernel
theorem dX10_ruled_1 : decode cX10_ruled 1 = .ok (.invokevirtual 180, 3) := by decide +kernel
theorem dX10_ruled_4 : decode cX10_ruled 4 = .ok (.aload_n 0, 1) := by decide +kernel
theorem dX10_ruled_5 : decode cX10_ruled 5 = .ok (.invokevirtual 224, 3) := by decide +kernel
theorem dX10_ruled_8 : decode cX10_ruled 8 = .ok (.iconst 0, 1) := by decide +kernel
theorem dX10_ruled_9 : decode cX10_ruled 9 = .ok (.istore_n 1, 1) := by decide +kernel
theorem dX10_ruled_10 : decode cX10_ruled 10 = .ok (.iconst 0, 1) := by decide +kernel
theorem dX10_ruled_11 : decode cX10_ruled 11 = .ok (.istore_n 2, 1) := by decide +kernel
theorem dX10_ruled_12 : decode cX10_ruled 12 = .ok (.iconst 0, 1) := by decide +kernel
theorem dX10_ruled_13 : decode cX10_ruled 13 = .ok (.istore_n 3, 1) := by decide +kernel
theorem dX10_ruled_14 : decode cX10_ruled 14 = .ok (.iload_n 3, 1) := by decide +kernel
theorem dX10_ruled_15 : decode cX10_ruled 15 = .ok (.aload_n 0, 1) := by decide +kernel
theorem dX10_ruled_16 : decode cX10_ruled 16 = .ok (.getfield 195, 3) := by decide +kernel
theorem dX10_ruled_19 : decode cX10_ruled 19 = .ok (.if_icmp .ge 283, 3) := by decide +kernel
theorem dX10_ruled_22 : decode cX10_ruled 22 = .ok (.bipush (-4), 2) := by decide +kernel
theorem dX10_ruled_24 : decode cX10_ruled 24 = .ok (.istore 4, 2) := by decide +kernel
theorem dX10_ruled_26 : decode cX10_ruled 26 = .ok (.aload_n 0, 1) := by decide +kernel
theorem dX10_ruled_27 : decode cX10_ruled 27 = .ok (.getfield 195, 3) := by decide +kernel
theorem dX10_ruled_30 : decode cX10_ruled 30 = .ok (.iconst 1, 1) := by decide +kernel
theorem dX10_ruled_31 : decode cX10_ruled 31 = .ok (.isub, 1) := by decide +kernel
theorem dX10_ruled_32 : decode cX10_ruled 32 = .ok (.istore 5, 2) := by decide +kernel
theorem dX10_ruled_34 : decode cX10_ruled 34 = .ok (.iload 5, 2) := by decide +kernel
theorem dX10_ruled_36 : decode cX10_ruled 36 = .ok (.ifCond .lt 119, 3) := by decide +kernel
theorem dX10_ruled_39 : decode cX10_ruled 39 = .ok (.iload 4, 2) := by decide +kernel
theorem dX10_ruled_41 : decode cX10_ruled 41 = .ok (.ifCond .lt 78, 3) := by decide +kernel
theorem dX10_ruled_44 : decode cX10_ruled 44 = .ok (.aload_n 0, 1) := by decide +kernel
theorem dX10_ruled_45 : decode cX10_ruled 45 = .ok (.getfield 34, 3) := by decide +kernel
theorem dX10_ruled_48 : decode cX10_ruled 48 = .ok (.iconst 5, 1) := by decide +kernel
theorem dX10_ruled_49 : decode cX10_ruled 49 = .ok (.iload 5, 2) := by decide +kernel
theorem dX10_ruled_51 : decode cX10_ruled 51 = .ok (.imul, 1) := by decide +kernel
theorem dX10_ruled_52 : decode cX10_ruled 52 = .ok (.iconst 3, 1) := by decide +kernel
theorem dX10_ruled_53 : decode cX10_ruled 53 = .ok (.iadd, 1) := by decide +kernel
theorem dX10_ruled_54 : decode cX10_ruled 54 = .ok (.iaload, 1) := by decide +kernel
theorem dX10_ruled_55 : decode cX10_ruled 55 = .ok (.aload_n 0, 1) := by decide +kernel
theorem dX10_ruled_56 : decode cX10_ruled 56 = .ok (.getfield 34, 3) := by decide +kernel
theorem dX10_ruled_59 : decode cX10_ruled 59 = .ok (.iconst 5, 1) := by decide +kernel
theorem dX10_ruled_60 : decode cX10_ruled 60 = .ok (.iload 4, 2) := by decide +kernel
theorem dX10_ruled_62 : decode cX10_ruled 62 = .ok (.imul, 1) := by decide +kernel
theorem dX10_ruled_63 : decode cX10_ruled 63 = .ok (.iconst 3, 1) := by decide +kernel
theorem dX10_ruled_64 : decode cX10_ruled 64 = .ok (.iadd, 1) := by decide +kernel
theorem dX10_ruled_65 : decode cX10_ruled 65 = .ok (.iaload, 1) := by decide +kernel
theorem dX10_ruled_66 : decode cX10_ruled 66 = .ok (.if_icmp .lt 53, 3) := by decide +kernel
theorem dX10_ruled_69 : decode cX10_ruled 69 = .ok (.aload_n 0, 1) := by decide +kernel
theorem dX10_ruled_70 : decode cX10_ruled 70 = .ok (.getfield 34, 3) := by decide +kernel
theorem dX10_ruled_73 : decode cX10_ruled 73 = .ok (.iconst 5, 1) := by decide +kernel
theorem dX10_ruled_74 : decode cX10_ruled 74 = .ok (.iload 5, 2) := by decide +kernel
theorem dX10_ruled_76 : decode cX10_ruled 76 = .ok (.imul, 1) := by decide +kernel
theorem dX10_ruled_77 : decode cX10_ruled 77 = .ok (.iconst 3, 1) := by decide +kernel
theorem dX10_ruled_78 : decode cX10_ruled 78 = .ok (.iadd, 1) := by decide +kernel
theorem dX10_ruled_79 : decode cX10_ruled 79 = .ok (.iaload, 1) := by decide +kernel
theorem dX10_ruled_80 : decode cX10_ruled 80 = .ok (.aload_n 0, 1) := by decide +kernel
theorem dX10_ruled_81 : decode cX10_ruled 81 = .ok (.getfield 34, 3) := by decide +kernel
theorem dX10_ruled_84 : decode cX10_ruled 84 = .ok (.iconst 5, 1) := by decide +kernel
theorem dX10_ruled_85 : decode cX10_ruled 85 = .ok (.iload 4, 2) := by decide +kernel
theorem dX10_ruled_87 : decode cX10_ruled 87 = .ok (.imul, 1) := by decide +kernel
theorem dX10_ruled_88 : decode cX10_ruled 88 = .ok (.iconst 3, 1) := by decide +kernel
theorem dX10_ruled_89 : decode cX10_ruled 89 = .ok (.iadd, 1) := by decide +kernel
theorem dX10_ruled_90 : decode cX10_ruled 90 = .ok (.iaload, 1) := by decide +kernel
theorem dX10_ruled_91 : decode cX10_ruled 91 = .ok (.if_icmp .ne 32, 3) := by decide +kernel
theorem dX10_ruled_94 : decode cX10_ruled 94 = .ok (.aload_n 0, 1) := by decide +kernel
theorem dX10_ruled_95 : decode cX10_ruled 95 = .ok (.getfield 34, 3) := by decide +kernel
theorem dX10_ruled_98 : decode cX10_ruled 98 = .ok (.iconst 5, 1) := by decide +kernel
theorem dX10_ruled_99 : decode cX10_ruled 99 = .ok (.iload 5, 2) := by decide +kernel
theorem dX10_ruled_101 : decode cX10_ruled 101 = .ok (.imul, 1) := by decide +kernel
theorem dX10_ruled_102 : decode cX10_ruled 102 = .ok (.iconst 2, 1) := by decide +kernel
theorem dX10_ruled_103 : decode cX10_ruled 103 = .ok (.iadd, 1) := by decide +kernel
theorem dX10_ruled_104 : decode cX10_ruled 104 = .ok (.iaload, 1) := by decide +kernel
theorem dX10_ruled_105 : decode cX10_ruled 105 = .ok (.aload_n 0, 1) := by decide +kernel
theorem dX10_ruled_106 : decode cX10_ruled 106 = .ok (.getfield 34, 3) := by decide +kernel
theorem dX10_ruled_109 : decode cX10_ruled 109 = .ok (.iconst 5, 1) := by decide +kernel
theorem dX10_ruled_110 : decode cX10_ruled 110 = .ok (.iload 4, 2) := by decide +kernel
theorem dX10_ruled_112 : decode cX10_ruled 112 = .ok (.imul, 1) := by decide +kernel
theorem dX10_ruled_113 : decode cX10_ruled 113 = .ok (.iconst 2, 1) := by decide +kernel
theorem dX10_ruled_114 : decode cX10_ruled 114 = .ok (.iadd, 1) := by decide +kernel
theorem dX10_ruled_115 : decode cX10_ruled 115 = .ok (.iaload, 1) := by decide +kernel
theorem dX10_ruled_116 : decode cX10_ruled 116 = .ok (.if_icmp .lt 7, 3) := by decide +kernel
theorem dX10_ruled_119 : decode cX10_ruled 119 = .ok (.iconst 1, 1) := by decide +kernel
theorem dX10_ruled_120 : decode cX10_ruled 120 = .ok (.goto 4, 3) := by decide +kernel
theorem dX10_ruled_123 : decode cX10_ruled 123 = .ok (.iconst 0, 1) := by decide +kernel
theorem dX10_ruled_124 : decode cX10_ruled 124 = .ok (.istore 6, 2) := by decide +kernel
theorem dX10_ruled_126 : decode cX10_ruled 126 = .ok (.iload_n 1, 1) := by decide +kernel
theorem dX10_ruled_127 : decode cX10_ruled 127 = .ok (.iload 5, 2) := by decide +kernel
theorem dX10_ruled_129 : decode cX10_ruled 129 = .ok (.ishr, 1) := by decide +kernel
theorem dX10_ruled_130 : decode cX10_ruled 130 = .ok (.iconst 1, 1) := by decide +kernel
theorem dX10_ruled_131 : decode cX10_ruled 131 = .ok (.iand, 1) := by decide +kernel
theorem dX10_ruled_132 : decode cX10_ruled 132 = .ok (.ifCond .ne 13, 3) := by decide +kernel
theorem dX10_ruled_135 : decode cX10_ruled 135 = .ok (.iload 6, 2) := by decide +kernel
theorem dX10_ruled_137 : decode cX10_ruled 137 = .ok (.ifCond .eq 8, 3) := by decide +kernel
theorem dX10_ruled_140 : decode cX10_ruled 140 = .ok (.iload 5, 2) := by decide +kernel
theorem dX10_ruled_142 : decode cX10_ruled 142 = .ok (.goto 5, 3) := by decide +kernel
theorem dX10_ruled_145 : decode cX10_ruled 145 = .ok (.iload 4, 2) := by decide +kernel
theorem dX10_ruled_147 : decode cX10_ruled 147 = .ok (.istore 4, 2) := by decide +kernel
theorem dX10_ruled_149 : decode cX10_ruled 149 = .ok (.iinc 5 (-1), 3) := by decide +kernel
theorem dX10_ruled_152 : decode cX10_ruled 152 = .ok (.goto (-118), 3) := by decide +kernel
theorem dX10_ruled_155 : decode cX10_ruled 155 = .ok (.iload_n 1, 1) := by decide +kernel
theorem dX10_ruled_156 : decode cX10_ruled 156 = .ok (.iconst 1, 1) := by decide +kernel
theorem dX10_ruled_157 : decode cX10_ruled 157 = .ok (.iload 4, 2) := by decide +kernel
theorem dX10_ruled_159 : decode cX10_ruled 159 = .ok (.ishl, 1) := by decide +kernel
theorem dX10_ruled_160 : decode cX10_ruled 160 = .ok (.ior, 1) := by decide +kernel
theorem dX10_ruled_161 : decode cX10_ruled 161 = .ok (.istore_n 1, 1) := by decide +kernel
theorem dX10_ruled_162 : decode cX10_ruled 162 = .ok (.bipush (-4), 2) := by decide +kernel
theorem dX10_ruled_164 : decode cX10_ruled 164 = .ok (.istore 5, 2) := by decide +kernel
theorem dX10_ruled_166 : decode cX10_ruled 166 = .ok (.sipush 1000, 3) := by decide +kernel
theorem dX10_ruled_169 : decode cX10_ruled 169 = .ok (.istore 6, 2) := by decide +kernel
theorem dX10_ruled_171 : decode cX10_ruled 171 = .ok (.iconst 0, 1) := by decide +kernel
theorem dX10_ruled_172 : decode cX10_ruled 172 = .ok (.istore 7, 2) := by decide +kernel
theorem dX10_ruled_174 : decode cX10_ruled 174 = .ok (.iload 7, 2) := by decide +kernel
theorem dX10_ruled_176 : decode cX10_ruled 176 = .ok (.aload_n 0, 1) := by decide +kernel
theorem dX10_ruled_177 : decode cX10_ruled 177 = .ok (.getfield 187, 3) := by decide +kernel
theorem dX10_ruled_180 : decode cX10_ruled 180 = .ok (.if_icmp .ge 82, 3) := by decide +kernel
theorem dX10_ruled_183 : decode cX10_ruled 183 = .ok (.aload_n 0, 1) := by decide +kernel
theorem dX10_ruled_184 : decode cX10_ruled 184 = .ok (.getfield 31, 3) := by decide +kernel
theorem dX10_ruled_187 : decode cX10_ruled 187 = .ok (.iload 7, 2) := by decide +kernel
theorem dX10_ruled_189 : decode cX10_ruled 189 = .ok (.iaload, 1) := by decide +kernel
theorem dX10_ruled_190 : decode cX10_ruled 190 = .ok (.iconst 1, 1) := by decide +kernel
theorem dX10_ruled_191 : decode cX10_ruled 191 = .ok (.if_icmp .ne 9, 3) := by decide +kernel
theorem dX10_ruled_194 : decode cX10_ruled 194 = .ok (.sipush 1000, 3) := by decide +kernel
theorem dX10_ruled_197 : decode cX10_ruled 197 = .ok (.goto 11, 3) := by decide +kernel
theorem dX10_ruled_200 : decode cX10_ruled 200 = .ok (.aload_n 0, 1) := by decide +kernel
theorem dX10_ruled_201 : decode cX10_ruled 201 = .ok (.iload 7, 2) := by decide +kernel
theorem dX10_ruled_203 : decode cX10_ruled 203 = .ok (.iload 4, 2) := by decide +kernel
theorem dX10_ruled_205 : decode cX10_ruled 205 = .ok (.invokevirtual 221, 3) := by decide +kernel
theorem dX10_ruled_208 : decode cX10_ruled 208 = .ok (.istore 8, 2) := by decide +kernel
theorem dX10_ruled_210 : decode cX10_ruled 210 = .ok (.iload 8, 2) := by decide +kernel
theorem dX10_ruled_212 : decode cX10_ruled 212 = .ok (.ifCond .ge 8, 3) := by decide +kernel
theorem dX10_ruled_215 : decode cX10_ruled 215 = .ok (.bipush 100, 2) := by decide +kernel
theorem dX10_ruled_217 : decode cX10_ruled 217 = .ok (.goto 5, 3) := by decide +kernel
theorem dX10_ruled_220 : decode cX10_ruled 220 = .ok (.iload 8, 2) := by decide +kernel
theorem dX10_ruled_222 : decode cX10_ruled 222 = .ok (.istore 8, 2) := by decide +kernel
theorem dX10_ruled_224 : decode cX10_ruled 224 = .ok (.iload 8, 2) := by decide +kernel
theorem dX10_ruled_226 : decode cX10_ruled 226 = .ok (.iload 6, 2) := by decide +kernel
theorem dX10_ruled_228 : decode cX10_ruled 228 = .ok (.if_icmp .ge 8, 3) := by decide +kernel
theorem dX10_ruled_231 : decode cX10_ruled 231 = .ok (.iload 7, 2) := by decide +kernel
theorem dX10_ruled_233 : decode cX10_ruled 233 = .ok (.goto 5, 3) := by decide +kernel
theorem dX10_ruled_236 : decode cX10_ruled 236 = .ok (.iload 5, 2) := by decide +kernel
theorem dX10_ruled_238 : decode cX10_ruled 238 = .ok (.istore 5, 2) := by decide +kernel
theorem dX10_ruled_240 : decode cX10_ruled 240 = .ok (.iload 8, 2) := by decide +kernel
theorem dX10_ruled_242 : decode cX10_ruled 242 = .ok (.iload 6, 2) := by decide +kernel
theorem dX10_ruled_244 : decode cX10_ruled 244 = .ok (.if_icmp .ge 8, 3) := by decide +kernel
theorem dX10_ruled_247 : decode cX10_ruled 247 = .ok (.iload 8, 2) := by decide +kernel
theorem dX10_ruled_249 : decode cX10_ruled 249 = .ok (.goto 5, 3) := by decide +kernel
theorem dX10_ruled_252 : decode cX10_ruled 252 = .ok (.iload 6, 2) := by decide +kernel
theorem dX10_ruled_254 : decode cX10_ruled 254 = .ok (.istore 6, 2) := by decide +kernel
theorem dX10_ruled_256 : decode cX10_ruled 256 = .ok (.iinc 7 1, 3) := by decide +kernel
theorem dX10_ruled_259 : decode cX10_ruled 259 = .ok (.goto (-85), 3) := by decide +kernel
theorem dX10_ruled_262 : decode cX10_ruled 262 = .ok (.aload_n 0, 1) := by decide +kernel
theorem dX10_ruled_263 : decode cX10_ruled 263 = .ok (.getfield 58, 3) := by decide +kernel
theorem dX10_ruled_266 : decode cX10_ruled 266 = .ok (.iload_n 3, 1) := by decide +kernel
theorem dX10_ruled_267 : decode cX10_ruled 267 = .ok (.iload 4, 2) := by decide +kernel
theorem dX10_ruled_269 : decode cX10_ruled 269 = .ok (.iastore, 1) := by decide +kernel
theorem dX10_ruled_270 : decode cX10_ruled 270 = .ok (.aload_n 0, 1) := by decide +kernel
theorem dX10_ruled_271 : decode cX10_ruled 271 = .ok (.getfield 55, 3) := by decide +kernel
theorem dX10_ruled_274 : decode cX10_ruled 274 = .ok (.iload 4, 2) := by decide +kernel
theorem dX10_ruled_276 : decode cX10_ruled 276 = .ok (.iload 5, 2) := by decide +kernel
theorem dX10_ruled_278 : decode cX10_ruled 278 = .ok (.iastore, 1) := by decide +kernel
theorem dX10_ruled_279 : decode cX10_ruled 279 = .ok (.aload_n 0, 1) := by decide +kernel
theorem dX10_ruled_280 : decode cX10_ruled 280 = .ok (.iload 5, 2) := by decide +kernel
theorem dX10_ruled_282 : decode cX10_ruled 282 = .ok (.iload 4, 2) := by decide +kernel
theorem dX10_ruled_284 : decode cX10_ruled 284 = .ok (.invokevirtual 227, 3) := by decide +kernel
theorem dX10_ruled_287 : decode cX10_ruled 287 = .ok (.iload_n 2, 1) := by decide +kernel
theorem dX10_ruled_288 : decode cX10_ruled 288 = .ok (.aload_n 0, 1) := by decide +kernel
theorem dX10_ruled_289 : decode cX10_ruled 289 = .ok (.iload 4, 2) := by decide +kernel
theorem dX10_ruled_291 : decode cX10_ruled 291 = .ok (.invokevirtual 231, 3) := by decide +kernel
theorem dX10_ruled_294 : decode cX10_ruled 294 = .ok (.iadd, 1) := by decide +kernel
theorem dX10_ruled_295 : decode cX10_ruled 295 = .ok (.istore_n 2, 1) := by decide +kernel
theorem dX10_ruled_296 : decode cX10_ruled 296 = .ok (.iinc 3 1, 3) := by decide +kernel
theorem dX10_ruled_299 : decode cX10_ruled 299 = .ok (.goto (-285), 3) := by decide +kernel
theorem dX10_ruled_302 : decode cX10_ruled 302 = .ok (.iload_n 2, 1) := by decide +kernel
theorem dX10_ruled_303 : decode cX10_ruled 303 = .ok (.ireturn, 1) := by decide +kernel
theorem dX10_bestDone_0 : decode cX10_bestDone 0 = .ok (.aload_n 0, 1) := by decide +kernel
theorem dX10_bestDone_1 : decode cX10_bestDone 1 = .ok (.aload_n 0, 1) := by decide +kernel
theorem dX10_bestDone_2 : decode cX10_bestDone 2 = .ok (.invokevirtual 245, 3) := by decide +kernel
theorem dX10_bestDone_5 : decode cX10_bestDone 5 = .ok (.invokevirtual 248, 3) := by decide +kernel
theorem dX10_bestDone_8 : decode cX10_bestDone 8 = .ok (.istore_n 1, 1) := by decide +kernel
theorem dX10_bestDone_9 : decode cX10_bestDone 9 = .ok (.iconst 0, 1) := by decide +kernel
theorem dX10_bestDone_10 : decode cX10_bestDone 10 = .ok (.istore_n 2, 1) := by decide +kernel
theorem dX10_bestDone_11 : decode cX10_bestDone 11 = .ok (.iload_n 2, 1) := by decide +kernel
theorem dX10_bestDone_12 : decode cX10_bestDone 12 = .ok (.iconst 5, 1) := by decide +kernel
theorem dX10_bestDone_13 : decode cX10_bestDone 13 = .ok (.if_icmp .ge 33, 3) := by decide +kernel
theorem dX10_bestDone_16 : decode cX10_bestDone 16 = .ok (.aload_n 0, 1) := by decide +kernel
theorem dX10_bestDone_17 : decode cX10_bestDone 17 = .ok (.getfield 55, 3) := by decide +kernel
theorem dX10_bestDone_20 : decode cX10_bestDone 20 = .ok (.iload_n 2, 1) := by decide +kernel
theorem dX10_bestDone_21 : decode cX10_bestDone 21 = .ok (.aload_n 0, 1) := by decide +kernel
theorem dX10_bestDone_22 : decode cX10_bestDone 22 = .ok (.getfield 49, 3) := by decide +kernel
theorem dX10_bestDone_25 : decode cX10_bestDone 25 = .ok (.iload_n 2, 1) := by decide +kernel
theorem dX10_bestDone_26 : decode cX10_bestDone 26 = .ok (.iaload, 1) := by decide +kernel
theorem dX10_bestDone_27 : decode cX10_bestDone 27 = .ok (.iastore, 1) := by decide +kernel
theorem dX10_bestDone_28 : decode cX10_bestDone 28 = .ok (.aload_n 0, 1) := by decide +kernel
theorem dX10_bestDone_29 : decode cX10_bestDone 29 = .ok (.getfield 58, 3) := by decide +kernel
theorem dX10_bestDone_32 : decode cX10_bestDone 32 = .ok (.iload_n 2, 1) := by decide +kernel
theorem dX10_bestDone_33 : decode cX10_bestDone 33 = .ok (.aload_n 0, 1) := by decide +kernel
theorem dX10_bestDone_34 : decode cX10_bestDone 34 = .ok (.getfield 52, 3) := by decide +kernel
theorem dX10_bestDone_37 : decode cX10_bestDone 37 = .ok (.iload_n 2, 1) := by decide +kernel
theorem dX10_bestDone_38 : decode cX10_bestDone 38 = .ok (.iaload, 1) := by decide +kernel
theorem dX10_bestDone_39 : decode cX10_bestDone 39 = .ok (.iastore, 1) := by decide +kernel
theorem dX10_bestDone_40 : decode cX10_bestDone 40 = .ok (.iinc 2 1, 3) := by decide +kernel
theorem dX10_bestDone_43 : decode cX10_bestDone 43 = .ok (.goto (-32), 3) := by decide +kernel
theorem dX10_bestDone_46 : decode cX10_bestDone 46 = .ok (.aload_n 0, 1) := by decide +kernel
theorem dX10_bestDone_47 : decode cX10_bestDone 47 = .ok (.invokevirtual 239, 3) := by decide +kernel
theorem dX10_bestDone_50 : decode cX10_bestDone 50 = .ok (.pop, 1) := by decide +kernel
theorem dX10_bestDone_51 : decode cX10_bestDone 51 = .ok (.iload_n 1, 1) := by decide +kernel
theorem dX10_bestDone_52 : decode cX10_bestDone 52 = .ok (.ireturn, 1) := by decide +kernel
theorem dX10_told_0 : decode cX10_told 0 = .ok (.iload_n 1, 1) := by decide +kernel
theorem dX10_told_1 : decode cX10_told 1 = .ok (.i2l, 1) := by decide +kernel
theorem dX10_told_2 : decode cX10_told 2 = .ok (.lconst 0, 1) := by decide +kernel
theorem dX10_told_3 : decode cX10_told 3 = .ok (.aload_n 0, 1) := by decide +kernel
theorem dX10_told_4 : decode cX10_told 4 = .ok (.getfield 195, 3) := by decide +kernel
theorem dX10_told_7 : decode cX10_told 7 = .ok (.iconst 1, 1) := by decide +kernel
theorem dX10_told_8 : decode cX10_told 8 = .ok (.isub, 1) := by decide +kernel
theorem dX10_told_9 : decode cX10_told 9 = .ok (.i2l, 1) := by decide +kernel
theorem dX10_told_10 : decode cX10_told 10 = .ok (.invokestatic 98, 3) := by decide +kernel
theorem dX10_told_13 : decode cX10_told 13 = .ok (.ifCond .eq 15, 3) := by decide +kernel
theorem dX10_told_16 : decode cX10_told 16 = .ok (.iload_n 2, 1) := by decide +kernel
theorem dX10_told_17 : decode cX10_told 17 = .ok (.i2l, 1) := by decide +kernel
theorem dX10_told_18 : decode cX10_told 18 = .ok (.lconst 0, 1) := by decide +kernel
theorem dX10_told_19 : decode cX10_told 19 = .ok (.ldc2_w 251, 3) := by decide +kernel
theorem dX10_told_22 : decode cX10_told 22 = .ok (.invokestatic 98, 3) := by decide +kernel
theorem dX10_told_25 : decode cX10_told 25 = .ok (.ifCond .ne 5, 3) := by decide +kernel
theorem dX10_told_28 : decode cX10_told 28 = .ok (.iconst (-1), 1) := by decide +kernel
theorem dX10_told_29 : decode cX10_told 29 = .ok (.ireturn, 1) := by decide +kernel
theorem dX10_told_30 : decode cX10_told 30 = .ok (.iload_n 2, 1) := by decide +kernel
theorem dX10_told_31 : decode cX10_told 31 = .ok (.iconst 5, 1) := by decide +kernel
theorem dX10_told_32 : decode cX10_told 32 = .ok (.if_icmp .ge 14, 3) := by decide +kernel
theorem dX10_told_35 : decode cX10_told 35 = .ok (.aload_n 0, 1) := by decide +kernel
theorem dX10_told_36 : decode cX10_told 36 = .ok (.getfield 34, 3) := by decide +kernel
theorem dX10_told_39 : decode cX10_told 39 = .ok (.iconst 5, 1) := by decide +kernel
theorem dX10_told_40 : decode cX10_told 40 = .ok (.iload_n 1, 1) := by decide +kernel
theorem dX10_told_41 : decode cX10_told 41 = .ok (.imul, 1) := by decide +kernel
theorem dX10_told_42 : decode cX10_told 42 = .ok (.iload_n 2, 1) := by decide +kernel
theorem dX10_told_43 : decode cX10_told 43 = .ok (.iadd, 1) := by decide +kernel
theorem dX10_told_44 : decode cX10_told 44 = .ok (.iaload, 1) := by decide +kernel
theorem dX10_told_45 : decode cX10_told 45 = .ok (.ireturn, 1) := by decide +kernel
theorem dX10_told_46 : decode cX10_told 46 = .ok (.iload_n 2, 1) := by decide +kernel
theorem dX10_told_47 : decode cX10_told 47 = .ok (.bipush 7, 2) := by decide +kernel
theorem dX10_told_49 : decode cX10_told 49 = .ok (.if_icmp .ne 17, 3) := by decide +kernel
theorem dX10_told_52 : decode cX10_told 52 = .ok (.aload_n 0, 1) := by decide +kernel
theorem dX10_told_53 : decode cX10_told 53 = .ok (.getfield 34, 3) := by decide +kernel
theorem dX10_told_56 : decode cX10_told 56 = .ok (.iconst 5, 1) := by decide +kernel
theorem dX10_told_57 : decode cX10_told 57 = .ok (.iload_n 1, 1) := by decide +kernel
theorem dX10_told_58 : decode cX10_told 58 = .ok (.imul, 1) := by decide +kernel
theorem dX10_told_59 : decode cX10_told 59 = .ok (.iaload, 1) := by decide +kernel
theorem dX10_told_60 : decode cX10_told 60 = .ok (.ifCond .ne 6, 3) := by decide +kernel
theorem dX10_told_63 : decode cX10_told 63 = .ok (.bipush (-12), 2) := by decide +kernel
theorem dX10_told_65 : decode cX10_told 65 = .ok (.ireturn, 1) := by decide +kernel
theorem dX10_told_66 : decode cX10_told 66 = .ok (.aload_n 0, 1) := by decide +kernel
theorem dX10_told_67 : decode cX10_told 67 = .ok (.invokevirtual 245, 3) := by decide +kernel
theorem dX10_told_70 : decode cX10_told 70 = .ok (.ifCond .ne 6, 3) := by decide +kernel
theorem dX10_told_73 : decode cX10_told 73 = .ok (.bipush (-2), 2) := by decide +kernel
theorem dX10_told_75 : decode cX10_told 75 = .ok (.ireturn, 1) := by decide +kernel
theorem dX10_told_76 : decode cX10_told 76 = .ok (.aload_n 0, 1) := by decide +kernel
theorem dX10_told_77 : decode cX10_told 77 = .ok (.invokevirtual 253, 3) := by decide +kernel
theorem dX10_told_80 : decode cX10_told 80 = .ok (.pop, 1) := by decide +kernel
theorem dX10_told_81 : decode cX10_told 81 = .ok (.iload_n 2, 1) := by decide +kernel
theorem dX10_told_82 : decode cX10_told 82 = .ok (.iconst 5, 1) := by decide +kernel
theorem dX10_told_83 : decode cX10_told 83 = .ok (.if_icmp .ne 12, 3) := by decide +kernel
theorem dX10_told_86 : decode cX10_told 86 = .ok (.aload_n 0, 1) := by decide +kernel
theorem dX10_told_87 : decode cX10_told 87 = .ok (.getfield 55, 3) := by decide +kernel
theorem dX10_told_90 : decode cX10_told 90 = .ok (.iload_n 1, 1) := by decide +kernel
theorem dX10_told_91 : decode cX10_told 91 = .ok (.iaload, 1) := by decide +kernel
theorem dX10_told_92 : decode cX10_told 92 = .ok (.goto 24, 3) := by decide +kernel
theorem dX10_told_95 : decode cX10_told 95 = .ok (.iload_n 2, 1) := by decide +kernel
theorem dX10_told_96 : decode cX10_told 96 = .ok (.bipush 6, 2) := by decide +kernel
theorem dX10_told_98 : decode cX10_told 98 = .ok (.if_icmp .ne 12, 3) := by decide +kernel
theorem dX10_told_101 : decode cX10_told 101 = .ok (.aload_n 0, 1) := by decide +kernel
theorem dX10_told_102 : decode cX10_told 102 = .ok (.getfield 43, 3) := by decide +kernel
theorem dX10_told_105 : decode cX10_told 105 = .ok (.iload_n 1, 1) := by decide +kernel
theorem dX10_told_106 : decode cX10_told 106 = .ok (.iaload, 1) := by decide +kernel
theorem dX10_told_107 : decode cX10_told 107 = .ok (.goto 9, 3) := by decide +kernel
theorem dX10_told_110 : decode cX10_told 110 = .ok (.aload_n 0, 1) := by decide +kernel
theorem dX10_told_111 : decode cX10_told 111 = .ok (.getfield 46, 3) := by decide +kernel
theorem dX10_told_114 : decode cX10_told 114 = .ok (.iload_n 1, 1) := by decide +kernel
theorem dX10_told_115 : decode cX10_told 115 = .ok (.iaload, 1) := by decide +kernel
theorem dX10_told_116 : decode cX10_told 116 = .ok (.ireturn, 1) := by decide +kernel
theorem dX10_cost_0 : decode cX10_cost 0 = .ok (.iload_n 1, 1) := by decide +kernel
theorem dX10_cost_1 : decode cX10_cost 1 = .ok (.i2l, 1) := by decide +kernel
theorem dX10_cost_2 : decode cX10_cost 2 = .ok (.lconst 0, 1) := by decide +kernel
theorem dX10_cost_3 : decode cX10_cost 3 = .ok (.lconst 1, 1) := by decide +kernel
theorem dX10_cost_4 : decode cX10_cost 4 = .ok (.invokestatic 98, 3) := by decide +kernel
theorem dX10_cost_7 : decode cX10_cost 7 = .ok (.ifCond .ne 5, 3) := by decide +kernel
theorem dX10_cost_10 : decode cX10_cost 10 = .ok (.iconst (-1), 1) := by decide +kernel
theorem dX10_cost_11 : decode cX10_cost 11 = .ok (.ireturn, 1) := by decide +kernel
theorem dX10_cost_12 : decode cX10_cost 12 = .ok (.aload_n 0, 1) := by decide +kernel
theorem dX10_cost_13 : decode cX10_cost 13 = .ok (.invokevirtual 245, 3) := by decide +kernel
theorem dX10_cost_16 : decode cX10_cost 16 = .ok (.ifCond .ne 6, 3) := by decide +kernel
theorem dX10_cost_19 : decode cX10_cost 19 = .ok (.bipush (-2), 2) := by decide +kernel
theorem dX10_cost_21 : decode cX10_cost 21 = .ok (.ireturn, 1) := by decide +kernel
theorem dX10_cost_22 : decode cX10_cost 22 = .ok (.iload_n 1, 1) := by decide +kernel
theorem dX10_cost_23 : decode cX10_cost 23 = .ok (.ifCond .ne 14, 3) := by decide +kernel
theorem dX10_cost_26 : decode cX10_cost 26 = .ok (.aload_n 0, 1) := by decide +kernel
theorem dX10_cost_27 : decode cX10_cost 27 = .ok (.aload_n 0, 1) := by decide +kernel
theorem dX10_cost_28 : decode cX10_cost 28 = .ok (.invokevirtual 245, 3) := by decide +kernel
theorem dX10_cost_31 : decode cX10_cost 31 = .ok (.invokevirtual 248, 3) := by decide +kernel
theorem dX10_cost_34 : decode cX10_cost 34 = .ok (.goto 7, 3) := by decide +kernel
theorem dX10_cost_37 : decode cX10_cost 37 = .ok (.aload_n 0, 1) := by decide +kernel
theorem dX10_cost_38 : decode cX10_cost 38 = .ok (.invokevirtual 256, 3) := by decide +kernel
theorem dX10_cost_41 : decode cX10_cost 41 = .ok (.ireturn, 1) := by decide +kernel
theorem dX10_does_0 : decode cX10_does 0 = .ok (.iload_n 1, 1) := by decide +kernel
theorem dX10_does_1 : decode cX10_does 1 = .ok (.i2l, 1) := by decide +kernel
theorem dX10_does_2 : decode cX10_does 2 = .ok (.lconst 0, 1) := by decide +kernel
theorem dX10_does_3 : decode cX10_does 3 = .ok (.lconst 1, 1) := by decide +kernel
theorem dX10_does_4 : decode cX10_does 4 = .ok (.invokestatic 98, 3) := by decide +kernel
theorem dX10_does_7 : decode cX10_does 7 = .ok (.ifCond .eq 23, 3) := by decide +kernel
theorem dX10_does_10 : decode cX10_does 10 = .ok (.iload_n 2, 1) := by decide +kernel
theorem dX10_does_11 : decode cX10_does 11 = .ok (.i2l, 1) := by decide +kernel
theorem dX10_does_12 : decode cX10_does 12 = .ok (.lconst 0, 1) := by decide +kernel
theorem dX10_does_13 : decode cX10_does 13 = .ok (.aload_n 0, 1) := by decide +kernel
theorem dX10_does_14 : decode cX10_does 14 = .ok (.getfield 187, 3) := by decide +kernel
theorem dX10_does_17 : decode cX10_does 17 = .ok (.iconst 1, 1) := by decide +kernel
theorem dX10_does_18 : decode cX10_does 18 = .ok (.isub, 1) := by decide +kernel
theorem dX10_does_19 : decode cX10_does 19 = .ok (.i2l, 1) := by decide +kernel
theorem dX10_does_20 : decode cX10_does 20 = .ok (.invokestatic 98, 3) := by decide +kernel
theorem dX10_does_23 : decode cX10_does 23 = .ok (.ifCond .eq 7, 3) := by decide +kernel
theorem dX10_does_26 : decode cX10_does 26 = .ok (.iload_n 3, 1) := by decide +kernel
theorem dX10_does_27 : decode cX10_does 27 = .ok (.ifCond .ge 5, 3) := by decide +kernel
theorem dX10_does_30 : decode cX10_does 30 = .ok (.iconst (-1), 1) := by decide +kernel
theorem dX10_does_31 : decode cX10_does 31 = .ok (.ireturn, 1) := by decide +kernel
theorem dX10_does_32 : decode cX10_does 32 = .ok (.aload_n 0, 1) := by decide +kernel
theorem dX10_does_33 : decode cX10_does 33 = .ok (.invokevirtual 245, 3) := by decide +kernel
theorem dX10_does_36 : decode cX10_does 36 = .ok (.ifCond .ne 6, 3) := by decide +kernel
theorem dX10_does_39 : decode cX10_does 39 = .ok (.bipush (-2), 2) := by decide +kernel
theorem dX10_does_41 : decode cX10_does 41 = .ok (.ireturn, 1) := by decide +kernel
theorem dX10_does_42 : decode cX10_does 42 = .ok (.iload_n 1, 1) := by decide +kernel
theorem dX10_does_43 : decode cX10_does 43 = .ok (.ifCond .ne 11, 3) := by decide +kernel
theorem dX10_does_46 : decode cX10_does 46 = .ok (.aload_n 0, 1) := by decide +kernel
theorem dX10_does_47 : decode cX10_does 47 = .ok (.invokevirtual 253, 3) := by decide +kernel
theorem dX10_does_50 : decode cX10_does 50 = .ok (.pop, 1) := by decide +kernel
theorem dX10_does_51 : decode cX10_does 51 = .ok (.goto 8, 3) := by decide +kernel
theorem dX10_does_54 : decode cX10_does 54 = .ok (.aload_n 0, 1) := by decide +kernel
theorem dX10_does_55 : decode cX10_does 55 = .ok (.invokevirtual 256, 3) := by decide +kernel
theorem dX10_does_58 : decode cX10_does 58 = .ok (.pop, 1) := by decide +kernel
theorem dX10_does_59 : decode cX10_does 59 = .ok (.iconst 0, 1) := by decide +kernel
theorem dX10_does_60 : decode cX10_does 60 = .ok (.istore 4, 2) := by decide +kernel
theorem dX10_does_62 : decode cX10_does 62 = .ok (.iconst 0, 1) := by decide +kernel
theorem dX10_does_63 : decode cX10_does 63 = .ok (.istore 5, 2) := by decide +kernel
theorem dX10_does_65 : decode cX10_does 65 = .ok (.iload 5, 2) := by decide +kernel
theorem dX10_does_67 : decode cX10_does 67 = .ok (.aload_n 0, 1) := by decide +kernel
theorem dX10_does_68 : decode cX10_does 68 = .ok (.getfield 195, 3) := by decide +kernel
theorem dX10_does_71 : decode cX10_does 71 = .ok (.if_icmp .ge 42, 3) := by decide +kernel
theorem dX10_does_74 : decode cX10_does 74 = .ok (.aload_n 0, 1) := by decide +kernel
theorem dX10_does_75 : decode cX10_does 75 = .ok (.getfield 55, 3) := by decide +kernel
theorem dX10_does_78 : decode cX10_does 78 = .ok (.aload_n 0, 1) := by decide +kernel
theorem dX10_does_79 : decode cX10_does 79 = .ok (.getfield 58, 3) := by decide +kernel
theorem dX10_does_82 : decode cX10_does 82 = .ok (.iload 5, 2) := by decide +kernel
theorem dX10_does_84 : decode cX10_does 84 = .ok (.iaload, 1) := by decide +kernel
theorem dX10_does_85 : decode cX10_does 85 = .ok (.iaload, 1) := by decide +kernel
theorem dX10_does_86 : decode cX10_does 86 = .ok (.iload_n 2, 1) := by decide +kernel
theorem dX10_does_87 : decode cX10_does 87 = .ok (.if_icmp .ne 20, 3) := by decide +kernel
theorem dX10_does_90 : decode cX10_does 90 = .ok (.iload 4, 2) := by decide +kernel
theorem dX10_does_92 : decode cX10_does 92 = .ok (.iload_n 3, 1) := by decide +kernel
theorem dX10_does_93 : decode cX10_does 93 = .ok (.if_icmp .ne 11, 3) := by decide +kernel
theorem dX10_does_96 : decode cX10_does 96 = .ok (.aload_n 0, 1) := by decide +kernel
theorem dX10_does_97 : decode cX10_does 97 = .ok (.getfield 58, 3) := by decide +kernel
theorem dX10_does_100 : decode cX10_does 100 = .ok (.iload 5, 2) := by decide +kernel
theorem dX10_does_102 : decode cX10_does 102 = .ok (.iaload, 1) := by decide +kernel
theorem dX10_does_103 : decode cX10_does 103 = .ok (.ireturn, 1) := by decide +kernel
theorem dX10_does_104 : decode cX10_does 104 = .ok (.iinc 4 1, 3) := by decide +kernel
theorem dX10_does_107 : decode cX10_does 107 = .ok (.iinc 5 1, 3) := by decide +kernel
theorem dX10_does_110 : decode cX10_does 110 = .ok (.goto (-45), 3) := by decide +kernel
theorem dX10_does_113 : decode cX10_does 113 = .ok (.bipush (-4), 2) := by decide +kernel
theorem dX10_does_115 : decode cX10_does 115 = .ok (.ireturn, 1) := by decide +kernel
theorem dX10_enough_0 : decode cX10_enough 0 = .ok (.aload_n 0, 1) := by decide +kernel
theorem dX10_enough_1 : decode cX10_enough 1 = .ok (.invokevirtual 245, 3) := by decide +kernel
theorem dX10_enough_4 : decode cX10_enough 4 = .ok (.istore_n 1, 1) := by decide +kernel
theorem dX10_enough_5 : decode cX10_enough 5 = .ok (.iload_n 1, 1) := by decide +kernel
theorem dX10_enough_6 : decode cX10_enough 6 = .ok (.ifCond .ne 6, 3) := by decide +kernel
theorem dX10_enough_9 : decode cX10_enough 9 = .ok (.bipush (-2), 2) := by decide +kernel
theorem dX10_enough_11 : decode cX10_enough 11 = .ok (.ireturn, 1) := by decide +kernel
theorem dX10_enough_12 : decode cX10_enough 12 = .ok (.bipush (-4), 2) := by decide +kernel
theorem dX10_enough_14 : decode cX10_enough 14 = .ok (.istore_n 2, 1) := by decide +kernel
theorem dX10_enough_15 : decode cX10_enough 15 = .ok (.iconst 1, 1) := by decide +kernel
theorem dX10_enough_16 : decode cX10_enough 16 = .ok (.istore_n 3, 1) := by decide +kernel
theorem dX10_enough_17 : decode cX10_enough 17 = .ok (.iload_n 3, 1) := by decide +kernel
theorem dX10_enough_18 : decode cX10_enough 18 = .ok (.bipush 8, 2) := by decide +kernel
theorem dX10_enough_20 : decode cX10_enough 20 = .ok (.if_icmp .ge 58, 3) := by decide +kernel
theorem dX10_enough_23 : decode cX10_enough 23 = .ok (.iload_n 3, 1) := by decide +kernel
theorem dX10_enough_24 : decode cX10_enough 24 = .ok (.iload_n 1, 1) := by decide +kernel
theorem dX10_enough_25 : decode cX10_enough 25 = .ok (.iconst (-1), 1) := by decide +kernel
theorem dX10_enough_26 : decode cX10_enough 26 = .ok (.ixor, 1) := by decide +kernel
theorem dX10_enough_27 : decode cX10_enough 27 = .ok (.iand, 1) := by decide +kernel
theorem dX10_enough_28 : decode cX10_enough 28 = .ok (.ifCond .ne 22, 3) := by decide +kernel
theorem dX10_enough_31 : decode cX10_enough 31 = .ok (.iload_n 2, 1) := by decide +kernel
theorem dX10_enough_32 : decode cX10_enough 32 = .ok (.ifCond .lt 14, 3) := by decide +kernel
theorem dX10_enough_35 : decode cX10_enough 35 = .ok (.iload_n 3, 1) := by decide +kernel
theorem dX10_enough_36 : decode cX10_enough 36 = .ok (.invokestatic 259, 3) := by decide +kernel
theorem dX10_enough_39 : decode cX10_enough 39 = .ok (.iload_n 2, 1) := by decide +kernel
theorem dX10_enough_40 : decode cX10_enough 40 = .ok (.invokestatic 259, 3) := by decide +kernel
theorem dX10_enough_43 : decode cX10_enough 43 = .ok (.if_icmp .ge 7, 3) := by decide +kernel
theorem dX10_enough_46 : decode cX10_enough 46 = .ok (.iconst 1, 1) := by decide +kernel
theorem dX10_enough_47 : decode cX10_enough 47 = .ok (.goto 4, 3) := by decide +kernel
theorem dX10_enough_50 : decode cX10_enough 50 = .ok (.iconst 0, 1) := by decide +kernel
theorem dX10_enough_51 : decode cX10_enough 51 = .ok (.istore 4, 2) := by decide +kernel
theorem dX10_enough_53 : decode cX10_enough 53 = .ok (.iload 4, 2) := by decide +kernel
theorem dX10_enough_55 : decode cX10_enough 55 = .ok (.ifCond .eq 15, 3) := by decide +kernel
theorem dX10_enough_58 : decode cX10_enough 58 = .ok (.aload_n 0, 1) := by decide +kernel
theorem dX10_enough_59 : decode cX10_enough 59 = .ok (.iload_n 3, 1) := by decide +kernel
theorem dX10_enough_60 : decode cX10_enough 60 = .ok (.invokevirtual 248, 3) := by decide +kernel
theorem dX10_enough_63 : decode cX10_enough 63 = .ok (.ifCond .ne 7, 3) := by decide +kernel
theorem dX10_enough_66 : decode cX10_enough 66 = .ok (.iload_n 3, 1) := by decide +kernel
theorem dX10_enough_67 : decode cX10_enough 67 = .ok (.goto 4, 3) := by decide +kernel
theorem dX10_enough_70 : decode cX10_enough 70 = .ok (.iload_n 2, 1) := by decide +kernel
theorem dX10_enough_71 : decode cX10_enough 71 = .ok (.istore_n 2, 1) := by decide +kernel
theorem dX10_enough_72 : decode cX10_enough 72 = .ok (.iinc 3 1, 3) := by decide +kernel
theorem dX10_enough_75 : decode cX10_enough 75 = .ok (.goto (-58), 3) := by decide +kernel
theorem dX10_enough_78 : decode cX10_enough 78 = .ok (.iload_n 2, 1) := by decide +kernel
theorem dX10_enough_79 : decode cX10_enough 79 = .ok (.ireturn, 1) := by decide +kernel
theorem dX10_missed_0 : decode cX10_missed 0 = .ok (.iload_n 1, 1) := by decide +kernel
theorem dX10_missed_1 : decode cX10_missed 1 = .ok (.i2l, 1) := by decide +kernel
theorem dX10_missed_2 : decode cX10_missed 2 = .ok (.lconst 0, 1) := by decide +kernel
theorem dX10_missed_3 : decode cX10_missed 3 = .ok (.aload_n 0, 1) := by decide +kernel
theorem dX10_missed_4 : decode cX10_missed 4 = .ok (.getfield 187, 3) := by decide +kernel
theorem dX10_missed_7 : decode cX10_missed 7 = .ok (.iconst 1, 1) := by decide +kernel
theorem dX10_missed_8 : decode cX10_missed 8 = .ok (.isub, 1) := by decide +kernel
theorem dX10_missed_9 : decode cX10_missed 9 = .ok (.i2l, 1) := by decide +kernel
theorem dX10_missed_10 : decode cX10_missed 10 = .ok (.invokestatic 98, 3) := by decide +kernel
theorem dX10_missed_13 : decode cX10_missed 13 = .ok (.ifCond .ne 5, 3) := by decide +kernel
theorem dX10_missed_16 : decode cX10_missed 16 = .ok (.iconst (-1), 1) := by decide +kernel
theorem dX10_missed_17 : decode cX10_missed 17 = .ok (.ireturn, 1) := by decide +kernel
theorem dX10_missed_18 : decode cX10_missed 18 = .ok (.aload_n 0, 1) := by decide +kernel
theorem dX10_missed_19 : decode cX10_missed 19 = .ok (.invokevirtual 245, 3) := by decide +kernel
theorem dX10_missed_22 : decode cX10_missed 22 = .ok (.istore_n 2, 1) := by decide +kernel
theorem dX10_missed_23 : decode cX10_missed 23 = .ok (.iload_n 2, 1) := by decide +kernel
theorem dX10_missed_24 : decode cX10_missed 24 = .ok (.iconst 1, 1) := by decide +kernel
theorem dX10_missed_25 : decode cX10_missed 25 = .ok (.iload_n 1, 1) := by decide +kernel
theorem dX10_missed_26 : decode cX10_missed 26 = .ok (.ishl, 1) := by decide +kernel
theorem dX10_missed_27 : decode cX10_missed 27 = .ok (.iconst (-1), 1) := by decide +kernel
theorem dX10_missed_28 : decode cX10_missed 28 = .ok (.ixor, 1) := by decide +kernel
theorem dX10_missed_29 : decode cX10_missed 29 = .ok (.iand, 1) := by decide +kernel
theorem dX10_missed_30 : decode cX10_missed 30 = .ok (.istore_n 3, 1) := by decide +kernel
theorem dX10_missed_31 : decode cX10_missed 31 = .ok (.iload_n 3, 1) := by decide +kernel
theorem dX10_missed_32 : decode cX10_missed 32 = .ok (.ifCond .ne 6, 3) := by decide +kernel
theorem dX10_missed_35 : decode cX10_missed 35 = .ok (.bipush (-2), 2) := by decide +kernel
theorem dX10_missed_37 : decode cX10_missed 37 = .ok (.ireturn, 1) := by decide +kernel
theorem dX10_missed_38 : decode cX10_missed 38 = .ok (.iload_n 3, 1) := by decide +kernel
theorem dX10_missed_39 : decode cX10_missed 39 = .ok (.iload_n 2, 1) := by decide +kernel
theorem dX10_missed_40 : decode cX10_missed 40 = .ok (.if_icmp .ne 7, 3) := by decide +kernel
theorem dX10_missed_43 : decode cX10_missed 43 = .ok (.iconst 0, 1) := by decide +kernel
theorem dX10_missed_44 : decode cX10_missed 44 = .ok (.goto 14, 3) := by decide +kernel
theorem dX10_missed_47 : decode cX10_missed 47 = .ok (.aload_n 0, 1) := by decide +kernel
theorem dX10_missed_48 : decode cX10_missed 48 = .ok (.iload_n 3, 1) := by decide +kernel
theorem dX10_missed_49 : decode cX10_missed 49 = .ok (.invokevirtual 248, 3) := by decide +kernel
theorem dX10_missed_52 : decode cX10_missed 52 = .ok (.aload_n 0, 1) := by decide +kernel
theorem dX10_missed_53 : decode cX10_missed 53 = .ok (.iload_n 2, 1) := by decide +kernel
theorem dX10_missed_54 : decode cX10_missed 54 = .ok (.invokevirtual 248, 3) := by decide +kernel
theorem dX10_missed_57 : decode cX10_missed 57 = .ok (.isub, 1) := by decide +kernel
theorem dX10_missed_58 : decode cX10_missed 58 = .ok (.ireturn, 1) := by decide +kernel
theorem dX10_opened_0 : decode cX10_opened 0 = .ok (.aload_n 0, 1) := by decide +kernel
theorem dX10_opened_1 : decode cX10_opened 1 = .ok (.iload_n 1, 1) := by decide +kernel
theorem dX10_opened_2 : decode cX10_opened 2 = .ok (.invokevirtual 108, 3) := by decide +kernel
theorem dX10_opened_5 : decode cX10_opened 5 = .ok (.ifCond .eq 16, 3) := by decide +kernel
theorem dX10_opened_8 : decode cX10_opened 8 = .ok (.aload_n 0, 1) := by decide +kernel
theorem dX10_opened_9 : decode cX10_opened 9 = .ok (.iload_n 2, 1) := by decide +kernel
theorem dX10_opened_10 : decode cX10_opened 10 = .ok (.invokevirtual 108, 3) := by decide +kernel
theorem dX10_opened_13 : decode cX10_opened 13 = .ok (.ifCond .eq 8, 3) := by decide +kernel
theorem dX10_opened_16 : decode cX10_opened 16 = .ok (.iload_n 1, 1) := by decide +kernel
theorem dX10_opened_17 : decode cX10_opened 17 = .ok (.iload_n 2, 1) := by decide +kernel
theorem dX10_opened_18 : decode cX10_opened 18 = .ok (.if_icmp .ne 5, 3) := by decide +kernel
theorem dX10_opened_21 : decode cX10_opened 21 = .ok (.iconst (-1), 1) := by decide +kernel
theorem dX10_opened_22 : decode cX10_opened 22 = .ok (.ireturn, 1) := by decide +kernel
theorem dX10_opened_23 : decode cX10_opened 23 = .ok (.aload_n 0, 1) := by decide +kernel
theorem dX10_opened_24 : decode cX10_opened 24 = .ok (.invokevirtual 245, 3) := by decide +kernel
theorem dX10_opened_27 : decode cX10_opened 27 = .ok (.ifCond .ne 6, 3) := by decide +kernel
theorem dX10_opened_30 : decode cX10_opened 30 = .ok (.bipush (-2), 2) := by decide +kernel
theorem dX10_opened_32 : decode cX10_opened 32 = .ok (.ireturn, 1) := by decide +kernel
theorem dX10_opened_33 : decode cX10_opened 33 = .ok (.aload_n 0, 1) := by decide +kernel
theorem dX10_opened_34 : decode cX10_opened 34 = .ok (.getfield 7, 3) := by decide +kernel
theorem dX10_opened_37 : decode cX10_opened 37 = .ok (.bipush 10, 2) := by decide +kernel
theorem dX10_opened_39 : decode cX10_opened 39 = .ok (.iload_n 1, 1) := by decide +kernel
theorem dX10_opened_40 : decode cX10_opened 40 = .ok (.imul, 1) := by decide +kernel
theorem dX10_opened_41 : decode cX10_opened 41 = .ok (.iload_n 2, 1) := by decide +kernel
theorem dX10_opened_42 : decode cX10_opened 42 = .ok (.iadd, 1) := by decide +kernel
theorem dX10_opened_43 : decode cX10_opened 43 = .ok (.iaload, 1) := by decide +kernel
theorem dX10_opened_44 : decode cX10_opened 44 = .ok (.ifCond .lt 6, 3) := by decide +kernel
theorem dX10_opened_47 : decode cX10_opened 47 = .ok (.bipush (-4), 2) := by decide +kernel
theorem dX10_opened_49 : decode cX10_opened 49 = .ok (.ireturn, 1) := by decide +kernel
theorem dX10_opened_50 : decode cX10_opened 50 = .ok (.aload_n 0, 1) := by decide +kernel
theorem dX10_opened_51 : decode cX10_opened 51 = .ok (.aload_n 0, 1) := by decide +kernel
theorem dX10_opened_52 : decode cX10_opened 52 = .ok (.invokevirtual 245, 3) := by decide +kernel
theorem dX10_opened_55 : decode cX10_opened 55 = .ok (.invokevirtual 248, 3) := by decide +kernel
theorem dX10_opened_58 : decode cX10_opened 58 = .ok (.istore_n 3, 1) := by decide +kernel
theorem dX10_opened_59 : decode cX10_opened 59 = .ok (.aload_n 0, 1) := by decide +kernel
theorem dX10_opened_60 : decode cX10_opened 60 = .ok (.iload_n 1, 1) := by decide +kernel
theorem dX10_opened_61 : decode cX10_opened 61 = .ok (.iload_n 2, 1) := by decide +kernel
theorem dX10_opened_62 : decode cX10_opened 62 = .ok (.iconst 1, 1) := by decide +kernel
theorem dX10_opened_63 : decode cX10_opened 63 = .ok (.invokevirtual 115, 3) := by decide +kernel
theorem dX10_opened_66 : decode cX10_opened 66 = .ok (.aload_n 0, 1) := by decide +kernel
theorem dX10_opened_67 : decode cX10_opened 67 = .ok (.aload_n 0, 1) := by decide +kernel
theorem dX10_opened_68 : decode cX10_opened 68 = .ok (.invokevirtual 245, 3) := by decide +kernel
theorem dX10_opened_71 : decode cX10_opened 71 = .ok (.invokevirtual 248, 3) := by decide +kernel
theorem dX10_opened_74 : decode cX10_opened 74 = .ok (.istore 4, 2) := by decide +kernel
theorem dX10_opened_76 : decode cX10_opened 76 = .ok (.aload_n 0, 1) := by decide +kernel
theorem dX10_opened_77 : decode cX10_opened 77 = .ok (.iload_n 1, 1) := by decide +kernel
theorem dX10_opened_78 : decode cX10_opened 78 = .ok (.iload_n 2, 1) := by decide +kernel
theorem dX10_opened_79 : decode cX10_opened 79 = .ok (.bipush (-4), 2) := by decide +kernel
theorem dX10_opened_81 : decode cX10_opened 81 = .ok (.invokevirtual 115, 3) := by decide +kernel
theorem dX10_opened_84 : decode cX10_opened 84 = .ok (.iload_n 3, 1) := by decide +kernel
theorem dX10_opened_85 : decode cX10_opened 85 = .ok (.iload 4, 2) := by decide +kernel
theorem dX10_opened_87 : decode cX10_opened 87 = .ok (.if_icmp .le 10, 3) := by decide +kernel
theorem dX10_opened_90 : decode cX10_opened 90 = .ok (.iload_n 3, 1) := by decide +kernel
theorem dX10_opened_91 : decode cX10_opened 91 = .ok (.iload 4, 2) := by decide +kernel
theorem dX10_opened_93 : decode cX10_opened 93 = .ok (.isub, 1) := by decide +kernel
theorem dX10_opened_94 : decode cX10_opened 94 = .ok (.goto 4, 3) := by decide +kernel
theorem dX10_opened_97 : decode cX10_opened 97 = .ok (.iconst 0, 1) := by decide +kernel
theorem dX10_opened_98 : decode cX10_opened 98 = .ok (.ireturn, 1) := by decide +kernel
theorem dX10_isOne_0 : decode cX10_isOne 0 = .ok (.iload_n 1, 1) := by decide +kernel
theorem dX10_isOne_1 : decode cX10_isOne 1 = .ok (.i2l, 1) := by decide +kernel
theorem dX10_isOne_2 : decode cX10_isOne 2 = .ok (.lconst 0, 1) := by decide +kernel
theorem dX10_isOne_3 : decode cX10_isOne 3 = .ok (.aload_n 0, 1) := by decide +kernel
theorem dX10_isOne_4 : decode cX10_isOne 4 = .ok (.getfield 262, 3) := by decide +kernel
theorem dX10_isOne_7 : decode cX10_isOne 7 = .ok (.iconst 1, 1) := by decide +kernel
theorem dX10_isOne_8 : decode cX10_isOne 8 = .ok (.isub, 1) := by decide +kernel
theorem dX10_isOne_9 : decode cX10_isOne 9 = .ok (.i2l, 1) := by decide +kernel
theorem dX10_isOne_10 : decode cX10_isOne 10 = .ok (.invokestatic 98, 3) := by decide +kernel
theorem dX10_isOne_13 : decode cX10_isOne 13 = .ok (.ireturn, 1) := by decide +kernel
theorem dX10_folk_0 : decode cX10_folk 0 = .ok (.iload_n 1, 1) := by decide +kernel
theorem dX10_folk_1 : decode cX10_folk 1 = .ok (.i2l, 1) := by decide +kernel
theorem dX10_folk_2 : decode cX10_folk 2 = .ok (.lconst 0, 1) := by decide +kernel
theorem dX10_folk_3 : decode cX10_folk 3 = .ok (.lconst 1, 1) := by decide +kernel
theorem dX10_folk_4 : decode cX10_folk 4 = .ok (.invokestatic 98, 3) := by decide +kernel
theorem dX10_folk_7 : decode cX10_folk 7 = .ok (.ifCond .ne 5, 3) := by decide +kernel
theorem dX10_folk_10 : decode cX10_folk 10 = .ok (.iconst (-1), 1) := by decide +kernel
theorem dX10_folk_11 : decode cX10_folk 11 = .ok (.ireturn, 1) := by decide +kernel
theorem dX10_folk_12 : decode cX10_folk 12 = .ok (.aload_n 0, 1) := by decide +kernel
theorem dX10_folk_13 : decode cX10_folk 13 = .ok (.getfield 262, 3) := by decide +kernel
theorem dX10_folk_16 : decode cX10_folk 16 = .ok (.iconst 5, 1) := by decide +kernel
theorem dX10_folk_17 : decode cX10_folk 17 = .ok (.if_icmp .ne 6, 3) := by decide +kernel
theorem dX10_folk_20 : decode cX10_folk 20 = .ok (.bipush (-3), 2) := by decide +kernel
theorem dX10_folk_22 : decode cX10_folk 22 = .ok (.ireturn, 1) := by decide +kernel
theorem dX10_folk_23 : decode cX10_folk 23 = .ok (.aload_n 0, 1) := by decide +kernel
theorem dX10_folk_24 : decode cX10_folk 24 = .ok (.getfield 61, 3) := by decide +kernel
theorem dX10_folk_27 : decode cX10_folk 27 = .ok (.aload_n 0, 1) := by decide +kernel
theorem dX10_folk_28 : decode cX10_folk 28 = .ok (.getfield 262, 3) := by decide +kernel
theorem dX10_folk_31 : decode cX10_folk 31 = .ok (.iload_n 1, 1) := by decide +kernel
theorem dX10_folk_32 : decode cX10_folk 32 = .ok (.iastore, 1) := by decide +kernel
theorem dX10_folk_33 : decode cX10_folk 33 = .ok (.aload_n 0, 1) := by decide +kernel
theorem dX10_folk_34 : decode cX10_folk 34 = .ok (.dup, 1) := by decide +kernel
theorem dX10_folk_35 : decode cX10_folk 35 = .ok (.getfield 262, 3) := by decide +kernel
theorem dX10_folk_38 : decode cX10_folk 38 = .ok (.iconst 1, 1) := by decide +kernel
theorem dX10_folk_39 : decode cX10_folk 39 = .ok (.iadd, 1) := by decide +kernel
theorem dX10_folk_40 : decode cX10_folk 40 = .ok (.putfield 262, 3) := by decide +kernel
theorem dX10_folk_43 : decode cX10_folk 43 = .ok (.aload_n 0, 1) := by decide +kernel
theorem dX10_folk_44 : decode cX10_folk 44 = .ok (.getfield 262, 3) := by decide +kernel
theorem dX10_folk_47 : decode cX10_folk 47 = .ok (.iconst 1, 1) := by decide +kernel
theorem dX10_folk_48 : decode cX10_folk 48 = .ok (.isub, 1) := by decide +kernel
theorem dX10_folk_49 : decode cX10_folk 49 = .ok (.ireturn, 1) := by decide +kernel
theorem dX10_say_0 : decode cX10_say 0 = .ok (.aload_n 0, 1) := by decide +kernel
theorem dX10_say_1 : decode cX10_say 1 = .ok (.iload_n 1, 1) := by decide +kernel
theorem dX10_say_2 : decode cX10_say 2 = .ok (.invokevirtual 265, 3) := by decide +kernel
theorem dX10_say_5 : decode cX10_say 5 = .ok (.ifCond .eq 27, 3) := by decide +kernel
theorem dX10_say_8 : decode cX10_say 8 = .ok (.aload_n 0, 1) := by decide +kernel
theorem dX10_say_9 : decode cX10_say 9 = .ok (.iload_n 2, 1) := by decide +kernel
theorem dX10_say_10 : decode cX10_say 10 = .ok (.invokevirtual 265, 3) := by decide +kernel
theorem dX10_say_13 : decode cX10_say 13 = .ok (.ifCond .eq 19, 3) := by decide +kernel
theorem dX10_say_16 : decode cX10_say 16 = .ok (.aload_n 0, 1) := by decide +kernel
theorem dX10_say_17 : decode cX10_say 17 = .ok (.iload_n 3, 1) := by decide +kernel
theorem dX10_say_18 : decode cX10_say 18 = .ok (.invokevirtual 108, 3) := by decide +kernel
theorem dX10_say_21 : decode cX10_say 21 = .ok (.ifCond .eq 11, 3) := by decide +kernel
theorem dX10_say_24 : decode cX10_say 24 = .ok (.iload 4, 2) := by decide +kernel
theorem dX10_say_26 : decode cX10_say 26 = .ok (.invokestatic 164, 3) := by decide +kernel
theorem dX10_say_29 : decode cX10_say 29 = .ok (.ifCond .ne 5, 3) := by decide +kernel
theorem dX10_say_32 : decode cX10_say 32 = .ok (.iconst (-1), 1) := by decide +kernel
theorem dX10_say_33 : decode cX10_say 33 = .ok (.ireturn, 1) := by decide +kernel
theorem dX10_say_34 : decode cX10_say 34 = .ok (.aload_n 0, 1) := by decide +kernel
theorem dX10_say_35 : decode cX10_say 35 = .ok (.getfield 268, 3) := by decide +kernel
theorem dX10_say_38 : decode cX10_say 38 = .ok (.bipush 12, 2) := by decide +kernel
theorem dX10_say_40 : decode cX10_say 40 = .ok (.if_icmp .ne 6, 3) := by decide +kernel
theorem dX10_say_43 : decode cX10_say 43 = .ok (.bipush (-3), 2) := by decide +kernel
theorem dX10_say_45 : decode cX10_say 45 = .ok (.ireturn, 1) := by decide +kernel
theorem dX10_say_46 : decode cX10_say 46 = .ok (.aload_n 0, 1) := by decide +kernel
theorem dX10_say_47 : decode cX10_say 47 = .ok (.getfield 64, 3) := by decide +kernel
theorem dX10_say_50 : decode cX10_say 50 = .ok (.iconst 4, 1) := by decide +kernel
theorem dX10_say_51 : decode cX10_say 51 = .ok (.aload_n 0, 1) := by decide +kernel
theorem dX10_say_52 : decode cX10_say 52 = .ok (.getfield 268, 3) := by decide +kernel
theorem dX10_say_55 : decode cX10_say 55 = .ok (.imul, 1) := by decide +kernel
theorem dX10_say_56 : decode cX10_say 56 = .ok (.iload_n 1, 1) := by decide +kernel
theorem dX10_say_57 : decode cX10_say 57 = .ok (.iastore, 1) := by decide +kernel
theorem dX10_say_58 : decode cX10_say 58 = .ok (.aload_n 0, 1) := by decide +kernel
theorem dX10_say_59 : decode cX10_say 59 = .ok (.getfield 64, 3) := by decide +kernel
theorem dX10_say_62 : decode cX10_say 62 = .ok (.iconst 4, 1) := by decide +kernel
theorem dX10_say_63 : decode cX10_say 63 = .ok (.aload_n 0, 1) := by decide +kernel
theorem dX10_say_64 : decode cX10_say 64 = .ok (.getfield 268, 3) := by decide +kernel
theorem dX10_say_67 : decode cX10_say 67 = .ok (.imul, 1) := by decide +kernel
theorem dX10_say_68 : decode cX10_say 68 = .ok (.iconst 1, 1) := by decide +kernel
theorem dX10_say_69 : decode cX10_say 69 = .ok (.iadd, 1) := by decide +kernel
theorem dX10_say_70 : decode cX10_say 70 = .ok (.iload_n 2, 1) := by decide +kernel
theorem dX10_say_71 : decode cX10_say 71 = .ok (.iastore, 1) := by decide +kernel
theorem dX10_say_72 : decode cX10_say 72 = .ok (.aload_n 0, 1) := by decide +kernel
theorem dX10_say_73 : decode cX10_say 73 = .ok (.getfield 64, 3) := by decide +kernel
theorem dX10_say_76 : decode cX10_say 76 = .ok (.iconst 4, 1) := by decide +kernel
theorem dX10_say_77 : decode cX10_say 77 = .ok (.aload_n 0, 1) := by decide +kernel
theorem dX10_say_78 : decode cX10_say 78 = .ok (.getfield 268, 3) := by decide +kernel
theorem dX10_say_81 : decode cX10_say 81 = .ok (.imul, 1) := by decide +kernel
theorem dX10_say_82 : decode cX10_say 82 = .ok (.iconst 2, 1) := by decide +kernel
theorem dX10_say_83 : decode cX10_say 83 = .ok (.iadd, 1) := by decide +kernel
theorem dX10_say_84 : decode cX10_say 84 = .ok (.iload_n 3, 1) := by decide +kernel
theorem dX10_say_85 : decode cX10_say 85 = .ok (.iastore, 1) := by decide +kernel
theorem dX10_say_86 : decode cX10_say 86 = .ok (.aload_n 0, 1) := by decide +kernel
theorem dX10_say_87 : decode cX10_say 87 = .ok (.getfield 64, 3) := by decide +kernel
theorem dX10_say_90 : decode cX10_say 90 = .ok (.iconst 4, 1) := by decide +kernel
theorem dX10_say_91 : decode cX10_say 91 = .ok (.aload_n 0, 1) := by decide +kernel
theorem dX10_say_92 : decode cX10_say 92 = .ok (.getfield 268, 3) := by decide +kernel
theorem dX10_say_95 : decode cX10_say 95 = .ok (.imul, 1) := by decide +kernel
theorem dX10_say_96 : decode cX10_say 96 = .ok (.iconst 3, 1) := by decide +kernel
theorem dX10_say_97 : decode cX10_say 97 = .ok (.iadd, 1) := by decide +kernel
theorem dX10_say_98 : decode cX10_say 98 = .ok (.iload 4, 2) := by decide +kernel
theorem dX10_say_100 : decode cX10_say 100 = .ok (.iastore, 1) := by decide +kernel
theorem dX10_say_101 : decode cX10_say 101 = .ok (.aload_n 0, 1) := by decide +kernel
theorem dX10_say_102 : decode cX10_say 102 = .ok (.dup, 1) := by decide +kernel
theorem dX10_say_103 : decode cX10_say 103 = .ok (.getfield 268, 3) := by decide +kernel
theorem dX10_say_106 : decode cX10_say 106 = .ok (.iconst 1, 1) := by decide +kernel
theorem dX10_say_107 : decode cX10_say 107 = .ok (.iadd, 1) := by decide +kernel
theorem dX10_say_108 : decode cX10_say 108 = .ok (.putfield 268, 3) := by decide +kernel
theorem dX10_say_111 : decode cX10_say 111 = .ok (.aload_n 0, 1) := by decide +kernel
theorem dX10_say_112 : decode cX10_say 112 = .ok (.getfield 268, 3) := by decide +kernel
theorem dX10_say_115 : decode cX10_say 115 = .ok (.iconst 1, 1) := by decide +kernel
theorem dX10_say_116 : decode cX10_say 116 = .ok (.isub, 1) := by decide +kernel
theorem dX10_say_117 : decode cX10_say 117 = .ok (.ireturn, 1) := by decide +kernel
theorem dX10_sayings_0 : decode cX10_sayings 0 = .ok (.aload_n 0, 1) := by decide +kernel
theorem dX10_sayings_1 : decode cX10_sayings 1 = .ok (.iconst 0, 1) := by decide +kernel
theorem dX10_sayings_2 : decode cX10_sayings 2 = .ok (.putfield 137, 3) := by decide +kernel
theorem dX10_sayings_5 : decode cX10_sayings 5 = .ok (.aload_n 0, 1) := by decide +kernel
theorem dX10_sayings_6 : decode cX10_sayings 6 = .ok (.iconst 0, 1) := by decide +kernel
theorem dX10_sayings_7 : decode cX10_sayings 7 = .ok (.putfield 140, 3) := by decide +kernel
theorem dX10_sayings_10 : decode cX10_sayings 10 = .ok (.iconst 0, 1) := by decide +kernel
theorem dX10_sayings_11 : decode cX10_sayings 11 = .ok (.istore_n 1, 1) := by decide +kernel
theorem dX10_sayings_12 : decode cX10_sayings 12 = .ok (.iconst 1, 1) := by decide +kernel
theorem dX10_sayings_13 : decode cX10_sayings 13 = .ok (.istore_n 2, 1) := by decide +kernel
theorem dX10_sayings_14 : decode cX10_sayings 14 = .ok (.iload_n 2, 1) := by decide +kernel
theorem dX10_sayings_15 : decode cX10_sayings 15 = .ok (.ifCond .eq 124, 3) := by decide +kernel
theorem dX10_sayings_18 : decode cX10_sayings 18 = .ok (.aload_n 0, 1) := by decide +kernel
theorem dX10_sayings_19 : decode cX10_sayings 19 = .ok (.getfield 71, 3) := by decide +kernel
theorem dX10_sayings_22 : decode cX10_sayings 22 = .ok (.iconst 4, 1) := by decide +kernel
theorem dX10_sayings_23 : decode cX10_sayings 23 = .ok (.iload_n 1, 1) := by decide +kernel
theorem dX10_sayings_24 : decode cX10_sayings 24 = .ok (.imul, 1) := by decide +kernel
theorem dX10_sayings_25 : decode cX10_sayings 25 = .ok (.aload_n 0, 1) := by decide +kernel
theorem dX10_sayings_26 : decode cX10_sayings 26 = .ok (.aload_n 0, 1) := by decide +kernel
theorem dX10_sayings_27 : decode cX10_sayings 27 = .ok (.getfield 262, 3) := by decide +kernel
theorem dX10_sayings_30 : decode cX10_sayings 30 = .ok (.invokevirtual 153, 3) := by decide +kernel
theorem dX10_sayings_33 : decode cX10_sayings 33 = .ok (.iastore, 1) := by decide +kernel
theorem dX10_sayings_34 : decode cX10_sayings 34 = .ok (.aload_n 0, 1) := by decide +kernel
theorem dX10_sayings_35 : decode cX10_sayings 35 = .ok (.getfield 71, 3) := by decide +kernel
theorem dX10_sayings_38 : decode cX10_sayings 38 = .ok (.iconst 4, 1) := by decide +kernel
theorem dX10_sayings_39 : decode cX10_sayings 39 = .ok (.iload_n 1, 1) := by decide +kernel
theorem dX10_sayings_40 : decode cX10_sayings 40 = .ok (.imul, 1) := by decide +kernel
theorem dX10_sayings_41 : decode cX10_sayings 41 = .ok (.iconst 1, 1) := by decide +kernel
theorem dX10_sayings_42 : decode cX10_sayings 42 = .ok (.iadd, 1) := by decide +kernel
theorem dX10_sayings_43 : decode cX10_sayings 43 = .ok (.aload_n 0, 1) := by decide +kernel
theorem dX10_sayings_44 : decode cX10_sayings 44 = .ok (.aload_n 0, 1) := by decide +kernel
theorem dX10_sayings_45 : decode cX10_sayings 45 = .ok (.getfield 262, 3) := by decide +kernel
theorem dX10_sayings_48 : decode cX10_sayings 48 = .ok (.invokevirtual 153, 3) := by decide +kernel
theorem dX10_sayings_51 : decode cX10_sayings 51 = .ok (.iastore, 1) := by decide +kernel
theorem dX10_sayings_52 : decode cX10_sayings 52 = .ok (.aload_n 0, 1) := by decide +kernel
theorem dX10_sayings_53 : decode cX10_sayings 53 = .ok (.getfield 71, 3) := by decide +kernel
theorem dX10_sayings_56 : decode cX10_sayings 56 = .ok (.iconst 4, 1) := by decide +kernel
theorem dX10_sayings_57 : decode cX10_sayings 57 = .ok (.iload_n 1, 1) := by decide +kernel
theorem dX10_sayings_58 : decode cX10_sayings 58 = .ok (.imul, 1) := by decide +kernel
theorem dX10_sayings_59 : decode cX10_sayings 59 = .ok (.iconst 2, 1) := by decide +kernel
theorem dX10_sayings_60 : decode cX10_sayings 60 = .ok (.iadd, 1) := by decide +kernel
theorem dX10_sayings_61 : decode cX10_sayings 61 = .ok (.aload_n 0, 1) := by decide +kernel
theorem dX10_sayings_62 : decode cX10_sayings 62 = .ok (.aload_n 0, 1) := by decide +kernel
theorem dX10_sayings_63 : decode cX10_sayings 63 = .ok (.getfield 95, 3) := by decide +kernel
theorem dX10_sayings_66 : decode cX10_sayings 66 = .ok (.invokevirtual 153, 3) := by decide +kernel
theorem dX10_sayings_69 : decode cX10_sayings 69 = .ok (.iastore, 1) := by decide +kernel
theorem dX10_sayings_70 : decode cX10_sayings 70 = .ok (.aload_n 0, 1) := by decide +kernel
theorem dX10_sayings_71 : decode cX10_sayings 71 = .ok (.getfield 71, 3) := by decide +kernel
theorem dX10_sayings_74 : decode cX10_sayings 74 = .ok (.iconst 4, 1) := by decide +kernel
theorem dX10_sayings_75 : decode cX10_sayings 75 = .ok (.iload_n 1, 1) := by decide +kernel
theorem dX10_sayings_76 : decode cX10_sayings 76 = .ok (.imul, 1) := by decide +kernel
theorem dX10_sayings_77 : decode cX10_sayings 77 = .ok (.iconst 3, 1) := by decide +kernel
theorem dX10_sayings_78 : decode cX10_sayings 78 = .ok (.iadd, 1) := by decide +kernel
theorem dX10_sayings_79 : decode cX10_sayings 79 = .ok (.aload_n 0, 1) := by decide +kernel
theorem dX10_sayings_80 : decode cX10_sayings 80 = .ok (.iconst 0, 1) := by decide +kernel
theorem dX10_sayings_81 : decode cX10_sayings 81 = .ok (.bipush 23, 2) := by decide +kernel
theorem dX10_sayings_83 : decode cX10_sayings 83 = .ok (.invokevirtual 157, 3) := by decide +kernel
theorem dX10_sayings_86 : decode cX10_sayings 86 = .ok (.iastore, 1) := by decide +kernel
theorem dX10_sayings_87 : decode cX10_sayings 87 = .ok (.iinc 1 1, 3) := by decide +kernel
theorem dX10_sayings_90 : decode cX10_sayings 90 = .ok (.aload_n 0, 1) := by decide +kernel
theorem dX10_sayings_91 : decode cX10_sayings 91 = .ok (.getfield 140, 3) := by decide +kernel
theorem dX10_sayings_94 : decode cX10_sayings 94 = .ok (.ifCond .ne 22, 3) := by decide +kernel
theorem dX10_sayings_97 : decode cX10_sayings 97 = .ok (.iload_n 1, 1) := by decide +kernel
theorem dX10_sayings_98 : decode cX10_sayings 98 = .ok (.bipush 6, 2) := by decide +kernel
theorem dX10_sayings_100 : decode cX10_sayings 100 = .ok (.if_icmp .ge 16, 3) := by decide +kernel
theorem dX10_sayings_103 : decode cX10_sayings 103 = .ok (.aload_n 0, 1) := by decide +kernel
theorem dX10_sayings_104 : decode cX10_sayings 104 = .ok (.invokevirtual 143, 3) := by decide +kernel
theorem dX10_sayings_107 : decode cX10_sayings 107 = .ok (.bipush 59, 2) := by decide +kernel
theorem dX10_sayings_109 : decode cX10_sayings 109 = .ok (.if_icmp .ne 7, 3) := by decide +kernel
theorem dX10_sayings_112 : decode cX10_sayings 112 = .ok (.iconst 1, 1) := by decide +kernel
theorem dX10_sayings_113 : decode cX10_sayings 113 = .ok (.goto 4, 3) := by decide +kernel
theorem dX10_sayings_116 : decode cX10_sayings 116 = .ok (.iconst 0, 1) := by decide +kernel
theorem dX10_sayings_117 : decode cX10_sayings 117 = .ok (.istore_n 2, 1) := by decide +kernel
theorem dX10_sayings_118 : decode cX10_sayings 118 = .ok (.aload_n 0, 1) := by decide +kernel
theorem dX10_sayings_119 : decode cX10_sayings 119 = .ok (.dup, 1) := by decide +kernel
theorem dX10_sayings_120 : decode cX10_sayings 120 = .ok (.getfield 137, 3) := by decide +kernel
theorem dX10_sayings_123 : decode cX10_sayings 123 = .ok (.iload_n 2, 1) := by decide +kernel
theorem dX10_sayings_124 : decode cX10_sayings 124 = .ok (.ifCond .eq 7, 3) := by decide +kernel
theorem dX10_sayings_127 : decode cX10_sayings 127 = .ok (.iconst 1, 1) := by decide +kernel
theorem dX10_sayings_128 : decode cX10_sayings 128 = .ok (.goto 4, 3) := by decide +kernel
theorem dX10_sayings_131 : decode cX10_sayings 131 = .ok (.iconst 0, 1) := by decide +kernel
theorem dX10_sayings_132 : decode cX10_sayings 132 = .ok (.iadd, 1) := by decide +kernel
theorem dX10_sayings_133 : decode cX10_sayings 133 = .ok (.putfield 137, 3) := by decide +kernel
theorem dX10_sayings_136 : decode cX10_sayings 136 = .ok (.goto (-122), 3) := by decide +kernel
theorem dX10_sayings_139 : decode cX10_sayings 139 = .ok (.aload_n 0, 1) := by decide +kernel
theorem dX10_sayings_140 : decode cX10_sayings 140 = .ok (.aload_n 0, 1) := by decide +kernel
theorem dX10_sayings_141 : decode cX10_sayings 141 = .ok (.getfield 140, 3) := by decide +kernel
theorem dX10_sayings_144 : decode cX10_sayings 144 = .ok (.ifCond .ne 10, 3) := by decide +kernel
theorem dX10_sayings_147 : decode cX10_sayings 147 = .ok (.aload_n 0, 1) := by decide +kernel
theorem dX10_sayings_148 : decode cX10_sayings 148 = .ok (.invokevirtual 143, 3) := by decide +kernel
theorem dX10_sayings_151 : decode cX10_sayings 151 = .ok (.ifCond .eq 7, 3) := by decide +kernel
theorem dX10_sayings_154 : decode cX10_sayings 154 = .ok (.iconst 1, 1) := by decide +kernel
theorem dX10_sayings_155 : decode cX10_sayings 155 = .ok (.goto 4, 3) := by decide +kernel
theorem dX10_sayings_158 : decode cX10_sayings 158 = .ok (.iconst 0, 1) := by decide +kernel
theorem dX10_sayings_159 : decode cX10_sayings 159 = .ok (.putfield 140, 3) := by decide +kernel
theorem dX10_sayings_162 : decode cX10_sayings 162 = .ok (.aload_n 0, 1) := by decide +kernel
theorem dX10_sayings_163 : decode cX10_sayings 163 = .ok (.iconst 0, 1) := by decide +kernel
theorem dX10_sayings_164 : decode cX10_sayings 164 = .ok (.putfield 134, 3) := by decide +kernel
theorem dX10_sayings_167 : decode cX10_sayings 167 = .ok (.aload_n 0, 1) := by decide +kernel
theorem dX10_sayings_168 : decode cX10_sayings 168 = .ok (.getfield 140, 3) := by decide +kernel
theorem dX10_sayings_171 : decode cX10_sayings 171 = .ok (.ifCond .eq 11, 3) := by decide +kernel
theorem dX10_sayings_174 : decode cX10_sayings 174 = .ok (.bipush (-20), 2) := by decide +kernel
theorem dX10_sayings_176 : decode cX10_sayings 176 = .ok (.aload_n 0, 1) := by decide +kernel
theorem dX10_sayings_177 : decode cX10_sayings 177 = .ok (.getfield 137, 3) := by decide +kernel
theorem dX10_sayings_180 : decode cX10_sayings 180 = .ok (.isub, 1) := by decide +kernel
theorem dX10_sayings_181 : decode cX10_sayings 181 = .ok (.ireturn, 1) := by decide +kernel
theorem dX10_sayings_182 : decode cX10_sayings 182 = .ok (.aload_n 0, 1) := by decide +kernel
theorem dX10_sayings_183 : decode cX10_sayings 183 = .ok (.getfield 268, 3) := by decide +kernel
theorem dX10_sayings_186 : decode cX10_sayings 186 = .ok (.iload_n 1, 1) := by decide +kernel
theorem dX10_sayings_187 : decode cX10_sayings 187 = .ok (.iadd, 1) := by decide +kernel
theorem dX10_sayings_188 : decode cX10_sayings 188 = .ok (.bipush 12, 2) := by decide +kernel
theorem dX10_sayings_190 : decode cX10_sayings 190 = .ok (.if_icmp .le 6, 3) := by decide +kernel
theorem dX10_sayings_193 : decode cX10_sayings 193 = .ok (.bipush (-3), 2) := by decide +kernel
theorem dX10_sayings_195 : decode cX10_sayings 195 = .ok (.ireturn, 1) := by decide +kernel
theorem dX10_sayings_196 : decode cX10_sayings 196 = .ok (.iconst 0, 1) := by decide +kernel
theorem dX10_sayings_197 : decode cX10_sayings 197 = .ok (.istore_n 3, 1) := by decide +kernel
theorem dX10_sayings_198 : decode cX10_sayings 198 = .ok (.iload_n 3, 1) := by decide +kernel
theorem dX10_sayings_199 : decode cX10_sayings 199 = .ok (.iconst 4, 1) := by decide +kernel
theorem dX10_sayings_200 : decode cX10_sayings 200 = .ok (.iload_n 1, 1) := by decide +kernel
theorem dX10_sayings_201 : decode cX10_sayings 201 = .ok (.imul, 1) := by decide +kernel
theorem dX10_sayings_202 : decode cX10_sayings 202 = .ok (.if_icmp .ge 28, 3) := by decide +kernel
theorem dX10_sayings_205 : decode cX10_sayings 205 = .ok (.aload_n 0, 1) := by decide +kernel
theorem dX10_sayings_206 : decode cX10_sayings 206 = .ok (.getfield 64, 3) := by decide +kernel
theorem dX10_sayings_209 : decode cX10_sayings 209 = .ok (.iconst 4, 1) := by decide +kernel
theorem dX10_sayings_210 : decode cX10_sayings 210 = .ok (.aload_n 0, 1) := by decide +kernel
theorem dX10_sayings_211 : decode cX10_sayings 211 = .ok (.getfield 268, 3) := by decide +kernel
theorem dX10_sayings_214 : decode cX10_sayings 214 = .ok (.imul, 1) := by decide +kernel
theorem dX10_sayings_215 : decode cX10_sayings 215 = .ok (.iload_n 3, 1) := by decide +kernel
theorem dX10_sayings_216 : decode cX10_sayings 216 = .ok (.iadd, 1) := by decide +kernel
theorem dX10_sayings_217 : decode cX10_sayings 217 = .ok (.aload_n 0, 1) := by decide +kernel
theorem dX10_sayings_218 : decode cX10_sayings 218 = .ok (.getfield 71, 3) := by decide +kernel
theorem dX10_sayings_221 : decode cX10_sayings 221 = .ok (.iload_n 3, 1) := by decide +kernel
theorem dX10_sayings_222 : decode cX10_sayings 222 = .ok (.iaload, 1) := by decide +kernel
theorem dX10_sayings_223 : decode cX10_sayings 223 = .ok (.iastore, 1) := by decide +kernel
theorem dX10_sayings_224 : decode cX10_sayings 224 = .ok (.iinc 3 1, 3) := by decide +kernel
theorem dX10_sayings_227 : decode cX10_sayings 227 = .ok (.goto (-29), 3) := by decide +kernel
theorem dX10_sayings_230 : decode cX10_sayings 230 = .ok (.aload_n 0, 1) := by decide +kernel
theorem dX10_sayings_231 : decode cX10_sayings 231 = .ok (.dup, 1) := by decide +kernel
theorem dX10_sayings_232 : decode cX10_sayings 232 = .ok (.getfield 268, 3) := by decide +kernel
theorem dX10_sayings_235 : decode cX10_sayings 235 = .ok (.iload_n 1, 1) := by decide +kernel
theorem dX10_sayings_236 : decode cX10_sayings 236 = .ok (.iadd, 1) := by decide +kernel
theorem dX10_sayings_237 : decode cX10_sayings 237 = .ok (.putfield 268, 3) := by decide +kernel
theorem dX10_sayings_240 : decode cX10_sayings 240 = .ok (.iload_n 1, 1) := by decide +kernel
theorem dX10_sayings_241 : decode cX10_sayings 241 = .ok (.ireturn, 1) := by decide +kernel
theorem dX10_unsay_0 : decode cX10_unsay 0 = .ok (.iload_n 1, 1) := by decide +kernel
theorem dX10_unsay_1 : decode cX10_unsay 1 = .ok (.i2l, 1) := by decide +kernel
theorem dX10_unsay_2 : decode cX10_unsay 2 = .ok (.lconst 0, 1) := by decide +kernel
theorem dX10_unsay_3 : decode cX10_unsay 3 = .ok (.aload_n 0, 1) := by decide +kernel
theorem dX10_unsay_4 : decode cX10_unsay 4 = .ok (.getfield 268, 3) := by decide +kernel
theorem dX10_unsay_7 : decode cX10_unsay 7 = .ok (.iconst 1, 1) := by decide +kernel
theorem dX10_unsay_8 : decode cX10_unsay 8 = .ok (.isub, 1) := by decide +kernel
theorem dX10_unsay_9 : decode cX10_unsay 9 = .ok (.i2l, 1) := by decide +kernel
theorem dX10_unsay_10 : decode cX10_unsay 10 = .ok (.invokestatic 98, 3) := by decide +kernel
theorem dX10_unsay_13 : decode cX10_unsay 13 = .ok (.ifCond .ne 5, 3) := by decide +kernel
theorem dX10_unsay_16 : decode cX10_unsay 16 = .ok (.iconst (-1), 1) := by decide +kernel
theorem dX10_unsay_17 : decode cX10_unsay 17 = .ok (.ireturn, 1) := by decide +kernel
theorem dX10_unsay_18 : decode cX10_unsay 18 = .ok (.aload_n 0, 1) := by decide +kernel
theorem dX10_unsay_19 : decode cX10_unsay 19 = .ok (.dup, 1) := by decide +kernel
theorem dX10_unsay_20 : decode cX10_unsay 20 = .ok (.getfield 268, 3) := by decide +kernel
theorem dX10_unsay_23 : decode cX10_unsay 23 = .ok (.iconst 1, 1) := by decide +kernel
theorem dX10_unsay_24 : decode cX10_unsay 24 = .ok (.isub, 1) := by decide +kernel
theorem dX10_unsay_25 : decode cX10_unsay 25 = .ok (.putfield 268, 3) := by decide +kernel
theorem dX10_unsay_28 : decode cX10_unsay 28 = .ok (.iconst 4, 1) := by decide +kernel
theorem dX10_unsay_29 : decode cX10_unsay 29 = .ok (.iload_n 1, 1) := by decide +kernel
theorem dX10_unsay_30 : decode cX10_unsay 30 = .ok (.imul, 1) := by decide +kernel
theorem dX10_unsay_31 : decode cX10_unsay 31 = .ok (.istore_n 2, 1) := by decide +kernel
theorem dX10_unsay_32 : decode cX10_unsay 32 = .ok (.iload_n 2, 1) := by decide +kernel
theorem dX10_unsay_33 : decode cX10_unsay 33 = .ok (.iconst 4, 1) := by decide +kernel
theorem dX10_unsay_34 : decode cX10_unsay 34 = .ok (.aload_n 0, 1) := by decide +kernel
theorem dX10_unsay_35 : decode cX10_unsay 35 = .ok (.getfield 268, 3) := by decide +kernel
theorem dX10_unsay_38 : decode cX10_unsay 38 = .ok (.imul, 1) := by decide +kernel
theorem dX10_unsay_39 : decode cX10_unsay 39 = .ok (.if_icmp .ge 23, 3) := by decide +kernel
theorem dX10_unsay_42 : decode cX10_unsay 42 = .ok (.aload_n 0, 1) := by decide +kernel
theorem dX10_unsay_43 : decode cX10_unsay 43 = .ok (.getfield 64, 3) := by decide +kernel
theorem dX10_unsay_46 : decode cX10_unsay 46 = .ok (.iload_n 2, 1) := by decide +kernel
theorem dX10_unsay_47 : decode cX10_unsay 47 = .ok (.aload_n 0, 1) := by decide +kernel
theorem dX10_unsay_48 : decode cX10_unsay 48 = .ok (.getfield 64, 3) := by decide +kernel
theorem dX10_unsay_51 : decode cX10_unsay 51 = .ok (.iload_n 2, 1) := by decide +kernel
theorem dX10_unsay_52 : decode cX10_unsay 52 = .ok (.iconst 4, 1) := by decide +kernel
theorem dX10_unsay_53 : decode cX10_unsay 53 = .ok (.iadd, 1) := by decide +kernel
theorem dX10_unsay_54 : decode cX10_unsay 54 = .ok (.iaload, 1) := by decide +kernel
theorem dX10_unsay_55 : decode cX10_unsay 55 = .ok (.iastore, 1) := by decide +kernel
theorem dX10_unsay_56 : decode cX10_unsay 56 = .ok (.iinc 2 1, 3) := by decide +kernel
theorem dX10_unsay_59 : decode cX10_unsay 59 = .ok (.goto (-27), 3) := by decide +kernel
theorem dX10_unsay_62 : decode cX10_unsay 62 = .ok (.aload_n 0, 1) := by decide +kernel
theorem dX10_unsay_63 : decode cX10_unsay 63 = .ok (.getfield 268, 3) := by decide +kernel
theorem dX10_unsay_66 : decode cX10_unsay 66 = .ok (.ireturn, 1) := by decide +kernel
theorem dX10_goes_0 : decode cX10_goes 0 = .ok (.iconst 0, 1) := by decide +kernel
theorem dX10_goes_1 : decode cX10_goes 1 = .ok (.istore 4, 2) := by decide +kernel
theorem dX10_goes_3 : decode cX10_goes 3 = .ok (.iload 4, 2) := by decide +kernel
theorem dX10_goes_5 : decode cX10_goes 5 = .ok (.bipush 24, 2) := by decide +kernel
theorem dX10_goes_7 : decode cX10_goes 7 = .ok (.if_icmp .ge 24, 3) := by decide +kernel
theorem dX10_goes_10 : decode cX10_goes 10 = .ok (.aload_n 0, 1) := by decide +kernel
theorem dX10_goes_11 : decode cX10_goes 11 = .ok (.getfield 74, 3) := by decide +kernel
theorem dX10_goes_14 : decode cX10_goes 14 = .ok (.iload 4, 2) := by decide +kernel
theorem dX10_goes_16 : decode cX10_goes 16 = .ok (.iconst 1, 1) := by decide +kernel
theorem dX10_goes_17 : decode cX10_goes 17 = .ok (.aload_n 0, 1) := by decide +kernel
theorem dX10_goes_18 : decode cX10_goes 18 = .ok (.getfield 95, 3) := by decide +kernel
theorem dX10_goes_21 : decode cX10_goes 21 = .ok (.ishl, 1) := by decide +kernel
theorem dX10_goes_22 : decode cX10_goes 22 = .ok (.iconst 1, 1) := by decide +kernel
theorem dX10_goes_23 : decode cX10_goes 23 = .ok (.isub, 1) := by decide +kernel
theorem dX10_goes_24 : decode cX10_goes 24 = .ok (.iastore, 1) := by decide +kernel
theorem dX10_goes_25 : decode cX10_goes 25 = .ok (.iinc 4 1, 3) := by decide +kernel
theorem dX10_goes_28 : decode cX10_goes 28 = .ok (.goto (-25), 3) := by decide +kernel
theorem dX10_goes_31 : decode cX10_goes 31 = .ok (.iconst 0, 1) := by decide +kernel
theorem dX10_goes_32 : decode cX10_goes 32 = .ok (.istore 4, 2) := by decide +kernel
theorem dX10_goes_34 : decode cX10_goes 34 = .ok (.iload 4, 2) := by decide +kernel
theorem dX10_goes_36 : decode cX10_goes 36 = .ok (.aload_n 0, 1) := by decide +kernel
theorem dX10_goes_37 : decode cX10_goes 37 = .ok (.getfield 268, 3) := by decide +kernel
theorem dX10_goes_40 : decode cX10_goes 40 = .ok (.if_icmp .ge 107, 3) := by decide +kernel
theorem dX10_goes_43 : decode cX10_goes 43 = .ok (.iload 4, 2) := by decide +kernel
theorem dX10_goes_45 : decode cX10_goes 45 = .ok (.iload_n 3, 1) := by decide +kernel
theorem dX10_goes_46 : decode cX10_goes 46 = .ok (.if_icmp .eq 51, 3) := by decide +kernel
theorem dX10_goes_49 : decode cX10_goes 49 = .ok (.iload_n 2, 1) := by decide +kernel
theorem dX10_goes_50 : decode cX10_goes 50 = .ok (.aload_n 0, 1) := by decide +kernel
theorem dX10_goes_51 : decode cX10_goes 51 = .ok (.getfield 64, 3) := by decide +kernel
theorem dX10_goes_54 : decode cX10_goes 54 = .ok (.iconst 4, 1) := by decide +kernel
theorem dX10_goes_55 : decode cX10_goes 55 = .ok (.iload 4, 2) := by decide +kernel
theorem dX10_goes_57 : decode cX10_goes 57 = .ok (.imul, 1) := by decide +kernel
theorem dX10_goes_58 : decode cX10_goes 58 = .ok (.iaload, 1) := by decide +kernel
theorem dX10_goes_59 : decode cX10_goes 59 = .ok (.ishr, 1) := by decide +kernel
theorem dX10_goes_60 : decode cX10_goes 60 = .ok (.iconst 1, 1) := by decide +kernel
theorem dX10_goes_61 : decode cX10_goes 61 = .ok (.iand, 1) := by decide +kernel
theorem dX10_goes_62 : decode cX10_goes 62 = .ok (.ifCond .ne 35, 3) := by decide +kernel
theorem dX10_goes_65 : decode cX10_goes 65 = .ok (.aload_n 0, 1) := by decide +kernel
theorem dX10_goes_66 : decode cX10_goes 66 = .ok (.getfield 64, 3) := by decide +kernel
theorem dX10_goes_69 : decode cX10_goes 69 = .ok (.iconst 4, 1) := by decide +kernel
theorem dX10_goes_70 : decode cX10_goes 70 = .ok (.iload 4, 2) := by decide +kernel
theorem dX10_goes_72 : decode cX10_goes 72 = .ok (.imul, 1) := by decide +kernel
theorem dX10_goes_73 : decode cX10_goes 73 = .ok (.iaload, 1) := by decide +kernel
theorem dX10_goes_74 : decode cX10_goes 74 = .ok (.iload_n 1, 1) := by decide +kernel
theorem dX10_goes_75 : decode cX10_goes 75 = .ok (.if_icmp .eq 18, 3) := by decide +kernel
theorem dX10_goes_78 : decode cX10_goes 78 = .ok (.aload_n 0, 1) := by decide +kernel
theorem dX10_goes_79 : decode cX10_goes 79 = .ok (.getfield 64, 3) := by decide +kernel
theorem dX10_goes_82 : decode cX10_goes 82 = .ok (.iconst 4, 1) := by decide +kernel
theorem dX10_goes_83 : decode cX10_goes 83 = .ok (.iload 4, 2) := by decide +kernel
theorem dX10_goes_85 : decode cX10_goes 85 = .ok (.imul, 1) := by decide +kernel
theorem dX10_goes_86 : decode cX10_goes 86 = .ok (.iconst 1, 1) := by decide +kernel
theorem dX10_goes_87 : decode cX10_goes 87 = .ok (.iadd, 1) := by decide +kernel
theorem dX10_goes_88 : decode cX10_goes 88 = .ok (.iaload, 1) := by decide +kernel
theorem dX10_goes_89 : decode cX10_goes 89 = .ok (.iload_n 1, 1) := by decide +kernel
theorem dX10_goes_90 : decode cX10_goes 90 = .ok (.if_icmp .ne 7, 3) := by decide +kernel
theorem dX10_goes_93 : decode cX10_goes 93 = .ok (.iconst 1, 1) := by decide +kernel
theorem dX10_goes_94 : decode cX10_goes 94 = .ok (.goto 4, 3) := by decide +kernel
theorem dX10_goes_97 : decode cX10_goes 97 = .ok (.iconst 0, 1) := by decide +kernel
theorem dX10_goes_98 : decode cX10_goes 98 = .ok (.istore 5, 2) := by decide +kernel
theorem dX10_goes_100 : decode cX10_goes 100 = .ok (.aload_n 0, 1) := by decide +kernel
theorem dX10_goes_101 : decode cX10_goes 101 = .ok (.getfield 74, 3) := by decide +kernel
theorem dX10_goes_104 : decode cX10_goes 104 = .ok (.aload_n 0, 1) := by decide +kernel
theorem dX10_goes_105 : decode cX10_goes 105 = .ok (.getfield 64, 3) := by decide +kernel
theorem dX10_goes_108 : decode cX10_goes 108 = .ok (.iconst 4, 1) := by decide +kernel
theorem dX10_goes_109 : decode cX10_goes 109 = .ok (.iload 4, 2) := by decide +kernel
theorem dX10_goes_111 : decode cX10_goes 111 = .ok (.imul, 1) := by decide +kernel
theorem dX10_goes_112 : decode cX10_goes 112 = .ok (.iconst 3, 1) := by decide +kernel
theorem dX10_goes_113 : decode cX10_goes 113 = .ok (.iadd, 1) := by decide +kernel
theorem dX10_goes_114 : decode cX10_goes 114 = .ok (.iaload, 1) := by decide +kernel
theorem dX10_goes_115 : decode cX10_goes 115 = .ok (.dup2, 1) := by decide +kernel
theorem dX10_goes_116 : decode cX10_goes 116 = .ok (.iaload, 1) := by decide +kernel
theorem dX10_goes_117 : decode cX10_goes 117 = .ok (.iload 5, 2) := by decide +kernel
theorem dX10_goes_119 : decode cX10_goes 119 = .ok (.ifCond .eq 19, 3) := by decide +kernel
theorem dX10_goes_122 : decode cX10_goes 122 = .ok (.iconst 1, 1) := by decide +kernel
theorem dX10_goes_123 : decode cX10_goes 123 = .ok (.aload_n 0, 1) := by decide +kernel
theorem dX10_goes_124 : decode cX10_goes 124 = .ok (.getfield 64, 3) := by decide +kernel
theorem dX10_goes_127 : decode cX10_goes 127 = .ok (.iconst 4, 1) := by decide +kernel
theorem dX10_goes_128 : decode cX10_goes 128 = .ok (.iload 4, 2) := by decide +kernel
theorem dX10_goes_130 : decode cX10_goes 130 = .ok (.imul, 1) := by decide +kernel
theorem dX10_goes_131 : decode cX10_goes 131 = .ok (.iconst 2, 1) := by decide +kernel
theorem dX10_goes_132 : decode cX10_goes 132 = .ok (.iadd, 1) := by decide +kernel
theorem dX10_goes_133 : decode cX10_goes 133 = .ok (.iaload, 1) := by decide +kernel
theorem dX10_goes_134 : decode cX10_goes 134 = .ok (.ishl, 1) := by decide +kernel
theorem dX10_goes_135 : decode cX10_goes 135 = .ok (.goto 4, 3) := by decide +kernel
theorem dX10_goes_138 : decode cX10_goes 138 = .ok (.iconst (-1), 1) := by decide +kernel
theorem dX10_goes_139 : decode cX10_goes 139 = .ok (.iand, 1) := by decide +kernel
theorem dX10_goes_140 : decode cX10_goes 140 = .ok (.iastore, 1) := by decide +kernel
theorem dX10_goes_141 : decode cX10_goes 141 = .ok (.iinc 4 1, 3) := by decide +kernel
theorem dX10_goes_144 : decode cX10_goes 144 = .ok (.goto (-110), 3) := by decide +kernel
theorem dX10_goes_147 : decode cX10_goes 147 = .ok (.iconst 1, 1) := by decide +kernel
theorem dX10_goes_148 : decode cX10_goes 148 = .ok (.istore 4, 2) := by decide +kernel
theorem dX10_goes_150 : decode cX10_goes 150 = .ok (.iload 4, 2) := by decide +kernel
theorem dX10_goes_152 : decode cX10_goes 152 = .ok (.bipush 24, 2) := by decide +kernel
theorem dX10_goes_154 : decode cX10_goes 154 = .ok (.if_icmp .ge 38, 3) := by decide +kernel
theorem dX10_goes_157 : decode cX10_goes 157 = .ok (.aload_n 0, 1) := by decide +kernel
theorem dX10_goes_158 : decode cX10_goes 158 = .ok (.getfield 74, 3) := by decide +kernel
theorem dX10_goes_161 : decode cX10_goes 161 = .ok (.iload 4, 2) := by decide +kernel
theorem dX10_goes_163 : decode cX10_goes 163 = .ok (.dup2, 1) := by decide +kernel
theorem dX10_goes_164 : decode cX10_goes 164 = .ok (.iaload, 1) := by decide +kernel
theorem dX10_goes_165 : decode cX10_goes 165 = .ok (.aload_n 0, 1) := by decide +kernel
theorem dX10_goes_166 : decode cX10_goes 166 = .ok (.aload_n 0, 1) := by decide +kernel
theorem dX10_goes_167 : decode cX10_goes 167 = .ok (.getfield 74, 3) := by decide +kernel
theorem dX10_goes_170 : decode cX10_goes 170 = .ok (.iload 4, 2) := by decide +kernel
theorem dX10_goes_172 : decode cX10_goes 172 = .ok (.iconst 1, 1) := by decide +kernel
theorem dX10_goes_173 : decode cX10_goes 173 = .ok (.isub, 1) := by decide +kernel
theorem dX10_goes_174 : decode cX10_goes 174 = .ok (.iaload, 1) := by decide +kernel
theorem dX10_goes_175 : decode cX10_goes 175 = .ok (.aload_n 0, 1) := by decide +kernel
theorem dX10_goes_176 : decode cX10_goes 176 = .ok (.getfield 61, 3) := by decide +kernel
theorem dX10_goes_179 : decode cX10_goes 179 = .ok (.iload_n 1, 1) := by decide +kernel
theorem dX10_goes_180 : decode cX10_goes 180 = .ok (.iaload, 1) := by decide +kernel
theorem dX10_goes_181 : decode cX10_goes 181 = .ok (.invokevirtual 271, 3) := by decide +kernel
theorem dX10_goes_184 : decode cX10_goes 184 = .ok (.iand, 1) := by decide +kernel
theorem dX10_goes_185 : decode cX10_goes 185 = .ok (.iastore, 1) := by decide +kernel
theorem dX10_goes_186 : decode cX10_goes 186 = .ok (.iinc 4 1, 3) := by decide +kernel
theorem dX10_goes_189 : decode cX10_goes 189 = .ok (.goto (-39), 3) := by decide +kernel
theorem dX10_goes_192 : decode cX10_goes 192 = .ok (.bipush 22, 2) := by decide +kernel
theorem dX10_goes_194 : decode cX10_goes 194 = .ok (.istore 4, 2) := by decide +kernel
theorem dX10_goes_196 : decode cX10_goes 196 = .ok (.iload 4, 2) := by decide +kernel
theorem dX10_goes_198 : decode cX10_goes 198 = .ok (.ifCond .lt 38, 3) := by decide +kernel
theorem dX10_goes_201 : decode cX10_goes 201 = .ok (.aload_n 0, 1) := by decide +kernel
theorem dX10_goes_202 : decode cX10_goes 202 = .ok (.getfield 74, 3) := by decide +kernel
theorem dX10_goes_205 : decode cX10_goes 205 = .ok (.iload 4, 2) := by decide +kernel
theorem dX10_goes_207 : decode cX10_goes 207 = .ok (.dup2, 1) := by decide +kernel
theorem dX10_goes_208 : decode cX10_goes 208 = .ok (.iaload, 1) := by decide +kernel
theorem dX10_goes_209 : decode cX10_goes 209 = .ok (.aload_n 0, 1) := by decide +kernel
theorem dX10_goes_210 : decode cX10_goes 210 = .ok (.aload_n 0, 1) := by decide +kernel
theorem dX10_goes_211 : decode cX10_goes 211 = .ok (.getfield 74, 3) := by decide +kernel
theorem dX10_goes_214 : decode cX10_goes 214 = .ok (.iload 4, 2) := by decide +kernel
theorem dX10_goes_216 : decode cX10_goes 216 = .ok (.iconst 1, 1) := by decide +kernel
theorem dX10_goes_217 : decode cX10_goes 217 = .ok (.iadd, 1) := by decide +kernel
theorem dX10_goes_218 : decode cX10_goes 218 = .ok (.iaload, 1) := by decide +kernel
theorem dX10_goes_219 : decode cX10_goes 219 = .ok (.aload_n 0, 1) := by decide +kernel
theorem dX10_goes_220 : decode cX10_goes 220 = .ok (.getfield 61, 3) := by decide +kernel
theorem dX10_goes_223 : decode cX10_goes 223 = .ok (.iload_n 1, 1) := by decide +kernel
theorem dX10_goes_224 : decode cX10_goes 224 = .ok (.iaload, 1) := by decide +kernel
theorem dX10_goes_225 : decode cX10_goes 225 = .ok (.invokevirtual 271, 3) := by decide +kernel
theorem dX10_goes_228 : decode cX10_goes 228 = .ok (.iand, 1) := by decide +kernel
theorem dX10_goes_229 : decode cX10_goes 229 = .ok (.iastore, 1) := by decide +kernel
theorem dX10_goes_230 : decode cX10_goes 230 = .ok (.iinc 4 (-1), 3) := by decide +kernel
theorem dX10_goes_233 : decode cX10_goes 233 = .ok (.goto (-37), 3) := by decide +kernel
theorem dX10_goes_236 : decode cX10_goes 236 = .ok (.aload_n 0, 1) := by decide +kernel
theorem dX10_goes_237 : decode cX10_goes 237 = .ok (.getfield 74, 3) := by decide +kernel
theorem dX10_goes_240 : decode cX10_goes 240 = .ok (.iconst 0, 1) := by decide +kernel
theorem dX10_goes_241 : decode cX10_goes 241 = .ok (.iaload, 1) := by decide +kernel
theorem dX10_goes_242 : decode cX10_goes 242 = .ok (.ifCond .eq 7, 3) := by decide +kernel
theorem dX10_goes_245 : decode cX10_goes 245 = .ok (.iconst 1, 1) := by decide +kernel
theorem dX10_goes_246 : decode cX10_goes 246 = .ok (.goto 4, 3) := by decide +kernel
theorem dX10_goes_249 : decode cX10_goes 249 = .ok (.iconst 0, 1) := by decide +kernel
theorem dX10_goes_250 : decode cX10_goes 250 = .ok (.ireturn, 1) := by decide +kernel
theorem dX10_around_0 : decode cX10_around 0 = .ok (.iload_n 1, 1) := by decide +kernel
theorem dX10_around_1 : decode cX10_around 1 = .ok (.istore_n 3, 1) := by decide +kernel
theorem dX10_around_2 : decode cX10_around 2 = .ok (.iconst 0, 1) := by decide +kernel
theorem dX10_around_3 : decode cX10_around 3 = .ok (.istore 4, 2) := by decide +kernel
theorem dX10_around_5 : decode cX10_around 5 = .ok (.iload 4, 2) := by decide +kernel
theorem dX10_around_7 : decode cX10_around 7 = .ok (.aload_n 0, 1) := by decide +kernel
theorem dX10_around_8 : decode cX10_around 8 = .ok (.getfield 95, 3) := by decide +kernel
theorem dX10_around_11 : decode cX10_around 11 = .ok (.if_icmp .ge 81, 3) := by decide +kernel
theorem dX10_around_14 : decode cX10_around 14 = .ok (.iconst 0, 1) := by decide +kernel
theorem dX10_around_15 : decode cX10_around 15 = .ok (.istore 5, 2) := by decide +kernel
theorem dX10_around_17 : decode cX10_around 17 = .ok (.iload 5, 2) := by decide +kernel
theorem dX10_around_19 : decode cX10_around 19 = .ok (.aload_n 0, 1) := by decide +kernel
theorem dX10_around_20 : decode cX10_around 20 = .ok (.getfield 95, 3) := by decide +kernel
theorem dX10_around_23 : decode cX10_around 23 = .ok (.if_icmp .ge 63, 3) := by decide +kernel
theorem dX10_around_26 : decode cX10_around 26 = .ok (.iload_n 1, 1) := by decide +kernel
theorem dX10_around_27 : decode cX10_around 27 = .ok (.iload 4, 2) := by decide +kernel
theorem dX10_around_29 : decode cX10_around 29 = .ok (.ishr, 1) := by decide +kernel
theorem dX10_around_30 : decode cX10_around 30 = .ok (.iconst 1, 1) := by decide +kernel
theorem dX10_around_31 : decode cX10_around 31 = .ok (.iand, 1) := by decide +kernel
theorem dX10_around_32 : decode cX10_around 32 = .ok (.iconst 1, 1) := by decide +kernel
theorem dX10_around_33 : decode cX10_around 33 = .ok (.if_icmp .ne 53, 3) := by decide +kernel
theorem dX10_around_36 : decode cX10_around 36 = .ok (.iload_n 3, 1) := by decide +kernel
theorem dX10_around_37 : decode cX10_around 37 = .ok (.aload_n 0, 1) := by decide +kernel
theorem dX10_around_38 : decode cX10_around 38 = .ok (.getfield 7, 3) := by decide +kernel
theorem dX10_around_41 : decode cX10_around 41 = .ok (.bipush 10, 2) := by decide +kernel
theorem dX10_around_43 : decode cX10_around 43 = .ok (.iload 4, 2) := by decide +kernel
theorem dX10_around_45 : decode cX10_around 45 = .ok (.imul, 1) := by decide +kernel
theorem dX10_around_46 : decode cX10_around 46 = .ok (.iload 5, 2) := by decide +kernel
theorem dX10_around_48 : decode cX10_around 48 = .ok (.iadd, 1) := by decide +kernel
theorem dX10_around_49 : decode cX10_around 49 = .ok (.iaload, 1) := by decide +kernel
theorem dX10_around_50 : decode cX10_around 50 = .ok (.ifCond .lt 27, 3) := by decide +kernel
theorem dX10_around_53 : decode cX10_around 53 = .ok (.aload_n 0, 1) := by decide +kernel
theorem dX10_around_54 : decode cX10_around 54 = .ok (.getfield 7, 3) := by decide +kernel
theorem dX10_around_57 : decode cX10_around 57 = .ok (.bipush 10, 2) := by decide +kernel
theorem dX10_around_59 : decode cX10_around 59 = .ok (.iload 4, 2) := by decide +kernel
theorem dX10_around_61 : decode cX10_around 61 = .ok (.imul, 1) := by decide +kernel
theorem dX10_around_62 : decode cX10_around 62 = .ok (.iload 5, 2) := by decide +kernel
theorem dX10_around_64 : decode cX10_around 64 = .ok (.iadd, 1) := by decide +kernel
theorem dX10_around_65 : decode cX10_around 65 = .ok (.iaload, 1) := by decide +kernel
theorem dX10_around_66 : decode cX10_around 66 = .ok (.iload_n 2, 1) := by decide +kernel
theorem dX10_around_67 : decode cX10_around 67 = .ok (.if_icmp .gt 10, 3) := by decide +kernel
theorem dX10_around_70 : decode cX10_around 70 = .ok (.iconst 1, 1) := by decide +kernel
theorem dX10_around_71 : decode cX10_around 71 = .ok (.iload 5, 2) := by decide +kernel
theorem dX10_around_73 : decode cX10_around 73 = .ok (.ishl, 1) := by decide +kernel
theorem dX10_around_74 : decode cX10_around 74 = .ok (.goto 4, 3) := by decide +kernel
theorem dX10_around_77 : decode cX10_around 77 = .ok (.iconst 0, 1) := by decide +kernel
theorem dX10_around_78 : decode cX10_around 78 = .ok (.ior, 1) := by decide +kernel
theorem dX10_around_79 : decode cX10_around 79 = .ok (.istore_n 3, 1) := by decide +kernel
theorem dX10_around_80 : decode cX10_around 80 = .ok (.iinc 5 1, 3) := by decide +kernel
theorem dX10_around_83 : decode cX10_around 83 = .ok (.goto (-66), 3) := by decide +kernel
theorem dX10_around_86 : decode cX10_around 86 = .ok (.iinc 4 1, 3) := by decide +kernel
theorem dX10_around_89 : decode cX10_around 89 = .ok (.goto (-84), 3) := by decide +kernel
theorem dX10_around_92 : decode cX10_around 92 = .ok (.iload_n 3, 1) := by decide +kernel
theorem dX10_around_93 : decode cX10_around 93 = .ok (.ireturn, 1) := by decide +kernel
theorem dX10_liarsBut_0 : decode cX10_liarsBut 0 = .ok (.iconst 1, 1) := by decide +kernel
theorem dX10_liarsBut_1 : decode cX10_liarsBut 1 = .ok (.aload_n 0, 1) := by decide +kernel
theorem dX10_liarsBut_2 : decode cX10_liarsBut 2 = .ok (.getfield 262, 3) := by decide +kernel
theorem dX10_liarsBut_5 : decode cX10_liarsBut 5 = .ok (.ishl, 1) := by decide +kernel
theorem dX10_liarsBut_6 : decode cX10_liarsBut 6 = .ok (.iconst 1, 1) := by decide +kernel
theorem dX10_liarsBut_7 : decode cX10_liarsBut 7 = .ok (.isub, 1) := by decide +kernel
theorem dX10_liarsBut_8 : decode cX10_liarsBut 8 = .ok (.istore_n 2, 1) := by decide +kernel
theorem dX10_liarsBut_9 : decode cX10_liarsBut 9 = .ok (.iload_n 2, 1) := by decide +kernel
theorem dX10_liarsBut_10 : decode cX10_liarsBut 10 = .ok (.istore_n 3, 1) := by decide +kernel
theorem dX10_liarsBut_11 : decode cX10_liarsBut 11 = .ok (.iload_n 3, 1) := by decide +kernel
theorem dX10_liarsBut_12 : decode cX10_liarsBut 12 = .ok (.ifCond .lt 71, 3) := by decide +kernel
theorem dX10_liarsBut_15 : decode cX10_liarsBut 15 = .ok (.iload_n 3, 1) := by decide +kernel
theorem dX10_liarsBut_16 : decode cX10_liarsBut 16 = .ok (.invokestatic 259, 3) := by decide +kernel
theorem dX10_liarsBut_19 : decode cX10_liarsBut 19 = .ok (.iload_n 2, 1) := by decide +kernel
theorem dX10_liarsBut_20 : decode cX10_liarsBut 20 = .ok (.invokestatic 259, 3) := by decide +kernel
theorem dX10_liarsBut_23 : decode cX10_liarsBut 23 = .ok (.if_icmp .gt 7, 3) := by decide +kernel
theorem dX10_liarsBut_26 : decode cX10_liarsBut 26 = .ok (.iconst 1, 1) := by decide +kernel
theorem dX10_liarsBut_27 : decode cX10_liarsBut 27 = .ok (.goto 4, 3) := by decide +kernel
theorem dX10_liarsBut_30 : decode cX10_liarsBut 30 = .ok (.iconst 0, 1) := by decide +kernel
theorem dX10_liarsBut_31 : decode cX10_liarsBut 31 = .ok (.istore 4, 2) := by decide +kernel
theorem dX10_liarsBut_33 : decode cX10_liarsBut 33 = .ok (.iconst 0, 1) := by decide +kernel
theorem dX10_liarsBut_34 : decode cX10_liarsBut 34 = .ok (.istore 5, 2) := by decide +kernel
theorem dX10_liarsBut_36 : decode cX10_liarsBut 36 = .ok (.iload 5, 2) := by decide +kernel
theorem dX10_liarsBut_38 : decode cX10_liarsBut 38 = .ok (.aload_n 0, 1) := by decide +kernel
theorem dX10_liarsBut_39 : decode cX10_liarsBut 39 = .ok (.getfield 262, 3) := by decide +kernel
theorem dX10_liarsBut_42 : decode cX10_liarsBut 42 = .ok (.if_icmp .ge 24, 3) := by decide +kernel
theorem dX10_liarsBut_45 : decode cX10_liarsBut 45 = .ok (.iload 4, 2) := by decide +kernel
theorem dX10_liarsBut_47 : decode cX10_liarsBut 47 = .ok (.ifCond .eq 19, 3) := by decide +kernel
theorem dX10_liarsBut_50 : decode cX10_liarsBut 50 = .ok (.aload_n 0, 1) := by decide +kernel
theorem dX10_liarsBut_51 : decode cX10_liarsBut 51 = .ok (.iload 5, 2) := by decide +kernel
theorem dX10_liarsBut_53 : decode cX10_liarsBut 53 = .ok (.iload_n 3, 1) := by decide +kernel
theorem dX10_liarsBut_54 : decode cX10_liarsBut 54 = .ok (.iload_n 1, 1) := by decide +kernel
theorem dX10_liarsBut_55 : decode cX10_liarsBut 55 = .ok (.invokevirtual 274, 3) := by decide +kernel
theorem dX10_liarsBut_58 : decode cX10_liarsBut 58 = .ok (.istore 4, 2) := by decide +kernel
theorem dX10_liarsBut_60 : decode cX10_liarsBut 60 = .ok (.iinc 5 1, 3) := by decide +kernel
theorem dX10_liarsBut_63 : decode cX10_liarsBut 63 = .ok (.goto (-27), 3) := by decide +kernel
theorem dX10_liarsBut_66 : decode cX10_liarsBut 66 = .ok (.iload 4, 2) := by decide +kernel
theorem dX10_liarsBut_68 : decode cX10_liarsBut 68 = .ok (.ifCond .eq 7, 3) := by decide +kernel
theorem dX10_liarsBut_71 : decode cX10_liarsBut 71 = .ok (.iload_n 3, 1) := by decide +kernel
theorem dX10_liarsBut_72 : decode cX10_liarsBut 72 = .ok (.goto 4, 3) := by decide +kernel
theorem dX10_liarsBut_75 : decode cX10_liarsBut 75 = .ok (.iload_n 2, 1) := by decide +kernel
theorem dX10_liarsBut_76 : decode cX10_liarsBut 76 = .ok (.istore_n 2, 1) := by decide +kernel
theorem dX10_liarsBut_77 : decode cX10_liarsBut 77 = .ok (.iinc 3 (-1), 3) := by decide +kernel
theorem dX10_liarsBut_80 : decode cX10_liarsBut 80 = .ok (.goto (-69), 3) := by decide +kernel
theorem dX10_liarsBut_83 : decode cX10_liarsBut 83 = .ok (.iload_n 2, 1) := by decide +kernel
theorem dX10_liarsBut_84 : decode cX10_liarsBut 84 = .ok (.ireturn, 1) := by decide +kernel
theorem dX10_liars_0 : decode cX10_liars 0 = .ok (.aload_n 0, 1) := by decide +kernel
theorem dX10_liars_1 : decode cX10_liars 1 = .ok (.getfield 95, 3) := by decide +kernel
theorem dX10_liars_4 : decode cX10_liars 4 = .ok (.ifCond .ne 8, 3) := by decide +kernel
theorem dX10_liars_7 : decode cX10_liars 7 = .ok (.bipush (-2), 2) := by decide +kernel
theorem dX10_liars_9 : decode cX10_liars 9 = .ok (.goto 9, 3) := by decide +kernel
theorem dX10_liars_12 : decode cX10_liars 12 = .ok (.aload_n 0, 1) := by decide +kernel
theorem dX10_liars_13 : decode cX10_liars 13 = .ok (.bipush (-4), 2) := by decide +kernel
theorem dX10_liars_15 : decode cX10_liars 15 = .ok (.invokevirtual 278, 3) := by decide +kernel
theorem dX10_liars_18 : decode cX10_liars 18 = .ok (.ireturn, 1) := by decide +kernel
theorem dX10_maybe_0 : decode cX10_maybe 0 = .ok (.aload_n 0, 1) := by decide +kernel
theorem dX10_maybe_1 : decode cX10_maybe 1 = .ok (.iload_n 1, 1) := by decide +kernel
theorem dX10_maybe_2 : decode cX10_maybe 2 = .ok (.invokevirtual 265, 3) := by decide +kernel
theorem dX10_maybe_5 : decode cX10_maybe 5 = .ok (.ifCond .eq 10, 3) := by decide +kernel
theorem dX10_maybe_8 : decode cX10_maybe 8 = .ok (.iload_n 2, 1) := by decide +kernel
theorem dX10_maybe_9 : decode cX10_maybe 9 = .ok (.invokestatic 164, 3) := by decide +kernel
theorem dX10_maybe_12 : decode cX10_maybe 12 = .ok (.ifCond .ne 5, 3) := by decide +kernel
theorem dX10_maybe_15 : decode cX10_maybe 15 = .ok (.iconst (-1), 1) := by decide +kernel
theorem dX10_maybe_16 : decode cX10_maybe 16 = .ok (.ireturn, 1) := by decide +kernel
theorem dX10_maybe_17 : decode cX10_maybe 17 = .ok (.aload_n 0, 1) := by decide +kernel
theorem dX10_maybe_18 : decode cX10_maybe 18 = .ok (.getfield 95, 3) := by decide +kernel
theorem dX10_maybe_21 : decode cX10_maybe 21 = .ok (.ifCond .ne 6, 3) := by decide +kernel
theorem dX10_maybe_24 : decode cX10_maybe 24 = .ok (.bipush (-2), 2) := by decide +kernel
theorem dX10_maybe_26 : decode cX10_maybe 26 = .ok (.ireturn, 1) := by decide +kernel
theorem dX10_maybe_27 : decode cX10_maybe 27 = .ok (.aload_n 0, 1) := by decide +kernel
theorem dX10_maybe_28 : decode cX10_maybe 28 = .ok (.iload_n 1, 1) := by decide +kernel
theorem dX10_maybe_29 : decode cX10_maybe 29 = .ok (.aload_n 0, 1) := by decide +kernel
theorem dX10_maybe_30 : decode cX10_maybe 30 = .ok (.bipush (-4), 2) := by decide +kernel
theorem dX10_maybe_32 : decode cX10_maybe 32 = .ok (.invokevirtual 278, 3) := by decide +kernel
theorem dX10_maybe_35 : decode cX10_maybe 35 = .ok (.bipush (-4), 2) := by decide +kernel
theorem dX10_maybe_37 : decode cX10_maybe 37 = .ok (.invokevirtual 274, 3) := by decide +kernel
theorem dX10_maybe_40 : decode cX10_maybe 40 = .ok (.pop, 1) := by decide +kernel
theorem dX10_maybe_41 : decode cX10_maybe 41 = .ok (.aload_n 0, 1) := by decide +kernel
theorem dX10_maybe_42 : decode cX10_maybe 42 = .ok (.getfield 74, 3) := by decide +kernel
theorem dX10_maybe_45 : decode cX10_maybe 45 = .ok (.iload_n 2, 1) := by decide +kernel
theorem dX10_maybe_46 : decode cX10_maybe 46 = .ok (.iaload, 1) := by decide +kernel
theorem dX10_maybe_47 : decode cX10_maybe 47 = .ok (.ireturn, 1) := by decide +kernel
theorem dX10_theft_0 : decode cX10_theft 0 = .ok (.aload_n 0, 1) := by decide +kernel
theorem dX10_theft_1 : decode cX10_theft 1 = .ok (.iload_n 1, 1) := by decide +kernel
theorem dX10_theft_2 : decode cX10_theft 2 = .ok (.invokevirtual 108, 3) := by decide +kernel
theorem dX10_theft_5 : decode cX10_theft 5 = .ok (.ifCond .eq 23, 3) := by decide +kernel
theorem dX10_theft_8 : decode cX10_theft 8 = .ok (.iload_n 2, 1) := by decide +kernel
theorem dX10_theft_9 : decode cX10_theft 9 = .ok (.invokestatic 164, 3) := by decide +kernel
theorem dX10_theft_12 : decode cX10_theft 12 = .ok (.ifCond .eq 16, 3) := by decide +kernel
theorem dX10_theft_15 : decode cX10_theft 15 = .ok (.iload_n 3, 1) := by decide +kernel
theorem dX10_theft_16 : decode cX10_theft 16 = .ok (.i2l, 1) := by decide +kernel
theorem dX10_theft_17 : decode cX10_theft 17 = .ok (.iload_n 2, 1) := by decide +kernel
theorem dX10_theft_18 : decode cX10_theft 18 = .ok (.i2l, 1) := by decide +kernel
theorem dX10_theft_19 : decode cX10_theft 19 = .ok (.ldc2_w 102, 3) := by decide +kernel
theorem dX10_theft_22 : decode cX10_theft 22 = .ok (.invokestatic 98, 3) := by decide +kernel
theorem dX10_theft_25 : decode cX10_theft 25 = .ok (.ifCond .ne 5, 3) := by decide +kernel
theorem dX10_theft_28 : decode cX10_theft 28 = .ok (.iconst (-1), 1) := by decide +kernel
theorem dX10_theft_29 : decode cX10_theft 29 = .ok (.ireturn, 1) := by decide +kernel
theorem dX10_theft_30 : decode cX10_theft 30 = .ok (.aload_n 0, 1) := by decide +kernel
theorem dX10_theft_31 : decode cX10_theft 31 = .ok (.iload_n 1, 1) := by decide +kernel
theorem dX10_theft_32 : decode cX10_theft 32 = .ok (.putfield 67, 3) := by decide +kernel
theorem dX10_theft_35 : decode cX10_theft 35 = .ok (.aload_n 0, 1) := by decide +kernel
theorem dX10_theft_36 : decode cX10_theft 36 = .ok (.iload_n 2, 1) := by decide +kernel
theorem dX10_theft_37 : decode cX10_theft 37 = .ok (.putfield 281, 3) := by decide +kernel
theorem dX10_theft_40 : decode cX10_theft 40 = .ok (.aload_n 0, 1) := by decide +kernel
theorem dX10_theft_41 : decode cX10_theft 41 = .ok (.iload_n 3, 1) := by decide +kernel
theorem dX10_theft_42 : decode cX10_theft 42 = .ok (.putfield 284, 3) := by decide +kernel
theorem dX10_theft_45 : decode cX10_theft 45 = .ok (.iconst 1, 1) := by decide +kernel
theorem dX10_theft_46 : decode cX10_theft 46 = .ok (.ireturn, 1) := by decide +kernel
theorem dX10_suspectsBut_0 : decode cX10_suspectsBut 0 = .ok (.aload_n 0, 1) := by decide +kernel
theorem dX10_suspectsBut_1 : decode cX10_suspectsBut 1 = .ok (.iload_n 1, 1) := by decide +kernel
theorem dX10_suspectsBut_2 : decode cX10_suspectsBut 2 = .ok (.invokevirtual 278, 3) := by decide +kernel
theorem dX10_suspectsBut_5 : decode cX10_suspectsBut 5 = .ok (.istore_n 2, 1) := by decide +kernel
theorem dX10_suspectsBut_6 : decode cX10_suspectsBut 6 = .ok (.iconst 0, 1) := by decide +kernel
theorem dX10_suspectsBut_7 : decode cX10_suspectsBut 7 = .ok (.istore_n 3, 1) := by decide +kernel
theorem dX10_suspectsBut_8 : decode cX10_suspectsBut 8 = .ok (.iload_n 3, 1) := by decide +kernel
theorem dX10_suspectsBut_9 : decode cX10_suspectsBut 9 = .ok (.aload_n 0, 1) := by decide +kernel
theorem dX10_suspectsBut_10 : decode cX10_suspectsBut 10 = .ok (.getfield 262, 3) := by decide +kernel
theorem dX10_suspectsBut_13 : decode cX10_suspectsBut 13 = .ok (.if_icmp .ge 84, 3) := by decide +kernel
theorem dX10_suspectsBut_16 : decode cX10_suspectsBut 16 = .ok (.aload_n 0, 1) := by decide +kernel
theorem dX10_suspectsBut_17 : decode cX10_suspectsBut 17 = .ok (.iload_n 3, 1) := by decide +kernel
theorem dX10_suspectsBut_18 : decode cX10_suspectsBut 18 = .ok (.iload_n 2, 1) := by decide +kernel
theorem dX10_suspectsBut_19 : decode cX10_suspectsBut 19 = .ok (.iload_n 1, 1) := by decide +kernel
theorem dX10_suspectsBut_20 : decode cX10_suspectsBut 20 = .ok (.invokevirtual 274, 3) := by decide +kernel
theorem dX10_suspectsBut_23 : decode cX10_suspectsBut 23 = .ok (.pop, 1) := by decide +kernel
theorem dX10_suspectsBut_24 : decode cX10_suspectsBut 24 = .ok (.iconst 0, 1) := by decide +kernel
theorem dX10_suspectsBut_25 : decode cX10_suspectsBut 25 = .ok (.istore 4, 2) := by decide +kernel
theorem dX10_suspectsBut_27 : decode cX10_suspectsBut 27 = .ok (.iload 4, 2) := by decide +kernel
theorem dX10_suspectsBut_29 : decode cX10_suspectsBut 29 = .ok (.bipush 24, 2) := by decide +kernel
theorem dX10_suspectsBut_31 : decode cX10_suspectsBut 31 = .ok (.if_icmp .ge 60, 3) := by decide +kernel
theorem dX10_suspectsBut_34 : decode cX10_suspectsBut 34 = .ok (.aload_n 0, 1) := by decide +kernel
theorem dX10_suspectsBut_35 : decode cX10_suspectsBut 35 = .ok (.getfield 77, 3) := by decide +kernel
theorem dX10_suspectsBut_38 : decode cX10_suspectsBut 38 = .ok (.bipush 24, 2) := by decide +kernel
theorem dX10_suspectsBut_40 : decode cX10_suspectsBut 40 = .ok (.iload_n 3, 1) := by decide +kernel
theorem dX10_suspectsBut_41 : decode cX10_suspectsBut 41 = .ok (.imul, 1) := by decide +kernel
theorem dX10_suspectsBut_42 : decode cX10_suspectsBut 42 = .ok (.iload 4, 2) := by decide +kernel
theorem dX10_suspectsBut_44 : decode cX10_suspectsBut 44 = .ok (.iadd, 1) := by decide +kernel
theorem dX10_suspectsBut_45 : decode cX10_suspectsBut 45 = .ok (.aload_n 0, 1) := by decide +kernel
theorem dX10_suspectsBut_46 : decode cX10_suspectsBut 46 = .ok (.getfield 74, 3) := by decide +kernel
theorem dX10_suspectsBut_49 : decode cX10_suspectsBut 49 = .ok (.iload 4, 2) := by decide +kernel
theorem dX10_suspectsBut_51 : decode cX10_suspectsBut 51 = .ok (.iaload, 1) := by decide +kernel
theorem dX10_suspectsBut_52 : decode cX10_suspectsBut 52 = .ok (.aload_n 0, 1) := by decide +kernel
theorem dX10_suspectsBut_53 : decode cX10_suspectsBut 53 = .ok (.getfield 67, 3) := by decide +kernel
theorem dX10_suspectsBut_56 : decode cX10_suspectsBut 56 = .ok (.ishr, 1) := by decide +kernel
theorem dX10_suspectsBut_57 : decode cX10_suspectsBut 57 = .ok (.iconst 1, 1) := by decide +kernel
theorem dX10_suspectsBut_58 : decode cX10_suspectsBut 58 = .ok (.iand, 1) := by decide +kernel
theorem dX10_suspectsBut_59 : decode cX10_suspectsBut 59 = .ok (.aload_n 0, 1) := by decide +kernel
theorem dX10_suspectsBut_60 : decode cX10_suspectsBut 60 = .ok (.getfield 74, 3) := by decide +kernel
theorem dX10_suspectsBut_63 : decode cX10_suspectsBut 63 = .ok (.iload 4, 2) := by decide +kernel
theorem dX10_suspectsBut_65 : decode cX10_suspectsBut 65 = .ok (.iaload, 1) := by decide +kernel
theorem dX10_suspectsBut_66 : decode cX10_suspectsBut 66 = .ok (.iconst 1, 1) := by decide +kernel
theorem dX10_suspectsBut_67 : decode cX10_suspectsBut 67 = .ok (.aload_n 0, 1) := by decide +kernel
theorem dX10_suspectsBut_68 : decode cX10_suspectsBut 68 = .ok (.getfield 67, 3) := by decide +kernel
theorem dX10_suspectsBut_71 : decode cX10_suspectsBut 71 = .ok (.ishl, 1) := by decide +kernel
theorem dX10_suspectsBut_72 : decode cX10_suspectsBut 72 = .ok (.iconst (-1), 1) := by decide +kernel
theorem dX10_suspectsBut_73 : decode cX10_suspectsBut 73 = .ok (.ixor, 1) := by decide +kernel
theorem dX10_suspectsBut_74 : decode cX10_suspectsBut 74 = .ok (.iand, 1) := by decide +kernel
theorem dX10_suspectsBut_75 : decode cX10_suspectsBut 75 = .ok (.ifCond .eq 7, 3) := by decide +kernel
theorem dX10_suspectsBut_78 : decode cX10_suspectsBut 78 = .ok (.iconst 2, 1) := by decide +kernel
theorem dX10_suspectsBut_79 : decode cX10_suspectsBut 79 = .ok (.goto 4, 3) := by decide +kernel
theorem dX10_suspectsBut_82 : decode cX10_suspectsBut 82 = .ok (.iconst 0, 1) := by decide +kernel
theorem dX10_suspectsBut_83 : decode cX10_suspectsBut 83 = .ok (.iadd, 1) := by decide +kernel
theorem dX10_suspectsBut_84 : decode cX10_suspectsBut 84 = .ok (.iastore, 1) := by decide +kernel
theorem dX10_suspectsBut_85 : decode cX10_suspectsBut 85 = .ok (.iinc 4 1, 3) := by decide +kernel
theorem dX10_suspectsBut_88 : decode cX10_suspectsBut 88 = .ok (.goto (-61), 3) := by decide +kernel
theorem dX10_suspectsBut_91 : decode cX10_suspectsBut 91 = .ok (.iinc 3 1, 3) := by decide +kernel
theorem dX10_suspectsBut_94 : decode cX10_suspectsBut 94 = .ok (.goto (-86), 3) := by decide +kernel
theorem dX10_suspectsBut_97 : decode cX10_suspectsBut 97 = .ok (.iconst 0, 1) := by decide +kernel
theorem dX10_suspectsBut_98 : decode cX10_suspectsBut 98 = .ok (.istore_n 3, 1) := by decide +kernel
theorem dX10_suspectsBut_99 : decode cX10_suspectsBut 99 = .ok (.aload_n 0, 1) := by decide +kernel
theorem dX10_suspectsBut_100 : decode cX10_suspectsBut 100 = .ok (.getfield 281, 3) := by decide +kernel
theorem dX10_suspectsBut_103 : decode cX10_suspectsBut 103 = .ok (.istore 4, 2) := by decide +kernel
theorem dX10_suspectsBut_105 : decode cX10_suspectsBut 105 = .ok (.iload 4, 2) := by decide +kernel
theorem dX10_suspectsBut_107 : decode cX10_suspectsBut 107 = .ok (.aload_n 0, 1) := by decide +kernel
theorem dX10_suspectsBut_108 : decode cX10_suspectsBut 108 = .ok (.getfield 284, 3) := by decide +kernel
theorem dX10_suspectsBut_111 : decode cX10_suspectsBut 111 = .ok (.if_icmp .gt 123, 3) := by decide +kernel
theorem dX10_suspectsBut_114 : decode cX10_suspectsBut 114 = .ok (.iconst 0, 1) := by decide +kernel
theorem dX10_suspectsBut_115 : decode cX10_suspectsBut 115 = .ok (.istore 5, 2) := by decide +kernel
theorem dX10_suspectsBut_117 : decode cX10_suspectsBut 117 = .ok (.iload 5, 2) := by decide +kernel
theorem dX10_suspectsBut_119 : decode cX10_suspectsBut 119 = .ok (.aload_n 0, 1) := by decide +kernel
theorem dX10_suspectsBut_120 : decode cX10_suspectsBut 120 = .ok (.getfield 262, 3) := by decide +kernel
theorem dX10_suspectsBut_123 : decode cX10_suspectsBut 123 = .ok (.if_icmp .ge 105, 3) := by decide +kernel
theorem dX10_suspectsBut_126 : decode cX10_suspectsBut 126 = .ok (.aload_n 0, 1) := by decide +kernel
theorem dX10_suspectsBut_127 : decode cX10_suspectsBut 127 = .ok (.getfield 77, 3) := by decide +kernel
theorem dX10_suspectsBut_130 : decode cX10_suspectsBut 130 = .ok (.bipush 24, 2) := by decide +kernel
theorem dX10_suspectsBut_132 : decode cX10_suspectsBut 132 = .ok (.iload 5, 2) := by decide +kernel
theorem dX10_suspectsBut_134 : decode cX10_suspectsBut 134 = .ok (.imul, 1) := by decide +kernel
theorem dX10_suspectsBut_135 : decode cX10_suspectsBut 135 = .ok (.iload 4, 2) := by decide +kernel
theorem dX10_suspectsBut_137 : decode cX10_suspectsBut 137 = .ok (.iadd, 1) := by decide +kernel
theorem dX10_suspectsBut_138 : decode cX10_suspectsBut 138 = .ok (.iaload, 1) := by decide +kernel
theorem dX10_suspectsBut_139 : decode cX10_suspectsBut 139 = .ok (.iconst 2, 1) := by decide +kernel
theorem dX10_suspectsBut_140 : decode cX10_suspectsBut 140 = .ok (.irem, 1) := by decide +kernel
theorem dX10_suspectsBut_141 : decode cX10_suspectsBut 141 = .ok (.iconst 1, 1) := by decide +kernel
theorem dX10_suspectsBut_142 : decode cX10_suspectsBut 142 = .ok (.if_icmp .ne 7, 3) := by decide +kernel
theorem dX10_suspectsBut_145 : decode cX10_suspectsBut 145 = .ok (.iconst 1, 1) := by decide +kernel
theorem dX10_suspectsBut_146 : decode cX10_suspectsBut 146 = .ok (.goto 4, 3) := by decide +kernel
theorem dX10_suspectsBut_149 : decode cX10_suspectsBut 149 = .ok (.iconst 0, 1) := by decide +kernel
theorem dX10_suspectsBut_150 : decode cX10_suspectsBut 150 = .ok (.istore 6, 2) := by decide +kernel
theorem dX10_suspectsBut_152 : decode cX10_suspectsBut 152 = .ok (.iconst 0, 1) := by decide +kernel
theorem dX10_suspectsBut_153 : decode cX10_suspectsBut 153 = .ok (.istore 7, 2) := by decide +kernel
theorem dX10_suspectsBut_155 : decode cX10_suspectsBut 155 = .ok (.iload 7, 2) := by decide +kernel
theorem dX10_suspectsBut_157 : decode cX10_suspectsBut 157 = .ok (.aload_n 0, 1) := by decide +kernel
theorem dX10_suspectsBut_158 : decode cX10_suspectsBut 158 = .ok (.getfield 262, 3) := by decide +kernel
theorem dX10_suspectsBut_161 : decode cX10_suspectsBut 161 = .ok (.if_icmp .ge 45, 3) := by decide +kernel
theorem dX10_suspectsBut_164 : decode cX10_suspectsBut 164 = .ok (.iload 6, 2) := by decide +kernel
theorem dX10_suspectsBut_166 : decode cX10_suspectsBut 166 = .ok (.ifCond .eq 31, 3) := by decide +kernel
theorem dX10_suspectsBut_169 : decode cX10_suspectsBut 169 = .ok (.iload 7, 2) := by decide +kernel
theorem dX10_suspectsBut_171 : decode cX10_suspectsBut 171 = .ok (.iload 5, 2) := by decide +kernel
theorem dX10_suspectsBut_173 : decode cX10_suspectsBut 173 = .ok (.if_icmp .eq 20, 3) := by decide +kernel
theorem dX10_suspectsBut_176 : decode cX10_suspectsBut 176 = .ok (.aload_n 0, 1) := by decide +kernel
theorem dX10_suspectsBut_177 : decode cX10_suspectsBut 177 = .ok (.getfield 77, 3) := by decide +kernel
theorem dX10_suspectsBut_180 : decode cX10_suspectsBut 180 = .ok (.bipush 24, 2) := by decide +kernel
theorem dX10_suspectsBut_182 : decode cX10_suspectsBut 182 = .ok (.iload 7, 2) := by decide +kernel
theorem dX10_suspectsBut_184 : decode cX10_suspectsBut 184 = .ok (.imul, 1) := by decide +kernel
theorem dX10_suspectsBut_185 : decode cX10_suspectsBut 185 = .ok (.iload 4, 2) := by decide +kernel
theorem dX10_suspectsBut_187 : decode cX10_suspectsBut 187 = .ok (.iadd, 1) := by decide +kernel
theorem dX10_suspectsBut_188 : decode cX10_suspectsBut 188 = .ok (.iaload, 1) := by decide +kernel
theorem dX10_suspectsBut_189 : decode cX10_suspectsBut 189 = .ok (.iconst 1, 1) := by decide +kernel
theorem dX10_suspectsBut_190 : decode cX10_suspectsBut 190 = .ok (.if_icmp .le 7, 3) := by decide +kernel
theorem dX10_suspectsBut_193 : decode cX10_suspectsBut 193 = .ok (.iconst 1, 1) := by decide +kernel
theorem dX10_suspectsBut_194 : decode cX10_suspectsBut 194 = .ok (.goto 4, 3) := by decide +kernel
theorem dX10_suspectsBut_197 : decode cX10_suspectsBut 197 = .ok (.iconst 0, 1) := by decide +kernel
theorem dX10_suspectsBut_198 : decode cX10_suspectsBut 198 = .ok (.istore 6, 2) := by decide +kernel
theorem dX10_suspectsBut_200 : decode cX10_suspectsBut 200 = .ok (.iinc 7 1, 3) := by decide +kernel
theorem dX10_suspectsBut_203 : decode cX10_suspectsBut 203 = .ok (.goto (-48), 3) := by decide +kernel
theorem dX10_suspectsBut_206 : decode cX10_suspectsBut 206 = .ok (.iload_n 3, 1) := by decide +kernel
theorem dX10_suspectsBut_207 : decode cX10_suspectsBut 207 = .ok (.iload 6, 2) := by decide +kernel
theorem dX10_suspectsBut_209 : decode cX10_suspectsBut 209 = .ok (.ifCond .eq 10, 3) := by decide +kernel
theorem dX10_suspectsBut_212 : decode cX10_suspectsBut 212 = .ok (.iconst 1, 1) := by decide +kernel
theorem dX10_suspectsBut_213 : decode cX10_suspectsBut 213 = .ok (.iload 5, 2) := by decide +kernel
theorem dX10_suspectsBut_215 : decode cX10_suspectsBut 215 = .ok (.ishl, 1) := by decide +kernel
theorem dX10_suspectsBut_216 : decode cX10_suspectsBut 216 = .ok (.goto 4, 3) := by decide +kernel
theorem dX10_suspectsBut_219 : decode cX10_suspectsBut 219 = .ok (.iconst 0, 1) := by decide +kernel
theorem dX10_suspectsBut_220 : decode cX10_suspectsBut 220 = .ok (.ior, 1) := by decide +kernel
theorem dX10_suspectsBut_221 : decode cX10_suspectsBut 221 = .ok (.istore_n 3, 1) := by decide +kernel
theorem dX10_suspectsBut_222 : decode cX10_suspectsBut 222 = .ok (.iinc 5 1, 3) := by decide +kernel
theorem dX10_suspectsBut_225 : decode cX10_suspectsBut 225 = .ok (.goto (-108), 3) := by decide +kernel
theorem dX10_suspectsBut_228 : decode cX10_suspectsBut 228 = .ok (.iinc 4 1, 3) := by decide +kernel
theorem dX10_suspectsBut_231 : decode cX10_suspectsBut 231 = .ok (.goto (-126), 3) := by decide +kernel
theorem dX10_suspectsBut_234 : decode cX10_suspectsBut 234 = .ok (.iload_n 3, 1) := by decide +kernel
theorem dX10_suspectsBut_235 : decode cX10_suspectsBut 235 = .ok (.ireturn, 1) := by decide +kernel
theorem dX10_suspects_0 : decode cX10_suspects 0 = .ok (.aload_n 0, 1) := by decide +kernel
theorem dX10_suspects_1 : decode cX10_suspects 1 = .ok (.getfield 67, 3) := by decide +kernel
theorem dX10_suspects_4 : decode cX10_suspects 4 = .ok (.ifCond .ge 8, 3) := by decide +kernel
theorem dX10_suspects_7 : decode cX10_suspects 7 = .ok (.bipush (-2), 2) := by decide +kernel
theorem dX10_suspects_9 : decode cX10_suspects 9 = .ok (.goto 9, 3) := by decide +kernel
theorem dX10_suspects_12 : decode cX10_suspects 12 = .ok (.aload_n 0, 1) := by decide +kernel
theorem dX10_suspects_13 : decode cX10_suspects 13 = .ok (.bipush (-4), 2) := by decide +kernel
theorem dX10_suspects_15 : decode cX10_suspects 15 = .ok (.invokevirtual 287, 3) := by decide +kernel
theorem dX10_suspects_18 : decode cX10_suspects 18 = .ok (.ireturn, 1) := by decide +kernel
theorem dX10_clears_0 : decode cX10_clears 0 = .ok (.aload_n 0, 1) := by decide +kernel
theorem dX10_clears_1 : decode cX10_clears 1 = .ok (.iload_n 1, 1) := by decide +kernel
theorem dX10_clears_2 : decode cX10_clears 2 = .ok (.invokevirtual 265, 3) := by decide +kernel
theorem dX10_clears_5 : decode cX10_clears 5 = .ok (.ifCond .ne 5, 3) := by decide +kernel
theorem dX10_clears_8 : decode cX10_clears 8 = .ok (.iconst (-1), 1) := by decide +kernel
theorem dX10_clears_9 : decode cX10_clears 9 = .ok (.ireturn, 1) := by decide +kernel
theorem dX10_clears_10 : decode cX10_clears 10 = .ok (.aload_n 0, 1) := by decide +kernel
theorem dX10_clears_11 : decode cX10_clears 11 = .ok (.getfield 67, 3) := by decide +kernel
theorem dX10_clears_14 : decode cX10_clears 14 = .ok (.ifCond .ge 6, 3) := by decide +kernel
theorem dX10_clears_17 : decode cX10_clears 17 = .ok (.bipush (-2), 2) := by decide +kernel
theorem dX10_clears_19 : decode cX10_clears 19 = .ok (.ireturn, 1) := by decide +kernel
theorem dX10_clears_20 : decode cX10_clears 20 = .ok (.aload_n 0, 1) := by decide +kernel
theorem dX10_clears_21 : decode cX10_clears 21 = .ok (.bipush (-4), 2) := by decide +kernel
theorem dX10_clears_23 : decode cX10_clears 23 = .ok (.invokevirtual 287, 3) := by decide +kernel
theorem dX10_clears_26 : decode cX10_clears 26 = .ok (.iload_n 1, 1) := by decide +kernel
theorem dX10_clears_27 : decode cX10_clears 27 = .ok (.ishr, 1) := by decide +kernel
theorem dX10_clears_28 : decode cX10_clears 28 = .ok (.iconst 1, 1) := by decide +kernel
theorem dX10_clears_29 : decode cX10_clears 29 = .ok (.iand, 1) := by decide +kernel
theorem dX10_clears_30 : decode cX10_clears 30 = .ok (.iconst 1, 1) := by decide +kernel
theorem dX10_clears_31 : decode cX10_clears 31 = .ok (.if_icmp .ne 6, 3) := by decide +kernel
theorem dX10_clears_34 : decode cX10_clears 34 = .ok (.bipush (-4), 2) := by decide +kernel
theorem dX10_clears_36 : decode cX10_clears 36 = .ok (.ireturn, 1) := by decide +kernel
theorem dX10_clears_37 : decode cX10_clears 37 = .ok (.iconst 0, 1) := by decide +kernel
theorem dX10_clears_38 : decode cX10_clears 38 = .ok (.istore_n 2, 1) := by decide +kernel
theorem dX10_clears_39 : decode cX10_clears 39 = .ok (.iconst 0, 1) := by decide +kernel
theorem dX10_clears_40 : decode cX10_clears 40 = .ok (.istore_n 3, 1) := by decide +kernel
theorem dX10_clears_41 : decode cX10_clears 41 = .ok (.iload_n 3, 1) := by decide +kernel
theorem dX10_clears_42 : decode cX10_clears 42 = .ok (.aload_n 0, 1) := by decide +kernel
theorem dX10_clears_43 : decode cX10_clears 43 = .ok (.getfield 268, 3) := by decide +kernel
theorem dX10_clears_46 : decode cX10_clears 46 = .ok (.if_icmp .ge 23, 3) := by decide +kernel
theorem dX10_clears_49 : decode cX10_clears 49 = .ok (.iload_n 2, 1) := by decide +kernel
theorem dX10_clears_50 : decode cX10_clears 50 = .ok (.aload_n 0, 1) := by decide +kernel
theorem dX10_clears_51 : decode cX10_clears 51 = .ok (.iload_n 3, 1) := by decide +kernel
theorem dX10_clears_52 : decode cX10_clears 52 = .ok (.invokevirtual 287, 3) := by decide +kernel
theorem dX10_clears_55 : decode cX10_clears 55 = .ok (.iload_n 1, 1) := by decide +kernel
theorem dX10_clears_56 : decode cX10_clears 56 = .ok (.ishr, 1) := by decide +kernel
theorem dX10_clears_57 : decode cX10_clears 57 = .ok (.iconst 1, 1) := by decide +kernel
theorem dX10_clears_58 : decode cX10_clears 58 = .ok (.iand, 1) := by decide +kernel
theorem dX10_clears_59 : decode cX10_clears 59 = .ok (.iload_n 3, 1) := by decide +kernel
theorem dX10_clears_60 : decode cX10_clears 60 = .ok (.ishl, 1) := by decide +kernel
theorem dX10_clears_61 : decode cX10_clears 61 = .ok (.ior, 1) := by decide +kernel
theorem dX10_clears_62 : decode cX10_clears 62 = .ok (.istore_n 2, 1) := by decide +kernel
theorem dX10_clears_63 : decode cX10_clears 63 = .ok (.iinc 3 1, 3) := by decide +kernel
theorem dX10_clears_66 : decode cX10_clears 66 = .ok (.goto (-25), 3) := by decide +kernel
theorem dX10_clears_69 : decode cX10_clears 69 = .ok (.iload_n 2, 1) := by decide +kernel
theorem dX10_clears_70 : decode cX10_clears 70 = .ok (.ireturn, 1) := by decide +kernel
theorem dX10_count_0 : decode cX10_count 0 = .ok (.iload_n 1, 1) := by decide +kernel
theorem dX10_count_1 : decode cX10_count 1 = .ok (.tableswitch 95 0 7 #[47, 52, 57, 62, 67, 80, 85, 90], 47) := by decide +kernel
theorem dX10_count_48 : decode cX10_count 48 = .ok (.aload_n 0, 1) := by decide +kernel
theorem dX10_count_49 : decode cX10_count 49 = .ok (.getfield 95, 3) := by decide +kernel
theorem dX10_count_52 : decode cX10_count 52 = .ok (.ireturn, 1) := by decide +kernel
theorem dX10_count_53 : decode cX10_count 53 = .ok (.aload_n 0, 1) := by decide +kernel
theorem dX10_count_54 : decode cX10_count 54 = .ok (.getfield 112, 3) := by decide +kernel
theorem dX10_count_57 : decode cX10_count 57 = .ok (.ireturn, 1) := by decide +kernel
theorem dX10_count_58 : decode cX10_count 58 = .ok (.aload_n 0, 1) := by decide +kernel
theorem dX10_count_59 : decode cX10_count 59 = .ok (.getfield 119, 3) := by decide +kernel
theorem dX10_count_62 : decode cX10_count 62 = .ok (.ireturn, 1) := by decide +kernel
theorem dX10_count_63 : decode cX10_count 63 = .ok (.aload_n 0, 1) := by decide +kernel
theorem dX10_count_64 : decode cX10_count 64 = .ok (.getfield 187, 3) := by decide +kernel
theorem dX10_count_67 : decode cX10_count 67 = .ok (.ireturn, 1) := by decide +kernel
theorem dX10_count_68 : decode cX10_count 68 = .ok (.aload_n 0, 1) := by decide +kernel
theorem dX10_count_69 : decode cX10_count 69 = .ok (.getfield 187, 3) := by decide +kernel
theorem dX10_count_72 : decode cX10_count 72 = .ok (.aload_n 0, 1) := by decide +kernel
theorem dX10_count_73 : decode cX10_count 73 = .ok (.invokevirtual 245, 3) := by decide +kernel
theorem dX10_count_76 : decode cX10_count 76 = .ok (.invokestatic 259, 3) := by decide +kernel
theorem dX10_count_79 : decode cX10_count 79 = .ok (.isub, 1) := by decide +kernel
theorem dX10_count_80 : decode cX10_count 80 = .ok (.ireturn, 1) := by decide +kernel
theorem dX10_count_81 : decode cX10_count 81 = .ok (.aload_n 0, 1) := by decide +kernel
theorem dX10_count_82 : decode cX10_count 82 = .ok (.getfield 195, 3) := by decide +kernel
theorem dX10_count_85 : decode cX10_count 85 = .ok (.ireturn, 1) := by decide +kernel
theorem dX10_count_86 : decode cX10_count 86 = .ok (.aload_n 0, 1) := by decide +kernel
theorem dX10_count_87 : decode cX10_count 87 = .ok (.getfield 262, 3) := by decide +kernel
theorem dX10_count_90 : decode cX10_count 90 = .ok (.ireturn, 1) := by decide +kernel
theorem dX10_count_91 : decode cX10_count 91 = .ok (.aload_n 0, 1) := by decide +kernel
theorem dX10_count_92 : decode cX10_count 92 = .ok (.getfield 268, 3) := by decide +kernel
theorem dX10_count_95 : decode cX10_count 95 = .ok (.ireturn, 1) := by decide +kernel
theorem dX10_count_96 : decode cX10_count 96 = .ok (.iconst (-1), 1) := by decide +kernel
theorem dX10_count_97 : decode cX10_count 97 = .ok (.ireturn, 1) := by decide +kernel
theorem dX10_saves_0 : decode cX10_saves 0 = .ok (.iconst 0, 1) := by decide +kernel
theorem dX10_saves_1 : decode cX10_saves 1 = .ok (.istore_n 3, 1) := by decide +kernel
theorem dX10_saves_2 : decode cX10_saves 2 = .ok (.iload_n 3, 1) := by decide +kernel
theorem dX10_saves_3 : decode cX10_saves 3 = .ok (.aload_n 0, 1) := by decide +kernel
theorem dX10_saves_4 : decode cX10_saves 4 = .ok (.arraylength, 1) := by decide +kernel
theorem dX10_saves_5 : decode cX10_saves 5 = .ok (.if_icmp .ge 17, 3) := by decide +kernel
theorem dX10_saves_8 : decode cX10_saves 8 = .ok (.aload_n 1, 1) := by decide +kernel
theorem dX10_saves_9 : decode cX10_saves 9 = .ok (.iload_n 2, 1) := by decide +kernel
theorem dX10_saves_10 : decode cX10_saves 10 = .ok (.iload_n 3, 1) := by decide +kernel
theorem dX10_saves_11 : decode cX10_saves 11 = .ok (.iadd, 1) := by decide +kernel
theorem dX10_saves_12 : decode cX10_saves 12 = .ok (.aload_n 0, 1) := by decide +kernel
theorem dX10_saves_13 : decode cX10_saves 13 = .ok (.iload_n 3, 1) := by decide +kernel
theorem dX10_saves_14 : decode cX10_saves 14 = .ok (.iaload, 1) := by decide +kernel
theorem dX10_saves_15 : decode cX10_saves 15 = .ok (.iastore, 1) := by decide +kernel
theorem dX10_saves_16 : decode cX10_saves 16 = .ok (.iinc 3 1, 3) := by decide +kernel
theorem dX10_saves_19 : decode cX10_saves 19 = .ok (.goto (-17), 3) := by decide +kernel
theorem dX10_saves_22 : decode cX10_saves 22 = .ok (.iload_n 2, 1) := by decide +kernel
theorem dX10_saves_23 : decode cX10_saves 23 = .ok (.aload_n 0, 1) := by decide +kernel
theorem dX10_saves_24 : decode cX10_saves 24 = .ok (.arraylength, 1) := by decide +kernel
theorem dX10_saves_25 : decode cX10_saves 25 = .ok (.iadd, 1) := by decide +kernel
theorem dX10_saves_26 : decode cX10_saves 26 = .ok (.ireturn, 1) := by decide +kernel
theorem dX10_gives_0 : decode cX10_gives 0 = .ok (.iconst 0, 1) := by decide +kernel
theorem dX10_gives_1 : decode cX10_gives 1 = .ok (.istore_n 3, 1) := by decide +kernel
theorem dX10_gives_2 : decode cX10_gives 2 = .ok (.iload_n 3, 1) := by decide +kernel
theorem dX10_gives_3 : decode cX10_gives 3 = .ok (.aload_n 2, 1) := by decide +kernel
theorem dX10_gives_4 : decode cX10_gives 4 = .ok (.arraylength, 1) := by decide +kernel
theorem dX10_gives_5 : decode cX10_gives 5 = .ok (.if_icmp .ge 17, 3) := by decide +kernel
theorem dX10_gives_8 : decode cX10_gives 8 = .ok (.aload_n 2, 1) := by decide +kernel
theorem dX10_gives_9 : decode cX10_gives 9 = .ok (.iload_n 3, 1) := by decide +kernel
theorem dX10_gives_10 : decode cX10_gives 10 = .ok (.aload_n 0, 1) := by decide +kernel
theorem dX10_gives_11 : decode cX10_gives 11 = .ok (.iload_n 1, 1) := by decide +kernel
theorem dX10_gives_12 : decode cX10_gives 12 = .ok (.iload_n 3, 1) := by decide +kernel
theorem dX10_gives_13 : decode cX10_gives 13 = .ok (.iadd, 1) := by decide +kernel
theorem dX10_gives_14 : decode cX10_gives 14 = .ok (.iaload, 1) := by decide +kernel
theorem dX10_gives_15 : decode cX10_gives 15 = .ok (.iastore, 1) := by decide +kernel
theorem dX10_gives_16 : decode cX10_gives 16 = .ok (.iinc 3 1, 3) := by decide +kernel
theorem dX10_gives_19 : decode cX10_gives 19 = .ok (.goto (-17), 3) := by decide +kernel
theorem dX10_gives_22 : decode cX10_gives 22 = .ok (.iload_n 1, 1) := by decide +kernel
theorem dX10_gives_23 : decode cX10_gives 23 = .ok (.aload_n 2, 1) := by decide +kernel
theorem dX10_gives_24 : decode cX10_gives 24 = .ok (.arraylength, 1) := by decide +kernel
theorem dX10_gives_25 : decode cX10_gives 25 = .ok (.iadd, 1) := by decide +kernel
theorem dX10_gives_26 : decode cX10_gives 26 = .ok (.ireturn, 1) := by decide +kernel
theorem dX10_image_0 : decode cX10_image 0 = .ok (.aload_n 0, 1) := by decide +kernel
theorem dX10_image_1 : decode cX10_image 1 = .ok (.getfield 7, 3) := by decide +kernel
theorem dX10_image_4 : decode cX10_image 4 = .ok (.aload_n 0, 1) := by decide +kernel
theorem dX10_image_5 : decode cX10_image 5 = .ok (.getfield 80, 3) := by decide +kernel
theorem dX10_image_8 : decode cX10_image 8 = .ok (.iconst 0, 1) := by decide +kernel
theorem dX10_image_9 : decode cX10_image 9 = .ok (.invokestatic 290, 3) := by decide +kernel
theorem dX10_image_12 : decode cX10_image 12 = .ok (.istore_n 1, 1) := by decide +kernel
theorem dX10_image_13 : decode cX10_image 13 = .ok (.aload_n 0, 1) := by decide +kernel
theorem dX10_image_14 : decode cX10_image 14 = .ok (.getfield 13, 3) := by decide +kernel
theorem dX10_image_17 : decode cX10_image 17 = .ok (.aload_n 0, 1) := by decide +kernel
theorem dX10_image_18 : decode cX10_image 18 = .ok (.getfield 80, 3) := by decide +kernel
theorem dX10_image_21 : decode cX10_image 21 = .ok (.iload_n 1, 1) := by decide +kernel
theorem dX10_image_22 : decode cX10_image 22 = .ok (.invokestatic 290, 3) := by decide +kernel
theorem dX10_image_25 : decode cX10_image 25 = .ok (.istore_n 1, 1) := by decide +kernel
theorem dX10_image_26 : decode cX10_image 26 = .ok (.aload_n 0, 1) := by decide +kernel
theorem dX10_image_27 : decode cX10_image 27 = .ok (.getfield 28, 3) := by decide +kernel
theorem dX10_image_30 : decode cX10_image 30 = .ok (.aload_n 0, 1) := by decide +kernel
theorem dX10_image_31 : decode cX10_image 31 = .ok (.getfield 80, 3) := by decide +kernel
theorem dX10_image_34 : decode cX10_image 34 = .ok (.iload_n 1, 1) := by decide +kernel
theorem dX10_image_35 : decode cX10_image 35 = .ok (.invokestatic 290, 3) := by decide +kernel
theorem dX10_image_38 : decode cX10_image 38 = .ok (.istore_n 1, 1) := by decide +kernel
theorem dX10_image_39 : decode cX10_image 39 = .ok (.aload_n 0, 1) := by decide +kernel
theorem dX10_image_40 : decode cX10_image 40 = .ok (.getfield 31, 3) := by decide +kernel
theorem dX10_image_43 : decode cX10_image 43 = .ok (.aload_n 0, 1) := by decide +kernel
theorem dX10_image_44 : decode cX10_image 44 = .ok (.getfield 80, 3) := by decide +kernel
theorem dX10_image_47 : decode cX10_image 47 = .ok (.iload_n 1, 1) := by decide +kernel
theorem dX10_image_48 : decode cX10_image 48 = .ok (.invokestatic 290, 3) := by decide +kernel
theorem dX10_image_51 : decode cX10_image 51 = .ok (.istore_n 1, 1) := by decide +kernel
theorem dX10_image_52 : decode cX10_image 52 = .ok (.aload_n 0, 1) := by decide +kernel
theorem dX10_image_53 : decode cX10_image 53 = .ok (.getfield 34, 3) := by decide +kernel
theorem dX10_image_56 : decode cX10_image 56 = .ok (.aload_n 0, 1) := by decide +kernel
theorem dX10_image_57 : decode cX10_image 57 = .ok (.getfield 80, 3) := by decide +kernel
theorem dX10_image_60 : decode cX10_image 60 = .ok (.iload_n 1, 1) := by decide +kernel
theorem dX10_image_61 : decode cX10_image 61 = .ok (.invokestatic 290, 3) := by decide +kernel
theorem dX10_image_64 : decode cX10_image 64 = .ok (.istore_n 1, 1) := by decide +kernel
theorem dX10_image_65 : decode cX10_image 65 = .ok (.aload_n 0, 1) := by decide +kernel
theorem dX10_image_66 : decode cX10_image 66 = .ok (.getfield 61, 3) := by decide +kernel
theorem dX10_image_69 : decode cX10_image 69 = .ok (.aload_n 0, 1) := by decide +kernel
theorem dX10_image_70 : decode cX10_image 70 = .ok (.getfield 80, 3) := by decide +kernel
theorem dX10_image_73 : decode cX10_image 73 = .ok (.iload_n 1, 1) := by decide +kernel
theorem dX10_image_74 : decode cX10_image 74 = .ok (.invokestatic 290, 3) := by decide +kernel
theorem dX10_image_77 : decode cX10_image 77 = .ok (.istore_n 1, 1) := by decide +kernel
theorem dX10_image_78 : decode cX10_image 78 = .ok (.aload_n 0, 1) := by decide +kernel
theorem dX10_image_79 : decode cX10_image 79 = .ok (.getfield 64, 3) := by decide +kernel
theorem dX10_image_82 : decode cX10_image 82 = .ok (.aload_n 0, 1) := by decide +kernel
theorem dX10_image_83 : decode cX10_image 83 = .ok (.getfield 80, 3) := by decide +kernel
theorem dX10_image_86 : decode cX10_image 86 = .ok (.iload_n 1, 1) := by decide +kernel
theorem dX10_image_87 : decode cX10_image 87 = .ok (.invokestatic 290, 3) := by decide +kernel
theorem dX10_image_90 : decode cX10_image 90 = .ok (.istore_n 1, 1) := by decide +kernel
theorem dX10_image_91 : decode cX10_image 91 = .ok (.aload_n 0, 1) := by decide +kernel
theorem dX10_image_92 : decode cX10_image 92 = .ok (.getfield 80, 3) := by decide +kernel
theorem dX10_image_95 : decode cX10_image 95 = .ok (.iload_n 1, 1) := by decide +kernel
theorem dX10_image_96 : decode cX10_image 96 = .ok (.aload_n 0, 1) := by decide +kernel
theorem dX10_image_97 : decode cX10_image 97 = .ok (.getfield 95, 3) := by decide +kernel
theorem dX10_image_100 : decode cX10_image 100 = .ok (.iastore, 1) := by decide +kernel
theorem dX10_image_101 : decode cX10_image 101 = .ok (.aload_n 0, 1) := by decide +kernel
theorem dX10_image_102 : decode cX10_image 102 = .ok (.getfield 80, 3) := by decide +kernel
theorem dX10_image_105 : decode cX10_image 105 = .ok (.iload_n 1, 1) := by decide +kernel
theorem dX10_image_106 : decode cX10_image 106 = .ok (.iconst 1, 1) := by decide +kernel
theorem dX10_image_107 : decode cX10_image 107 = .ok (.iadd, 1) := by decide +kernel
theorem dX10_image_108 : decode cX10_image 108 = .ok (.aload_n 0, 1) := by decide +kernel
theorem dX10_image_109 : decode cX10_image 109 = .ok (.getfield 112, 3) := by decide +kernel
theorem dX10_image_112 : decode cX10_image 112 = .ok (.iastore, 1) := by decide +kernel
theorem dX10_image_113 : decode cX10_image 113 = .ok (.aload_n 0, 1) := by decide +kernel
theorem dX10_image_114 : decode cX10_image 114 = .ok (.getfield 80, 3) := by decide +kernel
theorem dX10_image_117 : decode cX10_image 117 = .ok (.iload_n 1, 1) := by decide +kernel
theorem dX10_image_118 : decode cX10_image 118 = .ok (.iconst 2, 1) := by decide +kernel
theorem dX10_image_119 : decode cX10_image 119 = .ok (.iadd, 1) := by decide +kernel
theorem dX10_image_120 : decode cX10_image 120 = .ok (.aload_n 0, 1) := by decide +kernel
theorem dX10_image_121 : decode cX10_image 121 = .ok (.getfield 119, 3) := by decide +kernel
theorem dX10_image_124 : decode cX10_image 124 = .ok (.iastore, 1) := by decide +kernel
theorem dX10_image_125 : decode cX10_image 125 = .ok (.aload_n 0, 1) := by decide +kernel
theorem dX10_image_126 : decode cX10_image 126 = .ok (.getfield 80, 3) := by decide +kernel
theorem dX10_image_129 : decode cX10_image 129 = .ok (.iload_n 1, 1) := by decide +kernel
theorem dX10_image_130 : decode cX10_image 130 = .ok (.iconst 3, 1) := by decide +kernel
theorem dX10_image_131 : decode cX10_image 131 = .ok (.iadd, 1) := by decide +kernel
theorem dX10_image_132 : decode cX10_image 132 = .ok (.aload_n 0, 1) := by decide +kernel
theorem dX10_image_133 : decode cX10_image 133 = .ok (.getfield 190, 3) := by decide +kernel
theorem dX10_image_136 : decode cX10_image 136 = .ok (.iastore, 1) := by decide +kernel
theorem dX10_image_137 : decode cX10_image 137 = .ok (.aload_n 0, 1) := by decide +kernel
theorem dX10_image_138 : decode cX10_image 138 = .ok (.getfield 80, 3) := by decide +kernel
theorem dX10_image_141 : decode cX10_image 141 = .ok (.iload_n 1, 1) := by decide +kernel
theorem dX10_image_142 : decode cX10_image 142 = .ok (.iconst 4, 1) := by decide +kernel
theorem dX10_image_143 : decode cX10_image 143 = .ok (.iadd, 1) := by decide +kernel
theorem dX10_image_144 : decode cX10_image 144 = .ok (.aload_n 0, 1) := by decide +kernel
theorem dX10_image_145 : decode cX10_image 145 = .ok (.getfield 187, 3) := by decide +kernel
theorem dX10_image_148 : decode cX10_image 148 = .ok (.iastore, 1) := by decide +kernel
theorem dX10_image_149 : decode cX10_image 149 = .ok (.aload_n 0, 1) := by decide +kernel
theorem dX10_image_150 : decode cX10_image 150 = .ok (.getfield 80, 3) := by decide +kernel
theorem dX10_image_153 : decode cX10_image 153 = .ok (.iload_n 1, 1) := by decide +kernel
theorem dX10_image_154 : decode cX10_image 154 = .ok (.iconst 5, 1) := by decide +kernel
theorem dX10_image_155 : decode cX10_image 155 = .ok (.iadd, 1) := by decide +kernel
theorem dX10_image_156 : decode cX10_image 156 = .ok (.aload_n 0, 1) := by decide +kernel
theorem dX10_image_157 : decode cX10_image 157 = .ok (.getfield 195, 3) := by decide +kernel
theorem dX10_image_160 : decode cX10_image 160 = .ok (.iastore, 1) := by decide +kernel
theorem dX10_image_161 : decode cX10_image 161 = .ok (.aload_n 0, 1) := by decide +kernel
theorem dX10_image_162 : decode cX10_image 162 = .ok (.getfield 80, 3) := by decide +kernel
theorem dX10_image_165 : decode cX10_image 165 = .ok (.iload_n 1, 1) := by decide +kernel
theorem dX10_image_166 : decode cX10_image 166 = .ok (.bipush 6, 2) := by decide +kernel
theorem dX10_image_168 : decode cX10_image 168 = .ok (.iadd, 1) := by decide +kernel
theorem dX10_image_169 : decode cX10_image 169 = .ok (.aload_n 0, 1) := by decide +kernel
theorem dX10_image_170 : decode cX10_image 170 = .ok (.getfield 262, 3) := by decide +kernel
theorem dX10_image_173 : decode cX10_image 173 = .ok (.iastore, 1) := by decide +kernel
theorem dX10_image_174 : decode cX10_image 174 = .ok (.aload_n 0, 1) := by decide +kernel
theorem dX10_image_175 : decode cX10_image 175 = .ok (.getfield 80, 3) := by decide +kernel
theorem dX10_image_178 : decode cX10_image 178 = .ok (.iload_n 1, 1) := by decide +kernel
theorem dX10_image_179 : decode cX10_image 179 = .ok (.bipush 7, 2) := by decide +kernel
theorem dX10_image_181 : decode cX10_image 181 = .ok (.iadd, 1) := by decide +kernel
theorem dX10_image_182 : decode cX10_image 182 = .ok (.aload_n 0, 1) := by decide +kernel
theorem dX10_image_183 : decode cX10_image 183 = .ok (.getfield 268, 3) := by decide +kernel
theorem dX10_image_186 : decode cX10_image 186 = .ok (.iastore, 1) := by decide +kernel
theorem dX10_image_187 : decode cX10_image 187 = .ok (.aload_n 0, 1) := by decide +kernel
theorem dX10_image_188 : decode cX10_image 188 = .ok (.getfield 80, 3) := by decide +kernel
theorem dX10_image_191 : decode cX10_image 191 = .ok (.iload_n 1, 1) := by decide +kernel
theorem dX10_image_192 : decode cX10_image 192 = .ok (.bipush 8, 2) := by decide +kernel
theorem dX10_image_194 : decode cX10_image 194 = .ok (.iadd, 1) := by decide +kernel
theorem dX10_image_195 : decode cX10_image 195 = .ok (.aload_n 0, 1) := by decide +kernel
theorem dX10_image_196 : decode cX10_image 196 = .ok (.getfield 67, 3) := by decide +kernel
theorem dX10_image_199 : decode cX10_image 199 = .ok (.iastore, 1) := by decide +kernel
theorem dX10_image_200 : decode cX10_image 200 = .ok (.aload_n 0, 1) := by decide +kernel
theorem dX10_image_201 : decode cX10_image 201 = .ok (.getfield 80, 3) := by decide +kernel
theorem dX10_image_204 : decode cX10_image 204 = .ok (.iload_n 1, 1) := by decide +kernel
theorem dX10_image_205 : decode cX10_image 205 = .ok (.bipush 9, 2) := by decide +kernel
theorem dX10_image_207 : decode cX10_image 207 = .ok (.iadd, 1) := by decide +kernel
theorem dX10_image_208 : decode cX10_image 208 = .ok (.aload_n 0, 1) := by decide +kernel
theorem dX10_image_209 : decode cX10_image 209 = .ok (.getfield 281, 3) := by decide +kernel
theorem dX10_image_212 : decode cX10_image 212 = .ok (.iastore, 1) := by decide +kernel
theorem dX10_image_213 : decode cX10_image 213 = .ok (.aload_n 0, 1) := by decide +kernel
theorem dX10_image_214 : decode cX10_image 214 = .ok (.getfield 80, 3) := by decide +kernel
theorem dX10_image_217 : decode cX10_image 217 = .ok (.iload_n 1, 1) := by decide +kernel
theorem dX10_image_218 : decode cX10_image 218 = .ok (.bipush 10, 2) := by decide +kernel
theorem dX10_image_220 : decode cX10_image 220 = .ok (.iadd, 1) := by decide +kernel
theorem dX10_image_221 : decode cX10_image 221 = .ok (.aload_n 0, 1) := by decide +kernel
theorem dX10_image_222 : decode cX10_image 222 = .ok (.getfield 284, 3) := by decide +kernel
theorem dX10_image_225 : decode cX10_image 225 = .ok (.iastore, 1) := by decide +kernel
theorem dX10_image_226 : decode cX10_image 226 = .ok (.aload_n 0, 1) := by decide +kernel
theorem dX10_image_227 : decode cX10_image 227 = .ok (.iconst 1, 1) := by decide +kernel
theorem dX10_image_228 : decode cX10_image 228 = .ok (.putfield 294, 3) := by decide +kernel
theorem dX10_image_231 : decode cX10_image 231 = .ok (.iconst 1, 1) := by decide +kernel
theorem dX10_image_232 : decode cX10_image 232 = .ok (.ireturn, 1) := by decide +kernel
theorem dX10_restore_0 : decode cX10_restore 0 = .ok (.aload_n 0, 1) := by decide +kernel
theorem dX10_restore_1 : decode cX10_restore 1 = .ok (.getfield 294, 3) := by decide +kernel
theorem dX10_restore_4 : decode cX10_restore 4 = .ok (.ifCond .ne 6, 3) := by decide +kernel
theorem dX10_restore_7 : decode cX10_restore 7 = .ok (.bipush (-4), 2) := by decide +kernel
theorem dX10_restore_9 : decode cX10_restore 9 = .ok (.ireturn, 1) := by decide +kernel
theorem dX10_restore_10 : decode cX10_restore 10 = .ok (.aload_n 0, 1) := by decide +kernel
theorem dX10_restore_11 : decode cX10_restore 11 = .ok (.getfield 80, 3) := by decide +kernel
theorem dX10_restore_14 : decode cX10_restore 14 = .ok (.iconst 0, 1) := by decide +kernel
theorem dX10_restore_15 : decode cX10_restore 15 = .ok (.aload_n 0, 1) := by decide +kernel
theorem dX10_restore_16 : decode cX10_restore 16 = .ok (.getfield 7, 3) := by decide +kernel
theorem dX10_restore_19 : decode cX10_restore 19 = .ok (.invokestatic 297, 3) := by decide +kernel
theorem dX10_restore_22 : decode cX10_restore 22 = .ok (.istore_n 1, 1) := by decide +kernel
theorem dX10_restore_23 : decode cX10_restore 23 = .ok (.aload_n 0, 1) := by decide +kernel
theorem dX10_restore_24 : decode cX10_restore 24 = .ok (.getfield 80, 3) := by decide +kernel
theorem dX10_restore_27 : decode cX10_restore 27 = .ok (.iload_n 1, 1) := by decide +kernel
theorem dX10_restore_28 : decode cX10_restore 28 = .ok (.aload_n 0, 1) := by decide +kernel
theorem dX10_restore_29 : decode cX10_restore 29 = .ok (.getfield 13, 3) := by decide +kernel
theorem dX10_restore_32 : decode cX10_restore 32 = .ok (.invokestatic 297, 3) := by decide +kernel
theorem dX10_restore_35 : decode cX10_restore 35 = .ok (.istore_n 1, 1) := by decide +kernel
theorem dX10_restore_36 : decode cX10_restore 36 = .ok (.aload_n 0, 1) := by decide +kernel
theorem dX10_restore_37 : decode cX10_restore 37 = .ok (.getfield 80, 3) := by decide +kernel
theorem dX10_restore_40 : decode cX10_restore 40 = .ok (.iload_n 1, 1) := by decide +kernel
theorem dX10_restore_41 : decode cX10_restore 41 = .ok (.aload_n 0, 1) := by decide +kernel
theorem dX10_restore_42 : decode cX10_restore 42 = .ok (.getfield 28, 3) := by decide +kernel
theorem dX10_restore_45 : decode cX10_restore 45 = .ok (.invokestatic 297, 3) := by decide +kernel
theorem dX10_restore_48 : decode cX10_restore 48 = .ok (.istore_n 1, 1) := by decide +kernel
theorem dX10_restore_49 : decode cX10_restore 49 = .ok (.aload_n 0, 1) := by decide +kernel
theorem dX10_restore_50 : decode cX10_restore 50 = .ok (.getfield 80, 3) := by decide +kernel
theorem dX10_restore_53 : decode cX10_restore 53 = .ok (.iload_n 1, 1) := by decide +kernel
theorem dX10_restore_54 : decode cX10_restore 54 = .ok (.aload_n 0, 1) := by decide +kernel
theorem dX10_restore_55 : decode cX10_restore 55 = .ok (.getfield 31, 3) := by decide +kernel
theorem dX10_restore_58 : decode cX10_restore 58 = .ok (.invokestatic 297, 3) := by decide +kernel
theorem dX10_restore_61 : decode cX10_restore 61 = .ok (.istore_n 1, 1) := by decide +kernel
theorem dX10_restore_62 : decode cX10_restore 62 = .ok (.aload_n 0, 1) := by decide +kernel
theorem dX10_restore_63 : decode cX10_restore 63 = .ok (.getfield 80, 3) := by decide +kernel
theorem dX10_restore_66 : decode cX10_restore 66 = .ok (.iload_n 1, 1) := by decide +kernel
theorem dX10_restore_67 : decode cX10_restore 67 = .ok (.aload_n 0, 1) := by decide +kernel
theorem dX10_restore_68 : decode cX10_restore 68 = .ok (.getfield 34, 3) := by decide +kernel
theorem dX10_restore_71 : decode cX10_restore 71 = .ok (.invokestatic 297, 3) := by decide +kernel
theorem dX10_restore_74 : decode cX10_restore 74 = .ok (.istore_n 1, 1) := by decide +kernel
theorem dX10_restore_75 : decode cX10_restore 75 = .ok (.aload_n 0, 1) := by decide +kernel
theorem dX10_restore_76 : decode cX10_restore 76 = .ok (.getfield 80, 3) := by decide +kernel
theorem dX10_restore_79 : decode cX10_restore 79 = .ok (.iload_n 1, 1) := by decide +kernel
theorem dX10_restore_80 : decode cX10_restore 80 = .ok (.aload_n 0, 1) := by decide +kernel
theorem dX10_restore_81 : decode cX10_restore 81 = .ok (.getfield 61, 3) := by decide +kernel
theorem dX10_restore_84 : decode cX10_restore 84 = .ok (.invokestatic 297, 3) := by decide +kernel
theorem dX10_restore_87 : decode cX10_restore 87 = .ok (.istore_n 1, 1) := by decide +kernel
theorem dX10_restore_88 : decode cX10_restore 88 = .ok (.aload_n 0, 1) := by decide +kernel
theorem dX10_restore_89 : decode cX10_restore 89 = .ok (.getfield 80, 3) := by decide +kernel
theorem dX10_restore_92 : decode cX10_restore 92 = .ok (.iload_n 1, 1) := by decide +kernel
theorem dX10_restore_93 : decode cX10_restore 93 = .ok (.aload_n 0, 1) := by decide +kernel
theorem dX10_restore_94 : decode cX10_restore 94 = .ok (.getfield 64, 3) := by decide +kernel
theorem dX10_restore_97 : decode cX10_restore 97 = .ok (.invokestatic 297, 3) := by decide +kernel
theorem dX10_restore_100 : decode cX10_restore 100 = .ok (.istore_n 1, 1) := by decide +kernel
theorem dX10_restore_101 : decode cX10_restore 101 = .ok (.aload_n 0, 1) := by decide +kernel
theorem dX10_restore_102 : decode cX10_restore 102 = .ok (.aload_n 0, 1) := by decide +kernel
theorem dX10_restore_103 : decode cX10_restore 103 = .ok (.getfield 80, 3) := by decide +kernel
theorem dX10_restore_106 : decode cX10_restore 106 = .ok (.iload_n 1, 1) := by decide +kernel
theorem dX10_restore_107 : decode cX10_restore 107 = .ok (.iaload, 1) := by decide +kernel
theorem dX10_restore_108 : decode cX10_restore 108 = .ok (.putfield 95, 3) := by decide +kernel
theorem dX10_restore_111 : decode cX10_restore 111 = .ok (.aload_n 0, 1) := by decide +kernel
theorem dX10_restore_112 : decode cX10_restore 112 = .ok (.aload_n 0, 1) := by decide +kernel
theorem dX10_restore_113 : decode cX10_restore 113 = .ok (.getfield 80, 3) := by decide +kernel
theorem dX10_restore_116 : decode cX10_restore 116 = .ok (.iload_n 1, 1) := by decide +kernel
theorem dX10_restore_117 : decode cX10_restore 117 = .ok (.iconst 1, 1) := by decide +kernel
theorem dX10_restore_118 : decode cX10_restore 118 = .ok (.iadd, 1) := by decide +kernel
theorem dX10_restore_119 : decode cX10_restore 119 = .ok (.iaload, 1) := by decide +kernel
theorem dX10_restore_120 : decode cX10_restore 120 = .ok (.putfield 112, 3) := by decide +kernel
theorem dX10_restore_123 : decode cX10_restore 123 = .ok (.aload_n 0, 1) := by decide +kernel
theorem dX10_restore_124 : decode cX10_restore 124 = .ok (.aload_n 0, 1) := by decide +kernel
theorem dX10_restore_125 : decode cX10_restore 125 = .ok (.getfield 80, 3) := by decide +kernel
theorem dX10_restore_128 : decode cX10_restore 128 = .ok (.iload_n 1, 1) := by decide +kernel
theorem dX10_restore_129 : decode cX10_restore 129 = .ok (.iconst 2, 1) := by decide +kernel
theorem dX10_restore_130 : decode cX10_restore 130 = .ok (.iadd, 1) := by decide +kernel
theorem dX10_restore_131 : decode cX10_restore 131 = .ok (.iaload, 1) := by decide +kernel
theorem dX10_restore_132 : decode cX10_restore 132 = .ok (.putfield 119, 3) := by decide +kernel
theorem dX10_restore_135 : decode cX10_restore 135 = .ok (.aload_n 0, 1) := by decide +kernel
theorem dX10_restore_136 : decode cX10_restore 136 = .ok (.aload_n 0, 1) := by decide +kernel
theorem dX10_restore_137 : decode cX10_restore 137 = .ok (.getfield 80, 3) := by decide +kernel
theorem dX10_restore_140 : decode cX10_restore 140 = .ok (.iload_n 1, 1) := by decide +kernel
theorem dX10_restore_141 : decode cX10_restore 141 = .ok (.iconst 3, 1) := by decide +kernel
theorem dX10_restore_142 : decode cX10_restore 142 = .ok (.iadd, 1) := by decide +kernel
theorem dX10_restore_143 : decode cX10_restore 143 = .ok (.iaload, 1) := by decide +kernel
theorem dX10_restore_144 : decode cX10_restore 144 = .ok (.putfield 190, 3) := by decide +kernel
theorem dX10_restore_147 : decode cX10_restore 147 = .ok (.aload_n 0, 1) := by decide +kernel
theorem dX10_restore_148 : decode cX10_restore 148 = .ok (.aload_n 0, 1) := by decide +kernel
theorem dX10_restore_149 : decode cX10_restore 149 = .ok (.getfield 80, 3) := by decide +kernel
theorem dX10_restore_152 : decode cX10_restore 152 = .ok (.iload_n 1, 1) := by decide +kernel
theorem dX10_restore_153 : decode cX10_restore 153 = .ok (.iconst 4, 1) := by decide +kernel
theorem dX10_restore_154 : decode cX10_restore 154 = .ok (.iadd, 1) := by decide +kernel
theorem dX10_restore_155 : decode cX10_restore 155 = .ok (.iaload, 1) := by decide +kernel
theorem dX10_restore_156 : decode cX10_restore 156 = .ok (.putfield 187, 3) := by decide +kernel
theorem dX10_restore_159 : decode cX10_restore 159 = .ok (.aload_n 0, 1) := by decide +kernel
theorem dX10_restore_160 : decode cX10_restore 160 = .ok (.aload_n 0, 1) := by decide +kernel
theorem dX10_restore_161 : decode cX10_restore 161 = .ok (.getfield 80, 3) := by decide +kernel
theorem dX10_restore_164 : decode cX10_restore 164 = .ok (.iload_n 1, 1) := by decide +kernel
theorem dX10_restore_165 : decode cX10_restore 165 = .ok (.iconst 5, 1) := by decide +kernel
theorem dX10_restore_166 : decode cX10_restore 166 = .ok (.iadd, 1) := by decide +kernel
theorem dX10_restore_167 : decode cX10_restore 167 = .ok (.iaload, 1) := by decide +kernel
theorem dX10_restore_168 : decode cX10_restore 168 = .ok (.putfield 195, 3) := by decide +kernel
theorem dX10_restore_171 : decode cX10_restore 171 = .ok (.aload_n 0, 1) := by decide +kernel
theorem dX10_restore_172 : decode cX10_restore 172 = .ok (.aload_n 0, 1) := by decide +kernel
theorem dX10_restore_173 : decode cX10_restore 173 = .ok (.getfield 80, 3) := by decide +kernel
theorem dX10_restore_176 : decode cX10_restore 176 = .ok (.iload_n 1, 1) := by decide +kernel
theorem dX10_restore_177 : decode cX10_restore 177 = .ok (.bipush 6, 2) := by decide +kernel
theorem dX10_restore_179 : decode cX10_restore 179 = .ok (.iadd, 1) := by decide +kernel
theorem dX10_restore_180 : decode cX10_restore 180 = .ok (.iaload, 1) := by decide +kernel
theorem dX10_restore_181 : decode cX10_restore 181 = .ok (.putfield 262, 3) := by decide +kernel
theorem dX10_restore_184 : decode cX10_restore 184 = .ok (.aload_n 0, 1) := by decide +kernel
theorem dX10_restore_185 : decode cX10_restore 185 = .ok (.aload_n 0, 1) := by decide +kernel
theorem dX10_restore_186 : decode cX10_restore 186 = .ok (.getfield 80, 3) := by decide +kernel
theorem dX10_restore_189 : decode cX10_restore 189 = .ok (.iload_n 1, 1) := by decide +kernel
theorem dX10_restore_190 : decode cX10_restore 190 = .ok (.bipush 7, 2) := by decide +kernel
theorem dX10_restore_192 : decode cX10_restore 192 = .ok (.iadd, 1) := by decide +kernel
theorem dX10_restore_193 : decode cX10_restore 193 = .ok (.iaload, 1) := by decide +kernel
theorem dX10_restore_194 : decode cX10_restore 194 = .ok (.putfield 268, 3) := by decide +kernel
theorem dX10_restore_197 : decode cX10_restore 197 = .ok (.aload_n 0, 1) := by decide +kernel
theorem dX10_restore_198 : decode cX10_restore 198 = .ok (.aload_n 0, 1) := by decide +kernel
theorem dX10_restore_199 : decode cX10_restore 199 = .ok (.getfield 80, 3) := by decide +kernel
theorem dX10_restore_202 : decode cX10_restore 202 = .ok (.iload_n 1, 1) := by decide +kernel
theorem dX10_restore_203 : decode cX10_restore 203 = .ok (.bipush 8, 2) := by decide +kernel
theorem dX10_restore_205 : decode cX10_restore 205 = .ok (.iadd, 1) := by decide +kernel
theorem dX10_restore_206 : decode cX10_restore 206 = .ok (.iaload, 1) := by decide +kernel
theorem dX10_restore_207 : decode cX10_restore 207 = .ok (.putfield 67, 3) := by decide +kernel
theorem dX10_restore_210 : decode cX10_restore 210 = .ok (.aload_n 0, 1) := by decide +kernel
theorem dX10_restore_211 : decode cX10_restore 211 = .ok (.aload_n 0, 1) := by decide +kernel
theorem dX10_restore_212 : decode cX10_restore 212 = .ok (.getfield 80, 3) := by decide +kernel
theorem dX10_restore_215 : decode cX10_restore 215 = .ok (.iload_n 1, 1) := by decide +kernel
theorem dX10_restore_216 : decode cX10_restore 216 = .ok (.bipush 9, 2) := by decide +kernel
theorem dX10_restore_218 : decode cX10_restore 218 = .ok (.iadd, 1) := by decide +kernel
theorem dX10_restore_219 : decode cX10_restore 219 = .ok (.iaload, 1) := by decide +kernel
theorem dX10_restore_220 : decode cX10_restore 220 = .ok (.putfield 281, 3) := by decide +kernel
theorem dX10_restore_223 : decode cX10_restore 223 = .ok (.aload_n 0, 1) := by decide +kernel
theorem dX10_restore_224 : decode cX10_restore 224 = .ok (.aload_n 0, 1) := by decide +kernel
theorem dX10_restore_225 : decode cX10_restore 225 = .ok (.getfield 80, 3) := by decide +kernel
theorem dX10_restore_228 : decode cX10_restore 228 = .ok (.iload_n 1, 1) := by decide +kernel
theorem dX10_restore_229 : decode cX10_restore 229 = .ok (.bipush 10, 2) := by decide +kernel
theorem dX10_restore_231 : decode cX10_restore 231 = .ok (.iadd, 1) := by decide +kernel
theorem dX10_restore_232 : decode cX10_restore 232 = .ok (.iaload, 1) := by decide +kernel
theorem dX10_restore_233 : decode cX10_restore 233 = .ok (.putfield 284, 3) := by decide +kernel
theorem dX10_restore_236 : decode cX10_restore 236 = .ok (.aload_n 0, 1) := by decide +kernel
theorem dX10_restore_237 : decode cX10_restore 237 = .ok (.iconst 0, 1) := by decide +kernel
theorem dX10_restore_238 : decode cX10_restore 238 = .ok (.putfield 104, 3) := by decide +kernel
theorem dX10_restore_241 : decode cX10_restore 241 = .ok (.iconst 1, 1) := by decide +kernel
theorem dX10_restore_242 : decode cX10_restore 242 = .ok (.ireturn, 1) := by decide +kernel
theorem dX10_isSheet_0 : decode cX10_isSheet 0 = .ok (.iload_n 0, 1) := by decide +kernel
theorem dX10_isSheet_1 : decode cX10_isSheet 1 = .ok (.i2l, 1) := by decide +kernel
theorem dX10_isSheet_2 : decode cX10_isSheet 2 = .ok (.lconst 0, 1) := by decide +kernel
theorem dX10_isSheet_3 : decode cX10_isSheet 3 = .ok (.ldc2_w 301, 3) := by decide +kernel
theorem dX10_isSheet_6 : decode cX10_isSheet 6 = .ok (.invokestatic 98, 3) := by decide +kernel
theorem dX10_isSheet_9 : decode cX10_isSheet 9 = .ok (.ireturn, 1) := by decide +kernel
theorem dX10_isLane_0 : decode cX10_isLane 0 = .ok (.iload_n 0, 1) := by decide +kernel
theorem dX10_isLane_1 : decode cX10_isLane 1 = .ok (.i2l, 1) := by decide +kernel
theorem dX10_isLane_2 : decode cX10_isLane 2 = .ok (.lconst 0, 1) := by decide +kernel
theorem dX10_isLane_3 : decode cX10_isLane 3 = .ok (.ldc2_w 303, 3) := by decide +kernel
theorem dX10_isLane_6 : decode cX10_isLane 6 = .ok (.invokestatic 98, 3) := by decide +kernel
theorem dX10_isLane_9 : decode cX10_isLane 9 = .ok (.ireturn, 1) := by decide +kernel
theorem dX10_finds_0 : decode cX10_finds 0 = .ok (.aload_n 0, 1) := by decide +kernel
theorem dX10_finds_1 : decode cX10_finds 1 = .ok (.getfield 83, 3) := by decide +kernel
theorem dX10_finds_4 : decode cX10_finds 4 = .ok (.iload_n 1, 1) := by decide +kernel
theorem dX10_finds_5 : decode cX10_finds 5 = .ok (.iaload, 1) := by decide +kernel
theorem dX10_finds_6 : decode cX10_finds 6 = .ok (.ifCond .ge 6, 3) := by decide +kernel
theorem dX10_finds_9 : decode cX10_finds 9 = .ok (.bipush (-11), 2) := by decide +kernel
theorem dX10_finds_11 : decode cX10_finds 11 = .ok (.ireturn, 1) := by decide +kernel
theorem dX10_finds_12 : decode cX10_finds 12 = .ok (.aload_n 0, 1) := by decide +kernel
theorem dX10_finds_13 : decode cX10_finds 13 = .ok (.getfield 83, 3) := by decide +kernel
theorem dX10_finds_16 : decode cX10_finds 16 = .ok (.iload_n 1, 1) := by decide +kernel
theorem dX10_finds_17 : decode cX10_finds 17 = .ok (.iaload, 1) := by decide +kernel
theorem dX10_finds_18 : decode cX10_finds 18 = .ok (.iload_n 2, 1) := by decide +kernel
theorem dX10_finds_19 : decode cX10_finds 19 = .ok (.if_icmp .eq 6, 3) := by decide +kernel
theorem dX10_finds_22 : decode cX10_finds 22 = .ok (.bipush (-12), 2) := by decide +kernel
theorem dX10_finds_24 : decode cX10_finds 24 = .ok (.ireturn, 1) := by decide +kernel
theorem dX10_finds_25 : decode cX10_finds 25 = .ok (.iload_n 3, 1) := by decide +kernel
theorem dX10_finds_26 : decode cX10_finds 26 = .ok (.ifCond .lt 20, 3) := by decide +kernel
theorem dX10_finds_29 : decode cX10_finds 29 = .ok (.iload_n 3, 1) := by decide +kernel
theorem dX10_finds_30 : decode cX10_finds 30 = .ok (.i2l, 1) := by decide +kernel
theorem dX10_finds_31 : decode cX10_finds 31 = .ok (.iload 4, 2) := by decide +kernel
theorem dX10_finds_33 : decode cX10_finds 33 = .ok (.i2l, 1) := by decide +kernel
theorem dX10_finds_34 : decode cX10_finds 34 = .ok (.ladd, 1) := by decide +kernel
theorem dX10_finds_35 : decode cX10_finds 35 = .ok (.aload_n 0, 1) := by decide +kernel
theorem dX10_finds_36 : decode cX10_finds 36 = .ok (.getfield 86, 3) := by decide +kernel
theorem dX10_finds_39 : decode cX10_finds 39 = .ok (.iload_n 1, 1) := by decide +kernel
theorem dX10_finds_40 : decode cX10_finds 40 = .ok (.iaload, 1) := by decide +kernel
theorem dX10_finds_41 : decode cX10_finds 41 = .ok (.i2l, 1) := by decide +kernel
theorem dX10_finds_42 : decode cX10_finds 42 = .ok (.lcmp, 1) := by decide +kernel
theorem dX10_finds_43 : decode cX10_finds 43 = .ok (.ifCond .le 8, 3) := by decide +kernel
theorem dX10_finds_46 : decode cX10_finds 46 = .ok (.bipush (-13), 2) := by decide +kernel
theorem dX10_finds_48 : decode cX10_finds 48 = .ok (.goto 4, 3) := by decide +kernel
theorem dX10_finds_51 : decode cX10_finds 51 = .ok (.iconst 0, 1) := by decide +kernel
theorem dX10_finds_52 : decode cX10_finds 52 = .ok (.ireturn, 1) := by decide +kernel
theorem dX10_sheet_0 : decode cX10_sheet 0 = .ok (.iload_n 1, 1) := by decide +kernel
theorem dX10_sheet_1 : decode cX10_sheet 1 = .ok (.invokestatic 206, 3) := by decide +kernel
theorem dX10_sheet_4 : decode cX10_sheet 4 = .ok (.ifCond .eq 16, 3) := by decide +kernel
theorem dX10_sheet_7 : decode cX10_sheet 7 = .ok (.iload_n 2, 1) := by decide +kernel
theorem dX10_sheet_8 : decode cX10_sheet 8 = .ok (.invokestatic 209, 3) := by decide +kernel
theorem dX10_sheet_11 : decode cX10_sheet 11 = .ok (.ifCond .eq 9, 3) := by decide +kernel
theorem dX10_sheet_14 : decode cX10_sheet 14 = .ok (.iload_n 3, 1) := by decide +kernel
theorem dX10_sheet_15 : decode cX10_sheet 15 = .ok (.bipush 24, 2) := by decide +kernel
theorem dX10_sheet_17 : decode cX10_sheet 17 = .ok (.if_icmp .le 5, 3) := by decide +kernel
theorem dX10_sheet_20 : decode cX10_sheet 20 = .ok (.iconst (-1), 1) := by decide +kernel
theorem dX10_sheet_21 : decode cX10_sheet 21 = .ok (.ireturn, 1) := by decide +kernel
theorem dX10_sheet_22 : decode cX10_sheet 22 = .ok (.iload_n 3, 1) := by decide +kernel
theorem dX10_sheet_23 : decode cX10_sheet 23 = .ok (.ifCond .ge 6, 3) := by decide +kernel
theorem dX10_sheet_26 : decode cX10_sheet 26 = .ok (.bipush (-14), 2) := by decide +kernel
theorem dX10_sheet_28 : decode cX10_sheet 28 = .ok (.ireturn, 1) := by decide +kernel
theorem dX10_sheet_29 : decode cX10_sheet 29 = .ok (.aload_n 0, 1) := by decide +kernel
theorem dX10_sheet_30 : decode cX10_sheet 30 = .ok (.getfield 83, 3) := by decide +kernel
theorem dX10_sheet_33 : decode cX10_sheet 33 = .ok (.iload_n 1, 1) := by decide +kernel
theorem dX10_sheet_34 : decode cX10_sheet 34 = .ok (.iload_n 2, 1) := by decide +kernel
theorem dX10_sheet_35 : decode cX10_sheet 35 = .ok (.iastore, 1) := by decide +kernel
theorem dX10_sheet_36 : decode cX10_sheet 36 = .ok (.aload_n 0, 1) := by decide +kernel
theorem dX10_sheet_37 : decode cX10_sheet 37 = .ok (.getfield 86, 3) := by decide +kernel
theorem dX10_sheet_40 : decode cX10_sheet 40 = .ok (.iload_n 1, 1) := by decide +kernel
theorem dX10_sheet_41 : decode cX10_sheet 41 = .ok (.iload_n 3, 1) := by decide +kernel
theorem dX10_sheet_42 : decode cX10_sheet 42 = .ok (.iastore, 1) := by decide +kernel
theorem dX10_sheet_43 : decode cX10_sheet 43 = .ok (.iconst 0, 1) := by decide +kernel
theorem dX10_sheet_44 : decode cX10_sheet 44 = .ok (.istore 4, 2) := by decide +kernel
theorem dX10_sheet_46 : decode cX10_sheet 46 = .ok (.iload 4, 2) := by decide +kernel
theorem dX10_sheet_48 : decode cX10_sheet 48 = .ok (.bipush 24, 2) := by decide +kernel
theorem dX10_sheet_50 : decode cX10_sheet 50 = .ok (.if_icmp .ge 22, 3) := by decide +kernel
theorem dX10_sheet_53 : decode cX10_sheet 53 = .ok (.aload_n 0, 1) := by decide +kernel
theorem dX10_sheet_54 : decode cX10_sheet 54 = .ok (.getfield 89, 3) := by decide +kernel
theorem dX10_sheet_57 : decode cX10_sheet 57 = .ok (.bipush 24, 2) := by decide +kernel
theorem dX10_sheet_59 : decode cX10_sheet 59 = .ok (.iload_n 1, 1) := by decide +kernel
theorem dX10_sheet_60 : decode cX10_sheet 60 = .ok (.imul, 1) := by decide +kernel
theorem dX10_sheet_61 : decode cX10_sheet 61 = .ok (.iload 4, 2) := by decide +kernel
theorem dX10_sheet_63 : decode cX10_sheet 63 = .ok (.iadd, 1) := by decide +kernel
theorem dX10_sheet_64 : decode cX10_sheet 64 = .ok (.iconst 0, 1) := by decide +kernel
theorem dX10_sheet_65 : decode cX10_sheet 65 = .ok (.iastore, 1) := by decide +kernel
theorem dX10_sheet_66 : decode cX10_sheet 66 = .ok (.iinc 4 1, 3) := by decide +kernel
theorem dX10_sheet_69 : decode cX10_sheet 69 = .ok (.goto (-23), 3) := by decide +kernel
theorem dX10_sheet_72 : decode cX10_sheet 72 = .ok (.iload_n 3, 1) := by decide +kernel
theorem dX10_sheet_73 : decode cX10_sheet 73 = .ok (.ireturn, 1) := by decide +kernel
theorem dX10_empty_0 : decode cX10_empty 0 = .ok (.iload_n 1, 1) := by decide +kernel
theorem dX10_empty_1 : decode cX10_empty 1 = .ok (.invokestatic 206, 3) := by decide +kernel
theorem dX10_empty_4 : decode cX10_empty 4 = .ok (.ifCond .ne 5, 3) := by decide +kernel
theorem dX10_empty_7 : decode cX10_empty 7 = .ok (.iconst (-1), 1) := by decide +kernel
theorem dX10_empty_8 : decode cX10_empty 8 = .ok (.ireturn, 1) := by decide +kernel
theorem dX10_empty_9 : decode cX10_empty 9 = .ok (.aload_n 0, 1) := by decide +kernel
theorem dX10_empty_10 : decode cX10_empty 10 = .ok (.getfield 83, 3) := by decide +kernel
theorem dX10_empty_13 : decode cX10_empty 13 = .ok (.iload_n 1, 1) := by decide +kernel
theorem dX10_empty_14 : decode cX10_empty 14 = .ok (.iaload, 1) := by decide +kernel
theorem dX10_empty_15 : decode cX10_empty 15 = .ok (.ifCond .ge 6, 3) := by decide +kernel
theorem dX10_empty_18 : decode cX10_empty 18 = .ok (.bipush (-11), 2) := by decide +kernel
theorem dX10_empty_20 : decode cX10_empty 20 = .ok (.ireturn, 1) := by decide +kernel
theorem dX10_empty_21 : decode cX10_empty 21 = .ok (.aload_n 0, 1) := by decide +kernel
theorem dX10_empty_22 : decode cX10_empty 22 = .ok (.getfield 83, 3) := by decide +kernel
theorem dX10_empty_25 : decode cX10_empty 25 = .ok (.iload_n 1, 1) := by decide +kernel
theorem dX10_empty_26 : decode cX10_empty 26 = .ok (.iconst (-1), 1) := by decide +kernel
theorem dX10_empty_27 : decode cX10_empty 27 = .ok (.iastore, 1) := by decide +kernel
theorem dX10_empty_28 : decode cX10_empty 28 = .ok (.aload_n 0, 1) := by decide +kernel
theorem dX10_empty_29 : decode cX10_empty 29 = .ok (.getfield 86, 3) := by decide +kernel
theorem dX10_empty_32 : decode cX10_empty 32 = .ok (.iload_n 1, 1) := by decide +kernel
theorem dX10_empty_33 : decode cX10_empty 33 = .ok (.iaload, 1) := by decide +kernel
theorem dX10_empty_34 : decode cX10_empty 34 = .ok (.ireturn, 1) := by decide +kernel
theorem dX10_item_0 : decode cX10_item 0 = .ok (.iload_n 1, 1) := by decide +kernel
theorem dX10_item_1 : decode cX10_item 1 = .ok (.invokestatic 206, 3) := by decide +kernel
theorem dX10_item_4 : decode cX10_item 4 = .ok (.ifCond .eq 10, 3) := by decide +kernel
theorem dX10_item_7 : decode cX10_item 7 = .ok (.iload_n 2, 1) := by decide +kernel
theorem dX10_item_8 : decode cX10_item 8 = .ok (.invokestatic 209, 3) := by decide +kernel
theorem dX10_item_11 : decode cX10_item 11 = .ok (.ifCond .ne 5, 3) := by decide +kernel
theorem dX10_item_14 : decode cX10_item 14 = .ok (.iconst (-1), 1) := by decide +kernel
theorem dX10_item_15 : decode cX10_item 15 = .ok (.ireturn, 1) := by decide +kernel
theorem dX10_item_16 : decode cX10_item 16 = .ok (.aload_n 0, 1) := by decide +kernel
theorem dX10_item_17 : decode cX10_item 17 = .ok (.iload_n 1, 1) := by decide +kernel
theorem dX10_item_18 : decode cX10_item 18 = .ok (.iload_n 2, 1) := by decide +kernel
theorem dX10_item_19 : decode cX10_item 19 = .ok (.iload_n 3, 1) := by decide +kernel
theorem dX10_item_20 : decode cX10_item 20 = .ok (.iconst 1, 1) := by decide +kernel
theorem dX10_item_21 : decode cX10_item 21 = .ok (.invokevirtual 214, 3) := by decide +kernel
theorem dX10_item_24 : decode cX10_item 24 = .ok (.istore 5, 2) := by decide +kernel
theorem dX10_item_26 : decode cX10_item 26 = .ok (.iload 5, 2) := by decide +kernel
theorem dX10_item_28 : decode cX10_item 28 = .ok (.ifCond .ge 6, 3) := by decide +kernel
theorem dX10_item_31 : decode cX10_item 31 = .ok (.iload 5, 2) := by decide +kernel
theorem dX10_item_33 : decode cX10_item 33 = .ok (.ireturn, 1) := by decide +kernel
theorem dX10_item_34 : decode cX10_item 34 = .ok (.aload_n 0, 1) := by decide +kernel
theorem dX10_item_35 : decode cX10_item 35 = .ok (.getfield 89, 3) := by decide +kernel
theorem dX10_item_38 : decode cX10_item 38 = .ok (.bipush 24, 2) := by decide +kernel
theorem dX10_item_40 : decode cX10_item 40 = .ok (.iload_n 1, 1) := by decide +kernel
theorem dX10_item_41 : decode cX10_item 41 = .ok (.imul, 1) := by decide +kernel
theorem dX10_item_42 : decode cX10_item 42 = .ok (.iload_n 3, 1) := by decide +kernel
theorem dX10_item_43 : decode cX10_item 43 = .ok (.iadd, 1) := by decide +kernel
theorem dX10_item_44 : decode cX10_item 44 = .ok (.iload_n 2, 1) := by decide +kernel
theorem dX10_item_45 : decode cX10_item 45 = .ok (.ifCond .ne 9, 3) := by decide +kernel
theorem dX10_item_48 : decode cX10_item 48 = .ok (.iload 4, 2) := by decide +kernel
theorem dX10_item_50 : decode cX10_item 50 = .ok (.i2b, 1) := by decide +kernel
theorem dX10_item_51 : decode cX10_item 51 = .ok (.goto 16, 3) := by decide +kernel
theorem dX10_item_54 : decode cX10_item 54 = .ok (.iload_n 2, 1) := by decide +kernel
theorem dX10_item_55 : decode cX10_item 55 = .ok (.iconst 1, 1) := by decide +kernel
theorem dX10_item_56 : decode cX10_item 56 = .ok (.if_icmp .ne 9, 3) := by decide +kernel
theorem dX10_item_59 : decode cX10_item 59 = .ok (.iload 4, 2) := by decide +kernel
theorem dX10_item_61 : decode cX10_item 61 = .ok (.i2s, 1) := by decide +kernel
theorem dX10_item_62 : decode cX10_item 62 = .ok (.goto 5, 3) := by decide +kernel
theorem dX10_item_65 : decode cX10_item 65 = .ok (.iload 4, 2) := by decide +kernel
theorem dX10_item_67 : decode cX10_item 67 = .ok (.iastore, 1) := by decide +kernel
theorem dX10_item_68 : decode cX10_item 68 = .ok (.iconst 1, 1) := by decide +kernel
theorem dX10_item_69 : decode cX10_item 69 = .ok (.ireturn, 1) := by decide +kernel
theorem dX10_copy_0 : decode cX10_copy 0 = .ok (.iload_n 1, 1) := by decide +kernel
theorem dX10_copy_1 : decode cX10_copy 1 = .ok (.invokestatic 206, 3) := by decide +kernel
theorem dX10_copy_4 : decode cX10_copy 4 = .ok (.ifCond .eq 10, 3) := by decide +kernel
theorem dX10_copy_7 : decode cX10_copy 7 = .ok (.iload_n 3, 1) := by decide +kernel
theorem dX10_copy_8 : decode cX10_copy 8 = .ok (.invokestatic 206, 3) := by decide +kernel
theorem dX10_copy_11 : decode cX10_copy 11 = .ok (.ifCond .ne 5, 3) := by decide +kernel
theorem dX10_copy_14 : decode cX10_copy 14 = .ok (.iconst (-1), 1) := by decide +kernel
theorem dX10_copy_15 : decode cX10_copy 15 = .ok (.ireturn, 1) := by decide +kernel
theorem dX10_copy_16 : decode cX10_copy 16 = .ok (.aload_n 0, 1) := by decide +kernel
theorem dX10_copy_17 : decode cX10_copy 17 = .ok (.getfield 83, 3) := by decide +kernel
theorem dX10_copy_20 : decode cX10_copy 20 = .ok (.iload_n 1, 1) := by decide +kernel
theorem dX10_copy_21 : decode cX10_copy 21 = .ok (.iaload, 1) := by decide +kernel
theorem dX10_copy_22 : decode cX10_copy 22 = .ok (.ifCond .lt 12, 3) := by decide +kernel
theorem dX10_copy_25 : decode cX10_copy 25 = .ok (.aload_n 0, 1) := by decide +kernel
theorem dX10_copy_26 : decode cX10_copy 26 = .ok (.getfield 83, 3) := by decide +kernel
theorem dX10_copy_29 : decode cX10_copy 29 = .ok (.iload_n 3, 1) := by decide +kernel
theorem dX10_copy_30 : decode cX10_copy 30 = .ok (.iaload, 1) := by decide +kernel
theorem dX10_copy_31 : decode cX10_copy 31 = .ok (.ifCond .ge 6, 3) := by decide +kernel
theorem dX10_copy_34 : decode cX10_copy 34 = .ok (.bipush (-11), 2) := by decide +kernel
theorem dX10_copy_36 : decode cX10_copy 36 = .ok (.ireturn, 1) := by decide +kernel
theorem dX10_copy_37 : decode cX10_copy 37 = .ok (.aload_n 0, 1) := by decide +kernel
theorem dX10_copy_38 : decode cX10_copy 38 = .ok (.getfield 83, 3) := by decide +kernel
theorem dX10_copy_41 : decode cX10_copy 41 = .ok (.iload_n 1, 1) := by decide +kernel
theorem dX10_copy_42 : decode cX10_copy 42 = .ok (.iaload, 1) := by decide +kernel
theorem dX10_copy_43 : decode cX10_copy 43 = .ok (.aload_n 0, 1) := by decide +kernel
theorem dX10_copy_44 : decode cX10_copy 44 = .ok (.getfield 83, 3) := by decide +kernel
theorem dX10_copy_47 : decode cX10_copy 47 = .ok (.iload_n 3, 1) := by decide +kernel
theorem dX10_copy_48 : decode cX10_copy 48 = .ok (.iaload, 1) := by decide +kernel
theorem dX10_copy_49 : decode cX10_copy 49 = .ok (.if_icmp .eq 6, 3) := by decide +kernel
theorem dX10_copy_52 : decode cX10_copy 52 = .ok (.bipush (-12), 2) := by decide +kernel
theorem dX10_copy_54 : decode cX10_copy 54 = .ok (.ireturn, 1) := by decide +kernel
theorem dX10_copy_55 : decode cX10_copy 55 = .ok (.iload 5, 2) := by decide +kernel
theorem dX10_copy_57 : decode cX10_copy 57 = .ok (.ifCond .lt 38, 3) := by decide +kernel
theorem dX10_copy_60 : decode cX10_copy 60 = .ok (.aload_n 0, 1) := by decide +kernel
theorem dX10_copy_61 : decode cX10_copy 61 = .ok (.iload_n 1, 1) := by decide +kernel
theorem dX10_copy_62 : decode cX10_copy 62 = .ok (.aload_n 0, 1) := by decide +kernel
theorem dX10_copy_63 : decode cX10_copy 63 = .ok (.getfield 83, 3) := by decide +kernel
theorem dX10_copy_66 : decode cX10_copy 66 = .ok (.iload_n 1, 1) := by decide +kernel
theorem dX10_copy_67 : decode cX10_copy 67 = .ok (.iaload, 1) := by decide +kernel
theorem dX10_copy_68 : decode cX10_copy 68 = .ok (.iload_n 2, 1) := by decide +kernel
theorem dX10_copy_69 : decode cX10_copy 69 = .ok (.iload 5, 2) := by decide +kernel
theorem dX10_copy_71 : decode cX10_copy 71 = .ok (.invokevirtual 214, 3) := by decide +kernel
theorem dX10_copy_74 : decode cX10_copy 74 = .ok (.ifCond .lt 21, 3) := by decide +kernel
theorem dX10_copy_77 : decode cX10_copy 77 = .ok (.aload_n 0, 1) := by decide +kernel
theorem dX10_copy_78 : decode cX10_copy 78 = .ok (.iload_n 3, 1) := by decide +kernel
theorem dX10_copy_79 : decode cX10_copy 79 = .ok (.aload_n 0, 1) := by decide +kernel
theorem dX10_copy_80 : decode cX10_copy 80 = .ok (.getfield 83, 3) := by decide +kernel
theorem dX10_copy_83 : decode cX10_copy 83 = .ok (.iload_n 3, 1) := by decide +kernel
theorem dX10_copy_84 : decode cX10_copy 84 = .ok (.iaload, 1) := by decide +kernel
theorem dX10_copy_85 : decode cX10_copy 85 = .ok (.iload 4, 2) := by decide +kernel
theorem dX10_copy_87 : decode cX10_copy 87 = .ok (.iload 5, 2) := by decide +kernel
theorem dX10_copy_89 : decode cX10_copy 89 = .ok (.invokevirtual 214, 3) := by decide +kernel
theorem dX10_copy_92 : decode cX10_copy 92 = .ok (.ifCond .ge 6, 3) := by decide +kernel
theorem dX10_copy_95 : decode cX10_copy 95 = .ok (.bipush (-13), 2) := by decide +kernel
theorem dX10_copy_97 : decode cX10_copy 97 = .ok (.ireturn, 1) := by decide +kernel
theorem dX10_copy_98 : decode cX10_copy 98 = .ok (.iconst 0, 1) := by decide +kernel
theorem dX10_copy_99 : decode cX10_copy 99 = .ok (.istore 6, 2) := by decide +kernel
theorem dX10_copy_101 : decode cX10_copy 101 = .ok (.iload 6, 2) := by decide +kernel
theorem dX10_copy_103 : decode cX10_copy 103 = .ok (.iload 5, 2) := by decide +kernel
theorem dX10_copy_105 : decode cX10_copy 105 = .ok (.if_icmp .ge 30, 3) := by decide +kernel
theorem dX10_copy_108 : decode cX10_copy 108 = .ok (.aload_n 0, 1) := by decide +kernel
theorem dX10_copy_109 : decode cX10_copy 109 = .ok (.getfield 92, 3) := by decide +kernel
theorem dX10_copy_112 : decode cX10_copy 112 = .ok (.iload 6, 2) := by decide +kernel
theorem dX10_copy_114 : decode cX10_copy 114 = .ok (.aload_n 0, 1) := by decide +kernel
theorem dX10_copy_115 : decode cX10_copy 115 = .ok (.getfield 89, 3) := by decide +kernel
theorem dX10_copy_118 : decode cX10_copy 118 = .ok (.bipush 24, 2) := by decide +kernel
theorem dX10_copy_120 : decode cX10_copy 120 = .ok (.iload_n 1, 1) := by decide +kernel
theorem dX10_copy_121 : decode cX10_copy 121 = .ok (.imul, 1) := by decide +kernel
theorem dX10_copy_122 : decode cX10_copy 122 = .ok (.iload_n 2, 1) := by decide +kernel
theorem dX10_copy_123 : decode cX10_copy 123 = .ok (.iadd, 1) := by decide +kernel
theorem dX10_copy_124 : decode cX10_copy 124 = .ok (.iload 6, 2) := by decide +kernel
theorem dX10_copy_126 : decode cX10_copy 126 = .ok (.iadd, 1) := by decide +kernel
theorem dX10_copy_127 : decode cX10_copy 127 = .ok (.iaload, 1) := by decide +kernel
theorem dX10_copy_128 : decode cX10_copy 128 = .ok (.iastore, 1) := by decide +kernel
theorem dX10_copy_129 : decode cX10_copy 129 = .ok (.iinc 6 1, 3) := by decide +kernel
theorem dX10_copy_132 : decode cX10_copy 132 = .ok (.goto (-31), 3) := by decide +kernel
theorem dX10_copy_135 : decode cX10_copy 135 = .ok (.iconst 0, 1) := by decide +kernel
theorem dX10_copy_136 : decode cX10_copy 136 = .ok (.istore 6, 2) := by decide +kernel
theorem dX10_copy_138 : decode cX10_copy 138 = .ok (.iload 6, 2) := by decide +kernel
theorem dX10_copy_140 : decode cX10_copy 140 = .ok (.iload 5, 2) := by decide +kernel
theorem dX10_copy_142 : decode cX10_copy 142 = .ok (.if_icmp .ge 31, 3) := by decide +kernel
theorem dX10_copy_145 : decode cX10_copy 145 = .ok (.aload_n 0, 1) := by decide +kernel
theorem dX10_copy_146 : decode cX10_copy 146 = .ok (.getfield 89, 3) := by decide +kernel
theorem dX10_copy_149 : decode cX10_copy 149 = .ok (.bipush 24, 2) := by decide +kernel
theorem dX10_copy_151 : decode cX10_copy 151 = .ok (.iload_n 3, 1) := by decide +kernel
theorem dX10_copy_152 : decode cX10_copy 152 = .ok (.imul, 1) := by decide +kernel
theorem dX10_copy_153 : decode cX10_copy 153 = .ok (.iload 4, 2) := by decide +kernel
theorem dX10_copy_155 : decode cX10_copy 155 = .ok (.iadd, 1) := by decide +kernel
theorem dX10_copy_156 : decode cX10_copy 156 = .ok (.iload 6, 2) := by decide +kernel
theorem dX10_copy_158 : decode cX10_copy 158 = .ok (.iadd, 1) := by decide +kernel
theorem dX10_copy_159 : decode cX10_copy 159 = .ok (.aload_n 0, 1) := by decide +kernel
theorem dX10_copy_160 : decode cX10_copy 160 = .ok (.getfield 92, 3) := by decide +kernel
theorem dX10_copy_163 : decode cX10_copy 163 = .ok (.iload 6, 2) := by decide +kernel
theorem dX10_copy_165 : decode cX10_copy 165 = .ok (.iaload, 1) := by decide +kernel
theorem dX10_copy_166 : decode cX10_copy 166 = .ok (.iastore, 1) := by decide +kernel
theorem dX10_copy_167 : decode cX10_copy 167 = .ok (.iinc 6 1, 3) := by decide +kernel
theorem dX10_copy_170 : decode cX10_copy 170 = .ok (.goto (-32), 3) := by decide +kernel
theorem dX10_copy_173 : decode cX10_copy 173 = .ok (.iload 5, 2) := by decide +kernel
theorem dX10_copy_175 : decode cX10_copy 175 = .ok (.ireturn, 1) := by decide +kernel
