theorem dX9_init_0 : decode cX9_init 0 = .ok (.aload_n 0, 1) := by decide +kernel
theorem dX9_init_1 : decode cX9_init 1 = .ok (.invokespecial 1, 3) := by decide +kernel
theorem dX9_init_4 : decode cX9_init 4 = .ok (.aload_n 0, 1) := by decide +kernel
theorem dX9_init_5 : decode cX9_init 5 = .ok (.new 7, 3) := by decide +kernel
theorem dX9_init_8 : decode cX9_init 8 = .ok (.dup, 1) := by decide +kernel
theorem dX9_init_9 : decode cX9_init 9 = .ok (.invokespecial 9, 3) := by decide +kernel
theorem dX9_init_12 : decode cX9_init 12 = .ok (.putfield 10, 3) := by decide +kernel
theorem dX9_init_15 : decode cX9_init 15 = .ok (.aload_n 0, 1) := by decide +kernel
theorem dX9_init_16 : decode cX9_init 16 = .ok (.new 16, 3) := by decide +kernel
theorem dX9_init_19 : decode cX9_init 19 = .ok (.dup, 1) := by decide +kernel
theorem dX9_init_20 : decode cX9_init 20 = .ok (.invokespecial 18, 3) := by decide +kernel
theorem dX9_init_23 : decode cX9_init 23 = .ok (.putfield 19, 3) := by decide +kernel
theorem dX9_init_26 : decode cX9_init 26 = .ok (.aload_n 0, 1) := by decide +kernel
theorem dX9_init_27 : decode cX9_init 27 = .ok (.new 23, 3) := by decide +kernel
theorem dX9_init_30 : decode cX9_init 30 = .ok (.dup, 1) := by decide +kernel
theorem dX9_init_31 : decode cX9_init 31 = .ok (.invokespecial 25, 3) := by decide +kernel
theorem dX9_init_34 : decode cX9_init 34 = .ok (.putfield 26, 3) := by decide +kernel
theorem dX9_init_37 : decode cX9_init 37 = .ok (.aload_n 0, 1) := by decide +kernel
theorem dX9_init_38 : decode cX9_init 38 = .ok (.new 7, 3) := by decide +kernel
theorem dX9_init_41 : decode cX9_init 41 = .ok (.dup, 1) := by decide +kernel
theorem dX9_init_42 : decode cX9_init 42 = .ok (.invokespecial 9, 3) := by decide +kernel
theorem dX9_init_45 : decode cX9_init 45 = .ok (.putfield 30, 3) := by decide +kernel
theorem dX9_init_48 : decode cX9_init 48 = .ok (.aload_n 0, 1) := by decide +kernel
theorem dX9_init_49 : decode cX9_init 49 = .ok (.new 16, 3) := by decide +kernel
theorem dX9_init_52 : decode cX9_init 52 = .ok (.dup, 1) := by decide +kernel
theorem dX9_init_53 : decode cX9_init 53 = .ok (.invokespecial 18, 3) := by decide +kernel
theorem dX9_init_56 : decode cX9_init 56 = .ok (.putfield 33, 3) := by decide +kernel
theorem dX9_init_59 : decode cX9_init 59 = .ok (.aload_n 0, 1) := by decide +kernel
theorem dX9_init_60 : decode cX9_init 60 = .ok (.new 23, 3) := by decide +kernel
theorem dX9_init_63 : decode cX9_init 63 = .ok (.dup, 1) := by decide +kernel
theorem dX9_init_64 : decode cX9_init 64 = .ok (.invokespecial 25, 3) := by decide +kernel
theorem dX9_init_67 : decode cX9_init 67 = .ok (.putfield 36, 3) := by decide +kernel
theorem dX9_init_70 : decode cX9_init 70 = .ok (.aload_n 0, 1) := by decide +kernel
theorem dX9_init_71 : decode cX9_init 71 = .ok (.new 39, 3) := by decide +kernel
theorem dX9_init_74 : decode cX9_init 74 = .ok (.dup, 1) := by decide +kernel
theorem dX9_init_75 : decode cX9_init 75 = .ok (.invokespecial 41, 3) := by decide +kernel
theorem dX9_init_78 : decode cX9_init 78 = .ok (.putfield 42, 3) := by decide +kernel
theorem dX9_init_81 : decode cX9_init 81 = .ok (.aload_n 0, 1) := by decide +kernel
theorem dX9_init_82 : decode cX9_init 82 = .ok (.new 46, 3) := by decide +kernel
theorem dX9_init_85 : decode cX9_init 85 = .ok (.dup, 1) := by decide +kernel
theorem dX9_init_86 : decode cX9_init 86 = .ok (.invokespecial 48, 3) := by decide +kernel
theorem dX9_init_89 : decode cX9_init 89 = .ok (.putfield 49, 3) := by decide +kernel
theorem dX9_init_92 : decode cX9_init 92 = .ok (.aload_n 0, 1) := by decide +kernel
theorem dX9_init_93 : decode cX9_init 93 = .ok (.new 53, 3) := by decide +kernel
theorem dX9_init_96 : decode cX9_init 96 = .ok (.dup, 1) := by decide +kernel
theorem dX9_init_97 : decode cX9_init 97 = .ok (.aload_n 0, 1) := by decide +kernel
theorem dX9_init_98 : decode cX9_init 98 = .ok (.getfield 10, 3) := by decide +kernel
theorem dX9_init_101 : decode cX9_init 101 = .ok (.invokespecial 55, 3) := by decide +kernel
theorem dX9_init_104 : decode cX9_init 104 = .ok (.putfield 58, 3) := by decide +kernel
theorem dX9_init_107 : decode cX9_init 107 = .ok (.aload_n 0, 1) := by decide +kernel
theorem dX9_init_108 : decode cX9_init 108 = .ok (.new 62, 3) := by decide +kernel
theorem dX9_init_111 : decode cX9_init 111 = .ok (.dup, 1) := by decide +kernel
theorem dX9_init_112 : decode cX9_init 112 = .ok (.aload_n 0, 1) := by decide +kernel
theorem dX9_init_113 : decode cX9_init 113 = .ok (.getfield 10, 3) := by decide +kernel
theorem dX9_init_116 : decode cX9_init 116 = .ok (.aload_n 0, 1) := by decide +kernel
theorem dX9_init_117 : decode cX9_init 117 = .ok (.getfield 19, 3) := by decide +kernel
theorem dX9_init_120 : decode cX9_init 120 = .ok (.aload_n 0, 1) := by decide +kernel
theorem dX9_init_121 : decode cX9_init 121 = .ok (.getfield 58, 3) := by decide +kernel
theorem dX9_init_124 : decode cX9_init 124 = .ok (.invokespecial 64, 3) := by decide +kernel
theorem dX9_init_127 : decode cX9_init 127 = .ok (.putfield 67, 3) := by decide +kernel
theorem dX9_init_130 : decode cX9_init 130 = .ok (.aload_n 0, 1) := by decide +kernel
theorem dX9_init_131 : decode cX9_init 131 = .ok (.new 71, 3) := by decide +kernel
theorem dX9_init_134 : decode cX9_init 134 = .ok (.dup, 1) := by decide +kernel
theorem dX9_init_135 : decode cX9_init 135 = .ok (.aload_n 0, 1) := by decide +kernel
theorem dX9_init_136 : decode cX9_init 136 = .ok (.getfield 10, 3) := by decide +kernel
theorem dX9_init_139 : decode cX9_init 139 = .ok (.aload_n 0, 1) := by decide +kernel
theorem dX9_init_140 : decode cX9_init 140 = .ok (.getfield 26, 3) := by decide +kernel
theorem dX9_init_143 : decode cX9_init 143 = .ok (.invokespecial 73, 3) := by decide +kernel
theorem dX9_init_146 : decode cX9_init 146 = .ok (.putfield 76, 3) := by decide +kernel
theorem dX9_init_149 : decode cX9_init 149 = .ok (.aload_n 0, 1) := by decide +kernel
theorem dX9_init_150 : decode cX9_init 150 = .ok (.bipush 24, 2) := by decide +kernel
theorem dX9_init_152 : decode cX9_init 152 = .ok (.newarray .int, 2) := by decide +kernel
theorem dX9_init_154 : decode cX9_init 154 = .ok (.putfield 80, 3) := by decide +kernel
theorem dX9_init_157 : decode cX9_init 157 = .ok (.aload_n 0, 1) := by decide +kernel
theorem dX9_init_158 : decode cX9_init 158 = .ok (.bipush 6, 2) := by decide +kernel
theorem dX9_init_160 : decode cX9_init 160 = .ok (.iconst 4, 1) := by decide +kernel
theorem dX9_init_161 : decode cX9_init 161 = .ok (.multianewarray 84 2, 4) := by decide +kernel
theorem dX9_init_165 : decode cX9_init 165 = .ok (.putfield 86, 3) := by decide +kernel
theorem dX9_init_168 : decode cX9_init 168 = .ok (.return_, 1) := by decide +kernel
theorem dX9_room_0 : decode cX9_room 0 = .ok (.aload_n 0, 1) := by decide +kernel
theorem dX9_room_1 : decode cX9_room 1 = .ok (.getfield 10, 3) := by decide +kernel
theorem dX9_room_4 : decode cX9_room 4 = .ok (.getfield 89, 3) := by decide +kernel
theorem dX9_room_7 : decode cX9_room 7 = .ok (.bipush 10, 2) := by decide +kernel
theorem dX9_room_9 : decode cX9_room 9 = .ok (.if_icmp .ne 6, 3) := by decide +kernel
theorem dX9_room_12 : decode cX9_room 12 = .ok (.bipush (-3), 2) := by decide +kernel
theorem dX9_room_14 : decode cX9_room 14 = .ok (.ireturn, 1) := by decide +kernel
theorem dX9_room_15 : decode cX9_room 15 = .ok (.aload_n 0, 1) := by decide +kernel
theorem dX9_room_16 : decode cX9_room 16 = .ok (.getfield 10, 3) := by decide +kernel
theorem dX9_room_19 : decode cX9_room 19 = .ok (.dup, 1) := by decide +kernel
theorem dX9_room_20 : decode cX9_room 20 = .ok (.getfield 89, 3) := by decide +kernel
theorem dX9_room_23 : decode cX9_room 23 = .ok (.iconst 1, 1) := by decide +kernel
theorem dX9_room_24 : decode cX9_room 24 = .ok (.iadd, 1) := by decide +kernel
theorem dX9_room_25 : decode cX9_room 25 = .ok (.putfield 89, 3) := by decide +kernel
theorem dX9_room_28 : decode cX9_room 28 = .ok (.aload_n 0, 1) := by decide +kernel
theorem dX9_room_29 : decode cX9_room 29 = .ok (.invokevirtual 93, 3) := by decide +kernel
theorem dX9_room_32 : decode cX9_room 32 = .ok (.aload_n 0, 1) := by decide +kernel
theorem dX9_room_33 : decode cX9_room 33 = .ok (.getfield 10, 3) := by decide +kernel
theorem dX9_room_36 : decode cX9_room 36 = .ok (.getfield 89, 3) := by decide +kernel
theorem dX9_room_39 : decode cX9_room 39 = .ok (.iconst 1, 1) := by decide +kernel
theorem dX9_room_40 : decode cX9_room 40 = .ok (.isub, 1) := by decide +kernel
theorem dX9_room_41 : decode cX9_room 41 = .ok (.ireturn, 1) := by decide +kernel
theorem dX9_door_0 : decode cX9_door 0 = .ok (.aload_n 0, 1) := by decide +kernel
theorem dX9_door_1 : decode cX9_door 1 = .ok (.getfield 10, 3) := by decide +kernel
theorem dX9_door_4 : decode cX9_door 4 = .ok (.iload_n 1, 1) := by decide +kernel
theorem dX9_door_5 : decode cX9_door 5 = .ok (.iload_n 2, 1) := by decide +kernel
theorem dX9_door_6 : decode cX9_door 6 = .ok (.invokevirtual 96, 3) := by decide +kernel
theorem dX9_door_9 : decode cX9_door 9 = .ok (.ifCond .eq 12, 3) := by decide +kernel
theorem dX9_door_12 : decode cX9_door 12 = .ok (.iload_n 3, 1) := by decide +kernel
theorem dX9_door_13 : decode cX9_door 13 = .ok (.ifCond .lt 8, 3) := by decide +kernel
theorem dX9_door_16 : decode cX9_door 16 = .ok (.iload_n 3, 1) := by decide +kernel
theorem dX9_door_17 : decode cX9_door 17 = .ok (.iconst 1, 1) := by decide +kernel
theorem dX9_door_18 : decode cX9_door 18 = .ok (.if_icmp .le 5, 3) := by decide +kernel
theorem dX9_door_21 : decode cX9_door 21 = .ok (.iconst (-1), 1) := by decide +kernel
theorem dX9_door_22 : decode cX9_door 22 = .ok (.ireturn, 1) := by decide +kernel
theorem dX9_door_23 : decode cX9_door 23 = .ok (.aload_n 0, 1) := by decide +kernel
theorem dX9_door_24 : decode cX9_door 24 = .ok (.getfield 10, 3) := by decide +kernel
theorem dX9_door_27 : decode cX9_door 27 = .ok (.iload_n 1, 1) := by decide +kernel
theorem dX9_door_28 : decode cX9_door 28 = .ok (.iload_n 2, 1) := by decide +kernel
theorem dX9_door_29 : decode cX9_door 29 = .ok (.invokevirtual 100, 3) := by decide +kernel
theorem dX9_door_32 : decode cX9_door 32 = .ok (.iconst (-1), 1) := by decide +kernel
theorem dX9_door_33 : decode cX9_door 33 = .ok (.if_icmp .eq 6, 3) := by decide +kernel
theorem dX9_door_36 : decode cX9_door 36 = .ok (.bipush (-2), 2) := by decide +kernel
theorem dX9_door_38 : decode cX9_door 38 = .ok (.ireturn, 1) := by decide +kernel
theorem dX9_door_39 : decode cX9_door 39 = .ok (.aload_n 0, 1) := by decide +kernel
theorem dX9_door_40 : decode cX9_door 40 = .ok (.getfield 10, 3) := by decide +kernel
theorem dX9_door_43 : decode cX9_door 43 = .ok (.getfield 104, 3) := by decide +kernel
theorem dX9_door_46 : decode cX9_door 46 = .ok (.bipush 16, 2) := by decide +kernel
theorem dX9_door_48 : decode cX9_door 48 = .ok (.if_icmp .ne 6, 3) := by decide +kernel
theorem dX9_door_51 : decode cX9_door 51 = .ok (.bipush (-3), 2) := by decide +kernel
theorem dX9_door_53 : decode cX9_door 53 = .ok (.ireturn, 1) := by decide +kernel
theorem dX9_door_54 : decode cX9_door 54 = .ok (.aload_n 0, 1) := by decide +kernel
theorem dX9_door_55 : decode cX9_door 55 = .ok (.getfield 10, 3) := by decide +kernel
theorem dX9_door_58 : decode cX9_door 58 = .ok (.iload_n 1, 1) := by decide +kernel
theorem dX9_door_59 : decode cX9_door 59 = .ok (.iload_n 2, 1) := by decide +kernel
theorem dX9_door_60 : decode cX9_door 60 = .ok (.iload_n 3, 1) := by decide +kernel
theorem dX9_door_61 : decode cX9_door 61 = .ok (.invokevirtual 107, 3) := by decide +kernel
theorem dX9_door_64 : decode cX9_door 64 = .ok (.aload_n 0, 1) := by decide +kernel
theorem dX9_door_65 : decode cX9_door 65 = .ok (.invokevirtual 93, 3) := by decide +kernel
theorem dX9_door_68 : decode cX9_door 68 = .ok (.aload_n 0, 1) := by decide +kernel
theorem dX9_door_69 : decode cX9_door 69 = .ok (.getfield 10, 3) := by decide +kernel
theorem dX9_door_72 : decode cX9_door 72 = .ok (.getfield 104, 3) := by decide +kernel
theorem dX9_door_75 : decode cX9_door 75 = .ok (.ireturn, 1) := by decide +kernel
theorem dX9_type_0 : decode cX9_type 0 = .ok (.aload_n 0, 1) := by decide +kernel
theorem dX9_type_1 : decode cX9_type 1 = .ok (.getfield 42, 3) := by decide +kernel
theorem dX9_type_4 : decode cX9_type 4 = .ok (.lload_n 1, 1) := by decide +kernel
theorem dX9_type_5 : decode cX9_type 5 = .ok (.iload_n 3, 1) := by decide +kernel
theorem dX9_type_6 : decode cX9_type 6 = .ok (.invokevirtual 118, 3) := by decide +kernel
theorem dX9_type_9 : decode cX9_type 9 = .ok (.ireturn, 1) := by decide +kernel
theorem dX9_walk_0 : decode cX9_walk 0 = .ok (.aload_n 0, 1) := by decide +kernel
theorem dX9_walk_1 : decode cX9_walk 1 = .ok (.getfield 42, 3) := by decide +kernel
theorem dX9_walk_4 : decode cX9_walk 4 = .ok (.aload_n 0, 1) := by decide +kernel
theorem dX9_walk_5 : decode cX9_walk 5 = .ok (.getfield 10, 3) := by decide +kernel
theorem dX9_walk_8 : decode cX9_walk 8 = .ok (.aload_n 0, 1) := by decide +kernel
theorem dX9_walk_9 : decode cX9_walk 9 = .ok (.getfield 80, 3) := by decide +kernel
theorem dX9_walk_12 : decode cX9_walk 12 = .ok (.invokevirtual 122, 3) := by decide +kernel
theorem dX9_walk_15 : decode cX9_walk 15 = .ok (.istore_n 1, 1) := by decide +kernel
theorem dX9_walk_16 : decode cX9_walk 16 = .ok (.aload_n 0, 1) := by decide +kernel
theorem dX9_walk_17 : decode cX9_walk 17 = .ok (.getfield 42, 3) := by decide +kernel
theorem dX9_walk_20 : decode cX9_walk 20 = .ok (.invokevirtual 126, 3) := by decide +kernel
theorem dX9_walk_23 : decode cX9_walk 23 = .ok (.iload_n 1, 1) := by decide +kernel
theorem dX9_walk_24 : decode cX9_walk 24 = .ok (.ifCond .eq 5, 3) := by decide +kernel
theorem dX9_walk_27 : decode cX9_walk 27 = .ok (.iload_n 1, 1) := by decide +kernel
theorem dX9_walk_28 : decode cX9_walk 28 = .ok (.ireturn, 1) := by decide +kernel
theorem dX9_walk_29 : decode cX9_walk 29 = .ok (.aload_n 0, 1) := by decide +kernel
theorem dX9_walk_30 : decode cX9_walk 30 = .ok (.getfield 10, 3) := by decide +kernel
theorem dX9_walk_33 : decode cX9_walk 33 = .ok (.getfield 129, 3) := by decide +kernel
theorem dX9_walk_36 : decode cX9_walk 36 = .ok (.iconst 3, 1) := by decide +kernel
theorem dX9_walk_37 : decode cX9_walk 37 = .ok (.if_icmp .ne 6, 3) := by decide +kernel
theorem dX9_walk_40 : decode cX9_walk 40 = .ok (.bipush (-3), 2) := by decide +kernel
theorem dX9_walk_42 : decode cX9_walk 42 = .ok (.ireturn, 1) := by decide +kernel
theorem dX9_walk_43 : decode cX9_walk 43 = .ok (.aload_n 0, 1) := by decide +kernel
theorem dX9_walk_44 : decode cX9_walk 44 = .ok (.getfield 80, 3) := by decide +kernel
theorem dX9_walk_47 : decode cX9_walk 47 = .ok (.iconst 0, 1) := by decide +kernel
theorem dX9_walk_48 : decode cX9_walk 48 = .ok (.aload_n 0, 1) := by decide +kernel
theorem dX9_walk_49 : decode cX9_walk 49 = .ok (.getfield 10, 3) := by decide +kernel
theorem dX9_walk_52 : decode cX9_walk 52 = .ok (.getfield 132, 3) := by decide +kernel
theorem dX9_walk_55 : decode cX9_walk 55 = .ok (.aload_n 0, 1) := by decide +kernel
theorem dX9_walk_56 : decode cX9_walk 56 = .ok (.getfield 10, 3) := by decide +kernel
theorem dX9_walk_59 : decode cX9_walk 59 = .ok (.getfield 129, 3) := by decide +kernel
theorem dX9_walk_62 : decode cX9_walk 62 = .ok (.aaload, 1) := by decide +kernel
theorem dX9_walk_63 : decode cX9_walk 63 = .ok (.iconst 0, 1) := by decide +kernel
theorem dX9_walk_64 : decode cX9_walk 64 = .ok (.bipush 24, 2) := by decide +kernel
theorem dX9_walk_66 : decode cX9_walk 66 = .ok (.invokestatic 135, 3) := by decide +kernel
theorem dX9_walk_69 : decode cX9_walk 69 = .ok (.aload_n 0, 1) := by decide +kernel
theorem dX9_walk_70 : decode cX9_walk 70 = .ok (.getfield 10, 3) := by decide +kernel
theorem dX9_walk_73 : decode cX9_walk 73 = .ok (.dup, 1) := by decide +kernel
theorem dX9_walk_74 : decode cX9_walk 74 = .ok (.getfield 129, 3) := by decide +kernel
theorem dX9_walk_77 : decode cX9_walk 77 = .ok (.iconst 1, 1) := by decide +kernel
theorem dX9_walk_78 : decode cX9_walk 78 = .ok (.iadd, 1) := by decide +kernel
theorem dX9_walk_79 : decode cX9_walk 79 = .ok (.putfield 129, 3) := by decide +kernel
theorem dX9_walk_82 : decode cX9_walk 82 = .ok (.aload_n 0, 1) := by decide +kernel
theorem dX9_walk_83 : decode cX9_walk 83 = .ok (.invokevirtual 141, 3) := by decide +kernel
theorem dX9_walk_86 : decode cX9_walk 86 = .ok (.aload_n 0, 1) := by decide +kernel
theorem dX9_walk_87 : decode cX9_walk 87 = .ok (.getfield 10, 3) := by decide +kernel
theorem dX9_walk_90 : decode cX9_walk 90 = .ok (.getfield 129, 3) := by decide +kernel
theorem dX9_walk_93 : decode cX9_walk 93 = .ok (.iconst 1, 1) := by decide +kernel
theorem dX9_walk_94 : decode cX9_walk 94 = .ok (.isub, 1) := by decide +kernel
theorem dX9_walk_95 : decode cX9_walk 95 = .ok (.ireturn, 1) := by decide +kernel
theorem dX9_guest_0 : decode cX9_guest 0 = .ok (.iload_n 1, 1) := by decide +kernel
theorem dX9_guest_1 : decode cX9_guest 1 = .ok (.ifCond .lt 21, 3) := by decide +kernel
theorem dX9_guest_4 : decode cX9_guest 4 = .ok (.iload_n 1, 1) := by decide +kernel
theorem dX9_guest_5 : decode cX9_guest 5 = .ok (.aload_n 0, 1) := by decide +kernel
theorem dX9_guest_6 : decode cX9_guest 6 = .ok (.getfield 10, 3) := by decide +kernel
theorem dX9_guest_9 : decode cX9_guest 9 = .ok (.getfield 129, 3) := by decide +kernel
theorem dX9_guest_12 : decode cX9_guest 12 = .ok (.if_icmp .ge 10, 3) := by decide +kernel
theorem dX9_guest_15 : decode cX9_guest 15 = .ok (.iload_n 2, 1) := by decide +kernel
theorem dX9_guest_16 : decode cX9_guest 16 = .ok (.invokestatic 144, 3) := by decide +kernel
theorem dX9_guest_19 : decode cX9_guest 19 = .ok (.ifCond .ne 5, 3) := by decide +kernel
theorem dX9_guest_22 : decode cX9_guest 22 = .ok (.iconst (-1), 1) := by decide +kernel
theorem dX9_guest_23 : decode cX9_guest 23 = .ok (.ireturn, 1) := by decide +kernel
theorem dX9_guest_24 : decode cX9_guest 24 = .ok (.aload_n 0, 1) := by decide +kernel
theorem dX9_guest_25 : decode cX9_guest 25 = .ok (.getfield 10, 3) := by decide +kernel
theorem dX9_guest_28 : decode cX9_guest 28 = .ok (.getfield 132, 3) := by decide +kernel
theorem dX9_guest_31 : decode cX9_guest 31 = .ok (.iload_n 1, 1) := by decide +kernel
theorem dX9_guest_32 : decode cX9_guest 32 = .ok (.aaload, 1) := by decide +kernel
theorem dX9_guest_33 : decode cX9_guest 33 = .ok (.iload_n 2, 1) := by decide +kernel
theorem dX9_guest_34 : decode cX9_guest 34 = .ok (.iaload, 1) := by decide +kernel
theorem dX9_guest_35 : decode cX9_guest 35 = .ok (.ireturn, 1) := by decide +kernel
theorem dX9_trip_0 : decode cX9_trip 0 = .ok (.aload_n 0, 1) := by decide +kernel
theorem dX9_trip_1 : decode cX9_trip 1 = .ok (.getfield 10, 3) := by decide +kernel
theorem dX9_trip_4 : decode cX9_trip 4 = .ok (.iload_n 1, 1) := by decide +kernel
theorem dX9_trip_5 : decode cX9_trip 5 = .ok (.invokevirtual 148, 3) := by decide +kernel
theorem dX9_trip_8 : decode cX9_trip 8 = .ok (.ifCond .eq 34, 3) := by decide +kernel
theorem dX9_trip_11 : decode cX9_trip 11 = .ok (.iload_n 2, 1) := by decide +kernel
theorem dX9_trip_12 : decode cX9_trip 12 = .ok (.invokestatic 144, 3) := by decide +kernel
theorem dX9_trip_15 : decode cX9_trip 15 = .ok (.ifCond .eq 27, 3) := by decide +kernel
theorem dX9_trip_18 : decode cX9_trip 18 = .ok (.aload_n 0, 1) := by decide +kernel
theorem dX9_trip_19 : decode cX9_trip 19 = .ok (.getfield 10, 3) := by decide +kernel
theorem dX9_trip_22 : decode cX9_trip 22 = .ok (.iload_n 3, 1) := by decide +kernel
theorem dX9_trip_23 : decode cX9_trip 23 = .ok (.invokevirtual 148, 3) := by decide +kernel
theorem dX9_trip_26 : decode cX9_trip 26 = .ok (.ifCond .eq 16, 3) := by decide +kernel
theorem dX9_trip_29 : decode cX9_trip 29 = .ok (.iload 5, 2) := by decide +kernel
theorem dX9_trip_31 : decode cX9_trip 31 = .ok (.iconst (-1), 1) := by decide +kernel
theorem dX9_trip_32 : decode cX9_trip 32 = .ok (.if_icmp .lt 10, 3) := by decide +kernel
theorem dX9_trip_35 : decode cX9_trip 35 = .ok (.iload 5, 2) := by decide +kernel
theorem dX9_trip_37 : decode cX9_trip 37 = .ok (.bipush 23, 2) := by decide +kernel
theorem dX9_trip_39 : decode cX9_trip 39 = .ok (.if_icmp .le 5, 3) := by decide +kernel
theorem dX9_trip_42 : decode cX9_trip 42 = .ok (.iconst (-1), 1) := by decide +kernel
theorem dX9_trip_43 : decode cX9_trip 43 = .ok (.ireturn, 1) := by decide +kernel
theorem dX9_trip_44 : decode cX9_trip 44 = .ok (.aload_n 0, 1) := by decide +kernel
theorem dX9_trip_45 : decode cX9_trip 45 = .ok (.getfield 58, 3) := by decide +kernel
theorem dX9_trip_48 : decode cX9_trip 48 = .ok (.iload_n 1, 1) := by decide +kernel
theorem dX9_trip_49 : decode cX9_trip 49 = .ok (.iload_n 2, 1) := by decide +kernel
theorem dX9_trip_50 : decode cX9_trip 50 = .ok (.iload_n 3, 1) := by decide +kernel
theorem dX9_trip_51 : decode cX9_trip 51 = .ok (.iload 4, 2) := by decide +kernel
theorem dX9_trip_53 : decode cX9_trip 53 = .ok (.invokevirtual 151, 3) := by decide +kernel
theorem dX9_trip_56 : decode cX9_trip 56 = .ok (.istore 6, 2) := by decide +kernel
theorem dX9_trip_58 : decode cX9_trip 58 = .ok (.iload 6, 2) := by decide +kernel
theorem dX9_trip_60 : decode cX9_trip 60 = .ok (.bipush 24, 2) := by decide +kernel
theorem dX9_trip_62 : decode cX9_trip 62 = .ok (.if_icmp .ne 6, 3) := by decide +kernel
theorem dX9_trip_65 : decode cX9_trip 65 = .ok (.bipush (-4), 2) := by decide +kernel
theorem dX9_trip_67 : decode cX9_trip 67 = .ok (.ireturn, 1) := by decide +kernel
theorem dX9_trip_68 : decode cX9_trip 68 = .ok (.iload 5, 2) := by decide +kernel
theorem dX9_trip_70 : decode cX9_trip 70 = .ok (.iconst (-1), 1) := by decide +kernel
theorem dX9_trip_71 : decode cX9_trip 71 = .ok (.if_icmp .ne 6, 3) := by decide +kernel
theorem dX9_trip_74 : decode cX9_trip 74 = .ok (.iload 6, 2) := by decide +kernel
theorem dX9_trip_76 : decode cX9_trip 76 = .ok (.ireturn, 1) := by decide +kernel
theorem dX9_trip_77 : decode cX9_trip 77 = .ok (.iload 5, 2) := by decide +kernel
theorem dX9_trip_79 : decode cX9_trip 79 = .ok (.iload_n 2, 1) := by decide +kernel
theorem dX9_trip_80 : decode cX9_trip 80 = .ok (.if_icmp .lt 10, 3) := by decide +kernel
theorem dX9_trip_83 : decode cX9_trip 83 = .ok (.iload 5, 2) := by decide +kernel
theorem dX9_trip_85 : decode cX9_trip 85 = .ok (.iload 6, 2) := by decide +kernel
theorem dX9_trip_87 : decode cX9_trip 87 = .ok (.if_icmp .le 6, 3) := by decide +kernel
theorem dX9_trip_90 : decode cX9_trip 90 = .ok (.bipush (-4), 2) := by decide +kernel
theorem dX9_trip_92 : decode cX9_trip 92 = .ok (.ireturn, 1) := by decide +kernel
theorem dX9_trip_93 : decode cX9_trip 93 = .ok (.aload_n 0, 1) := by decide +kernel
theorem dX9_trip_94 : decode cX9_trip 94 = .ok (.getfield 58, 3) := by decide +kernel
theorem dX9_trip_97 : decode cX9_trip 97 = .ok (.iload_n 1, 1) := by decide +kernel
theorem dX9_trip_98 : decode cX9_trip 98 = .ok (.iload_n 2, 1) := by decide +kernel
theorem dX9_trip_99 : decode cX9_trip 99 = .ok (.iload 6, 2) := by decide +kernel
theorem dX9_trip_101 : decode cX9_trip 101 = .ok (.iload 4, 2) := by decide +kernel
theorem dX9_trip_103 : decode cX9_trip 103 = .ok (.iload 5, 2) := by decide +kernel
theorem dX9_trip_105 : decode cX9_trip 105 = .ok (.invokevirtual 155, 3) := by decide +kernel
theorem dX9_trip_108 : decode cX9_trip 108 = .ok (.ireturn, 1) := by decide +kernel
theorem dX9_servant_0 : decode cX9_servant 0 = .ok (.aload_n 0, 1) := by decide +kernel
theorem dX9_servant_1 : decode cX9_servant 1 = .ok (.getfield 10, 3) := by decide +kernel
theorem dX9_servant_4 : decode cX9_servant 4 = .ok (.iload_n 1, 1) := by decide +kernel
theorem dX9_servant_5 : decode cX9_servant 5 = .ok (.invokevirtual 148, 3) := by decide +kernel
theorem dX9_servant_8 : decode cX9_servant 8 = .ok (.ifCond .ne 5, 3) := by decide +kernel
theorem dX9_servant_11 : decode cX9_servant 11 = .ok (.iconst (-1), 1) := by decide +kernel
theorem dX9_servant_12 : decode cX9_servant 12 = .ok (.ireturn, 1) := by decide +kernel
theorem dX9_servant_13 : decode cX9_servant 13 = .ok (.aload_n 0, 1) := by decide +kernel
theorem dX9_servant_14 : decode cX9_servant 14 = .ok (.getfield 19, 3) := by decide +kernel
theorem dX9_servant_17 : decode cX9_servant 17 = .ok (.getfield 159, 3) := by decide +kernel
theorem dX9_servant_20 : decode cX9_servant 20 = .ok (.iconst 3, 1) := by decide +kernel
theorem dX9_servant_21 : decode cX9_servant 21 = .ok (.if_icmp .ne 6, 3) := by decide +kernel
theorem dX9_servant_24 : decode cX9_servant 24 = .ok (.bipush (-3), 2) := by decide +kernel
theorem dX9_servant_26 : decode cX9_servant 26 = .ok (.ireturn, 1) := by decide +kernel
theorem dX9_servant_27 : decode cX9_servant 27 = .ok (.aload_n 0, 1) := by decide +kernel
theorem dX9_servant_28 : decode cX9_servant 28 = .ok (.getfield 19, 3) := by decide +kernel
theorem dX9_servant_31 : decode cX9_servant 31 = .ok (.getfield 162, 3) := by decide +kernel
theorem dX9_servant_34 : decode cX9_servant 34 = .ok (.aload_n 0, 1) := by decide +kernel
theorem dX9_servant_35 : decode cX9_servant 35 = .ok (.getfield 19, 3) := by decide +kernel
theorem dX9_servant_38 : decode cX9_servant 38 = .ok (.getfield 159, 3) := by decide +kernel
theorem dX9_servant_41 : decode cX9_servant 41 = .ok (.iload_n 1, 1) := by decide +kernel
theorem dX9_servant_42 : decode cX9_servant 42 = .ok (.iastore, 1) := by decide +kernel
theorem dX9_servant_43 : decode cX9_servant 43 = .ok (.aload_n 0, 1) := by decide +kernel
theorem dX9_servant_44 : decode cX9_servant 44 = .ok (.getfield 19, 3) := by decide +kernel
theorem dX9_servant_47 : decode cX9_servant 47 = .ok (.dup, 1) := by decide +kernel
theorem dX9_servant_48 : decode cX9_servant 48 = .ok (.getfield 159, 3) := by decide +kernel
theorem dX9_servant_51 : decode cX9_servant 51 = .ok (.iconst 1, 1) := by decide +kernel
theorem dX9_servant_52 : decode cX9_servant 52 = .ok (.iadd, 1) := by decide +kernel
theorem dX9_servant_53 : decode cX9_servant 53 = .ok (.putfield 159, 3) := by decide +kernel
theorem dX9_servant_56 : decode cX9_servant 56 = .ok (.aload_n 0, 1) := by decide +kernel
theorem dX9_servant_57 : decode cX9_servant 57 = .ok (.invokevirtual 141, 3) := by decide +kernel
theorem dX9_servant_60 : decode cX9_servant 60 = .ok (.aload_n 0, 1) := by decide +kernel
theorem dX9_servant_61 : decode cX9_servant 61 = .ok (.getfield 19, 3) := by decide +kernel
theorem dX9_servant_64 : decode cX9_servant 64 = .ok (.getfield 159, 3) := by decide +kernel
theorem dX9_servant_67 : decode cX9_servant 67 = .ok (.iconst 1, 1) := by decide +kernel
theorem dX9_servant_68 : decode cX9_servant 68 = .ok (.isub, 1) := by decide +kernel
theorem dX9_servant_69 : decode cX9_servant 69 = .ok (.ireturn, 1) := by decide +kernel
theorem dX9_ill_0 : decode cX9_ill 0 = .ok (.aload_n 0, 1) := by decide +kernel
theorem dX9_ill_1 : decode cX9_ill 1 = .ok (.getfield 19, 3) := by decide +kernel
theorem dX9_ill_4 : decode cX9_ill 4 = .ok (.iload_n 1, 1) := by decide +kernel
theorem dX9_ill_5 : decode cX9_ill 5 = .ok (.invokevirtual 165, 3) := by decide +kernel
theorem dX9_ill_8 : decode cX9_ill 8 = .ok (.ifCond .ne 5, 3) := by decide +kernel
theorem dX9_ill_11 : decode cX9_ill 11 = .ok (.iconst (-1), 1) := by decide +kernel
theorem dX9_ill_12 : decode cX9_ill 12 = .ok (.ireturn, 1) := by decide +kernel
theorem dX9_ill_13 : decode cX9_ill 13 = .ok (.aload_n 0, 1) := by decide +kernel
theorem dX9_ill_14 : decode cX9_ill 14 = .ok (.getfield 19, 3) := by decide +kernel
theorem dX9_ill_17 : decode cX9_ill 17 = .ok (.getfield 168, 3) := by decide +kernel
theorem dX9_ill_20 : decode cX9_ill 20 = .ok (.iload_n 1, 1) := by decide +kernel
theorem dX9_ill_21 : decode cX9_ill 21 = .ok (.ishr, 1) := by decide +kernel
theorem dX9_ill_22 : decode cX9_ill 22 = .ok (.iconst 1, 1) := by decide +kernel
theorem dX9_ill_23 : decode cX9_ill 23 = .ok (.iand, 1) := by decide +kernel
theorem dX9_ill_24 : decode cX9_ill 24 = .ok (.istore_n 3, 1) := by decide +kernel
theorem dX9_ill_25 : decode cX9_ill 25 = .ok (.aload_n 0, 1) := by decide +kernel
theorem dX9_ill_26 : decode cX9_ill 26 = .ok (.getfield 19, 3) := by decide +kernel
theorem dX9_ill_29 : decode cX9_ill 29 = .ok (.iload_n 2, 1) := by decide +kernel
theorem dX9_ill_30 : decode cX9_ill 30 = .ok (.ifCond .eq 17, 3) := by decide +kernel
theorem dX9_ill_33 : decode cX9_ill 33 = .ok (.aload_n 0, 1) := by decide +kernel
theorem dX9_ill_34 : decode cX9_ill 34 = .ok (.getfield 19, 3) := by decide +kernel
theorem dX9_ill_37 : decode cX9_ill 37 = .ok (.getfield 168, 3) := by decide +kernel
theorem dX9_ill_40 : decode cX9_ill 40 = .ok (.iconst 1, 1) := by decide +kernel
theorem dX9_ill_41 : decode cX9_ill 41 = .ok (.iload_n 1, 1) := by decide +kernel
theorem dX9_ill_42 : decode cX9_ill 42 = .ok (.ishl, 1) := by decide +kernel
theorem dX9_ill_43 : decode cX9_ill 43 = .ok (.ior, 1) := by decide +kernel
theorem dX9_ill_44 : decode cX9_ill 44 = .ok (.goto 16, 3) := by decide +kernel
theorem dX9_ill_47 : decode cX9_ill 47 = .ok (.aload_n 0, 1) := by decide +kernel
theorem dX9_ill_48 : decode cX9_ill 48 = .ok (.getfield 19, 3) := by decide +kernel
theorem dX9_ill_51 : decode cX9_ill 51 = .ok (.getfield 168, 3) := by decide +kernel
theorem dX9_ill_54 : decode cX9_ill 54 = .ok (.iconst 1, 1) := by decide +kernel
theorem dX9_ill_55 : decode cX9_ill 55 = .ok (.iload_n 1, 1) := by decide +kernel
theorem dX9_ill_56 : decode cX9_ill 56 = .ok (.ishl, 1) := by decide +kernel
theorem dX9_ill_57 : decode cX9_ill 57 = .ok (.iconst (-1), 1) := by decide +kernel
theorem dX9_ill_58 : decode cX9_ill 58 = .ok (.ixor, 1) := by decide +kernel
theorem dX9_ill_59 : decode cX9_ill 59 = .ok (.iand, 1) := by decide +kernel
theorem dX9_ill_60 : decode cX9_ill 60 = .ok (.putfield 168, 3) := by decide +kernel
theorem dX9_ill_63 : decode cX9_ill 63 = .ok (.aload_n 0, 1) := by decide +kernel
theorem dX9_ill_64 : decode cX9_ill 64 = .ok (.invokevirtual 141, 3) := by decide +kernel
theorem dX9_ill_67 : decode cX9_ill 67 = .ok (.iload_n 3, 1) := by decide +kernel
theorem dX9_ill_68 : decode cX9_ill 68 = .ok (.ireturn, 1) := by decide +kernel
theorem dX9_cellar_0 : decode cX9_cellar 0 = .ok (.aload_n 0, 1) := by decide +kernel
theorem dX9_cellar_1 : decode cX9_cellar 1 = .ok (.getfield 10, 3) := by decide +kernel
theorem dX9_cellar_4 : decode cX9_cellar 4 = .ok (.iload_n 1, 1) := by decide +kernel
theorem dX9_cellar_5 : decode cX9_cellar 5 = .ok (.invokevirtual 148, 3) := by decide +kernel
theorem dX9_cellar_8 : decode cX9_cellar 8 = .ok (.ifCond .ne 5, 3) := by decide +kernel
theorem dX9_cellar_11 : decode cX9_cellar 11 = .ok (.iconst (-1), 1) := by decide +kernel
theorem dX9_cellar_12 : decode cX9_cellar 12 = .ok (.ireturn, 1) := by decide +kernel
theorem dX9_cellar_13 : decode cX9_cellar 13 = .ok (.aload_n 0, 1) := by decide +kernel
theorem dX9_cellar_14 : decode cX9_cellar 14 = .ok (.getfield 19, 3) := by decide +kernel
theorem dX9_cellar_17 : decode cX9_cellar 17 = .ok (.getfield 171, 3) := by decide +kernel
theorem dX9_cellar_20 : decode cX9_cellar 20 = .ok (.istore_n 2, 1) := by decide +kernel
theorem dX9_cellar_21 : decode cX9_cellar 21 = .ok (.aload_n 0, 1) := by decide +kernel
theorem dX9_cellar_22 : decode cX9_cellar 22 = .ok (.getfield 19, 3) := by decide +kernel
theorem dX9_cellar_25 : decode cX9_cellar 25 = .ok (.iload_n 1, 1) := by decide +kernel
theorem dX9_cellar_26 : decode cX9_cellar 26 = .ok (.putfield 171, 3) := by decide +kernel
theorem dX9_cellar_29 : decode cX9_cellar 29 = .ok (.aload_n 0, 1) := by decide +kernel
theorem dX9_cellar_30 : decode cX9_cellar 30 = .ok (.invokevirtual 141, 3) := by decide +kernel
theorem dX9_cellar_33 : decode cX9_cellar 33 = .ok (.iload_n 2, 1) := by decide +kernel
theorem dX9_cellar_34 : decode cX9_cellar 34 = .ok (.ireturn, 1) := by decide +kernel
theorem dX9_errand_0 : decode cX9_errand 0 = .ok (.aload_n 0, 1) := by decide +kernel
theorem dX9_errand_1 : decode cX9_errand 1 = .ok (.iload_n 1, 1) := by decide +kernel
theorem dX9_errand_2 : decode cX9_errand 2 = .ok (.iload_n 2, 1) := by decide +kernel
theorem dX9_errand_3 : decode cX9_errand 3 = .ok (.iload_n 3, 1) := by decide +kernel
theorem dX9_errand_4 : decode cX9_errand 4 = .ok (.iload 4, 2) := by decide +kernel
theorem dX9_errand_6 : decode cX9_errand 6 = .ok (.iload 5, 2) := by decide +kernel
theorem dX9_errand_8 : decode cX9_errand 8 = .ok (.invokevirtual 174, 3) := by decide +kernel
theorem dX9_errand_11 : decode cX9_errand 11 = .ok (.ifCond .ne 5, 3) := by decide +kernel
theorem dX9_errand_14 : decode cX9_errand 14 = .ok (.iconst (-1), 1) := by decide +kernel
theorem dX9_errand_15 : decode cX9_errand 15 = .ok (.ireturn, 1) := by decide +kernel
theorem dX9_errand_16 : decode cX9_errand 16 = .ok (.aload_n 0, 1) := by decide +kernel
theorem dX9_errand_17 : decode cX9_errand 17 = .ok (.getfield 19, 3) := by decide +kernel
theorem dX9_errand_20 : decode cX9_errand 20 = .ok (.getfield 178, 3) := by decide +kernel
theorem dX9_errand_23 : decode cX9_errand 23 = .ok (.iconst 5, 1) := by decide +kernel
theorem dX9_errand_24 : decode cX9_errand 24 = .ok (.if_icmp .ne 6, 3) := by decide +kernel
theorem dX9_errand_27 : decode cX9_errand 27 = .ok (.bipush (-3), 2) := by decide +kernel
theorem dX9_errand_29 : decode cX9_errand 29 = .ok (.ireturn, 1) := by decide +kernel
theorem dX9_errand_30 : decode cX9_errand 30 = .ok (.aload_n 0, 1) := by decide +kernel
theorem dX9_errand_31 : decode cX9_errand 31 = .ok (.getfield 19, 3) := by decide +kernel
theorem dX9_errand_34 : decode cX9_errand 34 = .ok (.iload_n 1, 1) := by decide +kernel
theorem dX9_errand_35 : decode cX9_errand 35 = .ok (.iload_n 2, 1) := by decide +kernel
theorem dX9_errand_36 : decode cX9_errand 36 = .ok (.iload_n 3, 1) := by decide +kernel
theorem dX9_errand_37 : decode cX9_errand 37 = .ok (.iload 4, 2) := by decide +kernel
theorem dX9_errand_39 : decode cX9_errand 39 = .ok (.iload 5, 2) := by decide +kernel
theorem dX9_errand_41 : decode cX9_errand 41 = .ok (.invokevirtual 181, 3) := by decide +kernel
theorem dX9_errand_44 : decode cX9_errand 44 = .ok (.aload_n 0, 1) := by decide +kernel
theorem dX9_errand_45 : decode cX9_errand 45 = .ok (.invokevirtual 141, 3) := by decide +kernel
theorem dX9_errand_48 : decode cX9_errand 48 = .ok (.aload_n 0, 1) := by decide +kernel
theorem dX9_errand_49 : decode cX9_errand 49 = .ok (.getfield 19, 3) := by decide +kernel
theorem dX9_errand_52 : decode cX9_errand 52 = .ok (.getfield 178, 3) := by decide +kernel
theorem dX9_errand_55 : decode cX9_errand 55 = .ok (.iconst 1, 1) := by decide +kernel
theorem dX9_errand_56 : decode cX9_errand 56 = .ok (.isub, 1) := by decide +kernel
theorem dX9_errand_57 : decode cX9_errand 57 = .ok (.ireturn, 1) := by decide +kernel
theorem dX9_drop_0 : decode cX9_drop 0 = .ok (.aload_n 0, 1) := by decide +kernel
theorem dX9_drop_1 : decode cX9_drop 1 = .ok (.getfield 19, 3) := by decide +kernel
theorem dX9_drop_4 : decode cX9_drop 4 = .ok (.iload_n 1, 1) := by decide +kernel
theorem dX9_drop_5 : decode cX9_drop 5 = .ok (.invokevirtual 185, 3) := by decide +kernel
theorem dX9_drop_8 : decode cX9_drop 8 = .ok (.ifCond .ne 5, 3) := by decide +kernel
theorem dX9_drop_11 : decode cX9_drop 11 = .ok (.iconst (-1), 1) := by decide +kernel
theorem dX9_drop_12 : decode cX9_drop 12 = .ok (.ireturn, 1) := by decide +kernel
theorem dX9_drop_13 : decode cX9_drop 13 = .ok (.aload_n 0, 1) := by decide +kernel
theorem dX9_drop_14 : decode cX9_drop 14 = .ok (.getfield 19, 3) := by decide +kernel
theorem dX9_drop_17 : decode cX9_drop 17 = .ok (.iload_n 1, 1) := by decide +kernel
theorem dX9_drop_18 : decode cX9_drop 18 = .ok (.invokevirtual 216, 3) := by decide +kernel
theorem dX9_drop_21 : decode cX9_drop 21 = .ok (.aload_n 0, 1) := by decide +kernel
theorem dX9_drop_22 : decode cX9_drop 22 = .ok (.invokevirtual 141, 3) := by decide +kernel
theorem dX9_drop_25 : decode cX9_drop 25 = .ok (.aload_n 0, 1) := by decide +kernel
theorem dX9_drop_26 : decode cX9_drop 26 = .ok (.getfield 19, 3) := by decide +kernel
theorem dX9_drop_29 : decode cX9_drop 29 = .ok (.getfield 178, 3) := by decide +kernel
theorem dX9_drop_32 : decode cX9_drop 32 = .ok (.ireturn, 1) := by decide +kernel
theorem dX9_cost_0 : decode cX9_cost 0 = .ok (.iload_n 1, 1) := by decide +kernel
theorem dX9_cost_1 : decode cX9_cost 1 = .ok (.ifCond .lt 8, 3) := by decide +kernel
theorem dX9_cost_4 : decode cX9_cost 4 = .ok (.iload_n 1, 1) := by decide +kernel
theorem dX9_cost_5 : decode cX9_cost 5 = .ok (.iconst 1, 1) := by decide +kernel
theorem dX9_cost_6 : decode cX9_cost 6 = .ok (.if_icmp .le 5, 3) := by decide +kernel
theorem dX9_cost_9 : decode cX9_cost 9 = .ok (.iconst (-1), 1) := by decide +kernel
theorem dX9_cost_10 : decode cX9_cost 10 = .ok (.ireturn, 1) := by decide +kernel
theorem dX9_cost_11 : decode cX9_cost 11 = .ok (.aload_n 0, 1) := by decide +kernel
theorem dX9_cost_12 : decode cX9_cost 12 = .ok (.getfield 19, 3) := by decide +kernel
theorem dX9_cost_15 : decode cX9_cost 15 = .ok (.invokevirtual 194, 3) := by decide +kernel
theorem dX9_cost_18 : decode cX9_cost 18 = .ok (.ifCond .ne 6, 3) := by decide +kernel
theorem dX9_cost_21 : decode cX9_cost 21 = .ok (.bipush (-2), 2) := by decide +kernel
theorem dX9_cost_23 : decode cX9_cost 23 = .ok (.ireturn, 1) := by decide +kernel
theorem dX9_cost_24 : decode cX9_cost 24 = .ok (.aload_n 0, 1) := by decide +kernel
theorem dX9_cost_25 : decode cX9_cost 25 = .ok (.getfield 67, 3) := by decide +kernel
theorem dX9_cost_28 : decode cX9_cost 28 = .ok (.invokevirtual 198, 3) := by decide +kernel
theorem dX9_cost_31 : decode cX9_cost 31 = .ok (.aload_n 0, 1) := by decide +kernel
theorem dX9_cost_32 : decode cX9_cost 32 = .ok (.getfield 67, 3) := by decide +kernel
theorem dX9_cost_35 : decode cX9_cost 35 = .ok (.iload_n 1, 1) := by decide +kernel
theorem dX9_cost_36 : decode cX9_cost 36 = .ok (.invokevirtual 220, 3) := by decide +kernel
theorem dX9_cost_39 : decode cX9_cost 39 = .ok (.getfield 224, 3) := by decide +kernel
theorem dX9_cost_42 : decode cX9_cost 42 = .ok (.ireturn, 1) := by decide +kernel
theorem dX9_folk_0 : decode cX9_folk 0 = .ok (.iload_n 1, 1) := by decide +kernel
theorem dX9_folk_1 : decode cX9_folk 1 = .ok (.ifCond .lt 8, 3) := by decide +kernel
theorem dX9_folk_4 : decode cX9_folk 4 = .ok (.iload_n 1, 1) := by decide +kernel
theorem dX9_folk_5 : decode cX9_folk 5 = .ok (.iconst 1, 1) := by decide +kernel
theorem dX9_folk_6 : decode cX9_folk 6 = .ok (.if_icmp .le 5, 3) := by decide +kernel
theorem dX9_folk_9 : decode cX9_folk 9 = .ok (.iconst (-1), 1) := by decide +kernel
theorem dX9_folk_10 : decode cX9_folk 10 = .ok (.ireturn, 1) := by decide +kernel
theorem dX9_folk_11 : decode cX9_folk 11 = .ok (.aload_n 0, 1) := by decide +kernel
theorem dX9_folk_12 : decode cX9_folk 12 = .ok (.getfield 26, 3) := by decide +kernel
theorem dX9_folk_15 : decode cX9_folk 15 = .ok (.getfield 243, 3) := by decide +kernel
theorem dX9_folk_18 : decode cX9_folk 18 = .ok (.iconst 5, 1) := by decide +kernel
theorem dX9_folk_19 : decode cX9_folk 19 = .ok (.if_icmp .ne 6, 3) := by decide +kernel
theorem dX9_folk_22 : decode cX9_folk 22 = .ok (.bipush (-3), 2) := by decide +kernel
theorem dX9_folk_24 : decode cX9_folk 24 = .ok (.ireturn, 1) := by decide +kernel
theorem dX9_folk_25 : decode cX9_folk 25 = .ok (.aload_n 0, 1) := by decide +kernel
theorem dX9_folk_26 : decode cX9_folk 26 = .ok (.getfield 26, 3) := by decide +kernel
theorem dX9_folk_29 : decode cX9_folk 29 = .ok (.getfield 246, 3) := by decide +kernel
theorem dX9_folk_32 : decode cX9_folk 32 = .ok (.aload_n 0, 1) := by decide +kernel
theorem dX9_folk_33 : decode cX9_folk 33 = .ok (.getfield 26, 3) := by decide +kernel
theorem dX9_folk_36 : decode cX9_folk 36 = .ok (.getfield 243, 3) := by decide +kernel
theorem dX9_folk_39 : decode cX9_folk 39 = .ok (.iload_n 1, 1) := by decide +kernel
theorem dX9_folk_40 : decode cX9_folk 40 = .ok (.iastore, 1) := by decide +kernel
theorem dX9_folk_41 : decode cX9_folk 41 = .ok (.aload_n 0, 1) := by decide +kernel
theorem dX9_folk_42 : decode cX9_folk 42 = .ok (.getfield 26, 3) := by decide +kernel
theorem dX9_folk_45 : decode cX9_folk 45 = .ok (.dup, 1) := by decide +kernel
theorem dX9_folk_46 : decode cX9_folk 46 = .ok (.getfield 243, 3) := by decide +kernel
theorem dX9_folk_49 : decode cX9_folk 49 = .ok (.iconst 1, 1) := by decide +kernel
theorem dX9_folk_50 : decode cX9_folk 50 = .ok (.iadd, 1) := by decide +kernel
theorem dX9_folk_51 : decode cX9_folk 51 = .ok (.putfield 243, 3) := by decide +kernel
theorem dX9_folk_54 : decode cX9_folk 54 = .ok (.aload_n 0, 1) := by decide +kernel
theorem dX9_folk_55 : decode cX9_folk 55 = .ok (.getfield 26, 3) := by decide +kernel
theorem dX9_folk_58 : decode cX9_folk 58 = .ok (.getfield 243, 3) := by decide +kernel
theorem dX9_folk_61 : decode cX9_folk 61 = .ok (.iconst 1, 1) := by decide +kernel
theorem dX9_folk_62 : decode cX9_folk 62 = .ok (.isub, 1) := by decide +kernel
theorem dX9_folk_63 : decode cX9_folk 63 = .ok (.ireturn, 1) := by decide +kernel
theorem dX9_say_0 : decode cX9_say 0 = .ok (.aload_n 0, 1) := by decide +kernel
theorem dX9_say_1 : decode cX9_say 1 = .ok (.getfield 26, 3) := by decide +kernel
theorem dX9_say_4 : decode cX9_say 4 = .ok (.iload_n 1, 1) := by decide +kernel
theorem dX9_say_5 : decode cX9_say 5 = .ok (.invokevirtual 247, 3) := by decide +kernel
theorem dX9_say_8 : decode cX9_say 8 = .ok (.ifCond .eq 33, 3) := by decide +kernel
theorem dX9_say_11 : decode cX9_say 11 = .ok (.aload_n 0, 1) := by decide +kernel
theorem dX9_say_12 : decode cX9_say 12 = .ok (.getfield 26, 3) := by decide +kernel
theorem dX9_say_15 : decode cX9_say 15 = .ok (.iload_n 2, 1) := by decide +kernel
theorem dX9_say_16 : decode cX9_say 16 = .ok (.invokevirtual 247, 3) := by decide +kernel
theorem dX9_say_19 : decode cX9_say 19 = .ok (.ifCond .eq 22, 3) := by decide +kernel
theorem dX9_say_22 : decode cX9_say 22 = .ok (.aload_n 0, 1) := by decide +kernel
theorem dX9_say_23 : decode cX9_say 23 = .ok (.getfield 10, 3) := by decide +kernel
theorem dX9_say_26 : decode cX9_say 26 = .ok (.iload_n 3, 1) := by decide +kernel
theorem dX9_say_27 : decode cX9_say 27 = .ok (.invokevirtual 148, 3) := by decide +kernel
theorem dX9_say_30 : decode cX9_say 30 = .ok (.ifCond .eq 11, 3) := by decide +kernel
theorem dX9_say_33 : decode cX9_say 33 = .ok (.iload 4, 2) := by decide +kernel
theorem dX9_say_35 : decode cX9_say 35 = .ok (.invokestatic 144, 3) := by decide +kernel
theorem dX9_say_38 : decode cX9_say 38 = .ok (.ifCond .ne 5, 3) := by decide +kernel
theorem dX9_say_41 : decode cX9_say 41 = .ok (.iconst (-1), 1) := by decide +kernel
theorem dX9_say_42 : decode cX9_say 42 = .ok (.ireturn, 1) := by decide +kernel
theorem dX9_say_43 : decode cX9_say 43 = .ok (.aload_n 0, 1) := by decide +kernel
theorem dX9_say_44 : decode cX9_say 44 = .ok (.getfield 26, 3) := by decide +kernel
theorem dX9_say_47 : decode cX9_say 47 = .ok (.getfield 250, 3) := by decide +kernel
theorem dX9_say_50 : decode cX9_say 50 = .ok (.bipush 12, 2) := by decide +kernel
theorem dX9_say_52 : decode cX9_say 52 = .ok (.if_icmp .ne 6, 3) := by decide +kernel
theorem dX9_say_55 : decode cX9_say 55 = .ok (.bipush (-3), 2) := by decide +kernel
theorem dX9_say_57 : decode cX9_say 57 = .ok (.ireturn, 1) := by decide +kernel
theorem dX9_say_58 : decode cX9_say 58 = .ok (.aload_n 0, 1) := by decide +kernel
theorem dX9_say_59 : decode cX9_say 59 = .ok (.getfield 26, 3) := by decide +kernel
theorem dX9_say_62 : decode cX9_say 62 = .ok (.iload_n 1, 1) := by decide +kernel
theorem dX9_say_63 : decode cX9_say 63 = .ok (.iload_n 2, 1) := by decide +kernel
theorem dX9_say_64 : decode cX9_say 64 = .ok (.iload_n 3, 1) := by decide +kernel
theorem dX9_say_65 : decode cX9_say 65 = .ok (.iload 4, 2) := by decide +kernel
theorem dX9_say_67 : decode cX9_say 67 = .ok (.invokevirtual 253, 3) := by decide +kernel
theorem dX9_say_70 : decode cX9_say 70 = .ok (.aload_n 0, 1) := by decide +kernel
theorem dX9_say_71 : decode cX9_say 71 = .ok (.getfield 26, 3) := by decide +kernel
theorem dX9_say_74 : decode cX9_say 74 = .ok (.getfield 250, 3) := by decide +kernel
theorem dX9_say_77 : decode cX9_say 77 = .ok (.iconst 1, 1) := by decide +kernel
theorem dX9_say_78 : decode cX9_say 78 = .ok (.isub, 1) := by decide +kernel
theorem dX9_say_79 : decode cX9_say 79 = .ok (.ireturn, 1) := by decide +kernel
theorem dX9_liars_0 : decode cX9_liars 0 = .ok (.aload_n 0, 1) := by decide +kernel
theorem dX9_liars_1 : decode cX9_liars 1 = .ok (.getfield 10, 3) := by decide +kernel
theorem dX9_liars_4 : decode cX9_liars 4 = .ok (.getfield 89, 3) := by decide +kernel
theorem dX9_liars_7 : decode cX9_liars 7 = .ok (.ifCond .ne 6, 3) := by decide +kernel
theorem dX9_liars_10 : decode cX9_liars 10 = .ok (.bipush (-2), 2) := by decide +kernel
theorem dX9_liars_12 : decode cX9_liars 12 = .ok (.ireturn, 1) := by decide +kernel
theorem dX9_liars_13 : decode cX9_liars 13 = .ok (.aload_n 0, 1) := by decide +kernel
theorem dX9_liars_14 : decode cX9_liars 14 = .ok (.getfield 76, 3) := by decide +kernel
theorem dX9_liars_17 : decode cX9_liars 17 = .ok (.iconst (-1), 1) := by decide +kernel
theorem dX9_liars_18 : decode cX9_liars 18 = .ok (.invokevirtual 264, 3) := by decide +kernel
theorem dX9_liars_21 : decode cX9_liars 21 = .ok (.ireturn, 1) := by decide +kernel
theorem dX9_maybe_0 : decode cX9_maybe 0 = .ok (.aload_n 0, 1) := by decide +kernel
theorem dX9_maybe_1 : decode cX9_maybe 1 = .ok (.getfield 26, 3) := by decide +kernel
theorem dX9_maybe_4 : decode cX9_maybe 4 = .ok (.iload_n 1, 1) := by decide +kernel
theorem dX9_maybe_5 : decode cX9_maybe 5 = .ok (.invokevirtual 247, 3) := by decide +kernel
theorem dX9_maybe_8 : decode cX9_maybe 8 = .ok (.ifCond .eq 10, 3) := by decide +kernel
theorem dX9_maybe_11 : decode cX9_maybe 11 = .ok (.iload_n 2, 1) := by decide +kernel
theorem dX9_maybe_12 : decode cX9_maybe 12 = .ok (.invokestatic 144, 3) := by decide +kernel
theorem dX9_maybe_15 : decode cX9_maybe 15 = .ok (.ifCond .ne 5, 3) := by decide +kernel
theorem dX9_maybe_18 : decode cX9_maybe 18 = .ok (.iconst (-1), 1) := by decide +kernel
theorem dX9_maybe_19 : decode cX9_maybe 19 = .ok (.ireturn, 1) := by decide +kernel
theorem dX9_maybe_20 : decode cX9_maybe 20 = .ok (.aload_n 0, 1) := by decide +kernel
theorem dX9_maybe_21 : decode cX9_maybe 21 = .ok (.getfield 10, 3) := by decide +kernel
theorem dX9_maybe_24 : decode cX9_maybe 24 = .ok (.getfield 89, 3) := by decide +kernel
theorem dX9_maybe_27 : decode cX9_maybe 27 = .ok (.ifCond .ne 6, 3) := by decide +kernel
theorem dX9_maybe_30 : decode cX9_maybe 30 = .ok (.bipush (-2), 2) := by decide +kernel
theorem dX9_maybe_32 : decode cX9_maybe 32 = .ok (.ireturn, 1) := by decide +kernel
theorem dX9_maybe_33 : decode cX9_maybe 33 = .ok (.aload_n 0, 1) := by decide +kernel
theorem dX9_maybe_34 : decode cX9_maybe 34 = .ok (.getfield 76, 3) := by decide +kernel
theorem dX9_maybe_37 : decode cX9_maybe 37 = .ok (.iconst (-1), 1) := by decide +kernel
theorem dX9_maybe_38 : decode cX9_maybe 38 = .ok (.invokevirtual 264, 3) := by decide +kernel
theorem dX9_maybe_41 : decode cX9_maybe 41 = .ok (.pop, 1) := by decide +kernel
theorem dX9_maybe_42 : decode cX9_maybe 42 = .ok (.aload_n 0, 1) := by decide +kernel
theorem dX9_maybe_43 : decode cX9_maybe 43 = .ok (.getfield 76, 3) := by decide +kernel
theorem dX9_maybe_46 : decode cX9_maybe 46 = .ok (.iload_n 1, 1) := by decide +kernel
theorem dX9_maybe_47 : decode cX9_maybe 47 = .ok (.iload_n 2, 1) := by decide +kernel
theorem dX9_maybe_48 : decode cX9_maybe 48 = .ok (.invokevirtual 267, 3) := by decide +kernel
theorem dX9_maybe_51 : decode cX9_maybe 51 = .ok (.ireturn, 1) := by decide +kernel
theorem dX9_theft_0 : decode cX9_theft 0 = .ok (.aload_n 0, 1) := by decide +kernel
theorem dX9_theft_1 : decode cX9_theft 1 = .ok (.getfield 10, 3) := by decide +kernel
theorem dX9_theft_4 : decode cX9_theft 4 = .ok (.iload_n 1, 1) := by decide +kernel
theorem dX9_theft_5 : decode cX9_theft 5 = .ok (.invokevirtual 148, 3) := by decide +kernel
theorem dX9_theft_8 : decode cX9_theft 8 = .ok (.ifCond .eq 22, 3) := by decide +kernel
theorem dX9_theft_11 : decode cX9_theft 11 = .ok (.iload_n 2, 1) := by decide +kernel
theorem dX9_theft_12 : decode cX9_theft 12 = .ok (.invokestatic 144, 3) := by decide +kernel
theorem dX9_theft_15 : decode cX9_theft 15 = .ok (.ifCond .eq 15, 3) := by decide +kernel
theorem dX9_theft_18 : decode cX9_theft 18 = .ok (.iload_n 3, 1) := by decide +kernel
theorem dX9_theft_19 : decode cX9_theft 19 = .ok (.invokestatic 144, 3) := by decide +kernel
theorem dX9_theft_22 : decode cX9_theft 22 = .ok (.ifCond .eq 8, 3) := by decide +kernel
theorem dX9_theft_25 : decode cX9_theft 25 = .ok (.iload_n 3, 1) := by decide +kernel
theorem dX9_theft_26 : decode cX9_theft 26 = .ok (.iload_n 2, 1) := by decide +kernel
theorem dX9_theft_27 : decode cX9_theft 27 = .ok (.if_icmp .ge 5, 3) := by decide +kernel
theorem dX9_theft_30 : decode cX9_theft 30 = .ok (.iconst (-1), 1) := by decide +kernel
theorem dX9_theft_31 : decode cX9_theft 31 = .ok (.ireturn, 1) := by decide +kernel
theorem dX9_theft_32 : decode cX9_theft 32 = .ok (.aload_n 0, 1) := by decide +kernel
theorem dX9_theft_33 : decode cX9_theft 33 = .ok (.getfield 26, 3) := by decide +kernel
theorem dX9_theft_36 : decode cX9_theft 36 = .ok (.iconst 1, 1) := by decide +kernel
theorem dX9_theft_37 : decode cX9_theft 37 = .ok (.putfield 270, 3) := by decide +kernel
theorem dX9_theft_40 : decode cX9_theft 40 = .ok (.aload_n 0, 1) := by decide +kernel
theorem dX9_theft_41 : decode cX9_theft 41 = .ok (.getfield 26, 3) := by decide +kernel
theorem dX9_theft_44 : decode cX9_theft 44 = .ok (.iload_n 1, 1) := by decide +kernel
theorem dX9_theft_45 : decode cX9_theft 45 = .ok (.putfield 274, 3) := by decide +kernel
theorem dX9_theft_48 : decode cX9_theft 48 = .ok (.aload_n 0, 1) := by decide +kernel
theorem dX9_theft_49 : decode cX9_theft 49 = .ok (.getfield 26, 3) := by decide +kernel
theorem dX9_theft_52 : decode cX9_theft 52 = .ok (.iload_n 2, 1) := by decide +kernel
theorem dX9_theft_53 : decode cX9_theft 53 = .ok (.putfield 277, 3) := by decide +kernel
theorem dX9_theft_56 : decode cX9_theft 56 = .ok (.aload_n 0, 1) := by decide +kernel
theorem dX9_theft_57 : decode cX9_theft 57 = .ok (.getfield 26, 3) := by decide +kernel
theorem dX9_theft_60 : decode cX9_theft 60 = .ok (.iload_n 3, 1) := by decide +kernel
theorem dX9_theft_61 : decode cX9_theft 61 = .ok (.putfield 280, 3) := by decide +kernel
theorem dX9_theft_64 : decode cX9_theft 64 = .ok (.iconst 1, 1) := by decide +kernel
theorem dX9_theft_65 : decode cX9_theft 65 = .ok (.ireturn, 1) := by decide +kernel
theorem dX9_suspects_0 : decode cX9_suspects 0 = .ok (.aload_n 0, 1) := by decide +kernel
theorem dX9_suspects_1 : decode cX9_suspects 1 = .ok (.getfield 26, 3) := by decide +kernel
theorem dX9_suspects_4 : decode cX9_suspects 4 = .ok (.getfield 270, 3) := by decide +kernel
theorem dX9_suspects_7 : decode cX9_suspects 7 = .ok (.ifCond .ne 6, 3) := by decide +kernel
theorem dX9_suspects_10 : decode cX9_suspects 10 = .ok (.bipush (-2), 2) := by decide +kernel
theorem dX9_suspects_12 : decode cX9_suspects 12 = .ok (.ireturn, 1) := by decide +kernel
theorem dX9_suspects_13 : decode cX9_suspects 13 = .ok (.aload_n 0, 1) := by decide +kernel
theorem dX9_suspects_14 : decode cX9_suspects 14 = .ok (.getfield 76, 3) := by decide +kernel
theorem dX9_suspects_17 : decode cX9_suspects 17 = .ok (.iconst (-1), 1) := by decide +kernel
theorem dX9_suspects_18 : decode cX9_suspects 18 = .ok (.invokevirtual 264, 3) := by decide +kernel
theorem dX9_suspects_21 : decode cX9_suspects 21 = .ok (.pop, 1) := by decide +kernel
theorem dX9_suspects_22 : decode cX9_suspects 22 = .ok (.iconst 0, 1) := by decide +kernel
theorem dX9_suspects_23 : decode cX9_suspects 23 = .ok (.istore_n 1, 1) := by decide +kernel
theorem dX9_suspects_24 : decode cX9_suspects 24 = .ok (.iconst 0, 1) := by decide +kernel
theorem dX9_suspects_25 : decode cX9_suspects 25 = .ok (.istore_n 2, 1) := by decide +kernel
theorem dX9_suspects_26 : decode cX9_suspects 26 = .ok (.iload_n 2, 1) := by decide +kernel
theorem dX9_suspects_27 : decode cX9_suspects 27 = .ok (.aload_n 0, 1) := by decide +kernel
theorem dX9_suspects_28 : decode cX9_suspects 28 = .ok (.getfield 26, 3) := by decide +kernel
theorem dX9_suspects_31 : decode cX9_suspects 31 = .ok (.getfield 243, 3) := by decide +kernel
theorem dX9_suspects_34 : decode cX9_suspects 34 = .ok (.if_icmp .ge 26, 3) := by decide +kernel
theorem dX9_suspects_37 : decode cX9_suspects 37 = .ok (.aload_n 0, 1) := by decide +kernel
theorem dX9_suspects_38 : decode cX9_suspects 38 = .ok (.getfield 76, 3) := by decide +kernel
theorem dX9_suspects_41 : decode cX9_suspects 41 = .ok (.iload_n 2, 1) := by decide +kernel
theorem dX9_suspects_42 : decode cX9_suspects 42 = .ok (.invokevirtual 283, 3) := by decide +kernel
theorem dX9_suspects_45 : decode cX9_suspects 45 = .ok (.ifCond .eq 9, 3) := by decide +kernel
theorem dX9_suspects_48 : decode cX9_suspects 48 = .ok (.iload_n 1, 1) := by decide +kernel
theorem dX9_suspects_49 : decode cX9_suspects 49 = .ok (.iconst 1, 1) := by decide +kernel
theorem dX9_suspects_50 : decode cX9_suspects 50 = .ok (.iload_n 2, 1) := by decide +kernel
theorem dX9_suspects_51 : decode cX9_suspects 51 = .ok (.ishl, 1) := by decide +kernel
theorem dX9_suspects_52 : decode cX9_suspects 52 = .ok (.ior, 1) := by decide +kernel
theorem dX9_suspects_53 : decode cX9_suspects 53 = .ok (.istore_n 1, 1) := by decide +kernel
theorem dX9_suspects_54 : decode cX9_suspects 54 = .ok (.iinc 2 1, 3) := by decide +kernel
theorem dX9_suspects_57 : decode cX9_suspects 57 = .ok (.goto (-31), 3) := by decide +kernel
theorem dX9_suspects_60 : decode cX9_suspects 60 = .ok (.iload_n 1, 1) := by decide +kernel
theorem dX9_suspects_61 : decode cX9_suspects 61 = .ok (.ireturn, 1) := by decide +kernel
theorem dX9_clears_0 : decode cX9_clears 0 = .ok (.aload_n 0, 1) := by decide +kernel
theorem dX9_clears_1 : decode cX9_clears 1 = .ok (.getfield 26, 3) := by decide +kernel
theorem dX9_clears_4 : decode cX9_clears 4 = .ok (.iload_n 1, 1) := by decide +kernel
theorem dX9_clears_5 : decode cX9_clears 5 = .ok (.invokevirtual 247, 3) := by decide +kernel
theorem dX9_clears_8 : decode cX9_clears 8 = .ok (.ifCond .ne 5, 3) := by decide +kernel
theorem dX9_clears_11 : decode cX9_clears 11 = .ok (.iconst (-1), 1) := by decide +kernel
theorem dX9_clears_12 : decode cX9_clears 12 = .ok (.ireturn, 1) := by decide +kernel
theorem dX9_clears_13 : decode cX9_clears 13 = .ok (.aload_n 0, 1) := by decide +kernel
theorem dX9_clears_14 : decode cX9_clears 14 = .ok (.getfield 26, 3) := by decide +kernel
theorem dX9_clears_17 : decode cX9_clears 17 = .ok (.getfield 270, 3) := by decide +kernel
theorem dX9_clears_20 : decode cX9_clears 20 = .ok (.ifCond .ne 6, 3) := by decide +kernel
theorem dX9_clears_23 : decode cX9_clears 23 = .ok (.bipush (-2), 2) := by decide +kernel
theorem dX9_clears_25 : decode cX9_clears 25 = .ok (.ireturn, 1) := by decide +kernel
theorem dX9_clears_26 : decode cX9_clears 26 = .ok (.aload_n 0, 1) := by decide +kernel
theorem dX9_clears_27 : decode cX9_clears 27 = .ok (.getfield 76, 3) := by decide +kernel
theorem dX9_clears_30 : decode cX9_clears 30 = .ok (.iconst (-1), 1) := by decide +kernel
theorem dX9_clears_31 : decode cX9_clears 31 = .ok (.invokevirtual 264, 3) := by decide +kernel
theorem dX9_clears_34 : decode cX9_clears 34 = .ok (.pop, 1) := by decide +kernel
theorem dX9_clears_35 : decode cX9_clears 35 = .ok (.aload_n 0, 1) := by decide +kernel
theorem dX9_clears_36 : decode cX9_clears 36 = .ok (.getfield 76, 3) := by decide +kernel
theorem dX9_clears_39 : decode cX9_clears 39 = .ok (.iload_n 1, 1) := by decide +kernel
theorem dX9_clears_40 : decode cX9_clears 40 = .ok (.invokevirtual 283, 3) := by decide +kernel
theorem dX9_clears_43 : decode cX9_clears 43 = .ok (.ifCond .eq 6, 3) := by decide +kernel
theorem dX9_clears_46 : decode cX9_clears 46 = .ok (.bipush (-4), 2) := by decide +kernel
theorem dX9_clears_48 : decode cX9_clears 48 = .ok (.ireturn, 1) := by decide +kernel
theorem dX9_clears_49 : decode cX9_clears 49 = .ok (.iconst 0, 1) := by decide +kernel
theorem dX9_clears_50 : decode cX9_clears 50 = .ok (.istore_n 2, 1) := by decide +kernel
theorem dX9_clears_51 : decode cX9_clears 51 = .ok (.iconst 0, 1) := by decide +kernel
theorem dX9_clears_52 : decode cX9_clears 52 = .ok (.istore_n 3, 1) := by decide +kernel
theorem dX9_clears_53 : decode cX9_clears 53 = .ok (.iload_n 3, 1) := by decide +kernel
theorem dX9_clears_54 : decode cX9_clears 54 = .ok (.aload_n 0, 1) := by decide +kernel
theorem dX9_clears_55 : decode cX9_clears 55 = .ok (.getfield 26, 3) := by decide +kernel
theorem dX9_clears_58 : decode cX9_clears 58 = .ok (.getfield 250, 3) := by decide +kernel
theorem dX9_clears_61 : decode cX9_clears 61 = .ok (.if_icmp .ge 35, 3) := by decide +kernel
theorem dX9_clears_64 : decode cX9_clears 64 = .ok (.aload_n 0, 1) := by decide +kernel
theorem dX9_clears_65 : decode cX9_clears 65 = .ok (.getfield 76, 3) := by decide +kernel
theorem dX9_clears_68 : decode cX9_clears 68 = .ok (.iload_n 3, 1) := by decide +kernel
theorem dX9_clears_69 : decode cX9_clears 69 = .ok (.invokevirtual 264, 3) := by decide +kernel
theorem dX9_clears_72 : decode cX9_clears 72 = .ok (.pop, 1) := by decide +kernel
theorem dX9_clears_73 : decode cX9_clears 73 = .ok (.aload_n 0, 1) := by decide +kernel
theorem dX9_clears_74 : decode cX9_clears 74 = .ok (.getfield 76, 3) := by decide +kernel
theorem dX9_clears_77 : decode cX9_clears 77 = .ok (.iload_n 1, 1) := by decide +kernel
theorem dX9_clears_78 : decode cX9_clears 78 = .ok (.invokevirtual 283, 3) := by decide +kernel
theorem dX9_clears_81 : decode cX9_clears 81 = .ok (.ifCond .eq 9, 3) := by decide +kernel
theorem dX9_clears_84 : decode cX9_clears 84 = .ok (.iload_n 2, 1) := by decide +kernel
theorem dX9_clears_85 : decode cX9_clears 85 = .ok (.iconst 1, 1) := by decide +kernel
theorem dX9_clears_86 : decode cX9_clears 86 = .ok (.iload_n 3, 1) := by decide +kernel
theorem dX9_clears_87 : decode cX9_clears 87 = .ok (.ishl, 1) := by decide +kernel
theorem dX9_clears_88 : decode cX9_clears 88 = .ok (.ior, 1) := by decide +kernel
theorem dX9_clears_89 : decode cX9_clears 89 = .ok (.istore_n 2, 1) := by decide +kernel
theorem dX9_clears_90 : decode cX9_clears 90 = .ok (.iinc 3 1, 3) := by decide +kernel
theorem dX9_clears_93 : decode cX9_clears 93 = .ok (.goto (-40), 3) := by decide +kernel
theorem dX9_clears_96 : decode cX9_clears 96 = .ok (.iload_n 2, 1) := by decide +kernel
theorem dX9_clears_97 : decode cX9_clears 97 = .ok (.ireturn, 1) := by decide +kernel
theorem dX9_count_0 : decode cX9_count 0 = .ok (.iload_n 1, 1) := by decide +kernel
theorem dX9_count_1 : decode cX9_count 1 = .ok (.tableswitch 114 0 7 #[47, 55, 63, 71, 79, 90, 98, 106], 47) := by decide +kernel
theorem dX9_count_48 : decode cX9_count 48 = .ok (.aload_n 0, 1) := by decide +kernel
theorem dX9_count_49 : decode cX9_count 49 = .ok (.getfield 10, 3) := by decide +kernel
theorem dX9_count_52 : decode cX9_count 52 = .ok (.getfield 89, 3) := by decide +kernel
theorem dX9_count_55 : decode cX9_count 55 = .ok (.ireturn, 1) := by decide +kernel
theorem dX9_count_56 : decode cX9_count 56 = .ok (.aload_n 0, 1) := by decide +kernel
theorem dX9_count_57 : decode cX9_count 57 = .ok (.getfield 10, 3) := by decide +kernel
theorem dX9_count_60 : decode cX9_count 60 = .ok (.getfield 104, 3) := by decide +kernel
theorem dX9_count_63 : decode cX9_count 63 = .ok (.ireturn, 1) := by decide +kernel
theorem dX9_count_64 : decode cX9_count 64 = .ok (.aload_n 0, 1) := by decide +kernel
theorem dX9_count_65 : decode cX9_count 65 = .ok (.getfield 10, 3) := by decide +kernel
theorem dX9_count_68 : decode cX9_count 68 = .ok (.getfield 129, 3) := by decide +kernel
theorem dX9_count_71 : decode cX9_count 71 = .ok (.ireturn, 1) := by decide +kernel
theorem dX9_count_72 : decode cX9_count 72 = .ok (.aload_n 0, 1) := by decide +kernel
theorem dX9_count_73 : decode cX9_count 73 = .ok (.getfield 19, 3) := by decide +kernel
theorem dX9_count_76 : decode cX9_count 76 = .ok (.getfield 159, 3) := by decide +kernel
theorem dX9_count_79 : decode cX9_count 79 = .ok (.ireturn, 1) := by decide +kernel
theorem dX9_count_80 : decode cX9_count 80 = .ok (.aload_n 0, 1) := by decide +kernel
theorem dX9_count_81 : decode cX9_count 81 = .ok (.getfield 19, 3) := by decide +kernel
theorem dX9_count_84 : decode cX9_count 84 = .ok (.getfield 168, 3) := by decide +kernel
theorem dX9_count_87 : decode cX9_count 87 = .ok (.invokestatic 286, 3) := by decide +kernel
theorem dX9_count_90 : decode cX9_count 90 = .ok (.ireturn, 1) := by decide +kernel
theorem dX9_count_91 : decode cX9_count 91 = .ok (.aload_n 0, 1) := by decide +kernel
theorem dX9_count_92 : decode cX9_count 92 = .ok (.getfield 19, 3) := by decide +kernel
theorem dX9_count_95 : decode cX9_count 95 = .ok (.getfield 178, 3) := by decide +kernel
theorem dX9_count_98 : decode cX9_count 98 = .ok (.ireturn, 1) := by decide +kernel
theorem dX9_count_99 : decode cX9_count 99 = .ok (.aload_n 0, 1) := by decide +kernel
theorem dX9_count_100 : decode cX9_count 100 = .ok (.getfield 26, 3) := by decide +kernel
theorem dX9_count_103 : decode cX9_count 103 = .ok (.getfield 243, 3) := by decide +kernel
theorem dX9_count_106 : decode cX9_count 106 = .ok (.ireturn, 1) := by decide +kernel
theorem dX9_count_107 : decode cX9_count 107 = .ok (.aload_n 0, 1) := by decide +kernel
theorem dX9_count_108 : decode cX9_count 108 = .ok (.getfield 26, 3) := by decide +kernel
theorem dX9_count_111 : decode cX9_count 111 = .ok (.getfield 250, 3) := by decide +kernel
theorem dX9_count_114 : decode cX9_count 114 = .ok (.ireturn, 1) := by decide +kernel
theorem dX9_count_115 : decode cX9_count 115 = .ok (.iconst (-1), 1) := by decide +kernel
theorem dX9_count_116 : decode cX9_count 116 = .ok (.ireturn, 1) := by decide +kernel
theorem dX9_image_0 : decode cX9_image 0 = .ok (.aload_n 0, 1) := by decide +kernel
theorem dX9_image_1 : decode cX9_image 1 = .ok (.getfield 30, 3) := by decide +kernel
theorem dX9_image_4 : decode cX9_image 4 = .ok (.aload_n 0, 1) := by decide +kernel
theorem dX9_image_5 : decode cX9_image 5 = .ok (.getfield 10, 3) := by decide +kernel
theorem dX9_image_8 : decode cX9_image 8 = .ok (.invokevirtual 291, 3) := by decide +kernel
theorem dX9_image_11 : decode cX9_image 11 = .ok (.aload_n 0, 1) := by decide +kernel
theorem dX9_image_12 : decode cX9_image 12 = .ok (.getfield 33, 3) := by decide +kernel
theorem dX9_image_15 : decode cX9_image 15 = .ok (.aload_n 0, 1) := by decide +kernel
theorem dX9_image_16 : decode cX9_image 16 = .ok (.getfield 19, 3) := by decide +kernel
theorem dX9_image_19 : decode cX9_image 19 = .ok (.invokevirtual 294, 3) := by decide +kernel
theorem dX9_image_22 : decode cX9_image 22 = .ok (.aload_n 0, 1) := by decide +kernel
theorem dX9_image_23 : decode cX9_image 23 = .ok (.getfield 36, 3) := by decide +kernel
theorem dX9_image_26 : decode cX9_image 26 = .ok (.aload_n 0, 1) := by decide +kernel
theorem dX9_image_27 : decode cX9_image 27 = .ok (.getfield 26, 3) := by decide +kernel
theorem dX9_image_30 : decode cX9_image 30 = .ok (.invokevirtual 297, 3) := by decide +kernel
theorem dX9_image_33 : decode cX9_image 33 = .ok (.aload_n 0, 1) := by decide +kernel
theorem dX9_image_34 : decode cX9_image 34 = .ok (.iconst 1, 1) := by decide +kernel
theorem dX9_image_35 : decode cX9_image 35 = .ok (.putfield 300, 3) := by decide +kernel
theorem dX9_image_38 : decode cX9_image 38 = .ok (.iconst 1, 1) := by decide +kernel
theorem dX9_image_39 : decode cX9_image 39 = .ok (.ireturn, 1) := by decide +kernel
theorem dX9_restore_0 : decode cX9_restore 0 = .ok (.aload_n 0, 1) := by decide +kernel
theorem dX9_restore_1 : decode cX9_restore 1 = .ok (.getfield 300, 3) := by decide +kernel
theorem dX9_restore_4 : decode cX9_restore 4 = .ok (.ifCond .ne 6, 3) := by decide +kernel
theorem dX9_restore_7 : decode cX9_restore 7 = .ok (.bipush (-4), 2) := by decide +kernel
theorem dX9_restore_9 : decode cX9_restore 9 = .ok (.ireturn, 1) := by decide +kernel
theorem dX9_restore_10 : decode cX9_restore 10 = .ok (.aload_n 0, 1) := by decide +kernel
theorem dX9_restore_11 : decode cX9_restore 11 = .ok (.getfield 10, 3) := by decide +kernel
theorem dX9_restore_14 : decode cX9_restore 14 = .ok (.aload_n 0, 1) := by decide +kernel
theorem dX9_restore_15 : decode cX9_restore 15 = .ok (.getfield 30, 3) := by decide +kernel
theorem dX9_restore_18 : decode cX9_restore 18 = .ok (.invokevirtual 291, 3) := by decide +kernel
theorem dX9_restore_21 : decode cX9_restore 21 = .ok (.aload_n 0, 1) := by decide +kernel
theorem dX9_restore_22 : decode cX9_restore 22 = .ok (.getfield 19, 3) := by decide +kernel
theorem dX9_restore_25 : decode cX9_restore 25 = .ok (.aload_n 0, 1) := by decide +kernel
theorem dX9_restore_26 : decode cX9_restore 26 = .ok (.getfield 33, 3) := by decide +kernel
theorem dX9_restore_29 : decode cX9_restore 29 = .ok (.invokevirtual 294, 3) := by decide +kernel
theorem dX9_restore_32 : decode cX9_restore 32 = .ok (.aload_n 0, 1) := by decide +kernel
theorem dX9_restore_33 : decode cX9_restore 33 = .ok (.getfield 26, 3) := by decide +kernel
theorem dX9_restore_36 : decode cX9_restore 36 = .ok (.aload_n 0, 1) := by decide +kernel
theorem dX9_restore_37 : decode cX9_restore 37 = .ok (.getfield 36, 3) := by decide +kernel
theorem dX9_restore_40 : decode cX9_restore 40 = .ok (.invokevirtual 297, 3) := by decide +kernel
theorem dX9_restore_43 : decode cX9_restore 43 = .ok (.aload_n 0, 1) := by decide +kernel
theorem dX9_restore_44 : decode cX9_restore 44 = .ok (.invokevirtual 93, 3) := by decide +kernel
theorem dX9_restore_47 : decode cX9_restore 47 = .ok (.iconst 1, 1) := by decide +kernel
theorem dX9_restore_48 : decode cX9_restore 48 = .ok (.ireturn, 1) := by decide +kernel
theorem dX9_isTick_0 : decode cX9_isTick 0 = .ok (.iload_n 0, 1) := by decide +kernel
theorem dX9_isTick_1 : decode cX9_isTick 1 = .ok (.ifCond .lt 13, 3) := by decide +kernel
theorem dX9_isTick_4 : decode cX9_isTick 4 = .ok (.iload_n 0, 1) := by decide +kernel
theorem dX9_isTick_5 : decode cX9_isTick 5 = .ok (.bipush 24, 2) := by decide +kernel
theorem dX9_isTick_7 : decode cX9_isTick 7 = .ok (.if_icmp .ge 7, 3) := by decide +kernel
theorem dX9_isTick_10 : decode cX9_isTick 10 = .ok (.iconst 1, 1) := by decide +kernel
theorem dX9_isTick_11 : decode cX9_isTick 11 = .ok (.goto 4, 3) := by decide +kernel
theorem dX9_isTick_14 : decode cX9_isTick 14 = .ok (.iconst 0, 1) := by decide +kernel
theorem dX9_isTick_15 : decode cX9_isTick 15 = .ok (.ireturn, 1) := by decide +kernel
theorem dX9_isErrand_0 : decode cX9_isErrand 0 = .ok (.iload_n 1, 1) := by decide +kernel
theorem dX9_isErrand_1 : decode cX9_isErrand 1 = .ok (.ifCond .eq 8, 3) := by decide +kernel
theorem dX9_isErrand_4 : decode cX9_isErrand 4 = .ok (.iload_n 1, 1) := by decide +kernel
theorem dX9_isErrand_5 : decode cX9_isErrand 5 = .ok (.iconst 1, 1) := by decide +kernel
theorem dX9_isErrand_6 : decode cX9_isErrand 6 = .ok (.if_icmp .ne 52, 3) := by decide +kernel
theorem dX9_isErrand_9 : decode cX9_isErrand 9 = .ok (.aload_n 0, 1) := by decide +kernel
theorem dX9_isErrand_10 : decode cX9_isErrand 10 = .ok (.getfield 10, 3) := by decide +kernel
theorem dX9_isErrand_13 : decode cX9_isErrand 13 = .ok (.iload_n 2, 1) := by decide +kernel
theorem dX9_isErrand_14 : decode cX9_isErrand 14 = .ok (.invokevirtual 148, 3) := by decide +kernel
theorem dX9_isErrand_17 : decode cX9_isErrand 17 = .ok (.ifCond .eq 41, 3) := by decide +kernel
theorem dX9_isErrand_20 : decode cX9_isErrand 20 = .ok (.iload_n 3, 1) := by decide +kernel
theorem dX9_isErrand_21 : decode cX9_isErrand 21 = .ok (.iconst 1, 1) := by decide +kernel
theorem dX9_isErrand_22 : decode cX9_isErrand 22 = .ok (.if_icmp .lt 36, 3) := by decide +kernel
theorem dX9_isErrand_25 : decode cX9_isErrand 25 = .ok (.iload_n 3, 1) := by decide +kernel
theorem dX9_isErrand_26 : decode cX9_isErrand 26 = .ok (.bipush 9, 2) := by decide +kernel
theorem dX9_isErrand_28 : decode cX9_isErrand 28 = .ok (.if_icmp .gt 30, 3) := by decide +kernel
theorem dX9_isErrand_31 : decode cX9_isErrand 31 = .ok (.iload 4, 2) := by decide +kernel
theorem dX9_isErrand_33 : decode cX9_isErrand 33 = .ok (.invokestatic 144, 3) := by decide +kernel
theorem dX9_isErrand_36 : decode cX9_isErrand 36 = .ok (.ifCond .eq 22, 3) := by decide +kernel
theorem dX9_isErrand_39 : decode cX9_isErrand 39 = .ok (.iload 5, 2) := by decide +kernel
theorem dX9_isErrand_41 : decode cX9_isErrand 41 = .ok (.invokestatic 144, 3) := by decide +kernel
theorem dX9_isErrand_44 : decode cX9_isErrand 44 = .ok (.ifCond .eq 14, 3) := by decide +kernel
theorem dX9_isErrand_47 : decode cX9_isErrand 47 = .ok (.iload 5, 2) := by decide +kernel
theorem dX9_isErrand_49 : decode cX9_isErrand 49 = .ok (.iload 4, 2) := by decide +kernel
theorem dX9_isErrand_51 : decode cX9_isErrand 51 = .ok (.if_icmp .lt 7, 3) := by decide +kernel
theorem dX9_isErrand_54 : decode cX9_isErrand 54 = .ok (.iconst 1, 1) := by decide +kernel
theorem dX9_isErrand_55 : decode cX9_isErrand 55 = .ok (.goto 4, 3) := by decide +kernel
theorem dX9_isErrand_58 : decode cX9_isErrand 58 = .ok (.iconst 0, 1) := by decide +kernel
theorem dX9_isErrand_59 : decode cX9_isErrand 59 = .ok (.ireturn, 1) := by decide +kernel
theorem dX9_doorsChanged_0 : decode cX9_doorsChanged 0 = .ok (.aload_n 0, 1) := by decide +kernel
theorem dX9_doorsChanged_1 : decode cX9_doorsChanged 1 = .ok (.getfield 10, 3) := by decide +kernel
theorem dX9_doorsChanged_4 : decode cX9_doorsChanged 4 = .ok (.invokevirtual 334, 3) := by decide +kernel
theorem dX9_doorsChanged_7 : decode cX9_doorsChanged 7 = .ok (.aload_n 0, 1) := by decide +kernel
theorem dX9_doorsChanged_8 : decode cX9_doorsChanged 8 = .ok (.invokevirtual 141, 3) := by decide +kernel
theorem dX9_doorsChanged_11 : decode cX9_doorsChanged 11 = .ok (.return_, 1) := by decide +kernel
theorem dX9_plansChanged_0 : decode cX9_plansChanged 0 = .ok (.aload_n 0, 1) := by decide +kernel
theorem dX9_plansChanged_1 : decode cX9_plansChanged 1 = .ok (.getfield 58, 3) := by decide +kernel
theorem dX9_plansChanged_4 : decode cX9_plansChanged 4 = .ok (.iconst 0, 1) := by decide +kernel
theorem dX9_plansChanged_5 : decode cX9_plansChanged 5 = .ok (.putfield 337, 3) := by decide +kernel
theorem dX9_plansChanged_8 : decode cX9_plansChanged 8 = .ok (.aload_n 0, 1) := by decide +kernel
theorem dX9_plansChanged_9 : decode cX9_plansChanged 9 = .ok (.getfield 67, 3) := by decide +kernel
theorem dX9_plansChanged_12 : decode cX9_plansChanged 12 = .ok (.iconst 0, 1) := by decide +kernel
theorem dX9_plansChanged_13 : decode cX9_plansChanged 13 = .ok (.putfield 340, 3) := by decide +kernel
theorem dX9_plansChanged_16 : decode cX9_plansChanged 16 = .ok (.return_, 1) := by decide +kernel
