theorem dL_cell_0 : decode cL_cell 0 = .ok (.iload_n 1, 1) := by decide +kernel
theorem dL_cell_1 : decode cL_cell 1 = .ok (.aload_n 0, 1) := by decide +kernel
theorem dL_cell_2 : decode cL_cell 2 = .ok (.arraylength, 1) := by decide +kernel
theorem dL_cell_3 : decode cL_cell 3 = .ok (.if_icmp .ge 9, 3) := by decide +kernel
theorem dL_cell_6 : decode cL_cell 6 = .ok (.aload_n 0, 1) := by decide +kernel
theorem dL_cell_7 : decode cL_cell 7 = .ok (.iload_n 1, 1) := by decide +kernel
theorem dL_cell_8 : decode cL_cell 8 = .ok (.iaload, 1) := by decide +kernel
theorem dL_cell_9 : decode cL_cell 9 = .ok (.goto 10, 3) := by decide +kernel
theorem dL_cell_12 : decode cL_cell 12 = .ok (.ldc 7, 2) := by decide +kernel
theorem dL_cell_14 : decode cL_cell 14 = .ok (.iload_n 1, 1) := by decide +kernel
theorem dL_cell_15 : decode cL_cell 15 = .ok (.imul, 1) := by decide +kernel
theorem dL_cell_16 : decode cL_cell 16 = .ok (.bipush 107, 2) := by decide +kernel
theorem dL_cell_18 : decode cL_cell 18 = .ok (.iadd, 1) := by decide +kernel
theorem dL_cell_19 : decode cL_cell 19 = .ok (.ldc 8, 2) := by decide +kernel
theorem dL_cell_21 : decode cL_cell 21 = .ok (.iand, 1) := by decide +kernel
theorem dL_cell_22 : decode cL_cell 22 = .ok (.ireturn, 1) := by decide +kernel
theorem dL_lays_0 : decode cL_lays 0 = .ok (.iconst 4, 1) := by decide +kernel
theorem dL_lays_1 : decode cL_lays 1 = .ok (.aload_n 1, 1) := by decide +kernel
theorem dL_lays_2 : decode cL_lays 2 = .ok (.iconst 0, 1) := by decide +kernel
theorem dL_lays_3 : decode cL_lays 3 = .ok (.invokestatic 9, 3) := by decide +kernel
theorem dL_lays_6 : decode cL_lays 6 = .ok (.iconst 5, 1) := by decide +kernel
theorem dL_lays_7 : decode cL_lays 7 = .ok (.irem, 1) := by decide +kernel
theorem dL_lays_8 : decode cL_lays 8 = .ok (.iadd, 1) := by decide +kernel
theorem dL_lays_9 : decode cL_lays 9 = .ok (.istore_n 2, 1) := by decide +kernel
theorem dL_lays_10 : decode cL_lays 10 = .ok (.iconst 1, 1) := by decide +kernel
theorem dL_lays_11 : decode cL_lays 11 = .ok (.istore_n 3, 1) := by decide +kernel
theorem dL_lays_12 : decode cL_lays 12 = .ok (.iconst 0, 1) := by decide +kernel
theorem dL_lays_13 : decode cL_lays 13 = .ok (.istore 4, 2) := by decide +kernel
theorem dL_lays_15 : decode cL_lays 15 = .ok (.iload 4, 2) := by decide +kernel
theorem dL_lays_17 : decode cL_lays 17 = .ok (.iload_n 2, 1) := by decide +kernel
theorem dL_lays_18 : decode cL_lays 18 = .ok (.if_icmp .ge 28, 3) := by decide +kernel
theorem dL_lays_21 : decode cL_lays 21 = .ok (.iload_n 3, 1) := by decide +kernel
theorem dL_lays_22 : decode cL_lays 22 = .ok (.ifCond .eq 24, 3) := by decide +kernel
theorem dL_lays_25 : decode cL_lays 25 = .ok (.aload_n 0, 1) := by decide +kernel
theorem dL_lays_26 : decode cL_lays 26 = .ok (.invokevirtual 15, 3) := by decide +kernel
theorem dL_lays_29 : decode cL_lays 29 = .ok (.iload 4, 2) := by decide +kernel
theorem dL_lays_31 : decode cL_lays 31 = .ok (.if_icmp .ne 7, 3) := by decide +kernel
theorem dL_lays_34 : decode cL_lays 34 = .ok (.iconst 1, 1) := by decide +kernel
theorem dL_lays_35 : decode cL_lays 35 = .ok (.goto 4, 3) := by decide +kernel
theorem dL_lays_38 : decode cL_lays 38 = .ok (.iconst 0, 1) := by decide +kernel
theorem dL_lays_39 : decode cL_lays 39 = .ok (.istore_n 3, 1) := by decide +kernel
theorem dL_lays_40 : decode cL_lays 40 = .ok (.iinc 4 1, 3) := by decide +kernel
theorem dL_lays_43 : decode cL_lays 43 = .ok (.goto (-28), 3) := by decide +kernel
theorem dL_lays_46 : decode cL_lays 46 = .ok (.iconst 0, 1) := by decide +kernel
theorem dL_lays_47 : decode cL_lays 47 = .ok (.istore 4, 2) := by decide +kernel
theorem dL_lays_49 : decode cL_lays 49 = .ok (.iload 4, 2) := by decide +kernel
theorem dL_lays_51 : decode cL_lays 51 = .ok (.iload_n 2, 1) := by decide +kernel
theorem dL_lays_52 : decode cL_lays 52 = .ok (.if_icmp .ge 50, 3) := by decide +kernel
theorem dL_lays_55 : decode cL_lays 55 = .ok (.iload_n 3, 1) := by decide +kernel
theorem dL_lays_56 : decode cL_lays 56 = .ok (.ifCond .eq 46, 3) := by decide +kernel
theorem dL_lays_59 : decode cL_lays 59 = .ok (.aload_n 0, 1) := by decide +kernel
theorem dL_lays_60 : decode cL_lays 60 = .ok (.iload 4, 2) := by decide +kernel
theorem dL_lays_62 : decode cL_lays 62 = .ok (.iload 4, 2) := by decide +kernel
theorem dL_lays_64 : decode cL_lays 64 = .ok (.iconst 1, 1) := by decide +kernel
theorem dL_lays_65 : decode cL_lays 65 = .ok (.iadd, 1) := by decide +kernel
theorem dL_lays_66 : decode cL_lays 66 = .ok (.iload_n 2, 1) := by decide +kernel
theorem dL_lays_67 : decode cL_lays 67 = .ok (.irem, 1) := by decide +kernel
theorem dL_lays_68 : decode cL_lays 68 = .ok (.aload_n 1, 1) := by decide +kernel
theorem dL_lays_69 : decode cL_lays 69 = .ok (.iconst 0, 1) := by decide +kernel
theorem dL_lays_70 : decode cL_lays 70 = .ok (.invokestatic 9, 3) := by decide +kernel
theorem dL_lays_73 : decode cL_lays 73 = .ok (.iconst 3, 1) := by decide +kernel
theorem dL_lays_74 : decode cL_lays 74 = .ok (.iload 4, 2) := by decide +kernel
theorem dL_lays_76 : decode cL_lays 76 = .ok (.iadd, 1) := by decide +kernel
theorem dL_lays_77 : decode cL_lays 77 = .ok (.ishr, 1) := by decide +kernel
theorem dL_lays_78 : decode cL_lays 78 = .ok (.iconst 1, 1) := by decide +kernel
theorem dL_lays_79 : decode cL_lays 79 = .ok (.iand, 1) := by decide +kernel
theorem dL_lays_80 : decode cL_lays 80 = .ok (.invokevirtual 21, 3) := by decide +kernel
theorem dL_lays_83 : decode cL_lays 83 = .ok (.iload 4, 2) := by decide +kernel
theorem dL_lays_85 : decode cL_lays 85 = .ok (.iconst 1, 1) := by decide +kernel
theorem dL_lays_86 : decode cL_lays 86 = .ok (.iadd, 1) := by decide +kernel
theorem dL_lays_87 : decode cL_lays 87 = .ok (.if_icmp .ne 7, 3) := by decide +kernel
theorem dL_lays_90 : decode cL_lays 90 = .ok (.iconst 1, 1) := by decide +kernel
theorem dL_lays_91 : decode cL_lays 91 = .ok (.goto 4, 3) := by decide +kernel
theorem dL_lays_94 : decode cL_lays 94 = .ok (.iconst 0, 1) := by decide +kernel
theorem dL_lays_95 : decode cL_lays 95 = .ok (.istore_n 3, 1) := by decide +kernel
theorem dL_lays_96 : decode cL_lays 96 = .ok (.iinc 4 1, 3) := by decide +kernel
theorem dL_lays_99 : decode cL_lays 99 = .ok (.goto (-50), 3) := by decide +kernel
theorem dL_lays_102 : decode cL_lays 102 = .ok (.iload_n 3, 1) := by decide +kernel
theorem dL_lays_103 : decode cL_lays 103 = .ok (.ifCond .eq 29, 3) := by decide +kernel
theorem dL_lays_106 : decode cL_lays 106 = .ok (.aload_n 0, 1) := by decide +kernel
theorem dL_lays_107 : decode cL_lays 107 = .ok (.iconst 0, 1) := by decide +kernel
theorem dL_lays_108 : decode cL_lays 108 = .ok (.iconst 2, 1) := by decide +kernel
theorem dL_lays_109 : decode cL_lays 109 = .ok (.aload_n 1, 1) := by decide +kernel
theorem dL_lays_110 : decode cL_lays 110 = .ok (.iconst 0, 1) := by decide +kernel
theorem dL_lays_111 : decode cL_lays 111 = .ok (.invokestatic 9, 3) := by decide +kernel
theorem dL_lays_114 : decode cL_lays 114 = .ok (.bipush 12, 2) := by decide +kernel
theorem dL_lays_116 : decode cL_lays 116 = .ok (.ishr, 1) := by decide +kernel
theorem dL_lays_117 : decode cL_lays 117 = .ok (.iconst 1, 1) := by decide +kernel
theorem dL_lays_118 : decode cL_lays 118 = .ok (.iand, 1) := by decide +kernel
theorem dL_lays_119 : decode cL_lays 119 = .ok (.invokevirtual 21, 3) := by decide +kernel
theorem dL_lays_122 : decode cL_lays 122 = .ok (.iload_n 2, 1) := by decide +kernel
theorem dL_lays_123 : decode cL_lays 123 = .ok (.iconst 1, 1) := by decide +kernel
theorem dL_lays_124 : decode cL_lays 124 = .ok (.iadd, 1) := by decide +kernel
theorem dL_lays_125 : decode cL_lays 125 = .ok (.if_icmp .ne 7, 3) := by decide +kernel
theorem dL_lays_128 : decode cL_lays 128 = .ok (.iload_n 2, 1) := by decide +kernel
theorem dL_lays_129 : decode cL_lays 129 = .ok (.goto 4, 3) := by decide +kernel
theorem dL_lays_132 : decode cL_lays 132 = .ok (.iconst (-1), 1) := by decide +kernel
theorem dL_lays_133 : decode cL_lays 133 = .ok (.ireturn, 1) := by decide +kernel
theorem dL_door_0 : decode cL_door 0 = .ok (.iload_n 2, 1) := by decide +kernel
theorem dL_door_1 : decode cL_door 1 = .ok (.iload_n 3, 1) := by decide +kernel
theorem dL_door_2 : decode cL_door 2 = .ok (.if_icmp .ge 7, 3) := by decide +kernel
theorem dL_door_5 : decode cL_door 5 = .ok (.iload_n 2, 1) := by decide +kernel
theorem dL_door_6 : decode cL_door 6 = .ok (.goto 4, 3) := by decide +kernel
theorem dL_door_9 : decode cL_door 9 = .ok (.iload_n 3, 1) := by decide +kernel
theorem dL_door_10 : decode cL_door 10 = .ok (.istore 4, 2) := by decide +kernel
theorem dL_door_12 : decode cL_door 12 = .ok (.iload_n 2, 1) := by decide +kernel
theorem dL_door_13 : decode cL_door 13 = .ok (.iload_n 3, 1) := by decide +kernel
theorem dL_door_14 : decode cL_door 14 = .ok (.if_icmp .ge 7, 3) := by decide +kernel
theorem dL_door_17 : decode cL_door 17 = .ok (.iload_n 3, 1) := by decide +kernel
theorem dL_door_18 : decode cL_door 18 = .ok (.goto 4, 3) := by decide +kernel
theorem dL_door_21 : decode cL_door 21 = .ok (.iload_n 2, 1) := by decide +kernel
theorem dL_door_22 : decode cL_door 22 = .ok (.istore 5, 2) := by decide +kernel
theorem dL_door_24 : decode cL_door 24 = .ok (.iload 4, 2) := by decide +kernel
theorem dL_door_26 : decode cL_door 26 = .ok (.ifCond .ne 22, 3) := by decide +kernel
theorem dL_door_29 : decode cL_door 29 = .ok (.iload 5, 2) := by decide +kernel
theorem dL_door_31 : decode cL_door 31 = .ok (.iconst 2, 1) := by decide +kernel
theorem dL_door_32 : decode cL_door 32 = .ok (.if_icmp .ne 16, 3) := by decide +kernel
theorem dL_door_35 : decode cL_door 35 = .ok (.aload_n 0, 1) := by decide +kernel
theorem dL_door_36 : decode cL_door 36 = .ok (.iconst 0, 1) := by decide +kernel
theorem dL_door_37 : decode cL_door 37 = .ok (.invokestatic 9, 3) := by decide +kernel
theorem dL_door_40 : decode cL_door 40 = .ok (.bipush 12, 2) := by decide +kernel
theorem dL_door_42 : decode cL_door 42 = .ok (.ishr, 1) := by decide +kernel
theorem dL_door_43 : decode cL_door 43 = .ok (.iconst 1, 1) := by decide +kernel
theorem dL_door_44 : decode cL_door 44 = .ok (.iand, 1) := by decide +kernel
theorem dL_door_45 : decode cL_door 45 = .ok (.goto 56, 3) := by decide +kernel
theorem dL_door_48 : decode cL_door 48 = .ok (.iload 5, 2) := by decide +kernel
theorem dL_door_50 : decode cL_door 50 = .ok (.iload 4, 2) := by decide +kernel
theorem dL_door_52 : decode cL_door 52 = .ok (.isub, 1) := by decide +kernel
theorem dL_door_53 : decode cL_door 53 = .ok (.iconst 1, 1) := by decide +kernel
theorem dL_door_54 : decode cL_door 54 = .ok (.if_icmp .ne 18, 3) := by decide +kernel
theorem dL_door_57 : decode cL_door 57 = .ok (.aload_n 0, 1) := by decide +kernel
theorem dL_door_58 : decode cL_door 58 = .ok (.iconst 0, 1) := by decide +kernel
theorem dL_door_59 : decode cL_door 59 = .ok (.invokestatic 9, 3) := by decide +kernel
theorem dL_door_62 : decode cL_door 62 = .ok (.iconst 3, 1) := by decide +kernel
theorem dL_door_63 : decode cL_door 63 = .ok (.iload 4, 2) := by decide +kernel
theorem dL_door_65 : decode cL_door 65 = .ok (.iadd, 1) := by decide +kernel
theorem dL_door_66 : decode cL_door 66 = .ok (.ishr, 1) := by decide +kernel
theorem dL_door_67 : decode cL_door 67 = .ok (.iconst 1, 1) := by decide +kernel
theorem dL_door_68 : decode cL_door 68 = .ok (.iand, 1) := by decide +kernel
theorem dL_door_69 : decode cL_door 69 = .ok (.goto 32, 3) := by decide +kernel
theorem dL_door_72 : decode cL_door 72 = .ok (.iload 4, 2) := by decide +kernel
theorem dL_door_74 : decode cL_door 74 = .ok (.ifCond .ne 26, 3) := by decide +kernel
theorem dL_door_77 : decode cL_door 77 = .ok (.iload 5, 2) := by decide +kernel
theorem dL_door_79 : decode cL_door 79 = .ok (.iload_n 1, 1) := by decide +kernel
theorem dL_door_80 : decode cL_door 80 = .ok (.iconst 1, 1) := by decide +kernel
theorem dL_door_81 : decode cL_door 81 = .ok (.isub, 1) := by decide +kernel
theorem dL_door_82 : decode cL_door 82 = .ok (.if_icmp .ne 18, 3) := by decide +kernel
theorem dL_door_85 : decode cL_door 85 = .ok (.aload_n 0, 1) := by decide +kernel
theorem dL_door_86 : decode cL_door 86 = .ok (.iconst 0, 1) := by decide +kernel
theorem dL_door_87 : decode cL_door 87 = .ok (.invokestatic 9, 3) := by decide +kernel
theorem dL_door_90 : decode cL_door 90 = .ok (.iconst 3, 1) := by decide +kernel
theorem dL_door_91 : decode cL_door 91 = .ok (.iload 5, 2) := by decide +kernel
theorem dL_door_93 : decode cL_door 93 = .ok (.iadd, 1) := by decide +kernel
theorem dL_door_94 : decode cL_door 94 = .ok (.ishr, 1) := by decide +kernel
theorem dL_door_95 : decode cL_door 95 = .ok (.iconst 1, 1) := by decide +kernel
theorem dL_door_96 : decode cL_door 96 = .ok (.iand, 1) := by decide +kernel
theorem dL_door_97 : decode cL_door 97 = .ok (.goto 4, 3) := by decide +kernel
theorem dL_door_100 : decode cL_door 100 = .ok (.iconst (-1), 1) := by decide +kernel
theorem dL_door_101 : decode cL_door 101 = .ok (.ireturn, 1) := by decide +kernel
theorem dL_walks_0 : decode cL_walks 0 = .ok (.aload_n 1, 1) := by decide +kernel
theorem dL_walks_1 : decode cL_walks 1 = .ok (.iconst 1, 1) := by decide +kernel
theorem dL_walks_2 : decode cL_walks 2 = .ok (.invokestatic 9, 3) := by decide +kernel
theorem dL_walks_5 : decode cL_walks 5 = .ok (.iconst 3, 1) := by decide +kernel
theorem dL_walks_6 : decode cL_walks 6 = .ok (.irem, 1) := by decide +kernel
theorem dL_walks_7 : decode cL_walks 7 = .ok (.istore 4, 2) := by decide +kernel
theorem dL_walks_9 : decode cL_walks 9 = .ok (.iconst 1, 1) := by decide +kernel
theorem dL_walks_10 : decode cL_walks 10 = .ok (.istore 5, 2) := by decide +kernel
theorem dL_walks_12 : decode cL_walks 12 = .ok (.iconst 0, 1) := by decide +kernel
theorem dL_walks_13 : decode cL_walks 13 = .ok (.istore 6, 2) := by decide +kernel
theorem dL_walks_15 : decode cL_walks 15 = .ok (.iload 6, 2) := by decide +kernel
theorem dL_walks_17 : decode cL_walks 17 = .ok (.iload 4, 2) := by decide +kernel
theorem dL_walks_19 : decode cL_walks 19 = .ok (.if_icmp .ge 277, 3) := by decide +kernel
theorem dL_walks_22 : decode cL_walks 22 = .ok (.iload 5, 2) := by decide +kernel
theorem dL_walks_24 : decode cL_walks 24 = .ok (.ifCond .eq 272, 3) := by decide +kernel
theorem dL_walks_27 : decode cL_walks 27 = .ok (.aload_n 1, 1) := by decide +kernel
theorem dL_walks_28 : decode cL_walks 28 = .ok (.iconst 2, 1) := by decide +kernel
theorem dL_walks_29 : decode cL_walks 29 = .ok (.iload 6, 2) := by decide +kernel
theorem dL_walks_31 : decode cL_walks 31 = .ok (.iadd, 1) := by decide +kernel
theorem dL_walks_32 : decode cL_walks 32 = .ok (.invokestatic 9, 3) := by decide +kernel
theorem dL_walks_35 : decode cL_walks 35 = .ok (.istore 7, 2) := by decide +kernel
theorem dL_walks_37 : decode cL_walks 37 = .ok (.iload 7, 2) := by decide +kernel
theorem dL_walks_39 : decode cL_walks 39 = .ok (.iload_n 2, 1) := by decide +kernel
theorem dL_walks_40 : decode cL_walks 40 = .ok (.irem, 1) := by decide +kernel
theorem dL_walks_41 : decode cL_walks 41 = .ok (.istore 8, 2) := by decide +kernel
theorem dL_walks_43 : decode cL_walks 43 = .ok (.iconst 0, 1) := by decide +kernel
theorem dL_walks_44 : decode cL_walks 44 = .ok (.istore 9, 2) := by decide +kernel
theorem dL_walks_46 : decode cL_walks 46 = .ok (.iconst 0, 1) := by decide +kernel
theorem dL_walks_47 : decode cL_walks 47 = .ok (.istore 10, 2) := by decide +kernel
theorem dL_walks_49 : decode cL_walks 49 = .ok (.iload 10, 2) := by decide +kernel
theorem dL_walks_51 : decode cL_walks 51 = .ok (.iconst 5, 1) := by decide +kernel
theorem dL_walks_52 : decode cL_walks 52 = .ok (.if_icmp .ge 192, 3) := by decide +kernel
theorem dL_walks_55 : decode cL_walks 55 = .ok (.iload 5, 2) := by decide +kernel
theorem dL_walks_57 : decode cL_walks 57 = .ok (.ifCond .eq 187, 3) := by decide +kernel
theorem dL_walks_60 : decode cL_walks 60 = .ok (.iconst 1, 1) := by decide +kernel
theorem dL_walks_61 : decode cL_walks 61 = .ok (.iload 7, 2) := by decide +kernel
theorem dL_walks_63 : decode cL_walks 63 = .ok (.iconst 3, 1) := by decide +kernel
theorem dL_walks_64 : decode cL_walks 64 = .ok (.iconst 3, 1) := by decide +kernel
theorem dL_walks_65 : decode cL_walks 65 = .ok (.iload 10, 2) := by decide +kernel
theorem dL_walks_67 : decode cL_walks 67 = .ok (.imul, 1) := by decide +kernel
theorem dL_walks_68 : decode cL_walks 68 = .ok (.iadd, 1) := by decide +kernel
theorem dL_walks_69 : decode cL_walks 69 = .ok (.ishr, 1) := by decide +kernel
theorem dL_walks_70 : decode cL_walks 70 = .ok (.iconst 4, 1) := by decide +kernel
theorem dL_walks_71 : decode cL_walks 71 = .ok (.irem, 1) := by decide +kernel
theorem dL_walks_72 : decode cL_walks 72 = .ok (.iadd, 1) := by decide +kernel
theorem dL_walks_73 : decode cL_walks 73 = .ok (.istore 11, 2) := by decide +kernel
theorem dL_walks_75 : decode cL_walks 75 = .ok (.iconst (-1), 1) := by decide +kernel
theorem dL_walks_76 : decode cL_walks 76 = .ok (.istore 12, 2) := by decide +kernel
theorem dL_walks_78 : decode cL_walks 78 = .ok (.iconst 0, 1) := by decide +kernel
theorem dL_walks_79 : decode cL_walks 79 = .ok (.istore 13, 2) := by decide +kernel
theorem dL_walks_81 : decode cL_walks 81 = .ok (.iload 13, 2) := by decide +kernel
theorem dL_walks_83 : decode cL_walks 83 = .ok (.iload_n 2, 1) := by decide +kernel
theorem dL_walks_84 : decode cL_walks 84 = .ok (.if_icmp .ge 62, 3) := by decide +kernel
theorem dL_walks_87 : decode cL_walks 87 = .ok (.iload 10, 2) := by decide +kernel
theorem dL_walks_89 : decode cL_walks 89 = .ok (.ifCond .le 57, 3) := by decide +kernel
theorem dL_walks_92 : decode cL_walks 92 = .ok (.iload 13, 2) := by decide +kernel
theorem dL_walks_94 : decode cL_walks 94 = .ok (.iload 7, 2) := by decide +kernel
theorem dL_walks_96 : decode cL_walks 96 = .ok (.bipush 18, 2) := by decide +kernel
theorem dL_walks_98 : decode cL_walks 98 = .ok (.iload 10, 2) := by decide +kernel
theorem dL_walks_100 : decode cL_walks 100 = .ok (.iadd, 1) := by decide +kernel
theorem dL_walks_101 : decode cL_walks 101 = .ok (.ishr, 1) := by decide +kernel
theorem dL_walks_102 : decode cL_walks 102 = .ok (.iadd, 1) := by decide +kernel
theorem dL_walks_103 : decode cL_walks 103 = .ok (.iload_n 2, 1) := by decide +kernel
theorem dL_walks_104 : decode cL_walks 104 = .ok (.irem, 1) := by decide +kernel
theorem dL_walks_105 : decode cL_walks 105 = .ok (.istore 14, 2) := by decide +kernel
theorem dL_walks_107 : decode cL_walks 107 = .ok (.iload 12, 2) := by decide +kernel
theorem dL_walks_109 : decode cL_walks 109 = .ok (.ifCond .ge 27, 3) := by decide +kernel
theorem dL_walks_112 : decode cL_walks 112 = .ok (.iload 14, 2) := by decide +kernel
theorem dL_walks_114 : decode cL_walks 114 = .ok (.iload 8, 2) := by decide +kernel
theorem dL_walks_116 : decode cL_walks 116 = .ok (.if_icmp .eq 20, 3) := by decide +kernel
theorem dL_walks_119 : decode cL_walks 119 = .ok (.aload_n 1, 1) := by decide +kernel
theorem dL_walks_120 : decode cL_walks 120 = .ok (.iload_n 2, 1) := by decide +kernel
theorem dL_walks_121 : decode cL_walks 121 = .ok (.iload 8, 2) := by decide +kernel
theorem dL_walks_123 : decode cL_walks 123 = .ok (.iload 14, 2) := by decide +kernel
theorem dL_walks_125 : decode cL_walks 125 = .ok (.invokestatic 25, 3) := by decide +kernel
theorem dL_walks_128 : decode cL_walks 128 = .ok (.ifCond .ne 8, 3) := by decide +kernel
theorem dL_walks_131 : decode cL_walks 131 = .ok (.iload 14, 2) := by decide +kernel
theorem dL_walks_133 : decode cL_walks 133 = .ok (.goto 5, 3) := by decide +kernel
theorem dL_walks_136 : decode cL_walks 136 = .ok (.iload 12, 2) := by decide +kernel
theorem dL_walks_138 : decode cL_walks 138 = .ok (.istore 12, 2) := by decide +kernel
theorem dL_walks_140 : decode cL_walks 140 = .ok (.iinc 13 1, 3) := by decide +kernel
theorem dL_walks_143 : decode cL_walks 143 = .ok (.goto (-62), 3) := by decide +kernel
theorem dL_walks_146 : decode cL_walks 146 = .ok (.iload 10, 2) := by decide +kernel
theorem dL_walks_148 : decode cL_walks 148 = .ok (.ifCond .eq 8, 3) := by decide +kernel
theorem dL_walks_151 : decode cL_walks 151 = .ok (.iload 12, 2) := by decide +kernel
theorem dL_walks_153 : decode cL_walks 153 = .ok (.ifCond .lt 85, 3) := by decide +kernel
theorem dL_walks_156 : decode cL_walks 156 = .ok (.iload 10, 2) := by decide +kernel
theorem dL_walks_158 : decode cL_walks 158 = .ok (.ifCond .ne 8, 3) := by decide +kernel
theorem dL_walks_161 : decode cL_walks 161 = .ok (.iload 8, 2) := by decide +kernel
theorem dL_walks_163 : decode cL_walks 163 = .ok (.goto 5, 3) := by decide +kernel
theorem dL_walks_166 : decode cL_walks 166 = .ok (.iload 12, 2) := by decide +kernel
theorem dL_walks_168 : decode cL_walks 168 = .ok (.istore 8, 2) := by decide +kernel
theorem dL_walks_170 : decode cL_walks 170 = .ok (.aload_n 0, 1) := by decide +kernel
theorem dL_walks_171 : decode cL_walks 171 = .ok (.ldc2_w 28, 3) := by decide +kernel
theorem dL_walks_174 : decode cL_walks 174 = .ok (.iload 8, 2) := by decide +kernel
theorem dL_walks_176 : decode cL_walks 176 = .ok (.i2l, 1) := by decide +kernel
theorem dL_walks_177 : decode cL_walks 177 = .ok (.ladd, 1) := by decide +kernel
theorem dL_walks_178 : decode cL_walks 178 = .ok (.iconst 1, 1) := by decide +kernel
theorem dL_walks_179 : decode cL_walks 179 = .ok (.invokevirtual 30, 3) := by decide +kernel
theorem dL_walks_182 : decode cL_walks 182 = .ok (.ifCond .le 22, 3) := by decide +kernel
theorem dL_walks_185 : decode cL_walks 185 = .ok (.aload_n 0, 1) := by decide +kernel
theorem dL_walks_186 : decode cL_walks 186 = .ok (.ldc2_w 34, 3) := by decide +kernel
theorem dL_walks_189 : decode cL_walks 189 = .ok (.iload 11, 2) := by decide +kernel
theorem dL_walks_191 : decode cL_walks 191 = .ok (.i2l, 1) := by decide +kernel
theorem dL_walks_192 : decode cL_walks 192 = .ok (.ladd, 1) := by decide +kernel
theorem dL_walks_193 : decode cL_walks 193 = .ok (.iconst 1, 1) := by decide +kernel
theorem dL_walks_194 : decode cL_walks 194 = .ok (.invokevirtual 30, 3) := by decide +kernel
theorem dL_walks_197 : decode cL_walks 197 = .ok (.ifCond .le 7, 3) := by decide +kernel
theorem dL_walks_200 : decode cL_walks 200 = .ok (.iconst 1, 1) := by decide +kernel
theorem dL_walks_201 : decode cL_walks 201 = .ok (.goto 4, 3) := by decide +kernel
theorem dL_walks_204 : decode cL_walks 204 = .ok (.iconst 0, 1) := by decide +kernel
theorem dL_walks_205 : decode cL_walks 205 = .ok (.istore 5, 2) := by decide +kernel
theorem dL_walks_207 : decode cL_walks 207 = .ok (.iconst 0, 1) := by decide +kernel
theorem dL_walks_208 : decode cL_walks 208 = .ok (.istore 13, 2) := by decide +kernel
theorem dL_walks_210 : decode cL_walks 210 = .ok (.iload 13, 2) := by decide +kernel
theorem dL_walks_212 : decode cL_walks 212 = .ok (.iload 11, 2) := by decide +kernel
theorem dL_walks_214 : decode cL_walks 214 = .ok (.if_icmp .ge 24, 3) := by decide +kernel
theorem dL_walks_217 : decode cL_walks 217 = .ok (.aload_n 3, 1) := by decide +kernel
theorem dL_walks_218 : decode cL_walks 218 = .ok (.bipush 24, 2) := by decide +kernel
theorem dL_walks_220 : decode cL_walks 220 = .ok (.iload 6, 2) := by decide +kernel
theorem dL_walks_222 : decode cL_walks 222 = .ok (.imul, 1) := by decide +kernel
theorem dL_walks_223 : decode cL_walks 223 = .ok (.iload 9, 2) := by decide +kernel
theorem dL_walks_225 : decode cL_walks 225 = .ok (.iadd, 1) := by decide +kernel
theorem dL_walks_226 : decode cL_walks 226 = .ok (.iload 8, 2) := by decide +kernel
theorem dL_walks_228 : decode cL_walks 228 = .ok (.iastore, 1) := by decide +kernel
theorem dL_walks_229 : decode cL_walks 229 = .ok (.iinc 9 1, 3) := by decide +kernel
theorem dL_walks_232 : decode cL_walks 232 = .ok (.iinc 13 1, 3) := by decide +kernel
theorem dL_walks_235 : decode cL_walks 235 = .ok (.goto (-25), 3) := by decide +kernel
theorem dL_walks_238 : decode cL_walks 238 = .ok (.iinc 10 1, 3) := by decide +kernel
theorem dL_walks_241 : decode cL_walks 241 = .ok (.goto (-192), 3) := by decide +kernel
theorem dL_walks_244 : decode cL_walks 244 = .ok (.iload 9, 2) := by decide +kernel
theorem dL_walks_246 : decode cL_walks 246 = .ok (.bipush 24, 2) := by decide +kernel
theorem dL_walks_248 : decode cL_walks 248 = .ok (.if_icmp .ge 21, 3) := by decide +kernel
theorem dL_walks_251 : decode cL_walks 251 = .ok (.aload_n 3, 1) := by decide +kernel
theorem dL_walks_252 : decode cL_walks 252 = .ok (.bipush 24, 2) := by decide +kernel
theorem dL_walks_254 : decode cL_walks 254 = .ok (.iload 6, 2) := by decide +kernel
theorem dL_walks_256 : decode cL_walks 256 = .ok (.imul, 1) := by decide +kernel
theorem dL_walks_257 : decode cL_walks 257 = .ok (.iload 9, 2) := by decide +kernel
theorem dL_walks_259 : decode cL_walks 259 = .ok (.iadd, 1) := by decide +kernel
theorem dL_walks_260 : decode cL_walks 260 = .ok (.iload 8, 2) := by decide +kernel
theorem dL_walks_262 : decode cL_walks 262 = .ok (.iastore, 1) := by decide +kernel
theorem dL_walks_263 : decode cL_walks 263 = .ok (.iinc 9 1, 3) := by decide +kernel
theorem dL_walks_266 : decode cL_walks 266 = .ok (.goto (-22), 3) := by decide +kernel
theorem dL_walks_269 : decode cL_walks 269 = .ok (.iload 5, 2) := by decide +kernel
theorem dL_walks_271 : decode cL_walks 271 = .ok (.ifCond .eq 16, 3) := by decide +kernel
theorem dL_walks_274 : decode cL_walks 274 = .ok (.aload_n 0, 1) := by decide +kernel
theorem dL_walks_275 : decode cL_walks 275 = .ok (.invokevirtual 36, 3) := by decide +kernel
theorem dL_walks_278 : decode cL_walks 278 = .ok (.iload 6, 2) := by decide +kernel
theorem dL_walks_280 : decode cL_walks 280 = .ok (.if_icmp .ne 7, 3) := by decide +kernel
theorem dL_walks_283 : decode cL_walks 283 = .ok (.iconst 1, 1) := by decide +kernel
theorem dL_walks_284 : decode cL_walks 284 = .ok (.goto 4, 3) := by decide +kernel
theorem dL_walks_287 : decode cL_walks 287 = .ok (.iconst 0, 1) := by decide +kernel
theorem dL_walks_288 : decode cL_walks 288 = .ok (.istore 5, 2) := by decide +kernel
theorem dL_walks_290 : decode cL_walks 290 = .ok (.iinc 6 1, 3) := by decide +kernel
theorem dL_walks_293 : decode cL_walks 293 = .ok (.goto (-278), 3) := by decide +kernel
theorem dL_walks_296 : decode cL_walks 296 = .ok (.iload 5, 2) := by decide +kernel
theorem dL_walks_298 : decode cL_walks 298 = .ok (.ifCond .eq 8, 3) := by decide +kernel
theorem dL_walks_301 : decode cL_walks 301 = .ok (.iload 4, 2) := by decide +kernel
theorem dL_walks_303 : decode cL_walks 303 = .ok (.goto 4, 3) := by decide +kernel
theorem dL_walks_306 : decode cL_walks 306 = .ok (.iconst (-1), 1) := by decide +kernel
theorem dL_walks_307 : decode cL_walks 307 = .ok (.ireturn, 1) := by decide +kernel
theorem dL_hires_0 : decode cL_hires 0 = .ok (.iconst 1, 1) := by decide +kernel
theorem dL_hires_1 : decode cL_hires 1 = .ok (.aload_n 1, 1) := by decide +kernel
theorem dL_hires_2 : decode cL_hires 2 = .ok (.iconst 4, 1) := by decide +kernel
theorem dL_hires_3 : decode cL_hires 3 = .ok (.invokestatic 9, 3) := by decide +kernel
theorem dL_hires_6 : decode cL_hires 6 = .ok (.iconst 3, 1) := by decide +kernel
theorem dL_hires_7 : decode cL_hires 7 = .ok (.irem, 1) := by decide +kernel
theorem dL_hires_8 : decode cL_hires 8 = .ok (.iadd, 1) := by decide +kernel
theorem dL_hires_9 : decode cL_hires 9 = .ok (.istore_n 3, 1) := by decide +kernel
theorem dL_hires_10 : decode cL_hires 10 = .ok (.aload_n 0, 1) := by decide +kernel
theorem dL_hires_11 : decode cL_hires 11 = .ok (.aload_n 1, 1) := by decide +kernel
theorem dL_hires_12 : decode cL_hires 12 = .ok (.iconst 4, 1) := by decide +kernel
theorem dL_hires_13 : decode cL_hires 13 = .ok (.invokestatic 9, 3) := by decide +kernel
theorem dL_hires_16 : decode cL_hires 16 = .ok (.iconst 2, 1) := by decide +kernel
theorem dL_hires_17 : decode cL_hires 17 = .ok (.ishr, 1) := by decide +kernel
theorem dL_hires_18 : decode cL_hires 18 = .ok (.iload_n 2, 1) := by decide +kernel
theorem dL_hires_19 : decode cL_hires 19 = .ok (.irem, 1) := by decide +kernel
theorem dL_hires_20 : decode cL_hires 20 = .ok (.invokevirtual 39, 3) := by decide +kernel
theorem dL_hires_23 : decode cL_hires 23 = .ok (.ifCond .ne 7, 3) := by decide +kernel
theorem dL_hires_26 : decode cL_hires 26 = .ok (.iconst 1, 1) := by decide +kernel
theorem dL_hires_27 : decode cL_hires 27 = .ok (.goto 4, 3) := by decide +kernel
theorem dL_hires_30 : decode cL_hires 30 = .ok (.iconst 0, 1) := by decide +kernel
theorem dL_hires_31 : decode cL_hires 31 = .ok (.istore 4, 2) := by decide +kernel
theorem dL_hires_33 : decode cL_hires 33 = .ok (.iconst 0, 1) := by decide +kernel
theorem dL_hires_34 : decode cL_hires 34 = .ok (.istore 5, 2) := by decide +kernel
theorem dL_hires_36 : decode cL_hires 36 = .ok (.iload 5, 2) := by decide +kernel
theorem dL_hires_38 : decode cL_hires 38 = .ok (.iload_n 3, 1) := by decide +kernel
theorem dL_hires_39 : decode cL_hires 39 = .ok (.if_icmp .ge 45, 3) := by decide +kernel
theorem dL_hires_42 : decode cL_hires 42 = .ok (.iload 4, 2) := by decide +kernel
theorem dL_hires_44 : decode cL_hires 44 = .ok (.ifCond .eq 40, 3) := by decide +kernel
theorem dL_hires_47 : decode cL_hires 47 = .ok (.aload_n 0, 1) := by decide +kernel
theorem dL_hires_48 : decode cL_hires 48 = .ok (.aload_n 1, 1) := by decide +kernel
theorem dL_hires_49 : decode cL_hires 49 = .ok (.iconst 4, 1) := by decide +kernel
theorem dL_hires_50 : decode cL_hires 50 = .ok (.invokestatic 9, 3) := by decide +kernel
theorem dL_hires_53 : decode cL_hires 53 = .ok (.bipush 6, 2) := by decide +kernel
theorem dL_hires_55 : decode cL_hires 55 = .ok (.iconst 4, 1) := by decide +kernel
theorem dL_hires_56 : decode cL_hires 56 = .ok (.iload 5, 2) := by decide +kernel
theorem dL_hires_58 : decode cL_hires 58 = .ok (.imul, 1) := by decide +kernel
theorem dL_hires_59 : decode cL_hires 59 = .ok (.iadd, 1) := by decide +kernel
theorem dL_hires_60 : decode cL_hires 60 = .ok (.ishr, 1) := by decide +kernel
theorem dL_hires_61 : decode cL_hires 61 = .ok (.iload_n 2, 1) := by decide +kernel
theorem dL_hires_62 : decode cL_hires 62 = .ok (.irem, 1) := by decide +kernel
theorem dL_hires_63 : decode cL_hires 63 = .ok (.invokevirtual 43, 3) := by decide +kernel
theorem dL_hires_66 : decode cL_hires 66 = .ok (.iload 5, 2) := by decide +kernel
theorem dL_hires_68 : decode cL_hires 68 = .ok (.if_icmp .ne 7, 3) := by decide +kernel
theorem dL_hires_71 : decode cL_hires 71 = .ok (.iconst 1, 1) := by decide +kernel
theorem dL_hires_72 : decode cL_hires 72 = .ok (.goto 4, 3) := by decide +kernel
theorem dL_hires_75 : decode cL_hires 75 = .ok (.iconst 0, 1) := by decide +kernel
theorem dL_hires_76 : decode cL_hires 76 = .ok (.istore 4, 2) := by decide +kernel
theorem dL_hires_78 : decode cL_hires 78 = .ok (.iinc 5 1, 3) := by decide +kernel
theorem dL_hires_81 : decode cL_hires 81 = .ok (.goto (-45), 3) := by decide +kernel
theorem dL_hires_84 : decode cL_hires 84 = .ok (.iconst 1, 1) := by decide +kernel
theorem dL_hires_85 : decode cL_hires 85 = .ok (.aload_n 1, 1) := by decide +kernel
theorem dL_hires_86 : decode cL_hires 86 = .ok (.iconst 4, 1) := by decide +kernel
theorem dL_hires_87 : decode cL_hires 87 = .ok (.invokestatic 9, 3) := by decide +kernel
theorem dL_hires_90 : decode cL_hires 90 = .ok (.bipush 20, 2) := by decide +kernel
theorem dL_hires_92 : decode cL_hires 92 = .ok (.ishr, 1) := by decide +kernel
theorem dL_hires_93 : decode cL_hires 93 = .ok (.iconst 4, 1) := by decide +kernel
theorem dL_hires_94 : decode cL_hires 94 = .ok (.irem, 1) := by decide +kernel
theorem dL_hires_95 : decode cL_hires 95 = .ok (.iadd, 1) := by decide +kernel
theorem dL_hires_96 : decode cL_hires 96 = .ok (.istore 5, 2) := by decide +kernel
theorem dL_hires_98 : decode cL_hires 98 = .ok (.iconst 0, 1) := by decide +kernel
theorem dL_hires_99 : decode cL_hires 99 = .ok (.istore 6, 2) := by decide +kernel
theorem dL_hires_101 : decode cL_hires 101 = .ok (.iload 6, 2) := by decide +kernel
theorem dL_hires_103 : decode cL_hires 103 = .ok (.iload 5, 2) := by decide +kernel
theorem dL_hires_105 : decode cL_hires 105 = .ok (.if_icmp .ge 82, 3) := by decide +kernel
theorem dL_hires_108 : decode cL_hires 108 = .ok (.iload 4, 2) := by decide +kernel
theorem dL_hires_110 : decode cL_hires 110 = .ok (.ifCond .eq 77, 3) := by decide +kernel
theorem dL_hires_113 : decode cL_hires 113 = .ok (.aload_n 1, 1) := by decide +kernel
theorem dL_hires_114 : decode cL_hires 114 = .ok (.iconst 5, 1) := by decide +kernel
theorem dL_hires_115 : decode cL_hires 115 = .ok (.iload 6, 2) := by decide +kernel
theorem dL_hires_117 : decode cL_hires 117 = .ok (.iadd, 1) := by decide +kernel
theorem dL_hires_118 : decode cL_hires 118 = .ok (.invokestatic 9, 3) := by decide +kernel
theorem dL_hires_121 : decode cL_hires 121 = .ok (.istore 7, 2) := by decide +kernel
theorem dL_hires_123 : decode cL_hires 123 = .ok (.iload 7, 2) := by decide +kernel
theorem dL_hires_125 : decode cL_hires 125 = .ok (.bipush 8, 2) := by decide +kernel
theorem dL_hires_127 : decode cL_hires 127 = .ok (.ishr, 1) := by decide +kernel
theorem dL_hires_128 : decode cL_hires 128 = .ok (.bipush 16, 2) := by decide +kernel
theorem dL_hires_130 : decode cL_hires 130 = .ok (.irem, 1) := by decide +kernel
theorem dL_hires_131 : decode cL_hires 131 = .ok (.istore 8, 2) := by decide +kernel
theorem dL_hires_133 : decode cL_hires 133 = .ok (.aload_n 0, 1) := by decide +kernel
theorem dL_hires_134 : decode cL_hires 134 = .ok (.iload 7, 2) := by decide +kernel
theorem dL_hires_136 : decode cL_hires 136 = .ok (.iconst 1, 1) := by decide +kernel
theorem dL_hires_137 : decode cL_hires 137 = .ok (.iand, 1) := by decide +kernel
theorem dL_hires_138 : decode cL_hires 138 = .ok (.iload 7, 2) := by decide +kernel
theorem dL_hires_140 : decode cL_hires 140 = .ok (.iconst 1, 1) := by decide +kernel
theorem dL_hires_141 : decode cL_hires 141 = .ok (.ishr, 1) := by decide +kernel
theorem dL_hires_142 : decode cL_hires 142 = .ok (.iload_n 2, 1) := by decide +kernel
theorem dL_hires_143 : decode cL_hires 143 = .ok (.irem, 1) := by decide +kernel
theorem dL_hires_144 : decode cL_hires 144 = .ok (.iconst 1, 1) := by decide +kernel
theorem dL_hires_145 : decode cL_hires 145 = .ok (.iload 7, 2) := by decide +kernel
theorem dL_hires_147 : decode cL_hires 147 = .ok (.iconst 5, 1) := by decide +kernel
theorem dL_hires_148 : decode cL_hires 148 = .ok (.ishr, 1) := by decide +kernel
theorem dL_hires_149 : decode cL_hires 149 = .ok (.bipush 9, 2) := by decide +kernel
theorem dL_hires_151 : decode cL_hires 151 = .ok (.irem, 1) := by decide +kernel
theorem dL_hires_152 : decode cL_hires 152 = .ok (.iadd, 1) := by decide +kernel
theorem dL_hires_153 : decode cL_hires 153 = .ok (.iload 8, 2) := by decide +kernel
theorem dL_hires_155 : decode cL_hires 155 = .ok (.iload 8, 2) := by decide +kernel
theorem dL_hires_157 : decode cL_hires 157 = .ok (.iload 7, 2) := by decide +kernel
theorem dL_hires_159 : decode cL_hires 159 = .ok (.bipush 12, 2) := by decide +kernel
theorem dL_hires_161 : decode cL_hires 161 = .ok (.ishr, 1) := by decide +kernel
theorem dL_hires_162 : decode cL_hires 162 = .ok (.bipush 8, 2) := by decide +kernel
theorem dL_hires_164 : decode cL_hires 164 = .ok (.irem, 1) := by decide +kernel
theorem dL_hires_165 : decode cL_hires 165 = .ok (.iadd, 1) := by decide +kernel
theorem dL_hires_166 : decode cL_hires 166 = .ok (.invokevirtual 46, 3) := by decide +kernel
theorem dL_hires_169 : decode cL_hires 169 = .ok (.iload 6, 2) := by decide +kernel
theorem dL_hires_171 : decode cL_hires 171 = .ok (.if_icmp .ne 7, 3) := by decide +kernel
theorem dL_hires_174 : decode cL_hires 174 = .ok (.iconst 1, 1) := by decide +kernel
theorem dL_hires_175 : decode cL_hires 175 = .ok (.goto 4, 3) := by decide +kernel
theorem dL_hires_178 : decode cL_hires 178 = .ok (.iconst 0, 1) := by decide +kernel
theorem dL_hires_179 : decode cL_hires 179 = .ok (.istore 4, 2) := by decide +kernel
theorem dL_hires_181 : decode cL_hires 181 = .ok (.iinc 6 1, 3) := by decide +kernel
theorem dL_hires_184 : decode cL_hires 184 = .ok (.goto (-83), 3) := by decide +kernel
theorem dL_hires_187 : decode cL_hires 187 = .ok (.iload 4, 2) := by decide +kernel
theorem dL_hires_189 : decode cL_hires 189 = .ok (.ifCond .eq 8, 3) := by decide +kernel
theorem dL_hires_192 : decode cL_hires 192 = .ok (.iload 5, 2) := by decide +kernel
theorem dL_hires_194 : decode cL_hires 194 = .ok (.goto 4, 3) := by decide +kernel
theorem dL_hires_197 : decode cL_hires 197 = .ok (.iconst (-1), 1) := by decide +kernel
theorem dL_hires_198 : decode cL_hires 198 = .ok (.ireturn, 1) := by decide +kernel
theorem dL_law_0 : decode cL_law 0 = .ok (.new 16, 3) := by decide +kernel
theorem dL_law_3 : decode cL_law 3 = .ok (.dup, 1) := by decide +kernel
theorem dL_law_4 : decode cL_law 4 = .ok (.invokespecial 50, 3) := by decide +kernel
theorem dL_law_7 : decode cL_law 7 = .ok (.astore_n 1, 1) := by decide +kernel
theorem dL_law_8 : decode cL_law 8 = .ok (.aload_n 1, 1) := by decide +kernel
theorem dL_law_9 : decode cL_law 9 = .ok (.aload_n 0, 1) := by decide +kernel
theorem dL_law_10 : decode cL_law 10 = .ok (.invokestatic 51, 3) := by decide +kernel
theorem dL_law_13 : decode cL_law 13 = .ok (.istore_n 2, 1) := by decide +kernel
theorem dL_law_14 : decode cL_law 14 = .ok (.bipush 48, 2) := by decide +kernel
theorem dL_law_16 : decode cL_law 16 = .ok (.newarray .int, 2) := by decide +kernel
theorem dL_law_18 : decode cL_law 18 = .ok (.astore_n 3, 1) := by decide +kernel
theorem dL_law_19 : decode cL_law 19 = .ok (.iload_n 2, 1) := by decide +kernel
theorem dL_law_20 : decode cL_law 20 = .ok (.ifCond .le 13, 3) := by decide +kernel
theorem dL_law_23 : decode cL_law 23 = .ok (.aload_n 1, 1) := by decide +kernel
theorem dL_law_24 : decode cL_law 24 = .ok (.aload_n 0, 1) := by decide +kernel
theorem dL_law_25 : decode cL_law 25 = .ok (.iload_n 2, 1) := by decide +kernel
theorem dL_law_26 : decode cL_law 26 = .ok (.aload_n 3, 1) := by decide +kernel
theorem dL_law_27 : decode cL_law 27 = .ok (.invokestatic 55, 3) := by decide +kernel
theorem dL_law_30 : decode cL_law 30 = .ok (.goto 4, 3) := by decide +kernel
theorem dL_law_33 : decode cL_law 33 = .ok (.iconst (-1), 1) := by decide +kernel
theorem dL_law_34 : decode cL_law 34 = .ok (.istore 4, 2) := by decide +kernel
theorem dL_law_36 : decode cL_law 36 = .ok (.iload 4, 2) := by decide +kernel
theorem dL_law_38 : decode cL_law 38 = .ok (.ifCond .lt 7, 3) := by decide +kernel
theorem dL_law_41 : decode cL_law 41 = .ok (.iconst 1, 1) := by decide +kernel
theorem dL_law_42 : decode cL_law 42 = .ok (.goto 4, 3) := by decide +kernel
theorem dL_law_45 : decode cL_law 45 = .ok (.iconst 0, 1) := by decide +kernel
theorem dL_law_46 : decode cL_law 46 = .ok (.istore 5, 2) := by decide +kernel
theorem dL_law_48 : decode cL_law 48 = .ok (.iconst 0, 1) := by decide +kernel
theorem dL_law_49 : decode cL_law 49 = .ok (.istore 6, 2) := by decide +kernel
theorem dL_law_51 : decode cL_law 51 = .ok (.iload 6, 2) := by decide +kernel
theorem dL_law_53 : decode cL_law 53 = .ok (.bipush 6, 2) := by decide +kernel
theorem dL_law_55 : decode cL_law 55 = .ok (.if_icmp .ge 255, 3) := by decide +kernel
theorem dL_law_58 : decode cL_law 58 = .ok (.iload 5, 2) := by decide +kernel
theorem dL_law_60 : decode cL_law 60 = .ok (.ifCond .eq 250, 3) := by decide +kernel
theorem dL_law_63 : decode cL_law 63 = .ok (.aload_n 0, 1) := by decide +kernel
theorem dL_law_64 : decode cL_law 64 = .ok (.bipush 9, 2) := by decide +kernel
theorem dL_law_66 : decode cL_law 66 = .ok (.iload 6, 2) := by decide +kernel
theorem dL_law_68 : decode cL_law 68 = .ok (.iadd, 1) := by decide +kernel
theorem dL_law_69 : decode cL_law 69 = .ok (.invokestatic 9, 3) := by decide +kernel
theorem dL_law_72 : decode cL_law 72 = .ok (.istore 7, 2) := by decide +kernel
theorem dL_law_74 : decode cL_law 74 = .ok (.iload 7, 2) := by decide +kernel
theorem dL_law_76 : decode cL_law 76 = .ok (.iload_n 2, 1) := by decide +kernel
theorem dL_law_77 : decode cL_law 77 = .ok (.irem, 1) := by decide +kernel
theorem dL_law_78 : decode cL_law 78 = .ok (.istore 8, 2) := by decide +kernel
theorem dL_law_80 : decode cL_law 80 = .ok (.iload 7, 2) := by decide +kernel
theorem dL_law_82 : decode cL_law 82 = .ok (.iconst 4, 1) := by decide +kernel
theorem dL_law_83 : decode cL_law 83 = .ok (.ishr, 1) := by decide +kernel
theorem dL_law_84 : decode cL_law 84 = .ok (.iload_n 2, 1) := by decide +kernel
theorem dL_law_85 : decode cL_law 85 = .ok (.irem, 1) := by decide +kernel
theorem dL_law_86 : decode cL_law 86 = .ok (.istore 9, 2) := by decide +kernel
theorem dL_law_88 : decode cL_law 88 = .ok (.iload 7, 2) := by decide +kernel
theorem dL_law_90 : decode cL_law 90 = .ok (.bipush 8, 2) := by decide +kernel
theorem dL_law_92 : decode cL_law 92 = .ok (.ishr, 1) := by decide +kernel
theorem dL_law_93 : decode cL_law 93 = .ok (.bipush 24, 2) := by decide +kernel
theorem dL_law_95 : decode cL_law 95 = .ok (.irem, 1) := by decide +kernel
theorem dL_law_96 : decode cL_law 96 = .ok (.istore 10, 2) := by decide +kernel
theorem dL_law_98 : decode cL_law 98 = .ok (.aload_n 1, 1) := by decide +kernel
theorem dL_law_99 : decode cL_law 99 = .ok (.iload 8, 2) := by decide +kernel
theorem dL_law_101 : decode cL_law 101 = .ok (.iload 10, 2) := by decide +kernel
theorem dL_law_103 : decode cL_law 103 = .ok (.iload 9, 2) := by decide +kernel
theorem dL_law_105 : decode cL_law 105 = .ok (.iconst 1, 1) := by decide +kernel
theorem dL_law_106 : decode cL_law 106 = .ok (.iconst (-1), 1) := by decide +kernel
theorem dL_law_107 : decode cL_law 107 = .ok (.invokevirtual 59, 3) := by decide +kernel
theorem dL_law_110 : decode cL_law 110 = .ok (.istore 11, 2) := by decide +kernel
theorem dL_law_112 : decode cL_law 112 = .ok (.aload_n 1, 1) := by decide +kernel
theorem dL_law_113 : decode cL_law 113 = .ok (.iload 8, 2) := by decide +kernel
theorem dL_law_115 : decode cL_law 115 = .ok (.iload 10, 2) := by decide +kernel
theorem dL_law_117 : decode cL_law 117 = .ok (.iload 9, 2) := by decide +kernel
theorem dL_law_119 : decode cL_law 119 = .ok (.iconst 0, 1) := by decide +kernel
theorem dL_law_120 : decode cL_law 120 = .ok (.iconst (-1), 1) := by decide +kernel
theorem dL_law_121 : decode cL_law 121 = .ok (.invokevirtual 59, 3) := by decide +kernel
theorem dL_law_124 : decode cL_law 124 = .ok (.istore 12, 2) := by decide +kernel
theorem dL_law_126 : decode cL_law 126 = .ok (.iload 11, 2) := by decide +kernel
theorem dL_law_128 : decode cL_law 128 = .ok (.ifCond .lt 15, 3) := by decide +kernel
theorem dL_law_131 : decode cL_law 131 = .ok (.iload 12, 2) := by decide +kernel
theorem dL_law_133 : decode cL_law 133 = .ok (.ifCond .lt 14, 3) := by decide +kernel
theorem dL_law_136 : decode cL_law 136 = .ok (.iload 12, 2) := by decide +kernel
theorem dL_law_138 : decode cL_law 138 = .ok (.iload 11, 2) := by decide +kernel
theorem dL_law_140 : decode cL_law 140 = .ok (.if_icmp .gt 7, 3) := by decide +kernel
theorem dL_law_143 : decode cL_law 143 = .ok (.iconst 1, 1) := by decide +kernel
theorem dL_law_144 : decode cL_law 144 = .ok (.goto 4, 3) := by decide +kernel
theorem dL_law_147 : decode cL_law 147 = .ok (.iconst 0, 1) := by decide +kernel
theorem dL_law_148 : decode cL_law 148 = .ok (.istore 5, 2) := by decide +kernel
theorem dL_law_150 : decode cL_law 150 = .ok (.iload 10, 2) := by decide +kernel
theorem dL_law_152 : decode cL_law 152 = .ok (.istore 13, 2) := by decide +kernel
theorem dL_law_154 : decode cL_law 154 = .ok (.iload 13, 2) := by decide +kernel
theorem dL_law_156 : decode cL_law 156 = .ok (.iload 11, 2) := by decide +kernel
theorem dL_law_158 : decode cL_law 158 = .ok (.if_icmp .gt 146, 3) := by decide +kernel
theorem dL_law_161 : decode cL_law 161 = .ok (.iload 5, 2) := by decide +kernel
theorem dL_law_163 : decode cL_law 163 = .ok (.ifCond .eq 141, 3) := by decide +kernel
theorem dL_law_166 : decode cL_law 166 = .ok (.aload_n 1, 1) := by decide +kernel
theorem dL_law_167 : decode cL_law 167 = .ok (.iload 8, 2) := by decide +kernel
theorem dL_law_169 : decode cL_law 169 = .ok (.iload 10, 2) := by decide +kernel
theorem dL_law_171 : decode cL_law 171 = .ok (.iload 9, 2) := by decide +kernel
theorem dL_law_173 : decode cL_law 173 = .ok (.iconst 1, 1) := by decide +kernel
theorem dL_law_174 : decode cL_law 174 = .ok (.iload 13, 2) := by decide +kernel
theorem dL_law_176 : decode cL_law 176 = .ok (.invokevirtual 59, 3) := by decide +kernel
theorem dL_law_179 : decode cL_law 179 = .ok (.istore 14, 2) := by decide +kernel
theorem dL_law_181 : decode cL_law 181 = .ok (.iload 14, 2) := by decide +kernel
theorem dL_law_183 : decode cL_law 183 = .ok (.ifCond .lt 7, 3) := by decide +kernel
theorem dL_law_186 : decode cL_law 186 = .ok (.iconst 1, 1) := by decide +kernel
theorem dL_law_187 : decode cL_law 187 = .ok (.goto 4, 3) := by decide +kernel
theorem dL_law_190 : decode cL_law 190 = .ok (.iconst 0, 1) := by decide +kernel
theorem dL_law_191 : decode cL_law 191 = .ok (.istore 5, 2) := by decide +kernel
theorem dL_law_193 : decode cL_law 193 = .ok (.iconst 0, 1) := by decide +kernel
theorem dL_law_194 : decode cL_law 194 = .ok (.istore 15, 2) := by decide +kernel
theorem dL_law_196 : decode cL_law 196 = .ok (.iload 15, 2) := by decide +kernel
theorem dL_law_198 : decode cL_law 198 = .ok (.iload 4, 2) := by decide +kernel
theorem dL_law_200 : decode cL_law 200 = .ok (.if_icmp .ge 98, 3) := by decide +kernel
theorem dL_law_203 : decode cL_law 203 = .ok (.iload 5, 2) := by decide +kernel
theorem dL_law_205 : decode cL_law 205 = .ok (.ifCond .eq 93, 3) := by decide +kernel
theorem dL_law_208 : decode cL_law 208 = .ok (.aload_n 1, 1) := by decide +kernel
theorem dL_law_209 : decode cL_law 209 = .ok (.iload 15, 2) := by decide +kernel
theorem dL_law_211 : decode cL_law 211 = .ok (.iload 13, 2) := by decide +kernel
theorem dL_law_213 : decode cL_law 213 = .ok (.invokevirtual 63, 3) := by decide +kernel
theorem dL_law_216 : decode cL_law 216 = .ok (.iload 14, 2) := by decide +kernel
theorem dL_law_218 : decode cL_law 218 = .ok (.if_icmp .eq 7, 3) := by decide +kernel
theorem dL_law_221 : decode cL_law 221 = .ok (.iconst 1, 1) := by decide +kernel
theorem dL_law_222 : decode cL_law 222 = .ok (.goto 4, 3) := by decide +kernel
theorem dL_law_225 : decode cL_law 225 = .ok (.iconst 0, 1) := by decide +kernel
theorem dL_law_226 : decode cL_law 226 = .ok (.istore 5, 2) := by decide +kernel
theorem dL_law_228 : decode cL_law 228 = .ok (.iload 13, 2) := by decide +kernel
theorem dL_law_230 : decode cL_law 230 = .ok (.iload 11, 2) := by decide +kernel
theorem dL_law_232 : decode cL_law 232 = .ok (.if_icmp .ge 60, 3) := by decide +kernel
theorem dL_law_235 : decode cL_law 235 = .ok (.aload_n 1, 1) := by decide +kernel
theorem dL_law_236 : decode cL_law 236 = .ok (.iload 8, 2) := by decide +kernel
theorem dL_law_238 : decode cL_law 238 = .ok (.iload 10, 2) := by decide +kernel
theorem dL_law_240 : decode cL_law 240 = .ok (.iload 9, 2) := by decide +kernel
theorem dL_law_242 : decode cL_law 242 = .ok (.iconst 1, 1) := by decide +kernel
theorem dL_law_243 : decode cL_law 243 = .ok (.iload 13, 2) := by decide +kernel
theorem dL_law_245 : decode cL_law 245 = .ok (.iconst 1, 1) := by decide +kernel
theorem dL_law_246 : decode cL_law 246 = .ok (.iadd, 1) := by decide +kernel
theorem dL_law_247 : decode cL_law 247 = .ok (.invokevirtual 59, 3) := by decide +kernel
theorem dL_law_250 : decode cL_law 250 = .ok (.istore 16, 2) := by decide +kernel
theorem dL_law_252 : decode cL_law 252 = .ok (.iload 5, 2) := by decide +kernel
theorem dL_law_254 : decode cL_law 254 = .ok (.ifCond .eq 35, 3) := by decide +kernel
theorem dL_law_257 : decode cL_law 257 = .ok (.aload_n 1, 1) := by decide +kernel
theorem dL_law_258 : decode cL_law 258 = .ok (.iload 15, 2) := by decide +kernel
theorem dL_law_260 : decode cL_law 260 = .ok (.iload 13, 2) := by decide +kernel
theorem dL_law_262 : decode cL_law 262 = .ok (.invokevirtual 63, 3) := by decide +kernel
theorem dL_law_265 : decode cL_law 265 = .ok (.iload 16, 2) := by decide +kernel
theorem dL_law_267 : decode cL_law 267 = .ok (.if_icmp .ne 18, 3) := by decide +kernel
theorem dL_law_270 : decode cL_law 270 = .ok (.aload_n 1, 1) := by decide +kernel
theorem dL_law_271 : decode cL_law 271 = .ok (.iload 15, 2) := by decide +kernel
theorem dL_law_273 : decode cL_law 273 = .ok (.iload 13, 2) := by decide +kernel
theorem dL_law_275 : decode cL_law 275 = .ok (.iconst 1, 1) := by decide +kernel
theorem dL_law_276 : decode cL_law 276 = .ok (.iadd, 1) := by decide +kernel
theorem dL_law_277 : decode cL_law 277 = .ok (.invokevirtual 63, 3) := by decide +kernel
theorem dL_law_280 : decode cL_law 280 = .ok (.iload 14, 2) := by decide +kernel
theorem dL_law_282 : decode cL_law 282 = .ok (.if_icmp .eq 7, 3) := by decide +kernel
theorem dL_law_285 : decode cL_law 285 = .ok (.iconst 1, 1) := by decide +kernel
theorem dL_law_286 : decode cL_law 286 = .ok (.goto 4, 3) := by decide +kernel
theorem dL_law_289 : decode cL_law 289 = .ok (.iconst 0, 1) := by decide +kernel
theorem dL_law_290 : decode cL_law 290 = .ok (.istore 5, 2) := by decide +kernel
theorem dL_law_292 : decode cL_law 292 = .ok (.iinc 15 1, 3) := by decide +kernel
theorem dL_law_295 : decode cL_law 295 = .ok (.goto (-99), 3) := by decide +kernel
theorem dL_law_298 : decode cL_law 298 = .ok (.iinc 13 1, 3) := by decide +kernel
theorem dL_law_301 : decode cL_law 301 = .ok (.goto (-147), 3) := by decide +kernel
theorem dL_law_304 : decode cL_law 304 = .ok (.iinc 6 1, 3) := by decide +kernel
theorem dL_law_307 : decode cL_law 307 = .ok (.goto (-256), 3) := by decide +kernel
theorem dL_law_310 : decode cL_law 310 = .ok (.iload 5, 2) := by decide +kernel
theorem dL_law_312 : decode cL_law 312 = .ok (.ifCond .eq 12, 3) := by decide +kernel
theorem dL_law_315 : decode cL_law 315 = .ok (.aload_n 1, 1) := by decide +kernel
theorem dL_law_316 : decode cL_law 316 = .ok (.aload_n 0, 1) := by decide +kernel
theorem dL_law_317 : decode cL_law 317 = .ok (.iload_n 2, 1) := by decide +kernel
theorem dL_law_318 : decode cL_law 318 = .ok (.invokestatic 67, 3) := by decide +kernel
theorem dL_law_321 : decode cL_law 321 = .ok (.goto 4, 3) := by decide +kernel
theorem dL_law_324 : decode cL_law 324 = .ok (.iconst (-1), 1) := by decide +kernel
theorem dL_law_325 : decode cL_law 325 = .ok (.istore 6, 2) := by decide +kernel
theorem dL_law_327 : decode cL_law 327 = .ok (.iload 5, 2) := by decide +kernel
theorem dL_law_329 : decode cL_law 329 = .ok (.ifCond .eq 12, 3) := by decide +kernel
theorem dL_law_332 : decode cL_law 332 = .ok (.iload 6, 2) := by decide +kernel
theorem dL_law_334 : decode cL_law 334 = .ok (.ifCond .le 7, 3) := by decide +kernel
theorem dL_law_337 : decode cL_law 337 = .ok (.iconst 1, 1) := by decide +kernel
theorem dL_law_338 : decode cL_law 338 = .ok (.goto 4, 3) := by decide +kernel
theorem dL_law_341 : decode cL_law 341 = .ok (.iconst 0, 1) := by decide +kernel
theorem dL_law_342 : decode cL_law 342 = .ok (.istore 5, 2) := by decide +kernel
theorem dL_law_344 : decode cL_law 344 = .ok (.aload_n 1, 1) := by decide +kernel
theorem dL_law_345 : decode cL_law 345 = .ok (.iconst 0, 1) := by decide +kernel
theorem dL_law_346 : decode cL_law 346 = .ok (.invokevirtual 71, 3) := by decide +kernel
theorem dL_law_349 : decode cL_law 349 = .ok (.istore 7, 2) := by decide +kernel
theorem dL_law_351 : decode cL_law 351 = .ok (.aload_n 1, 1) := by decide +kernel
theorem dL_law_352 : decode cL_law 352 = .ok (.iconst 3, 1) := by decide +kernel
theorem dL_law_353 : decode cL_law 353 = .ok (.invokevirtual 74, 3) := by decide +kernel
theorem dL_law_356 : decode cL_law 356 = .ok (.istore 8, 2) := by decide +kernel
theorem dL_law_358 : decode cL_law 358 = .ok (.iconst 0, 1) := by decide +kernel
theorem dL_law_359 : decode cL_law 359 = .ok (.istore 9, 2) := by decide +kernel
theorem dL_law_361 : decode cL_law 361 = .ok (.iload 9, 2) := by decide +kernel
theorem dL_law_363 : decode cL_law 363 = .ok (.iload 8, 2) := by decide +kernel
theorem dL_law_365 : decode cL_law 365 = .ok (.if_icmp .ge 58, 3) := by decide +kernel
theorem dL_law_368 : decode cL_law 368 = .ok (.iload 5, 2) := by decide +kernel
theorem dL_law_370 : decode cL_law 370 = .ok (.ifCond .eq 53, 3) := by decide +kernel
theorem dL_law_373 : decode cL_law 373 = .ok (.iload 8, 2) := by decide +kernel
theorem dL_law_375 : decode cL_law 375 = .ok (.iconst 1, 1) := by decide +kernel
theorem dL_law_376 : decode cL_law 376 = .ok (.if_icmp .le 47, 3) := by decide +kernel
theorem dL_law_379 : decode cL_law 379 = .ok (.aload_n 1, 1) := by decide +kernel
theorem dL_law_380 : decode cL_law 380 = .ok (.iload 9, 2) := by decide +kernel
theorem dL_law_382 : decode cL_law 382 = .ok (.iconst 1, 1) := by decide +kernel
theorem dL_law_383 : decode cL_law 383 = .ok (.invokevirtual 77, 3) := by decide +kernel
theorem dL_law_386 : decode cL_law 386 = .ok (.ifCond .ne 28, 3) := by decide +kernel
theorem dL_law_389 : decode cL_law 389 = .ok (.aload_n 1, 1) := by decide +kernel
theorem dL_law_390 : decode cL_law 390 = .ok (.iconst 0, 1) := by decide +kernel
theorem dL_law_391 : decode cL_law 391 = .ok (.invokevirtual 71, 3) := by decide +kernel
theorem dL_law_394 : decode cL_law 394 = .ok (.iload 7, 2) := by decide +kernel
theorem dL_law_396 : decode cL_law 396 = .ok (.if_icmp .lt 18, 3) := by decide +kernel
theorem dL_law_399 : decode cL_law 399 = .ok (.aload_n 1, 1) := by decide +kernel
theorem dL_law_400 : decode cL_law 400 = .ok (.iload 9, 2) := by decide +kernel
theorem dL_law_402 : decode cL_law 402 = .ok (.iconst 0, 1) := by decide +kernel
theorem dL_law_403 : decode cL_law 403 = .ok (.invokevirtual 77, 3) := by decide +kernel
theorem dL_law_406 : decode cL_law 406 = .ok (.iconst 1, 1) := by decide +kernel
theorem dL_law_407 : decode cL_law 407 = .ok (.if_icmp .ne 7, 3) := by decide +kernel
theorem dL_law_410 : decode cL_law 410 = .ok (.iconst 1, 1) := by decide +kernel
theorem dL_law_411 : decode cL_law 411 = .ok (.goto 4, 3) := by decide +kernel
theorem dL_law_414 : decode cL_law 414 = .ok (.iconst 0, 1) := by decide +kernel
theorem dL_law_415 : decode cL_law 415 = .ok (.istore 5, 2) := by decide +kernel
theorem dL_law_417 : decode cL_law 417 = .ok (.iinc 9 1, 3) := by decide +kernel
theorem dL_law_420 : decode cL_law 420 = .ok (.goto (-59), 3) := by decide +kernel
theorem dL_law_423 : decode cL_law 423 = .ok (.iload 5, 2) := by decide +kernel
theorem dL_law_425 : decode cL_law 425 = .ok (.ifCond .eq 15, 3) := by decide +kernel
theorem dL_law_428 : decode cL_law 428 = .ok (.aload_n 1, 1) := by decide +kernel
theorem dL_law_429 : decode cL_law 429 = .ok (.invokevirtual 81, 3) := by decide +kernel
theorem dL_law_432 : decode cL_law 432 = .ok (.iconst 1, 1) := by decide +kernel
theorem dL_law_433 : decode cL_law 433 = .ok (.if_icmp .ne 7, 3) := by decide +kernel
theorem dL_law_436 : decode cL_law 436 = .ok (.iconst 1, 1) := by decide +kernel
theorem dL_law_437 : decode cL_law 437 = .ok (.goto 4, 3) := by decide +kernel
theorem dL_law_440 : decode cL_law 440 = .ok (.iconst 0, 1) := by decide +kernel
theorem dL_law_441 : decode cL_law 441 = .ok (.istore 5, 2) := by decide +kernel
theorem dL_law_443 : decode cL_law 443 = .ok (.iconst 0, 1) := by decide +kernel
theorem dL_law_444 : decode cL_law 444 = .ok (.istore 9, 2) := by decide +kernel
theorem dL_law_446 : decode cL_law 446 = .ok (.iload 9, 2) := by decide +kernel
theorem dL_law_448 : decode cL_law 448 = .ok (.iload 6, 2) := by decide +kernel
theorem dL_law_450 : decode cL_law 450 = .ok (.if_icmp .ge 66, 3) := by decide +kernel
theorem dL_law_453 : decode cL_law 453 = .ok (.iload 5, 2) := by decide +kernel
theorem dL_law_455 : decode cL_law 455 = .ok (.ifCond .eq 61, 3) := by decide +kernel
theorem dL_law_458 : decode cL_law 458 = .ok (.iload 6, 2) := by decide +kernel
theorem dL_law_460 : decode cL_law 460 = .ok (.iconst 1, 1) := by decide +kernel
theorem dL_law_461 : decode cL_law 461 = .ok (.if_icmp .le 55, 3) := by decide +kernel
theorem dL_law_464 : decode cL_law 464 = .ok (.aload_n 1, 1) := by decide +kernel
theorem dL_law_465 : decode cL_law 465 = .ok (.iload 9, 2) := by decide +kernel
theorem dL_law_467 : decode cL_law 467 = .ok (.invokevirtual 84, 3) := by decide +kernel
theorem dL_law_470 : decode cL_law 470 = .ok (.iload 6, 2) := by decide +kernel
theorem dL_law_472 : decode cL_law 472 = .ok (.iconst 1, 1) := by decide +kernel
theorem dL_law_473 : decode cL_law 473 = .ok (.isub, 1) := by decide +kernel
theorem dL_law_474 : decode cL_law 474 = .ok (.if_icmp .ne 33, 3) := by decide +kernel
theorem dL_law_477 : decode cL_law 477 = .ok (.aload_n 1, 1) := by decide +kernel
theorem dL_law_478 : decode cL_law 478 = .ok (.iconst 0, 1) := by decide +kernel
theorem dL_law_479 : decode cL_law 479 = .ok (.invokevirtual 71, 3) := by decide +kernel
theorem dL_law_482 : decode cL_law 482 = .ok (.ifCond .lt 25, 3) := by decide +kernel
theorem dL_law_485 : decode cL_law 485 = .ok (.aload_n 1, 1) := by decide +kernel
theorem dL_law_486 : decode cL_law 486 = .ok (.invokevirtual 87, 3) := by decide +kernel
theorem dL_law_489 : decode cL_law 489 = .ok (.iconst 1, 1) := by decide +kernel
theorem dL_law_490 : decode cL_law 490 = .ok (.if_icmp .ne 17, 3) := by decide +kernel
theorem dL_law_493 : decode cL_law 493 = .ok (.aload_n 1, 1) := by decide +kernel
theorem dL_law_494 : decode cL_law 494 = .ok (.iconst 0, 1) := by decide +kernel
theorem dL_law_495 : decode cL_law 495 = .ok (.invokevirtual 71, 3) := by decide +kernel
theorem dL_law_498 : decode cL_law 498 = .ok (.iload 7, 2) := by decide +kernel
theorem dL_law_500 : decode cL_law 500 = .ok (.if_icmp .ne 7, 3) := by decide +kernel
theorem dL_law_503 : decode cL_law 503 = .ok (.iconst 1, 1) := by decide +kernel
theorem dL_law_504 : decode cL_law 504 = .ok (.goto 4, 3) := by decide +kernel
theorem dL_law_507 : decode cL_law 507 = .ok (.iconst 0, 1) := by decide +kernel
theorem dL_law_508 : decode cL_law 508 = .ok (.istore 5, 2) := by decide +kernel
theorem dL_law_510 : decode cL_law 510 = .ok (.iinc 9 1, 3) := by decide +kernel
theorem dL_law_513 : decode cL_law 513 = .ok (.goto (-67), 3) := by decide +kernel
theorem dL_law_516 : decode cL_law 516 = .ok (.iconst 2, 1) := by decide +kernel
theorem dL_law_517 : decode cL_law 517 = .ok (.aload_n 0, 1) := by decide +kernel
theorem dL_law_518 : decode cL_law 518 = .ok (.bipush 15, 2) := by decide +kernel
theorem dL_law_520 : decode cL_law 520 = .ok (.invokestatic 9, 3) := by decide +kernel
theorem dL_law_523 : decode cL_law 523 = .ok (.iconst 3, 1) := by decide +kernel
theorem dL_law_524 : decode cL_law 524 = .ok (.irem, 1) := by decide +kernel
theorem dL_law_525 : decode cL_law 525 = .ok (.iadd, 1) := by decide +kernel
theorem dL_law_526 : decode cL_law 526 = .ok (.istore 9, 2) := by decide +kernel
theorem dL_law_528 : decode cL_law 528 = .ok (.bipush 24, 2) := by decide +kernel
theorem dL_law_530 : decode cL_law 530 = .ok (.newarray .int, 2) := by decide +kernel
theorem dL_law_532 : decode cL_law 532 = .ok (.astore 10, 2) := by decide +kernel
theorem dL_law_534 : decode cL_law 534 = .ok (.iconst 5, 1) := by decide +kernel
theorem dL_law_535 : decode cL_law 535 = .ok (.newarray .int, 2) := by decide +kernel
theorem dL_law_537 : decode cL_law 537 = .ok (.astore 11, 2) := by decide +kernel
theorem dL_law_539 : decode cL_law 539 = .ok (.iconst 5, 1) := by decide +kernel
theorem dL_law_540 : decode cL_law 540 = .ok (.newarray .int, 2) := by decide +kernel
theorem dL_law_542 : decode cL_law 542 = .ok (.astore 12, 2) := by decide +kernel
theorem dL_law_544 : decode cL_law 544 = .ok (.iconst 0, 1) := by decide +kernel
theorem dL_law_545 : decode cL_law 545 = .ok (.istore 13, 2) := by decide +kernel
theorem dL_law_547 : decode cL_law 547 = .ok (.iload 13, 2) := by decide +kernel
theorem dL_law_549 : decode cL_law 549 = .ok (.iload 9, 2) := by decide +kernel
theorem dL_law_551 : decode cL_law 551 = .ok (.if_icmp .ge 59, 3) := by decide +kernel
theorem dL_law_554 : decode cL_law 554 = .ok (.iload 5, 2) := by decide +kernel
theorem dL_law_556 : decode cL_law 556 = .ok (.ifCond .eq 54, 3) := by decide +kernel
theorem dL_law_559 : decode cL_law 559 = .ok (.aload_n 1, 1) := by decide +kernel
theorem dL_law_560 : decode cL_law 560 = .ok (.iconst 1, 1) := by decide +kernel
theorem dL_law_561 : decode cL_law 561 = .ok (.invokevirtual 90, 3) := by decide +kernel
theorem dL_law_564 : decode cL_law 564 = .ok (.iload 13, 2) := by decide +kernel
theorem dL_law_566 : decode cL_law 566 = .ok (.if_icmp .ne 7, 3) := by decide +kernel
theorem dL_law_569 : decode cL_law 569 = .ok (.iconst 1, 1) := by decide +kernel
theorem dL_law_570 : decode cL_law 570 = .ok (.goto 4, 3) := by decide +kernel
theorem dL_law_573 : decode cL_law 573 = .ok (.iconst 0, 1) := by decide +kernel
theorem dL_law_574 : decode cL_law 574 = .ok (.istore 5, 2) := by decide +kernel
theorem dL_law_576 : decode cL_law 576 = .ok (.aload 11, 2) := by decide +kernel
theorem dL_law_578 : decode cL_law 578 = .ok (.iload 13, 2) := by decide +kernel
theorem dL_law_580 : decode cL_law 580 = .ok (.aload_n 0, 1) := by decide +kernel
theorem dL_law_581 : decode cL_law 581 = .ok (.bipush 16, 2) := by decide +kernel
theorem dL_law_583 : decode cL_law 583 = .ok (.invokestatic 9, 3) := by decide +kernel
theorem dL_law_586 : decode cL_law 586 = .ok (.iconst 4, 1) := by decide +kernel
theorem dL_law_587 : decode cL_law 587 = .ok (.iload 13, 2) := by decide +kernel
theorem dL_law_589 : decode cL_law 589 = .ok (.imul, 1) := by decide +kernel
theorem dL_law_590 : decode cL_law 590 = .ok (.ishr, 1) := by decide +kernel
theorem dL_law_591 : decode cL_law 591 = .ok (.iload_n 2, 1) := by decide +kernel
theorem dL_law_592 : decode cL_law 592 = .ok (.irem, 1) := by decide +kernel
theorem dL_law_593 : decode cL_law 593 = .ok (.iastore, 1) := by decide +kernel
theorem dL_law_594 : decode cL_law 594 = .ok (.aload 12, 2) := by decide +kernel
theorem dL_law_596 : decode cL_law 596 = .ok (.iload 13, 2) := by decide +kernel
theorem dL_law_598 : decode cL_law 598 = .ok (.aload 11, 2) := by decide +kernel
theorem dL_law_600 : decode cL_law 600 = .ok (.iload 13, 2) := by decide +kernel
theorem dL_law_602 : decode cL_law 602 = .ok (.iaload, 1) := by decide +kernel
theorem dL_law_603 : decode cL_law 603 = .ok (.iastore, 1) := by decide +kernel
theorem dL_law_604 : decode cL_law 604 = .ok (.iinc 13 1, 3) := by decide +kernel
theorem dL_law_607 : decode cL_law 607 = .ok (.goto (-60), 3) := by decide +kernel
theorem dL_law_610 : decode cL_law 610 = .ok (.aload_n 0, 1) := by decide +kernel
theorem dL_law_611 : decode cL_law 611 = .ok (.bipush 17, 2) := by decide +kernel
theorem dL_law_613 : decode cL_law 613 = .ok (.invokestatic 9, 3) := by decide +kernel
theorem dL_law_616 : decode cL_law 616 = .ok (.iload_n 2, 1) := by decide +kernel
theorem dL_law_617 : decode cL_law 617 = .ok (.irem, 1) := by decide +kernel
theorem dL_law_618 : decode cL_law 618 = .ok (.istore 13, 2) := by decide +kernel
theorem dL_law_620 : decode cL_law 620 = .ok (.iconst 0, 1) := by decide +kernel
theorem dL_law_621 : decode cL_law 621 = .ok (.istore 14, 2) := by decide +kernel
theorem dL_law_623 : decode cL_law 623 = .ok (.iconst 0, 1) := by decide +kernel
theorem dL_law_624 : decode cL_law 624 = .ok (.istore 15, 2) := by decide +kernel
theorem dL_law_626 : decode cL_law 626 = .ok (.iload 15, 2) := by decide +kernel
theorem dL_law_628 : decode cL_law 628 = .ok (.bipush 24, 2) := by decide +kernel
theorem dL_law_630 : decode cL_law 630 = .ok (.if_icmp .ge 232, 3) := by decide +kernel
theorem dL_law_633 : decode cL_law 633 = .ok (.iload 5, 2) := by decide +kernel
theorem dL_law_635 : decode cL_law 635 = .ok (.ifCond .eq 227, 3) := by decide +kernel
theorem dL_law_638 : decode cL_law 638 = .ok (.iconst 0, 1) := by decide +kernel
theorem dL_law_639 : decode cL_law 639 = .ok (.istore 16, 2) := by decide +kernel
theorem dL_law_641 : decode cL_law 641 = .ok (.iconst 0, 1) := by decide +kernel
theorem dL_law_642 : decode cL_law 642 = .ok (.istore 17, 2) := by decide +kernel
theorem dL_law_644 : decode cL_law 644 = .ok (.iload 17, 2) := by decide +kernel
theorem dL_law_646 : decode cL_law 646 = .ok (.iload 9, 2) := by decide +kernel
theorem dL_law_648 : decode cL_law 648 = .ok (.if_icmp .ge 102, 3) := by decide +kernel
theorem dL_law_651 : decode cL_law 651 = .ok (.aload_n 0, 1) := by decide +kernel
theorem dL_law_652 : decode cL_law 652 = .ok (.bipush 18, 2) := by decide +kernel
theorem dL_law_654 : decode cL_law 654 = .ok (.iload 17, 2) := by decide +kernel
theorem dL_law_656 : decode cL_law 656 = .ok (.iadd, 1) := by decide +kernel
theorem dL_law_657 : decode cL_law 657 = .ok (.invokestatic 9, 3) := by decide +kernel
theorem dL_law_660 : decode cL_law 660 = .ok (.iload 15, 2) := by decide +kernel
theorem dL_law_662 : decode cL_law 662 = .ok (.ishr, 1) := by decide +kernel
theorem dL_law_663 : decode cL_law 663 = .ok (.istore 18, 2) := by decide +kernel
theorem dL_law_665 : decode cL_law 665 = .ok (.aload 11, 2) := by decide +kernel
theorem dL_law_667 : decode cL_law 667 = .ok (.iload 17, 2) := by decide +kernel
theorem dL_law_669 : decode cL_law 669 = .ok (.iload 15, 2) := by decide +kernel
theorem dL_law_671 : decode cL_law 671 = .ok (.ifCond .le 44, 3) := by decide +kernel
theorem dL_law_674 : decode cL_law 674 = .ok (.iload 18, 2) := by decide +kernel
theorem dL_law_676 : decode cL_law 676 = .ok (.iconst 1, 1) := by decide +kernel
theorem dL_law_677 : decode cL_law 677 = .ok (.iand, 1) := by decide +kernel
theorem dL_law_678 : decode cL_law 678 = .ok (.iconst 1, 1) := by decide +kernel
theorem dL_law_679 : decode cL_law 679 = .ok (.if_icmp .ne 36, 3) := by decide +kernel
theorem dL_law_682 : decode cL_law 682 = .ok (.iload 18, 2) := by decide +kernel
theorem dL_law_684 : decode cL_law 684 = .ok (.iconst 2, 1) := by decide +kernel
theorem dL_law_685 : decode cL_law 685 = .ok (.iand, 1) := by decide +kernel
theorem dL_law_686 : decode cL_law 686 = .ok (.ifCond .ne 15, 3) := by decide +kernel
theorem dL_law_689 : decode cL_law 689 = .ok (.aload 11, 2) := by decide +kernel
theorem dL_law_691 : decode cL_law 691 = .ok (.iload 17, 2) := by decide +kernel
theorem dL_law_693 : decode cL_law 693 = .ok (.iaload, 1) := by decide +kernel
theorem dL_law_694 : decode cL_law 694 = .ok (.iconst 1, 1) := by decide +kernel
theorem dL_law_695 : decode cL_law 695 = .ok (.iadd, 1) := by decide +kernel
theorem dL_law_696 : decode cL_law 696 = .ok (.iload_n 2, 1) := by decide +kernel
theorem dL_law_697 : decode cL_law 697 = .ok (.irem, 1) := by decide +kernel
theorem dL_law_698 : decode cL_law 698 = .ok (.goto 22, 3) := by decide +kernel
theorem dL_law_701 : decode cL_law 701 = .ok (.aload 11, 2) := by decide +kernel
theorem dL_law_703 : decode cL_law 703 = .ok (.iload 17, 2) := by decide +kernel
theorem dL_law_705 : decode cL_law 705 = .ok (.iaload, 1) := by decide +kernel
theorem dL_law_706 : decode cL_law 706 = .ok (.iload_n 2, 1) := by decide +kernel
theorem dL_law_707 : decode cL_law 707 = .ok (.iadd, 1) := by decide +kernel
theorem dL_law_708 : decode cL_law 708 = .ok (.iconst 1, 1) := by decide +kernel
theorem dL_law_709 : decode cL_law 709 = .ok (.isub, 1) := by decide +kernel
theorem dL_law_710 : decode cL_law 710 = .ok (.iload_n 2, 1) := by decide +kernel
theorem dL_law_711 : decode cL_law 711 = .ok (.irem, 1) := by decide +kernel
theorem dL_law_712 : decode cL_law 712 = .ok (.goto 8, 3) := by decide +kernel
theorem dL_law_715 : decode cL_law 715 = .ok (.aload 11, 2) := by decide +kernel
theorem dL_law_717 : decode cL_law 717 = .ok (.iload 17, 2) := by decide +kernel
theorem dL_law_719 : decode cL_law 719 = .ok (.iaload, 1) := by decide +kernel
theorem dL_law_720 : decode cL_law 720 = .ok (.iastore, 1) := by decide +kernel
theorem dL_law_721 : decode cL_law 721 = .ok (.iload 16, 2) := by decide +kernel
theorem dL_law_723 : decode cL_law 723 = .ok (.aload 11, 2) := by decide +kernel
theorem dL_law_725 : decode cL_law 725 = .ok (.iload 17, 2) := by decide +kernel
theorem dL_law_727 : decode cL_law 727 = .ok (.iaload, 1) := by decide +kernel
theorem dL_law_728 : decode cL_law 728 = .ok (.iload 13, 2) := by decide +kernel
theorem dL_law_730 : decode cL_law 730 = .ok (.if_icmp .ne 10, 3) := by decide +kernel
theorem dL_law_733 : decode cL_law 733 = .ok (.iconst 1, 1) := by decide +kernel
theorem dL_law_734 : decode cL_law 734 = .ok (.iload 17, 2) := by decide +kernel
theorem dL_law_736 : decode cL_law 736 = .ok (.ishl, 1) := by decide +kernel
theorem dL_law_737 : decode cL_law 737 = .ok (.goto 4, 3) := by decide +kernel
theorem dL_law_740 : decode cL_law 740 = .ok (.iconst 0, 1) := by decide +kernel
theorem dL_law_741 : decode cL_law 741 = .ok (.ior, 1) := by decide +kernel
theorem dL_law_742 : decode cL_law 742 = .ok (.istore 16, 2) := by decide +kernel
theorem dL_law_744 : decode cL_law 744 = .ok (.iinc 17 1, 3) := by decide +kernel
theorem dL_law_747 : decode cL_law 747 = .ok (.goto (-103), 3) := by decide +kernel
theorem dL_law_750 : decode cL_law 750 = .ok (.aload 10, 2) := by decide +kernel
theorem dL_law_752 : decode cL_law 752 = .ok (.iload 15, 2) := by decide +kernel
theorem dL_law_754 : decode cL_law 754 = .ok (.iload 16, 2) := by decide +kernel
theorem dL_law_756 : decode cL_law 756 = .ok (.iastore, 1) := by decide +kernel
theorem dL_law_757 : decode cL_law 757 = .ok (.iconst 0, 1) := by decide +kernel
theorem dL_law_758 : decode cL_law 758 = .ok (.istore 17, 2) := by decide +kernel
theorem dL_law_760 : decode cL_law 760 = .ok (.iload 17, 2) := by decide +kernel
theorem dL_law_762 : decode cL_law 762 = .ok (.iload 9, 2) := by decide +kernel
theorem dL_law_764 : decode cL_law 764 = .ok (.if_icmp .ge 92, 3) := by decide +kernel
theorem dL_law_767 : decode cL_law 767 = .ok (.iload 5, 2) := by decide +kernel
theorem dL_law_769 : decode cL_law 769 = .ok (.ifCond .eq 87, 3) := by decide +kernel
theorem dL_law_772 : decode cL_law 772 = .ok (.iload 15, 2) := by decide +kernel
theorem dL_law_774 : decode cL_law 774 = .ok (.iconst 5, 1) := by decide +kernel
theorem dL_law_775 : decode cL_law 775 = .ok (.irem, 1) := by decide +kernel
theorem dL_law_776 : decode cL_law 776 = .ok (.iconst 2, 1) := by decide +kernel
theorem dL_law_777 : decode cL_law 777 = .ok (.if_icmp .ne 79, 3) := by decide +kernel
theorem dL_law_780 : decode cL_law 780 = .ok (.iconst 0, 1) := by decide +kernel
theorem dL_law_781 : decode cL_law 781 = .ok (.istore 18, 2) := by decide +kernel
theorem dL_law_783 : decode cL_law 783 = .ok (.iload 18, 2) := by decide +kernel
theorem dL_law_785 : decode cL_law 785 = .ok (.iload 9, 2) := by decide +kernel
theorem dL_law_787 : decode cL_law 787 = .ok (.if_icmp .ge 63, 3) := by decide +kernel
theorem dL_law_790 : decode cL_law 790 = .ok (.iload 5, 2) := by decide +kernel
theorem dL_law_792 : decode cL_law 792 = .ok (.ifCond .eq 58, 3) := by decide +kernel
theorem dL_law_795 : decode cL_law 795 = .ok (.aload 11, 2) := by decide +kernel
theorem dL_law_797 : decode cL_law 797 = .ok (.iload 17, 2) := by decide +kernel
theorem dL_law_799 : decode cL_law 799 = .ok (.iaload, 1) := by decide +kernel
theorem dL_law_800 : decode cL_law 800 = .ok (.aload 11, 2) := by decide +kernel
theorem dL_law_802 : decode cL_law 802 = .ok (.iload 18, 2) := by decide +kernel
theorem dL_law_804 : decode cL_law 804 = .ok (.iaload, 1) := by decide +kernel
theorem dL_law_805 : decode cL_law 805 = .ok (.if_icmp .ne 39, 3) := by decide +kernel
theorem dL_law_808 : decode cL_law 808 = .ok (.aload_n 1, 1) := by decide +kernel
theorem dL_law_809 : decode cL_law 809 = .ok (.bipush 7, 2) := by decide +kernel
theorem dL_law_811 : decode cL_law 811 = .ok (.invokevirtual 74, 3) := by decide +kernel
theorem dL_law_814 : decode cL_law 814 = .ok (.bipush 12, 2) := by decide +kernel
theorem dL_law_816 : decode cL_law 816 = .ok (.if_icmp .ge 28, 3) := by decide +kernel
theorem dL_law_819 : decode cL_law 819 = .ok (.aload_n 1, 1) := by decide +kernel
theorem dL_law_820 : decode cL_law 820 = .ok (.iload 17, 2) := by decide +kernel
theorem dL_law_822 : decode cL_law 822 = .ok (.iload 18, 2) := by decide +kernel
theorem dL_law_824 : decode cL_law 824 = .ok (.aload 11, 2) := by decide +kernel
theorem dL_law_826 : decode cL_law 826 = .ok (.iload 17, 2) := by decide +kernel
theorem dL_law_828 : decode cL_law 828 = .ok (.iaload, 1) := by decide +kernel
theorem dL_law_829 : decode cL_law 829 = .ok (.iload 15, 2) := by decide +kernel
theorem dL_law_831 : decode cL_law 831 = .ok (.invokevirtual 93, 3) := by decide +kernel
theorem dL_law_834 : decode cL_law 834 = .ok (.ifCond .lt 7, 3) := by decide +kernel
theorem dL_law_837 : decode cL_law 837 = .ok (.iconst 1, 1) := by decide +kernel
theorem dL_law_838 : decode cL_law 838 = .ok (.goto 4, 3) := by decide +kernel
theorem dL_law_841 : decode cL_law 841 = .ok (.iconst 0, 1) := by decide +kernel
theorem dL_law_842 : decode cL_law 842 = .ok (.istore 5, 2) := by decide +kernel
theorem dL_law_844 : decode cL_law 844 = .ok (.iinc 18 1, 3) := by decide +kernel
theorem dL_law_847 : decode cL_law 847 = .ok (.goto (-64), 3) := by decide +kernel
theorem dL_law_850 : decode cL_law 850 = .ok (.iinc 17 1, 3) := by decide +kernel
theorem dL_law_853 : decode cL_law 853 = .ok (.goto (-93), 3) := by decide +kernel
theorem dL_law_856 : decode cL_law 856 = .ok (.iinc 15 1, 3) := by decide +kernel
theorem dL_law_859 : decode cL_law 859 = .ok (.goto (-233), 3) := by decide +kernel
theorem dL_law_862 : decode cL_law 862 = .ok (.iload 5, 2) := by decide +kernel
theorem dL_law_864 : decode cL_law 864 = .ok (.ifCond .eq 27, 3) := by decide +kernel
theorem dL_law_867 : decode cL_law 867 = .ok (.aload_n 1, 1) := by decide +kernel
theorem dL_law_868 : decode cL_law 868 = .ok (.invokevirtual 97, 3) := by decide +kernel
theorem dL_law_871 : decode cL_law 871 = .ok (.ifCond .ne 20, 3) := by decide +kernel
theorem dL_law_874 : decode cL_law 874 = .ok (.aload_n 1, 1) := by decide +kernel
theorem dL_law_875 : decode cL_law 875 = .ok (.iload 13, 2) := by decide +kernel
theorem dL_law_877 : decode cL_law 877 = .ok (.iconst 0, 1) := by decide +kernel
theorem dL_law_878 : decode cL_law 878 = .ok (.bipush 23, 2) := by decide +kernel
theorem dL_law_880 : decode cL_law 880 = .ok (.invokevirtual 100, 3) := by decide +kernel
theorem dL_law_883 : decode cL_law 883 = .ok (.iconst 1, 1) := by decide +kernel
theorem dL_law_884 : decode cL_law 884 = .ok (.if_icmp .ne 7, 3) := by decide +kernel
theorem dL_law_887 : decode cL_law 887 = .ok (.iconst 1, 1) := by decide +kernel
theorem dL_law_888 : decode cL_law 888 = .ok (.goto 4, 3) := by decide +kernel
theorem dL_law_891 : decode cL_law 891 = .ok (.iconst 0, 1) := by decide +kernel
theorem dL_law_892 : decode cL_law 892 = .ok (.istore 5, 2) := by decide +kernel
theorem dL_law_894 : decode cL_law 894 = .ok (.aload_n 1, 1) := by decide +kernel
theorem dL_law_895 : decode cL_law 895 = .ok (.invokevirtual 103, 3) := by decide +kernel
theorem dL_law_898 : decode cL_law 898 = .ok (.istore 15, 2) := by decide +kernel
theorem dL_law_900 : decode cL_law 900 = .ok (.iconst 0, 1) := by decide +kernel
theorem dL_law_901 : decode cL_law 901 = .ok (.istore 16, 2) := by decide +kernel
theorem dL_law_903 : decode cL_law 903 = .ok (.iload 16, 2) := by decide +kernel
theorem dL_law_905 : decode cL_law 905 = .ok (.bipush 24, 2) := by decide +kernel
theorem dL_law_907 : decode cL_law 907 = .ok (.if_icmp .ge 121, 3) := by decide +kernel
theorem dL_law_910 : decode cL_law 910 = .ok (.iload 5, 2) := by decide +kernel
theorem dL_law_912 : decode cL_law 912 = .ok (.ifCond .eq 116, 3) := by decide +kernel
theorem dL_law_915 : decode cL_law 915 = .ok (.iconst 0, 1) := by decide +kernel
theorem dL_law_916 : decode cL_law 916 = .ok (.istore 17, 2) := by decide +kernel
theorem dL_law_918 : decode cL_law 918 = .ok (.iload 17, 2) := by decide +kernel
theorem dL_law_920 : decode cL_law 920 = .ok (.iload 9, 2) := by decide +kernel
theorem dL_law_922 : decode cL_law 922 = .ok (.if_icmp .ge 100, 3) := by decide +kernel
theorem dL_law_925 : decode cL_law 925 = .ok (.iload 14, 2) := by decide +kernel
theorem dL_law_927 : decode cL_law 927 = .ok (.aload 10, 2) := by decide +kernel
theorem dL_law_929 : decode cL_law 929 = .ok (.iload 16, 2) := by decide +kernel
theorem dL_law_931 : decode cL_law 931 = .ok (.iaload, 1) := by decide +kernel
theorem dL_law_932 : decode cL_law 932 = .ok (.iconst 1, 1) := by decide +kernel
theorem dL_law_933 : decode cL_law 933 = .ok (.iload 17, 2) := by decide +kernel
theorem dL_law_935 : decode cL_law 935 = .ok (.ishl, 1) := by decide +kernel
theorem dL_law_936 : decode cL_law 936 = .ok (.if_icmp .ne 10, 3) := by decide +kernel
theorem dL_law_939 : decode cL_law 939 = .ok (.iconst 1, 1) := by decide +kernel
theorem dL_law_940 : decode cL_law 940 = .ok (.iload 17, 2) := by decide +kernel
theorem dL_law_942 : decode cL_law 942 = .ok (.ishl, 1) := by decide +kernel
theorem dL_law_943 : decode cL_law 943 = .ok (.goto 4, 3) := by decide +kernel
theorem dL_law_946 : decode cL_law 946 = .ok (.iconst 0, 1) := by decide +kernel
theorem dL_law_947 : decode cL_law 947 = .ok (.ior, 1) := by decide +kernel
theorem dL_law_948 : decode cL_law 948 = .ok (.istore 14, 2) := by decide +kernel
theorem dL_law_950 : decode cL_law 950 = .ok (.iload 5, 2) := by decide +kernel
theorem dL_law_952 : decode cL_law 952 = .ok (.ifCond .eq 61, 3) := by decide +kernel
theorem dL_law_955 : decode cL_law 955 = .ok (.aload 10, 2) := by decide +kernel
theorem dL_law_957 : decode cL_law 957 = .ok (.iload 16, 2) := by decide +kernel
theorem dL_law_959 : decode cL_law 959 = .ok (.iaload, 1) := by decide +kernel
theorem dL_law_960 : decode cL_law 960 = .ok (.iload 17, 2) := by decide +kernel
theorem dL_law_962 : decode cL_law 962 = .ok (.ishr, 1) := by decide +kernel
theorem dL_law_963 : decode cL_law 963 = .ok (.iconst 1, 1) := by decide +kernel
theorem dL_law_964 : decode cL_law 964 = .ok (.iand, 1) := by decide +kernel
theorem dL_law_965 : decode cL_law 965 = .ok (.ifCond .eq 20, 3) := by decide +kernel
theorem dL_law_968 : decode cL_law 968 = .ok (.aload_n 1, 1) := by decide +kernel
theorem dL_law_969 : decode cL_law 969 = .ok (.iload 17, 2) := by decide +kernel
theorem dL_law_971 : decode cL_law 971 = .ok (.iload 16, 2) := by decide +kernel
theorem dL_law_973 : decode cL_law 973 = .ok (.invokevirtual 106, 3) := by decide +kernel
theorem dL_law_976 : decode cL_law 976 = .ok (.iload 13, 2) := by decide +kernel
theorem dL_law_978 : decode cL_law 978 = .ok (.ishr, 1) := by decide +kernel
theorem dL_law_979 : decode cL_law 979 = .ok (.iconst 1, 1) := by decide +kernel
theorem dL_law_980 : decode cL_law 980 = .ok (.iand, 1) := by decide +kernel
theorem dL_law_981 : decode cL_law 981 = .ok (.iconst 1, 1) := by decide +kernel
theorem dL_law_982 : decode cL_law 982 = .ok (.if_icmp .ne 31, 3) := by decide +kernel
theorem dL_law_985 : decode cL_law 985 = .ok (.iload 16, 2) := by decide +kernel
theorem dL_law_987 : decode cL_law 987 = .ok (.ifCond .gt 22, 3) := by decide +kernel
theorem dL_law_990 : decode cL_law 990 = .ok (.aload_n 1, 1) := by decide +kernel
theorem dL_law_991 : decode cL_law 991 = .ok (.iload 17, 2) := by decide +kernel
theorem dL_law_993 : decode cL_law 993 = .ok (.iconst 0, 1) := by decide +kernel
theorem dL_law_994 : decode cL_law 994 = .ok (.invokevirtual 106, 3) := by decide +kernel
theorem dL_law_997 : decode cL_law 997 = .ok (.aload 12, 2) := by decide +kernel
theorem dL_law_999 : decode cL_law 999 = .ok (.iload 17, 2) := by decide +kernel
theorem dL_law_1001 : decode cL_law 1001 = .ok (.iaload, 1) := by decide +kernel
theorem dL_law_1002 : decode cL_law 1002 = .ok (.ishr, 1) := by decide +kernel
theorem dL_law_1003 : decode cL_law 1003 = .ok (.iconst 1, 1) := by decide +kernel
theorem dL_law_1004 : decode cL_law 1004 = .ok (.iand, 1) := by decide +kernel
theorem dL_law_1005 : decode cL_law 1005 = .ok (.iconst 1, 1) := by decide +kernel
theorem dL_law_1006 : decode cL_law 1006 = .ok (.if_icmp .ne 7, 3) := by decide +kernel
theorem dL_law_1009 : decode cL_law 1009 = .ok (.iconst 1, 1) := by decide +kernel
theorem dL_law_1010 : decode cL_law 1010 = .ok (.goto 4, 3) := by decide +kernel
theorem dL_law_1013 : decode cL_law 1013 = .ok (.iconst 0, 1) := by decide +kernel
theorem dL_law_1014 : decode cL_law 1014 = .ok (.istore 5, 2) := by decide +kernel
theorem dL_law_1016 : decode cL_law 1016 = .ok (.iinc 17 1, 3) := by decide +kernel
theorem dL_law_1019 : decode cL_law 1019 = .ok (.goto (-101), 3) := by decide +kernel
theorem dL_law_1022 : decode cL_law 1022 = .ok (.iinc 16 1, 3) := by decide +kernel
theorem dL_law_1025 : decode cL_law 1025 = .ok (.goto (-122), 3) := by decide +kernel
theorem dL_law_1028 : decode cL_law 1028 = .ok (.iconst 0, 1) := by decide +kernel
theorem dL_law_1029 : decode cL_law 1029 = .ok (.istore 16, 2) := by decide +kernel
theorem dL_law_1031 : decode cL_law 1031 = .ok (.iload 16, 2) := by decide +kernel
theorem dL_law_1033 : decode cL_law 1033 = .ok (.iload 9, 2) := by decide +kernel
theorem dL_law_1035 : decode cL_law 1035 = .ok (.if_icmp .ge 60, 3) := by decide +kernel
theorem dL_law_1038 : decode cL_law 1038 = .ok (.iload 5, 2) := by decide +kernel
theorem dL_law_1040 : decode cL_law 1040 = .ok (.ifCond .eq 55, 3) := by decide +kernel
theorem dL_law_1043 : decode cL_law 1043 = .ok (.aload_n 1, 1) := by decide +kernel
theorem dL_law_1044 : decode cL_law 1044 = .ok (.iload 16, 2) := by decide +kernel
theorem dL_law_1046 : decode cL_law 1046 = .ok (.invokevirtual 109, 3) := by decide +kernel
theorem dL_law_1049 : decode cL_law 1049 = .ok (.istore 17, 2) := by decide +kernel
theorem dL_law_1051 : decode cL_law 1051 = .ok (.iload 15, 2) := by decide +kernel
theorem dL_law_1053 : decode cL_law 1053 = .ok (.iload 16, 2) := by decide +kernel
theorem dL_law_1055 : decode cL_law 1055 = .ok (.ishr, 1) := by decide +kernel
theorem dL_law_1056 : decode cL_law 1056 = .ok (.iconst 1, 1) := by decide +kernel
theorem dL_law_1057 : decode cL_law 1057 = .ok (.iand, 1) := by decide +kernel
theorem dL_law_1058 : decode cL_law 1058 = .ok (.iconst 1, 1) := by decide +kernel
theorem dL_law_1059 : decode cL_law 1059 = .ok (.if_icmp .ne 18, 3) := by decide +kernel
theorem dL_law_1062 : decode cL_law 1062 = .ok (.iload 17, 2) := by decide +kernel
theorem dL_law_1064 : decode cL_law 1064 = .ok (.bipush (-4), 2) := by decide +kernel
theorem dL_law_1066 : decode cL_law 1066 = .ok (.if_icmp .ne 7, 3) := by decide +kernel
theorem dL_law_1069 : decode cL_law 1069 = .ok (.iconst 1, 1) := by decide +kernel
theorem dL_law_1070 : decode cL_law 1070 = .ok (.goto 17, 3) := by decide +kernel
theorem dL_law_1073 : decode cL_law 1073 = .ok (.iconst 0, 1) := by decide +kernel
theorem dL_law_1074 : decode cL_law 1074 = .ok (.goto 13, 3) := by decide +kernel
theorem dL_law_1077 : decode cL_law 1077 = .ok (.iload 17, 2) := by decide +kernel
theorem dL_law_1079 : decode cL_law 1079 = .ok (.ifCond .lt 7, 3) := by decide +kernel
theorem dL_law_1082 : decode cL_law 1082 = .ok (.iconst 1, 1) := by decide +kernel
theorem dL_law_1083 : decode cL_law 1083 = .ok (.goto 4, 3) := by decide +kernel
theorem dL_law_1086 : decode cL_law 1086 = .ok (.iconst 0, 1) := by decide +kernel
theorem dL_law_1087 : decode cL_law 1087 = .ok (.istore 5, 2) := by decide +kernel
theorem dL_law_1089 : decode cL_law 1089 = .ok (.iinc 16 1, 3) := by decide +kernel
theorem dL_law_1092 : decode cL_law 1092 = .ok (.goto (-61), 3) := by decide +kernel
theorem dL_law_1095 : decode cL_law 1095 = .ok (.iload 5, 2) := by decide +kernel
theorem dL_law_1097 : decode cL_law 1097 = .ok (.ifCond .eq 17, 3) := by decide +kernel
theorem dL_law_1100 : decode cL_law 1100 = .ok (.iload 14, 2) := by decide +kernel
theorem dL_law_1102 : decode cL_law 1102 = .ok (.iload 15, 2) := by decide +kernel
theorem dL_law_1104 : decode cL_law 1104 = .ok (.iconst (-1), 1) := by decide +kernel
theorem dL_law_1105 : decode cL_law 1105 = .ok (.ixor, 1) := by decide +kernel
theorem dL_law_1106 : decode cL_law 1106 = .ok (.iand, 1) := by decide +kernel
theorem dL_law_1107 : decode cL_law 1107 = .ok (.ifCond .ne 7, 3) := by decide +kernel
theorem dL_law_1110 : decode cL_law 1110 = .ok (.iconst 1, 1) := by decide +kernel
theorem dL_law_1111 : decode cL_law 1111 = .ok (.goto 4, 3) := by decide +kernel
theorem dL_law_1114 : decode cL_law 1114 = .ok (.iconst 0, 1) := by decide +kernel
theorem dL_law_1115 : decode cL_law 1115 = .ok (.ireturn, 1) := by decide +kernel
